/-! PAIRS: the class, whole; paired -/
section OPP
variable {n : Nat} {h : zH} {W H N : Nat} {T : Nat → Bool} {F G : Nat → Int} {A : aS}
/-- never more than a million -/
def cp (x : Int) : Int := mn x 1000000
theorem cp_in {x : Int} (h : 0 ≤ x) : 0 ≤ cp x ∧ cp x ≤ 1000000 := by unfold cp mn; split <;> omega
theorem cp_mn (x y : Int) : cp (mn x y) = mn (cp x) (cp y) := by unfold cp mn; (repeat' split) <;> first | rfl | omega
theorem cp_add {x y : Int} (h : 0 ≤ y) : cp (cp x + y) = cp (x + y) := by unfold cp mn; (repeat' split) <;> first | rfl | omega
theorem dpm_cp {d P : Nat → Int} {S : Nat} {a e : Int} (hd : ∀ b, 0 ≤ d b) (he : 0 ≤ e) : ∀ m, cp (dpm d (fun R => cp (P R)) S (cp a + e) m) = cp (dpm d P S (a + e) m)
  | 0 => cp_add he
  | m + 1 => by
    have ih := dpm_cp (S := S) (P := P) (a := a) hd he m
    unfold dpm
    by_cases c : S.testBit m = true
    · rw [if_pos c, if_pos c, cp_mn, cp_mn, ih, cp_add (hd m)]
    · rw [if_neg c, if_neg c]; exact ih
theorem dpf_cp {m : Nat} {P f : Nat → Int} (hf : ∀ b, 0 ≤ f b) (hP : ∀ S, 0 ≤ P S) : ∀ k, dpf m (fun R => cp (P R)) f k = dpf m P f k
  | 0 => rfl
  | k + 1 => by
    have ih := dpf_cp (m := m) hf hP k
    have i := dpf_in (m := m) hP hf k
    have s : 0 ≤ su (fun b => if k.testBit b = true then 0 else f b) m := su_nonneg (fun b _ => by
      by_cases c : k.testBit b = true
      · rw [if_pos c]; omega
      · rw [if_neg c]; exact hf b)
    show mn (dpf m (fun R => cp (P R)) f k) (cp (P k) + su (fun b => if k.testBit b = true then 0 else f b) m) = mn (dpf m P f k) (P k + su (fun b => if k.testBit b = true then 0 else f b) m)
    rw [ih]
    unfold cp mn
    (repeat' split) <;> first | rfl | omega
/-- the least, one set -/
theorem c_py1 {L1 L2 : List Nat} {m t S : Nat} {P : Nat → Int} {a : Int} (hw : wfS W H N T F G) (hm : m = L1.length) (hm8 : m ≤ 8) (hj16 : L2.length ≤ 16) (h0 : h 192 0 = (m : Int)) (C1 : CoC h W H 193 194 195 L1) (C2 : CoC h W H 196 197 198 L2) (ht : t < L2.length) (N1 : ∀ b, L1.getD b 0 < N) (N2 : ∀ b, L2.getD b 0 < N) (hS : S < 2 ^ m) (hS8 : S < 256) (hP : ∀ R, R < S → h 199 R = P R ∧ 0 ≤ P R ∧ P R ≤ 1000000) (ha : 0 ≤ a ∧ a ≤ 1000010) : Zx 25 21 [zR 192, zI (t : Int), zI (S : Int), zI a, zI 0, zN] [] (Z0 n) h = Zx 25 7 [zR 192, zI (t : Int), zI ((S : Int) - 1), zN, zN, zN] [] (Z0 n) (zu h 199 S (cp (dpm (fun b => apr W (L2.getD t 0) (L1.getD b 0)) P S a m))) := by
  obtain ⟨⟨w1, w2⟩, ⟨w3, w4⟩, w5, w6, -⟩ := id hw
  have ap := fun b => apr_in hw (N2 t) (N1 b)
  have bd : ∀ b, b ≤ m → 0 ≤ dpm (fun b => apr W (L2.getD t 0) (L1.getD b 0)) P S a b ∧ dpm (fun b => apr W (L2.getD t 0) (L1.getD b 0)) P S a b ≤ 1000010 := fun b hb => by
    refine ⟨?_, Int.le_trans (dpm_a b) ha.2⟩
    rcases dpm_or (d := fun b => apr W (L2.getD t 0) (L1.getD b 0)) (P := P) (S := S) (a := a) b with q | ⟨c, c1, c2, c3⟩
    · omega
    · have x := zbsm S hS8 c (by omega) c2
      have y := hP _ x
      have z := ap c
      rw [c3]
      show 0 ≤ P (S ^^^ 2 ^ c) + apr W (L2.getD t 0) (L1.getD c 0)
      omega
  have e := z_chain (N := m) (X := fun b => Zx 25 21 [zR 192, zI (t : Int), zI (S : Int), zI (dpm (fun b => apr W (L2.getD t 0) (L1.getD b 0)) P S a b), zI (b : Int), zN] [] (Z0 n) h) (fun b hb => by
    have B := bd b (by omega)
    have zb := zbit S hS8 b (by omega)
    have st := b25_21 (n := n) (h := h) (l1 := (t : Int)) (l2 := (S : Int)) (l3 := dpm (fun b => apr W (L2.getD t 0) (L1.getD b 0)) P S a b) (l4 := (b : Int)) (by intros; omega) (by intros; omega) (by intros; omega) (by intros; omega)
    show Zx 25 21 _ _ _ _ = Zx 25 21 [zR 192, zI (t : Int), zI (S : Int), zI (dpm (fun b => apr W (L2.getD t 0) (L1.getD b 0)) P S a (b + 1)), zI ((b + 1 : Nat) : Int), zN] [] (Z0 n) h
    have ed' : dpm (fun b => apr W (L2.getD t 0) (L1.getD b 0)) P S a (b + 1) = if S.testBit b = true then mn (dpm (fun b => apr W (L2.getD t 0) (L1.getD b 0)) P S a b) (P (S ^^^ 2 ^ b) + apr W (L2.getD t 0) (L1.getD b 0)) else dpm (fun b => apr W (L2.getD t 0) (L1.getD b 0)) P S a b := rfl
    rw [st, h0, zw_nat (n := m) (by omega), zw_nat (n := b) (by omega), if_neg (by omega), zb, ed']
    by_cases c : S.testBit b = true
    · have x := zbsm S hS8 b (by omega) c
      have y := hP _ x
      have z := ap b
      obtain ⟨p1, p2, p3⟩ := C1 b (by omega)
      obtain ⟨q1, q2, q3⟩ := C2 t ht
      have n1 := N1 b
      have n2 := N2 t
      have u1 : L1.getD b 0 % W < W := Nat.mod_lt _ (by omega)
      have u2 : L2.getD t 0 % W < W := Nat.mod_lt _ (by omega)
      have u3 : L1.getD b 0 / W ≤ L1.getD b 0 := Nat.div_le_self _ _
      have u4 : L2.getD t 0 / W ≤ L2.getD t 0 := Nat.div_le_self _ _
      have z3 : (0 : Int) ≤ ((L1.getD b 0 / W : Nat) : Int) := Int.natCast_nonneg _
      have z4 : (0 : Int) ≤ ((L2.getD t 0 / W : Nat) : Int) := Int.natCast_nonneg _
      have zx := zbxr S hS8 b (by omega)
      have e0 : apr W (L2.getD t 0) (L1.getD b 0) = ab (((L2.getD t 0 % W : Nat) : Int) - ((L1.getD b 0 % W : Nat) : Int)) + ab (((L2.getD t 0 / W : Nat) : Int) - ((L1.getD b 0 / W : Nat) : Int)) := rfl
      rw [if_pos c, if_neg (fun q => q rfl), if_pos c, Int.toNat_natCast, Int.toNat_natCast, p1, q1, b25_41 (s_abI ⟨by omega, by omega⟩) (by omega) (by omega) (by omega) (by omega), Int.toNat_natCast, Int.toNat_natCast, p2, q2, b25_51 (s_abI ⟨by omega, by omega⟩) (by rw [zx]; exact Int.natCast_nonneg _) (by rw [zx]; omega), zx, Int.toNat_natCast, y.1, ← e0, b25_65 (s_mn ⟨by omega, by omega⟩ ⟨by omega, by omega⟩), b25_67]
      rfl
    · rw [if_neg c, if_pos (by decide), if_neg c, b25_67]
      rfl)
  have B := bd m (Nat.le_refl _)
  refine Eq.trans e ?_
  show Zx 25 21 [zR 192, zI (t : Int), zI (S : Int), zI (dpm (fun b => apr W (L2.getD t 0) (L1.getD b 0)) P S a m), zI (m : Int), zN] [] (Z0 n) h = _
  rw [b25_21 (by rw [h0]; intro q; exact absurd (Int.le_refl _) q) (by rw [h0]; intro q; exact absurd (Int.le_refl _) q) (by rw [h0]; intro q; exact absurd (Int.le_refl _) q) (by rw [h0]; intro q; exact absurd (Int.le_refl _) q), h0, if_pos (Int.le_refl _), b25_74 (zcl199 n) (by omega) (s_mn ⟨by omega, by omega⟩ ⟨by omega, by omega⟩) (by omega) (by omega), Int.toNat_natCast]
  rfl
/-- Pairing.put -/
theorem c_pay {L1 L2 : List Nat} {m t : Nat} {P : Nat → Int} (hw : wfS W H N T F G) (hm : m = L1.length) (hm8 : m ≤ 8) (hj16 : L2.length ≤ 16) (h0 : h 192 0 = (m : Int)) (C1 : CoC h W H 193 194 195 L1) (C2 : CoC h W H 196 197 198 L2) (ht : t < L2.length) (N1 : ∀ b, L1.getD b 0 < N) (N2 : ∀ b, L2.getD b 0 < N) (hP : ∀ R, R < 2 ^ m → h 199 R = cp (P R)) (hP0 : ∀ R, 0 ≤ P R) : ∃ g, Zx 25 0 [zR 192, zI (t : Int), zN, zN, zN, zN] [] (Z0 n) h = some (none, Z0 n, g) ∧ (∀ R, R < 2 ^ m → g 199 R = cp (dpm (fun b => apr W (L2.getD t 0) (L1.getD b 0)) P R (P R + ed W H (L2.getD t 0)) m)) ∧ ∀ x i, x ≠ 199 → g x i = h x i := by
  have e1 := ed_in hw (N2 t)
  have z8 : (2 : Nat) ^ m ≤ 256 := Nat.pow_le_pow_right (n := 2) (by omega) (show m ≤ 8 from hm8)
  have zs := zsh2 m (by omega)
  generalize hZ : (2 : Nat) ^ m = Z at *
  obtain ⟨g, e, i1, i2, i3⟩ := z_inv (N := Z) (X := fun k (u : zH) => Zx 25 7 [zR 192, zI (t : Int), zI ((Z : Int) - 1 - (k : Int)), zN, zN, zN] [] (Z0 n) u) (I := fun k u => (∀ R, Z - k ≤ R → R < Z → u 199 R = cp (dpm (fun b => apr W (L2.getD t 0) (L1.getD b 0)) P R (P R + ed W H (L2.getD t 0)) m)) ∧ (∀ R, R < Z - k → u 199 R = h 199 R) ∧ ∀ x i, x ≠ 199 → u x i = h x i) (s := h) ⟨fun R q1 q2 => absurd q2 (by omega), fun R _ => rfl, fun _ _ _ => rfl⟩ (fun k u hk Iu => by
    obtain ⟨i1, i2, i3⟩ := Iu
    have eS : (Z : Int) - 1 - (k : Int) = ((Z - 1 - k : Nat) : Int) := by omega
    obtain ⟨S, hS⟩ : ∃ S, S = Z - 1 - k := ⟨_, rfl⟩
    have hS2 : S < Z := by omega
    have uS : u 199 S = cp (P S) := by rw [i2 S (by omega)]; exact hP S hS2
    have pS := cp_in (hP0 S)
    have u198 : u 198 t = ed W H (L2.getD t 0) := by rw [i3 _ _ (by omega)]; exact (C2 t ht).2.2
    have a := c_py1 (n := n) (h := u) (t := t) (S := S) (P := fun R => cp (P R)) (a := cp (P S) + ed W H (L2.getD t 0)) (m := m) (L1 := L1) (L2 := L2) hw hm hm8 hj16 (by rw [i3 _ _ (by omega)]; exact h0) (C1.cg (fun x k q => i3 x k (by omega))) (C2.cg (fun x k q => i3 x k (by omega))) ht N1 N2 (by rw [hZ]; exact hS2) (by omega) (fun R hR' => by
      have := cp_in (hP0 R)
      exact ⟨by rw [i2 R (by omega)]; exact hP R (by omega), this.1, this.2⟩) ⟨by omega, by omega⟩
    rw [dpm_cp (fun b => (apr_in hw (N2 t) (N1 b)).1) e1.1] at a
    refine ⟨zu u 199 S (cp (dpm (fun b => apr W (L2.getD t 0) (L1.getD b 0)) P S (P S + ed W H (L2.getD t 0)) m)), ?_, fun R q1 q2 => ?_, fun R q => ?_, fun x i q => by rw [zu_off (by omega)]; exact i3 x i q⟩
    · show Zx 25 7 [zR 192, zI (t : Int), zI ((Z : Int) - 1 - (k : Int)), zN, zN, zN] [] (Z0 n) u = Zx 25 7 [zR 192, zI (t : Int), zI ((Z : Int) - 1 - ((k + 1 : Nat) : Int)), zN, zN, zN] [] (Z0 n) (zu u 199 S (cp (dpm (fun b => apr W (L2.getD t 0) (L1.getD b 0)) P S (P S + ed W H (L2.getD t 0)) m)))
      rw [eS, ← hS, show (Z : Int) - 1 - ((k + 1 : Nat) : Int) = (S : Int) - 1 by omega, b25_7 (by intros; omega) (by intros; omega) (by intros; omega) (by intros; omega), zw_nat (n := S) (by omega), if_neg (by omega), Int.toNat_natCast, Int.toNat_natCast, uS, u198]
      exact a
    · by_cases c : R = S
      · rw [c, zu_eq]
      · rw [zu_off (by omega)]; exact i1 R (by omega) q2
    · rw [zu_off (by omega)]; exact i2 R (by omega))
  refine ⟨g, ?_, fun R hR' => i1 R (by omega) hR', i3⟩
  rw [b25_0, h0, zs]
  have e' : Zx 25 7 [zR 192, zI (t : Int), zI ((Z : Int) - 1 - ((0 : Nat) : Int)), zN, zN, zN] [] (Z0 n) h = Zx 25 7 [zR 192, zI (t : Int), zI ((Z : Int) - 1 - (Z : Int)), zN, zN, zN] [] (Z0 n) g := e
  rw [show (Z : Int) - 1 - ((0 : Nat) : Int) = (Z : Int) - 1 by omega, show (Z : Int) - 1 - (Z : Int) = -1 by omega] at e'
  rw [e', b25_7 (fun q => absurd (by decide) q) (fun q => absurd (by decide) q) (fun q => absurd (by decide) q) (fun q => absurd (by decide) q), if_pos (by decide)]
/-- Pairing.rest -/
theorem c_rst {L1 : List Nat} {m S : Nat} (hm : m = L1.length) (hm8 : m ≤ 8) (h0 : h 192 0 = (m : Int)) (C1 : CoC h W H 193 194 195 L1) (hS8 : S < 256) : Zx 26 0 [zR 192, zI (S : Int), zN, zN] [] (Z0 n) h = some (some (zI (su (fun b => if S.testBit b = true then 0 else ed W H (L1.getD b 0)) m)), Z0 n, h) := by
  have inn := z_chain (N := m) (X := fun b => Zx 26 4 [zR 192, zI (S : Int), zI (su (fun b => if S.testBit b = true then 0 else ed W H (L1.getD b 0)) b), zI (b : Int)] [] (Z0 n) h) (fun b hb => by
    have s' : su (fun b => if S.testBit b = true then 0 else ed W H (L1.getD b 0)) (b + 1) = su (fun b => if S.testBit b = true then 0 else ed W H (L1.getD b 0)) b + (if S.testBit b = true then 0 else ed W H (L1.getD b 0)) := rfl
    show Zx 26 4 _ _ _ _ = Zx 26 4 [zR 192, zI (S : Int), zI (su (fun b => if S.testBit b = true then 0 else ed W H (L1.getD b 0)) (b + 1)), zI ((b + 1 : Nat) : Int)] [] (Z0 n) h
    rw [b26_4 (by intros; omega) (by intros; omega), h0, zw_nat (n := m) (by omega), zw_nat (n := b) (by omega), if_neg (by omega), zbit S (by omega) b (by omega), s']
    by_cases c : S.testBit b = true
    · rw [if_pos c, if_pos (by decide), b26_21, if_pos c, Int.add_zero]
      rfl
    · rw [if_neg c, if_neg (fun z => z rfl), Int.toNat_natCast, (C1 b (by omega)).2.2, b26_21, if_neg c]
      rfl)
  rw [b26_0]
  refine Eq.trans inn ?_
  show Zx 26 4 [zR 192, zI (S : Int), zI (su (fun b => if S.testBit b = true then 0 else ed W H (L1.getD b 0)) m), zI (m : Int)] [] (Z0 n) h = _
  rw [b26_4 (by rw [h0]; intro q; exact absurd (Int.le_refl _) q) (by rw [h0]; intro q; exact absurd (Int.le_refl _) q), h0, if_pos (Int.le_refl _)]
/-- Pairing.pay, from the kind of the few on -/
theorem c_pai {o : Nat} (hL : LX5 (Z0 n) o) (ho : o + 3 < 192) (hS : ScC h o W H N T F G) (hw : wfS W H N T F G) {r : Int} (hr : r = 1 ∨ r = -1) (h8 : (fl W H T F r N).length ≤ 8) : ∃ g, Zx 23 10 [zR 192, zR o, zN, zN, zN] [zI r] (Z0 n) h = some (some (zI (prd W H N T F r)), Z0 n, g) ∧ ∀ x i, (x < 192 ∨ 199 < x) → g x i = h x i := by
  obtain ⟨⟨w1, w2⟩, ⟨w3, w4⟩, w5, w6, -⟩ := id hw
  have l16 := fl_16 hw
  have j16 : (fl W H T F (-r) N).length ≤ 16 := by
    rcases hr with e | e <;> subst e
    · omega
    · rw [Int.neg_neg]; omega
  obtain ⟨h1, e1, C1, f1⟩ := s_col (S := Z0 n) (κ := r) hL (zcl193 n) (zcl194 n) (zcl195 n) ⟨by omega, by omega, by omega⟩ ⟨by omega, by omega, by omega⟩ hS hw hr
  obtain ⟨h2, e2, C2, f2⟩ := s_col (S := Z0 n) (h := zu h1 192 0 ((fl W H T F r N).length : Int)) (κ := -r) hL (zcl196 n) (zcl197 n) (zcl198 n) ⟨by omega, by omega, by omega⟩ ⟨by omega, by omega, by omega⟩ (hS.cg9 (fun x k a b => by rw [zu_off (by omega), f1 x k (by omega) (by omega) (by omega)])) hw (by omega)
  obtain ⟨m, hm⟩ : ∃ m, m = (fl W H T F r N).length := ⟨_, rfl⟩
  obtain ⟨J, hJ⟩ : ∃ J, J = (fl W H T F (-r) N).length := ⟨_, rfl⟩
  have N1 : ∀ b, (fl W H T F r N).getD b 0 < N := fun b => fl_N hw
  have N2 : ∀ b, (fl W H T F (-r) N).getD b 0 < N := fun b => fl_N hw
  rw [← hm] at h8 e2 f2
  rw [← hm] at e1
  rw [← hJ] at e2 j16
  obtain ⟨L1, hL1⟩ : ∃ L, L = fl W H T F r N := ⟨_, rfl⟩
  obtain ⟨L2, hL2⟩ : ∃ L, L = fl W H T F (-r) N := ⟨_, rfl⟩
  rw [← hL1] at C1 N1 hm
  rw [← hL2] at C2 N2 hJ
  have z8 : (2 : Nat) ^ m ≤ 256 := Nat.pow_le_pow_right (n := 2) (by omega) (show m ≤ 8 from h8)
  have zs := zsh2 m (by omega)
  have zpos : 0 < (2 : Nat) ^ m := Nat.pow_pos (by omega)
  have hd : ∀ i b, 0 ≤ apr W (L2.getD i 0) (L1.getD b 0) := fun i b => (apr_in hw (N2 i) (N1 b)).1
  have he : ∀ i, 0 ≤ ed W H (L2.getD i 0) ∧ ed W H (L2.getD i 0) ≤ 5 := fun i => ed_in hw (N2 i)
  have hf : ∀ i, 0 ≤ ed W H (L1.getD i 0) ∧ ed W H (L1.getD i 0) ≤ 5 := fun i => ed_in hw (N1 i)
  have dI := dpv_in (m := m) (e := fun i => ed W H (L2.getD i 0)) (d := fun i b => apr W (L2.getD i 0) (L1.getD b 0)) he hd
  -- filled
  have ef := s_fill (S := Z0 n) (h := zu h2 192 4 (J : Int)) (v := 1000000) (zcl199 n) (by omega)
  obtain ⟨h3, hh3⟩ : ∃ h3 : zH, h3 = zu (fun o' k => if o' = 199 ∧ k < 256 then 1000000 else zu h2 192 4 (J : Int) o' k) 199 0 0 := ⟨_, rfl⟩
  have g3 : ∀ x k, x ≠ 199 → h3 x k = zu h2 192 4 (J : Int) x k := fun x k q => by
    rw [hh3, zu_off (by omega)]
    exact if_neg (by omega)
  have g3' : ∀ R, R < 2 ^ m → h3 199 R = cp (dpv m (fun i => ed W H (L2.getD i 0)) (fun i b => apr W (L2.getD i 0) (L1.getD b 0)) 0 R) := fun R q => by
    have e : dpv m (fun i => ed W H (L2.getD i 0)) (fun i b => apr W (L2.getD i 0) (L1.getD b 0)) 0 R = if R = 0 then 0 else 1000000 := rfl
    rw [hh3, e]
    by_cases c : R = 0
    · subst c
      rw [zu_eq, if_pos rfl]; decide
    · rw [zu_off (by omega), if_neg c]
      show (if 199 = 199 ∧ R < 256 then (1000000 : Int) else _) = _
      rw [if_pos ⟨rfl, by omega⟩]; decide
  have b0 : h3 192 0 = (m : Int) := by rw [g3 _ _ (by omega), zu_off (by omega), f2 _ _ (by omega) (by omega) (by omega), zu_eq]
  have b4 : h3 192 4 = (J : Int) := by rw [g3 _ _ (by omega), zu_eq]
  have D1 : CoC h3 W H 193 194 195 L1 := C1.cg (fun x k q => by rw [g3 x k (by omega), zu_off (by omega), f2 x k (by omega) (by omega) (by omega), zu_off (by omega)])
  have D2 : CoC h3 W H 196 197 198 L2 := C2.cg (fun x k q => by rw [g3 x k (by omega), zu_off (by omega)])
  -- the many
  obtain ⟨h4, e4, c4, f4⟩ := z_inv (N := J) (X := fun k (u : zH) => Zx 23 51 [zR 192, zN, zN, zI (k : Int), zN] [] (Z0 n) u) (I := fun k u => (∀ R, R < 2 ^ m → u 199 R = cp (dpv m (fun i => ed W H (L2.getD i 0)) (fun i b => apr W (L2.getD i 0) (L1.getD b 0)) k R)) ∧ ∀ x i, x ≠ 199 → u x i = h3 x i) (s := h3) ⟨g3', fun _ _ _ => rfl⟩ (fun k u hk Iu => by
    obtain ⟨u', a, b, f⟩ := c_pay (n := n) (h := u) (t := k) (L1 := L1) (L2 := L2) (m := m) (P := dpv m (fun i => ed W H (L2.getD i 0)) (fun i b => apr W (L2.getD i 0) (L1.getD b 0)) k) hw hm h8 (by omega) (by rw [Iu.2 _ _ (by omega)]; exact b0) (D1.cg (fun x k q => Iu.2 x k (by omega))) (D2.cg (fun x k q => Iu.2 x k (by omega))) (by omega) N1 N2 Iu.1 (fun R => (dI k R).1)
    refine ⟨u', ?_, fun R hR => b R hR, fun x i q => by rw [f x i q]; exact Iu.2 x i q⟩
    show Zx 23 51 _ _ _ _ = _
    rw [b23_51, Iu.2 _ _ (by omega), b4, zw_nat (n := J) (by omega), zw_nat (n := k) (by omega), if_neg (by omega), b23_57 a]
    rfl)
  -- the least
  obtain ⟨P, hP⟩ : ∃ P, P = dpv m (fun i => ed W H (L2.getD i 0)) (fun i b => apr W (L2.getD i 0) (L1.getD b 0)) J := ⟨_, rfl⟩
  have p0 : ∀ S, 0 ≤ P S := fun S => by rw [hP]; exact (dI J S).1
  have v0 : h4 192 0 = (m : Int) := by rw [f4 _ _ (by omega)]; exact b0
  have E1 : CoC h4 W H 193 194 195 L1 := D1.cg (fun x k q => f4 x k (by omega))
  have fI := dpf_in (m := m) (P := P) (f := fun b => ed W H (L1.getD b 0)) p0 (fun b => (hf b).1)
  have fC := dpf_cp (m := m) (P := P) (f := fun b => ed W H (L1.getD b 0)) (fun b => (hf b).1) p0
  have sI : ∀ S : Nat, 0 ≤ su (fun b => if S.testBit b = true then 0 else ed W H (L1.getD b 0)) m ∧ su (fun b => if S.testBit b = true then 0 else ed W H (L1.getD b 0)) m ≤ 5 * m := fun S => by
    have q : ∀ i, 0 ≤ (if S.testBit i = true then 0 else ed W H (L1.getD i 0)) ∧ (if S.testBit i = true then 0 else ed W H (L1.getD i 0)) ≤ 5 := fun i => by
      have := hf i
      split <;> omega
    have := su_bd (B := 5) (f := fun i => if S.testBit i = true then 0 else ed W H (L1.getD i 0)) m (fun i _ => by have := q i; omega)
    exact ⟨su_nonneg (fun i _ => (q i).1), this.2⟩
  have e5 := z_chain (N := 2 ^ m) (X := fun S => Zx 23 64 [zR 192, zN, zN, zI (dpf m (fun R => cp (P R)) (fun b => ed W H (L1.getD b 0)) S), zI (S : Int)] [] (Z0 n) h4) (fun S hS => by
    have FI := fI S
    have SI := sI S
    have cI := cp_in (p0 S)
    have c4' : h4 199 S = cp (P S) := by rw [hP]; exact c4 S hS
    show Zx 23 64 _ _ _ _ = Zx 23 64 [zR 192, zN, zN, zI (mn (dpf m (fun R => cp (P R)) (fun b => ed W H (L1.getD b 0)) S) (cp (P S) + su (fun b => if S.testBit b = true then 0 else ed W H (L1.getD b 0)) m)), zI ((S + 1 : Nat) : Int)] [] (Z0 n) h4
    rw [b23_64 (by intros; omega) (by intros; omega), v0, zs, zw_nat (n := 2 ^ m) (by omega), zw_nat (n := S) (by omega), if_neg (by omega), Int.toNat_natCast, c4', b23_77 (c_rst hm h8 v0 E1 (by omega)), fC S, b23_79 (s_mn ⟨by omega, by omega⟩ ⟨by omega, by omega⟩)]
    rfl)
  refine ⟨h4, ?_, fun x i q => by rw [f4 x i (by omega), g3 x i (by omega), zu_off (by omega), f2 x i (by omega) (by omega) (by omega), zu_off (by omega), f1 x i (by omega) (by omega) (by omega)]⟩
  have e4' : Zx 23 51 [zR 192, zN, zN, zI 0, zN] [] (Z0 n) h3 = Zx 23 51 [zR 192, zN, zN, zI (J : Int), zN] [] (Z0 n) h4 := e4
  have e5' : Zx 23 64 [zR 192, zN, zN, zI 1000000, zI 0] [] (Z0 n) h4 = Zx 23 64 [zR 192, zN, zN, zI (dpf m (fun R => cp (P R)) (fun b => ed W H (L1.getD b 0)) (2 ^ m)), zI ((2 ^ m : Nat) : Int)] [] (Z0 n) h4 := e5
  have w0 : zu h2 192 4 (J : Int) 192 0 = (m : Int) := by rw [zu_off (by omega), f2 _ _ (by omega) (by omega) (by omega), zu_eq]
  rw [b23_10 hL, b23_20 hL hL (zcl193 n) (by omega) (zcl194 n) (by omega) (zcl195 n) (by omega) e1, b23_32 hL (zcl196 n) (by omega) (zcl197 n) (by omega) (zcl198 n) (by omega) e2, w0, zw_nat (n := m) (by omega), if_pos (by omega), b23_43 (zcl199 n) (by omega) ef, ← hh3, e4', b23_51, show h4 192 4 = (J : Int) by rw [f4 _ _ (by omega)]; exact b4, if_pos (Int.le_refl _), e5', b23_64 (by rw [v0, zs]; intro q; exact absurd (Int.le_refl _) q) (by rw [v0, zs]; intro q; exact absurd (Int.le_refl _) q), v0, zs, if_pos (Int.le_refl _), fC]
  unfold prd par
  rw [hP, ← hL1, ← hL2, ← hm, ← hJ]
/-- paired -/
theorem op_paired (hA : wfA A) {p : Int} (hp : zint p) : OpI n 119 227 [zR 1, zI p] [zR 202, zI p, zN, zN, zN, zN, zN] A := by
  have np := hA.2.1
  have z1 : ¬ zw 1 = 0 := by decide
  by_cases cp : 0 ≤ p ∧ p < aNp A
  case neg =>
    refine ⟨-1, fun h hS => ⟨h, ?_, hS, frC.rf⟩, fun g hM => ⟨zu g 202 0 0, ?_, frM0⟩⟩
    · rw [b119_0, b119_2 (c_isp0 hS hA hp cp), if_pos zw0, b119_13]
    · rw [b227_0, b227_5 (m_han0 (McT0 hM) hA hp cp), if_neg (fun z => z zw0)]
  obtain ⟨p, rfl, hp'⟩ := nat_of cp
  have p3 : p < 3 := by omega
  have wD := hA.2.2.1 p hp'
  have hw := wfS_D wD
  have c1 := fl_cf (κ := 1) hw ⟨by omega, by omega⟩
  have c2 := fl_cf (κ := -1) hw ⟨by omega, by omega⟩
  have l16 := fl_16 hw
  have sw := prd_sw hw
  refine ⟨prd (dW (aPic A p)) (dH (aPic A p)) (dN (aPic A p)) (dT (aPic A p)) (dF (aPic A p)) (if (fl (dW (aPic A p)) (dH (aPic A p)) (dT (aPic A p)) (dF (aPic A p)) (-1) (dN (aPic A p))).length ≤ 8 then -1 else 1), fun h hS => ?_, fun g hM => ?_⟩
  · obtain ⟨h1, e1, S1, V1, f1, -⟩ := c_htk (n := n) hS hA hp'
    have k1 := s_cf (S := Z0 n) (LX0_p p3).scene V1.sc hw (kind := 1) ⟨by omega, by omega⟩
    have k2 := s_cf (S := Z0 n) (LX0_p p3).scene V1.sc hw (kind := -1) ⟨by omega, by omega⟩
    have fin : ∀ r : Int, (r = 1 ∨ r = -1) → (fl (dW (aPic A p)) (dH (aPic A p)) (dT (aPic A p)) (dF (aPic A p)) r (dN (aPic A p))).length ≤ 8 → Zx 23 10 [zR 192, zR (115 + 19 * p + 1), zN, zN, zN] [zI r] (Z0 n) h1 = Zx 23 10 [zR 192, zR (115 + 19 * p + 1), zN, zN, zN] [zI r] (Z0 n) h1 ∧ ∃ g, Zx 23 10 [zR 192, zR (115 + 19 * p + 1), zN, zN, zN] [zI r] (Z0 n) h1 = some (some (zI (prd (dW (aPic A p)) (dH (aPic A p)) (dN (aPic A p)) (dT (aPic A p)) (dF (aPic A p)) r)), Z0 n, g) ∧ ∀ x i, (x < 192 ∨ 199 < x) → g x i = h1 x i := fun r hr h8 => ⟨rfl, c_pai (LX0_p p3).scene (by omega) V1.sc hw hr h8⟩
    have run : ∀ r : Int, (r = 1 ∨ r = -1) → (fl (dW (aPic A p)) (dH (aPic A p)) (dT (aPic A p)) (dF (aPic A p)) r (dN (aPic A p))).length ≤ 8 → Zx 23 0 [zR 192, zR (115 + 19 * p + 1), zN, zN, zN] [] (Z0 n) h1 = Zx 23 10 [zR 192, zR (115 + 19 * p + 1), zN, zN, zN] [zI r] (Z0 n) h1 → ∃ h', Zx 119 0 [zR 1, zI (p : Int)] [] (Z0 n) h = some (some (zI (prd (dW (aPic A p)) (dH (aPic A p)) (dN (aPic A p)) (dT (aPic A p)) (dF (aPic A p)) r)), Z0 n, h') ∧ ClS h' A ∧ frC h' h := fun r hr h8 er => by
      obtain ⟨-, g, eg, fg⟩ := fin r hr h8
      refine ⟨g, ?_, S1.cg hA (fun x k q => fg x k (by omega)), fun x k q => by rw [fg x k (by omega)]; exact f1 x k (by omega)⟩
      rw [b119_0, b119_2 (c_isp1 hS hA hp'), if_neg z1, b119_8 (LX0_p p3) e1, b119_10 (LX0_p p3).scene (er.trans eg), b119_13]
    have st : Zx 23 0 [zR 192, zR (115 + 19 * p + 1), zN, zN, zN] [] (Z0 n) h1 = if cf (dW (aPic A p)) (dH (aPic A p)) (dT (aPic A p)) (dF (aPic A p)) (-1) < cf (dW (aPic A p)) (dH (aPic A p)) (dT (aPic A p)) (dF (aPic A p)) 1 then Zx 23 10 [zR 192, zR (115 + 19 * p + 1), zN, zN, zN] [zI (-1)] (Z0 n) h1 else Zx 23 10 [zR 192, zR (115 + 19 * p + 1), zN, zN, zN] [zI 1] (Z0 n) h1 := by
      rw [b23_0 (LX0_p p3).scene, b23_2 (LX0_p p3).scene (LX0_p p3).scene k1, b23_5 (LX0_p p3).scene (LX0_p p3).scene k2, zw_id (z := cf (dW (aPic A p)) (dH (aPic A p)) (dT (aPic A p)) (dF (aPic A p)) (-1)) (by omega) (by omega), zw_id (z := cf (dW (aPic A p)) (dH (aPic A p)) (dT (aPic A p)) (dF (aPic A p)) 1) (by omega) (by omega)]
    by_cases c : cf (dW (aPic A p)) (dH (aPic A p)) (dT (aPic A p)) (dF (aPic A p)) (-1) < cf (dW (aPic A p)) (dH (aPic A p)) (dT (aPic A p)) (dF (aPic A p)) 1
    · rw [if_pos c] at st
      rw [if_pos (by omega)]
      exact run (-1) (Or.inr rfl) (by omega) st
    · rw [if_neg c] at st
      have q := run 1 (Or.inl rfl) (by omega) st
      by_cases d : (fl (dW (aPic A p)) (dH (aPic A p)) (dT (aPic A p)) (dF (aPic A p)) (-1) (dN (aPic A p))).length ≤ 8
      · rw [if_pos d, ← sw]; exact q
      · rw [if_neg d]; exact q
  · obtain ⟨g1, e1, H1, R1, n1, f1⟩ := m_han (n := n) (McT0 (v := 0) (k := 0) hM) hA hp'
    have k1 := m_fot1 (n := n) R1 wD
    have k2 := m_fotm (n := n) R1 wD
    have run : ∀ r : Int, (r = 1 ∨ r = -1) → (fl (dW (aPic A p)) (dH (aPic A p)) (dT (aPic A p)) (dF (aPic A p)) r (dN (aPic A p))).length ≤ 8 → Zx 227 14 [zR 202, zN, zN, zN, zN, zN, zN] [zI (-1), zR 202, zI (cf (dW (aPic A p)) (dH (aPic A p)) (dT (aPic A p)) (dF (aPic A p)) 1)] (Z0 n) g1 = Zx 227 19 [zR 202, zN, zN, zN, zN, zN, zN] [zI r] (Z0 n) g1 → ∃ g', Zx 227 0 [zR 202, zI (p : Int), zN, zN, zN, zN, zN] [] (Z0 n) g = some (some (zI (prd (dW (aPic A p)) (dH (aPic A p)) (dN (aPic A p)) (dT (aPic A p)) (dF (aPic A p)) r)), Z0 n, g') ∧ frM g' g := fun r hr h8 er => by
      obtain ⟨g2, eg, fg⟩ := m_pai (n := n) R1 hw hr h8
      refine ⟨g2, ?_, fun x k q => (fg x k (by omega) (by omega) (by omega)).trans ((f1 x k q).trans (frM0 x k q))⟩
      rw [b227_0, b227_5 e1, if_pos z1, b227_11 k1, er, eg]
    have st : Zx 227 14 [zR 202, zN, zN, zN, zN, zN, zN] [zI (-1), zR 202, zI (cf (dW (aPic A p)) (dH (aPic A p)) (dT (aPic A p)) (dF (aPic A p)) 1)] (Z0 n) g1 = if cf (dW (aPic A p)) (dH (aPic A p)) (dT (aPic A p)) (dF (aPic A p)) (-1) ≤ cf (dW (aPic A p)) (dH (aPic A p)) (dT (aPic A p)) (dF (aPic A p)) 1 then Zx 227 19 [zR 202, zN, zN, zN, zN, zN, zN] [zI (-1)] (Z0 n) g1 else Zx 227 19 [zR 202, zN, zN, zN, zN, zN, zN] [zI 1] (Z0 n) g1 := by
      rw [b227_14 k2, zw_id (z := cf (dW (aPic A p)) (dH (aPic A p)) (dT (aPic A p)) (dF (aPic A p)) (-1)) (by omega) (by omega), zw_id (z := cf (dW (aPic A p)) (dH (aPic A p)) (dT (aPic A p)) (dF (aPic A p)) 1) (by omega) (by omega)]
    by_cases c : cf (dW (aPic A p)) (dH (aPic A p)) (dT (aPic A p)) (dF (aPic A p)) (-1) ≤ cf (dW (aPic A p)) (dH (aPic A p)) (dT (aPic A p)) (dF (aPic A p)) 1
    · rw [if_pos c] at st
      rw [if_pos (by omega)]
      exact run (-1) (Or.inr rfl) (by omega) st
    · rw [if_neg c] at st
      have q := run 1 (Or.inl rfl) (by omega) st
      by_cases d : (fl (dW (aPic A p)) (dH (aPic A p)) (dT (aPic A p)) (dF (aPic A p)) (-1) (dN (aPic A p))).length ≤ 8
      · rw [if_pos d, ← sw]; exact q
      · rw [if_neg d]; exact q
end OPP
