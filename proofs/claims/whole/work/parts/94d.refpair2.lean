/-! PAIRS: the reference, whole -/
section RPB
variable {n : Nat} {h : zH} {W H N : Nat} {T : Nat → Bool} {F G : Nat → Int}
theorem dpv_in {m : Nat} {e : Nat → Int} {d : Nat → Nat → Int} (he : ∀ i, 0 ≤ e i ∧ e i ≤ 5) (hd : ∀ i b, 0 ≤ d i b) : ∀ j S, 0 ≤ dpv m e d j S ∧ dpv m e d j S ≤ 1000000 + 5 * j
  | 0, S => by
    show 0 ≤ (if S = 0 then (0 : Int) else 1000000) ∧ (if S = 0 then (0 : Int) else 1000000) ≤ _
    split <;> omega
  | j + 1, S => by
    have i := dpv_in (m := m) he hd j S
    have q := he j
    have ev : dpv m e d (j + 1) S = dpm (d j) (dpv m e d j) S (dpv m e d j S + e j) m := rfl
    have hi := dpm_a (d := d j) (P := dpv m e d j) (S := S) (a := dpv m e d j S + e j) m
    rw [ev]
    refine ⟨?_, by omega⟩
    rcases dpm_or (d := d j) (P := dpv m e d j) (S := S) (a := dpv m e d j S + e j) m with z | ⟨b, b1, b2, b3⟩
    · omega
    · have k := dpv_in (m := m) he hd j (S ^^^ 2 ^ b)
      have l := hd j b
      omega
theorem dpf_in {m : Nat} {P f : Nat → Int} (hP : ∀ S, 0 ≤ P S) (hf : ∀ b, 0 ≤ f b) : ∀ S, 0 ≤ dpf m P f S ∧ dpf m P f S ≤ 1000000
  | 0 => ⟨by show (0 : Int) ≤ 1000000; omega, Int.le_refl _⟩
  | S + 1 => by
    have i := dpf_in (m := m) hP hf S
    have s : 0 ≤ su (fun b => if S.testBit b = true then 0 else f b) m := su_nonneg (fun b _ => by
      by_cases c : S.testBit b = true
      · rw [if_pos c]; omega
      · rw [if_neg c]; exact hf b)
    have q := hP S
    show 0 ≤ mn _ _ ∧ mn _ _ ≤ _
    unfold mn
    split <;> omega
/-- paired, from the kind of the few on -/
theorem m_pai (hR : RfC h W H N T F G) (hw : wfS W H N T F G) {r : Int} (hr : r = 1 ∨ r = -1) (h8 : (fl W H T F r N).length ≤ 8) : ∃ g, Zx 227 19 [zR 202, zN, zN, zN, zN, zN, zN] [zI r] (Z0 n) h = some (some (zI (prd W H N T F r)), Z0 n, g) ∧ ∀ x i, x ≠ 234 → x ≠ 235 → ¬ (x = 202 ∧ i = 58) → g x i = h x i := by
  obtain ⟨⟨w1, w2⟩, ⟨w3, w4⟩, w5, w6, -⟩ := id hw
  have zr : zw r = r := zw_id (by omega) (by omega)
  have zmr : zw (-r) = -r := zw_id (by omega) (by omega)
  have l16 := fl_16 hw
  have j16 : (fl W H T F (-r) N).length ≤ 16 := by
    rcases hr with e | e <;> subst e
    · omega
    · rw [Int.neg_neg]; omega
  have fou : ∀ (u : zH), RfC u W H N T F G → ∀ k, k < N → Zx 168 0 [zR 202, zI ((k % W : Nat) : Int), zI ((k / W : Nat) : Int), zN, zN] [] (Z0 n) u = some (some (zI (four1 W H T F ((k % W : Nat) : Int) ((k / W : Nat) : Int))), Z0 n, u) := fun u Ru k hk => by
    have a : k % W < W := Nat.mod_lt _ (by omega)
    have b : k / W < H := Nat.div_lt_of_lt_mul (by omega)
    have z1 : (0 : Int) ≤ ((k / W : Nat) : Int) := Int.natCast_nonneg _
    exact m_fou Ru hw ⟨by omega, by omega⟩ ⟨by omega, by omega⟩
  -- the few
  obtain ⟨h1, e1, c58, c234, f1⟩ := z_inv (N := N) (X := fun k (u : zH) => Zx 227 25 [zR 202, zN, zI r, zI (k : Int), zN, zN, zN] [] (Z0 n) u) (I := fun k u => u 202 58 = ((fl W H T F r k).length : Int) ∧ (∀ j, j < (fl W H T F r k).length → u 234 j = ((fl W H T F r k).getD j 0 : Nat)) ∧ ∀ x i, x ≠ 234 → ¬ (x = 202 ∧ i = 58) → u x i = h x i) (s := zu h 202 58 0) ⟨by rw [zu_eq]; rfl, fun j q => absurd q (Nat.not_lt_zero j), fun x i _ q => by rw [zu_off (by omega)]⟩ (fun k u hk Iu => by
    obtain ⟨i1, i2, i3⟩ := Iu
    have Ru : RfC u W H N T F G := hR.cg2 (fun x i q => i3 x i (by omega) (by omega))
    have le := fl_le (W := W) (H := H) (T := T) (F := F) (κ := r) (N := N) (m := k) (by omega)
    have fi := four1_in hw (x := ((k % W : Nat) : Int)) (y := ((k / W : Nat) : Int))
    have r20 : zw (u 202 20) = (W : Int) := by rw [Ru.1]; exact zw_nat (by omega)
    have st := b227_25 (n := n) (h := u) (l2 := r) (l3 := (k : Int)) (by rw [r20]; intros; omega) (by rw [r20]; intros; omega)
    rw [Ru.2.2.1, zw_nat (n := N) (by omega), zw_nat (n := k) (by omega), if_neg (by omega), r20, show Int.tmod (k : Int) (W : Int) = ((k % W : Nat) : Int) from (Int.ofNat_tmod k W).symm, show Int.tdiv (k : Int) (W : Int) = ((k / W : Nat) : Int) from (Int.ofNat_tdiv k W).symm, b227_38 (fou u Ru k hk) (by rw [i1]; intros; omega) (by rw [i1]; intros; omega), zw_id (z := four1 W H T F ((k % W : Nat) : Int) ((k / W : Nat) : Int)) (by omega) (by omega), zr] at st
    by_cases c : four1 W H T F ((k % W : Nat) : Int) ((k / W : Nat) : Int) = r
    · have es := fl_s (m := k) (decide_eq_true c : fq W H T F r k = true)
      rw [if_neg (fun z => z c), i1, Int.toNat_natCast, zu_off (by omega), i1, b227_53] at st
      refine ⟨_, st, ?_, fun j hj => ?_, fun x i q1 q2 => by rw [zu_off (by omega), zu_off (by omega)]; exact i3 x i q1 q2⟩
      · rw [zu_eq, es, List.length_append]; rfl
      · rw [es, List.length_append] at hj
        have hj : j < (fl W H T F r k).length + 1 := hj
        rw [zu_off (by omega), es]
        by_cases y : j = (fl W H T F r k).length
        · rw [y, zu_eq, getD_last]
        · rw [zu_off (by omega), getD_snoc (by omega)]; exact i2 j (by omega)
    · have es := fl_n (m := k) (decide_eq_false c : fq W H T F r k = false)
      rw [if_pos c, b227_53] at st
      exact ⟨u, st, by rw [es]; exact i1, by rw [es]; exact i2, i3⟩)
  obtain ⟨m, hm⟩ : ∃ m, m = (fl W H T F r N).length := ⟨_, rfl⟩
  obtain ⟨L, hL⟩ : ∃ L : Nat → Nat, L = fun b => (fl W H T F r N).getD b 0 := ⟨_, rfl⟩
  obtain ⟨L2, hL2⟩ : ∃ L : Nat → Nat, L = fun b => (fl W H T F (-r) N).getD b 0 := ⟨_, rfl⟩
  have LN : ∀ b, L b < N := fun b => by rw [hL]; exact fl_N hw
  have L2N : ∀ b, L2 b < N := fun b => by rw [hL2]; exact fl_N hw
  have R1 : RfC h1 W H N T F G := hR.cg2 (fun x i q => f1 x i (by omega) (by omega))
  rw [← hm] at c58 c234 h8
  have c234' : ∀ b, b < m → h1 234 b = (L b : Int) := fun b hb => by rw [c234 b hb, hL]
  have z8 : (2 : Nat) ^ m ≤ 256 := Nat.pow_le_pow_right (n := 2) (by omega) (show m ≤ 8 from h8)
  have zs := zsh2 m (by omega)
  have zpos : 0 < (2 : Nat) ^ m := Nat.pow_pos (by omega)
  obtain ⟨Z, hZ⟩ : ∃ Z, Z = (2 : Nat) ^ m := ⟨_, rfl⟩
  rw [← hZ] at z8 zs zpos
  -- nothing paid yet
  obtain ⟨h2, e2, c235, f2⟩ := z_inv (N := Z) (X := fun k (u : zH) => Zx 227 57 [zR 202, zN, zI r, zI (k : Int), zN, zN, zN] [] (Z0 n) u) (I := fun k u => (∀ R, R < k → u 235 R = if R = 0 then 0 else 1000000) ∧ ∀ x i, x ≠ 235 → u x i = h1 x i) (s := h1) ⟨fun R q => absurd q (Nat.not_lt_zero R), fun _ _ _ => rfl⟩ (fun k u hk Iu => by
    have u58 : u 202 58 = (m : Int) := by rw [Iu.2 _ _ (by omega)]; exact c58
    have st := b227_57 (n := n) (h := u) (l2 := r) (l3 := (k : Int))
    rw [u58, zs, zw_nat (n := Z) (by omega), zw_nat (n := k) (by omega), if_neg (by omega)] at st
    by_cases c : k = 0
    · subst c
      rw [if_neg (fun z => z rfl), b227_71 (zcl235 n) (by omega) (by omega) (by omega), Int.toNat_natCast] at st
      refine ⟨_, st, fun R hR' => ?_, fun x i q => by rw [zu_off (by omega)]; exact Iu.2 x i q⟩
      rw [show R = 0 by omega, zu_eq, if_pos rfl]
    · rw [if_pos (by omega), b227_71 (zcl235 n) (by omega) (by omega) (by omega), Int.toNat_natCast] at st
      refine ⟨_, st, fun R hR' => ?_, fun x i q => by rw [zu_off (by omega)]; exact Iu.2 x i q⟩
      by_cases y : R = k
      · rw [y, zu_eq, if_neg c]
      · rw [zu_off (by omega)]; exact Iu.1 R (by omega))
  -- the many
  have hd : ∀ i b, 0 ≤ apr W (L2 i) (L b) := fun i b => (apr_in hw (L2N i) (LN b)).1
  have he : ∀ i, 0 ≤ ed W H (L2 i) ∧ ed W H (L2 i) ≤ 5 := fun i => ed_in hw (L2N i)
  have hf : ∀ i, 0 ≤ ed W H (L i) ∧ ed W H (L i) ≤ 5 := fun i => ed_in hw (LN i)
  have dI := dpv_in (m := m) (e := fun i => ed W H (L2 i)) (d := fun i b => apr W (L2 i) (L b)) he hd
  obtain ⟨h3, e3, c3, f3⟩ := z_inv (N := N) (X := fun k (u : zH) => Zx 227 76 [zR 202, zN, zI r, zI (k : Int), zN, zN, zN] [] (Z0 n) u) (I := fun k u => (∀ R, R < Z → u 235 R = dpv m (fun i => ed W H (L2 i)) (fun i b => apr W (L2 i) (L b)) (fl W H T F (-r) k).length R) ∧ ∀ x i, x ≠ 235 → u x i = h1 x i) (s := h2) ⟨fun R hR' => c235 R hR', f2⟩ (fun k u hk Iu => by
    obtain ⟨i1, i3⟩ := Iu
    have Ru : RfC u W H N T F G := R1.cg2 (fun x i q => i3 x i (by omega))
    have le := fl_le (W := W) (H := H) (T := T) (F := F) (κ := -r) (N := N) (m := k) (by omega)
    have fi := four1_in hw (x := ((k % W : Nat) : Int)) (y := ((k / W : Nat) : Int))
    have r20 : zw (u 202 20) = (W : Int) := by rw [Ru.1]; exact zw_nat (by omega)
    have st := b227_76 (n := n) (h := u) (l2 := r) (l3 := (k : Int)) (by rw [r20]; intros; omega) (by rw [r20]; intros; omega)
    rw [Ru.2.2.1, zw_nat (n := N) (by omega), zw_nat (n := k) (by omega), if_neg (by omega), r20, show Int.tmod (k : Int) (W : Int) = ((k % W : Nat) : Int) from (Int.ofNat_tmod k W).symm, show Int.tdiv (k : Int) (W : Int) = ((k / W : Nat) : Int) from (Int.ofNat_tdiv k W).symm, b227_89 (fou u Ru k hk), zw_id (z := four1 W H T F ((k % W : Nat) : Int) ((k / W : Nat) : Int)) (by omega) (by omega), zmr] at st
    by_cases c : four1 W H T F ((k % W : Nat) : Int) ((k / W : Nat) : Int) = -r
    · have es := fl_s (m := k) (decide_eq_true c : fq W H T F (-r) k = true)
      have at_ : L2 (fl W H T F (-r) k).length = k := by rw [hL2]; exact fl_at hk (decide_eq_true c)
      obtain ⟨u', a, b, f⟩ := m_pay (n := n) (h := u) (k := k) (L := L) (m := m) (P := dpv m (fun i => ed W H (L2 i)) (fun i b => apr W (L2 i) (L b)) (fl W H T F (-r) k).length) Ru hw h8 (by rw [i3 _ _ (by omega)]; exact c58) (fun b hb => ⟨by rw [i3 _ _ (by omega)]; exact c234' b hb, LN b⟩) hk (fun R hR' => by
        have := dI (fl W H T F (-r) k).length R
        exact ⟨i1 R (by omega), by omega, by omega⟩)
      rw [if_neg (fun z => z c), b227_95 a, b227_96] at st
      refine ⟨u', st, fun R hR' => ?_, fun x i q => by rw [f x i q]; exact i3 x i q⟩
      rw [b R (by omega), es, List.length_append]
      show _ = dpm (fun b => apr W (L2 (fl W H T F (-r) k).length) (L b)) (dpv m (fun i => ed W H (L2 i)) (fun i b => apr W (L2 i) (L b)) (fl W H T F (-r) k).length) R (dpv m (fun i => ed W H (L2 i)) (fun i b => apr W (L2 i) (L b)) (fl W H T F (-r) k).length R + ed W H (L2 (fl W H T F (-r) k).length)) m
      rw [at_]
    · have es := fl_n (m := k) (decide_eq_false c : fq W H T F (-r) k = false)
      rw [if_pos c, b227_96] at st
      exact ⟨u, st, by rw [es]; exact i1, i3⟩)
  -- the least
  obtain ⟨P, hP⟩ : ∃ P, P = dpv m (fun i => ed W H (L2 i)) (fun i b => apr W (L2 i) (L b)) (fl W H T F (-r) N).length := ⟨_, rfl⟩
  have pI : ∀ S, 0 ≤ P S ∧ P S ≤ 1000080 := fun S => by
    have := dI (fl W H T F (-r) N).length S
    rw [hP]
    exact ⟨by omega, by omega⟩
  have c3' : ∀ R, R < Z → h3 235 R = P R := fun R q => by rw [hP]; exact c3 R q
  have R3 : RfC h3 W H N T F G := R1.cg2 (fun x i q => f3 x i (by omega))
  have u58 : h3 202 58 = (m : Int) := by rw [f3 _ _ (by omega)]; exact c58
  have u234 : ∀ b, b < m → h3 234 b = (L b : Int) := fun b hb => by rw [f3 _ _ (by omega)]; exact c234' b hb
  have fI := dpf_in (m := m) (P := P) (f := fun b => ed W H (L b)) (fun S => (pI S).1) (fun b => (hf b).1)
  have sI : ∀ S b, b ≤ m → 0 ≤ su (fun b => if S.testBit b = true then 0 else ed W H (L b)) b ∧ su (fun b => if Nat.testBit S b = true then 0 else ed W H (L b)) b ≤ 5 * b := fun S b hb => by
    have q : ∀ i, 0 ≤ (if S.testBit i = true then 0 else ed W H (L i)) ∧ (if S.testBit i = true then 0 else ed W H (L i)) ≤ 5 := fun i => by
      have := hf i
      split <;> omega
    have := su_bd (B := 5) (f := fun i => if S.testBit i = true then 0 else ed W H (L i)) b (fun i _ => by have := q i; omega)
    exact ⟨su_nonneg (fun i _ => (q i).1), this.2⟩
  have e4 := z_chain (N := Z) (X := fun S => Zx 227 102 [zR 202, zN, zN, zI (dpf m P (fun b => ed W H (L b)) S), zI (S : Int), zN, zN] [] (Z0 n) h3) (fun S hS => by
    have FI := fI S
    have st := b227_102 (n := n) (h := h3) (l3 := dpf m P (fun b => ed W H (L b)) S) (l4 := (S : Int)) (by intros; omega) (by intros; omega)
    rw [u58, zs, zw_nat (n := Z) (by omega), zw_nat (n := S) (by omega), if_neg (by omega), Int.toNat_natCast, c3' S hS] at st
    have inn := z_chain (N := m) (X := fun b => Zx 227 115 [zR 202, zN, zN, zI (dpf m P (fun b => ed W H (L b)) S), zI (S : Int), zI (P S + su (fun b => if S.testBit b = true then 0 else ed W H (L b)) b), zI (b : Int)] [] (Z0 n) h3) (fun b hb => by
      have s' : su (fun b => if S.testBit b = true then 0 else ed W H (L b)) (b + 1) = su (fun b => if S.testBit b = true then 0 else ed W H (L b)) b + (if S.testBit b = true then 0 else ed W H (L b)) := rfl
      show Zx 227 115 _ _ _ _ = Zx 227 115 [zR 202, zN, zN, zI (dpf m P (fun b => ed W H (L b)) S), zI (S : Int), zI (P S + su (fun b => if S.testBit b = true then 0 else ed W H (L b)) (b + 1)), zI ((b + 1 : Nat) : Int)] [] (Z0 n) h3
      rw [b227_115 (by intros; omega) (by intros; omega), u58, zw_nat (n := m) (by omega), zw_nat (n := b) (by omega), if_neg (by omega), zbit S (by omega) b (by omega), s']
      by_cases c : S.testBit b = true
      · rw [if_pos c, if_pos (by decide), b227_134, if_pos c, Int.add_zero, Int.add_zero]
        rfl
      · rw [if_neg c, if_neg (fun z => z rfl), Int.toNat_natCast, u234 b hb, b227_131 (m_edg R3 hw (LN b)), b227_134, if_neg c, ← Int.add_assoc]
        rfl)
    show Zx 227 102 _ _ _ _ = Zx 227 102 [zR 202, zN, zN, zI (mn (dpf m P (fun b => ed W H (L b)) S) (P S + su (fun b => if S.testBit b = true then 0 else ed W H (L b)) m)), zI ((S + 1 : Nat) : Int), zN, zN] [] (Z0 n) h3
    have i0 : P S + su (fun b => if S.testBit b = true then 0 else ed W H (L b)) 0 = P S := Int.add_zero _
    have inn' : Zx 227 115 [zR 202, zN, zN, zI (dpf m P (fun b => ed W H (L b)) S), zI (S : Int), zI (P S + su (fun b => if S.testBit b = true then 0 else ed W H (L b)) 0), zI 0] [] (Z0 n) h3 = Zx 227 115 [zR 202, zN, zN, zI (dpf m P (fun b => ed W H (L b)) S), zI (S : Int), zI (P S + su (fun b => if S.testBit b = true then 0 else ed W H (L b)) m), zI (m : Int)] [] (Z0 n) h3 := inn
    rw [i0] at inn'
    have sm := sI S m (Nat.le_refl _)
    have pS := pI S
    rw [st, inn', b227_115 (by rw [u58]; intro q; exact absurd (Int.le_refl _) q) (by rw [u58]; intro q; exact absurd (Int.le_refl _) q), u58, if_pos (Int.le_refl _), b227_140 (m_mn ⟨by omega, by omega⟩ ⟨by omega, by omega⟩)]
    rfl)
  have e4' : Zx 227 102 [zR 202, zN, zN, zI 1000000, zI 0, zN, zN] [] (Z0 n) h3 = Zx 227 102 [zR 202, zN, zN, zI (dpf m P (fun b => ed W H (L b)) Z), zI (Z : Int), zN, zN] [] (Z0 n) h3 := e4
  refine ⟨h3, ?_, fun x i q1 q2 q3 => by rw [f3 x i q2]; exact f1 x i q1 q3⟩
  have e1' : Zx 227 25 [zR 202, zN, zI r, zI 0, zN, zN, zN] [] (Z0 n) (zu h 202 58 0) = Zx 227 25 [zR 202, zN, zI r, zI (N : Int), zN, zN, zN] [] (Z0 n) h1 := e1
  have e2' : Zx 227 57 [zR 202, zN, zI r, zI 0, zN, zN, zN] [] (Z0 n) h1 = Zx 227 57 [zR 202, zN, zI r, zI (Z : Int), zN, zN, zN] [] (Z0 n) h2 := e2
  have e3' : Zx 227 76 [zR 202, zN, zI r, zI 0, zN, zN, zN] [] (Z0 n) h2 = Zx 227 76 [zR 202, zN, zI r, zI (N : Int), zN, zN, zN] [] (Z0 n) h3 := e3
  have v58 : h2 202 58 = (m : Int) := by rw [f2 _ _ (by omega)]; exact c58
  rw [b227_19, e1', b227_25 (by rw [R1.2.2.1]; intro q; exact absurd (Int.le_refl _) q) (by rw [R1.2.2.1]; intro q; exact absurd (Int.le_refl _) q), R1.2.2.1, if_pos (Int.le_refl _), e2', b227_57, v58, zs, if_pos (Int.le_refl _), e3', b227_76 (by rw [R3.2.2.1]; intro q; exact absurd (Int.le_refl _) q) (by rw [R3.2.2.1]; intro q; exact absurd (Int.le_refl _) q), R3.2.2.1, if_pos (Int.le_refl _), e4', b227_102 (by rw [u58, zs]; intro q; exact absurd (Int.le_refl _) q) (by rw [u58, zs]; intro q; exact absurd (Int.le_refl _) q), u58, zs, if_pos (Int.le_refl _)]
  unfold prd par
  rw [hZ, hP, hL, hL2, hm]
end RPB
