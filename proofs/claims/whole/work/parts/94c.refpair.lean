/-! PAIRS: the reference -/
section RPA
variable {n : Nat} {h : zH} {W H N : Nat} {T : Nat → Bool} {F G : Nat → Int} {κ : Int}
theorem fl_pre : ∀ (m j : Nat), ∃ R, fl W H T F κ (m + j) = fl W H T F κ m ++ R
  | m, 0 => ⟨[], by rw [List.append_nil]; rfl⟩
  | m, j + 1 => by
    obtain ⟨R, e⟩ := fl_pre m j
    rw [← Nat.add_assoc]
    by_cases c : fq W H T F κ (m + j) = true
    · exact ⟨R ++ [m + j], by rw [fl_s c, e, List.append_assoc]⟩
    · exact ⟨R, by rw [fl_n (by cases q : fq W H T F κ (m + j); rfl; exact absurd q c)]; exact e⟩
theorem fl_le {m : Nat} (h : m ≤ N) : (fl W H T F κ m).length ≤ (fl W H T F κ N).length := by
  obtain ⟨R, e⟩ := fl_pre (W := W) (H := H) (T := T) (F := F) (κ := κ) m (N - m)
  rw [show m + (N - m) = N by omega] at e
  rw [e, List.length_append]; omega
theorem fl_at {k : Nat} (hk : k < N) (hq : fq W H T F κ k = true) : (fl W H T F κ N).getD (fl W H T F κ k).length 0 = k := by
  obtain ⟨R, e⟩ := fl_pre (W := W) (H := H) (T := T) (F := F) (κ := κ) (k + 1) (N - (k + 1))
  rw [show k + 1 + (N - (k + 1)) = N by omega, fl_s hq, List.append_assoc] at e
  rw [e, List.getD_eq_getElem?_getD, List.getElem?_append_right (Nat.le_refl _), Nat.sub_self]
  rfl
theorem fl_8 (hw : wfS W H N T F G) : ((fl W H T F 1 N).length ≤ 8 ∨ (fl W H T F (-1) N).length ≤ 8) ∧ (fl W H T F 1 N).length ≤ 16 ∧ (fl W H T F (-1) N).length ≤ 16 := by
  have := fl_16 hw
  omega
theorem getD_snoc {l : List Nat} {x j : Nat} (hj : j < l.length) : (l ++ [x]).getD j 0 = l.getD j 0 := by
  rw [List.getD_eq_getElem?_getD, List.getD_eq_getElem?_getD, List.getElem?_append_left hj]
theorem getD_last {l : List Nat} {x : Nat} : (l ++ [x]).getD l.length 0 = x := by
  rw [List.getD_eq_getElem?_getD, List.getElem?_append_right (Nat.le_refl _), Nat.sub_self]
  rfl
theorem m_mn {S : zS} {a b : Int} (ha : zint a) (hb : zint b) : Zx 140 0 [zI a, zI b] [] S h = some (some (zI (mn a b)), S, h) := by
  rw [s_lesser, ha.e, hb.e]
  rfl
/-- edgeOf -/
theorem m_edg (hR : RfC h W H N T F G) (hw : wfS W H N T F G) {k : Nat} (hk : k < N) : Zx 225 0 [zR 202, zI (k : Int), zN, zN] [] (Z0 n) h = some (some (zI (ed W H k)), Z0 n, h) := by
  obtain ⟨⟨w1, w2⟩, ⟨w3, w4⟩, w5, w6, -⟩ := id hw
  have a : k % W < W := Nat.mod_lt _ (by omega)
  have b : k / W < H := Nat.div_lt_of_lt_mul (by omega)
  have z1 : (0 : Int) ≤ ((k / W : Nat) : Int) := Int.natCast_nonneg _
  have z2 : (0 : Int) ≤ ((k % W : Nat) : Int) := Int.natCast_nonneg _
  have b1 : mn (((k % W : Nat) : Int) + 1) (((k / W : Nat) : Int) + 1) ≤ 100 ∧ 0 ≤ mn (((k % W : Nat) : Int) + 1) (((k / W : Nat) : Int) + 1) := by unfold mn; split <;> omega
  have b2 : mn ((W : Int) - 1 - ((k % W : Nat) : Int)) ((H : Int) - 1 - ((k / W : Nat) : Int)) ≤ 100 ∧ 0 ≤ mn ((W : Int) - 1 - ((k % W : Nat) : Int)) ((H : Int) - 1 - ((k / W : Nat) : Int)) := by unfold mn; split <;> omega
  have r20 : zw (h 202 20) = (W : Int) := by rw [hR.1]; exact zw_nat (by omega)
  rw [b225_0 (by rw [r20]; omega) (by rw [r20]; omega), r20, zw_nat (n := k) (by omega), show Int.tmod (k : Int) (W : Int) = ((k % W : Nat) : Int) from (Int.ofNat_tmod k W).symm, show Int.tdiv (k : Int) (W : Int) = ((k / W : Nat) : Int) from (Int.ofNat_tdiv k W).symm]
  rw [b225_16 (m_mn ⟨by omega, by omega⟩ ⟨by omega, by omega⟩), hR.2.1, hR.1, b225_29 (m_mn ⟨by omega, by omega⟩ ⟨by omega, by omega⟩), b225_30 (m_mn ⟨by omega, by omega⟩ ⟨by omega, by omega⟩)]
  rfl
/-- apartOf -/
theorem m_apr (hR : RfC h W H N T F G) (hw : wfS W H N T F G) {k l : Nat} (hk : k < N) (hl : l < N) : Zx 226 0 [zR 202, zI (k : Int), zI (l : Int)] [] (Z0 n) h = some (some (zI (apr W k l)), Z0 n, h) := by
  obtain ⟨⟨w1, w2⟩, ⟨w3, w4⟩, w5, w6, -⟩ := id hw
  have a : k % W < W := Nat.mod_lt _ (by omega)
  have b : k / W < H := Nat.div_lt_of_lt_mul (by omega)
  have a' : l % W < W := Nat.mod_lt _ (by omega)
  have b' : l / W < H := Nat.div_lt_of_lt_mul (by omega)
  have z1 : (0 : Int) ≤ ((k / W : Nat) : Int) := Int.natCast_nonneg _
  have z2 : (0 : Int) ≤ ((k % W : Nat) : Int) := Int.natCast_nonneg _
  have z3 : (0 : Int) ≤ ((l / W : Nat) : Int) := Int.natCast_nonneg _
  have z4 : (0 : Int) ≤ ((l % W : Nat) : Int) := Int.natCast_nonneg _
  have r20 : zw (h 202 20) = (W : Int) := by rw [hR.1]; exact zw_nat (by omega)
  have p1 : zw (((k % W : Nat) : Int) - ((l % W : Nat) : Int)) = ((k % W : Nat) : Int) - ((l % W : Nat) : Int) := zw_id (by omega) (by omega)
  have p2 : zw (((k / W : Nat) : Int) - ((l / W : Nat) : Int)) = ((k / W : Nat) : Int) - ((l / W : Nat) : Int) := zw_id (by omega) (by omega)
  rw [b226_0 (by rw [r20]; omega) (by rw [r20]; omega), r20, zw_nat (n := k) (by omega), zw_nat (n := l) (by omega), show Int.tmod (k : Int) (W : Int) = ((k % W : Nat) : Int) from (Int.ofNat_tmod k W).symm, show Int.tmod (l : Int) (W : Int) = ((l % W : Nat) : Int) from (Int.ofNat_tmod l W).symm]
  rw [b226_9 s_plain (by rw [r20]; omega) (by rw [r20]; omega), r20, zw_nat (n := k) (by omega), zw_nat (n := l) (by omega), show Int.tdiv (k : Int) (W : Int) = ((k / W : Nat) : Int) from (Int.ofNat_tdiv k W).symm, show Int.tdiv (l : Int) (W : Int) = ((l / W : Nat) : Int) from (Int.ofNat_tdiv l W).symm, b226_19 s_plain, p1, p2]
  rfl
/-- payFor, one set -/
theorem m_py1 {L : Nat → Nat} {m k S : Nat} {P : Nat → Int} {a : Int} (hR : RfC h W H N T F G) (hw : wfS W H N T F G) (hm : m ≤ 8) (h58 : h 202 58 = (m : Int)) (h234 : ∀ b, b < m → h 234 b = (L b : Int) ∧ L b < N) (hk : k < N) (hS : S < 2 ^ m) (hS8 : S < 256) (hP : ∀ R, R < S → h 235 R = P R ∧ 0 ≤ P R ∧ P R ≤ 1001000) (ha : 0 ≤ a ∧ a ≤ 1002000) : ∃ g, Zx 228 20 [zR 202, zI (k : Int), zI (S : Int), zI a, zI 0] [] (Z0 n) h = Zx 228 7 [zR 202, zI (k : Int), zI ((S : Int) - 1), zN, zN] [] (Z0 n) g ∧ g = zu h 235 S (dpm (fun b => apr W k (L b)) P S a m) := by
  obtain ⟨⟨w1, w2⟩, ⟨w3, w4⟩, w5, w6, -⟩ := id hw
  have bd : ∀ b, b ≤ m → 0 ≤ dpm (fun b => apr W k (L b)) P S a b ∧ dpm (fun b => apr W k (L b)) P S a b ≤ 1002000 := fun b hb => by
    refine ⟨?_, Int.le_trans (dpm_a b) ha.2⟩
    rcases dpm_or (d := fun b => apr W k (L b)) (P := P) (S := S) (a := a) b with q | ⟨c, c1, c2, c3⟩
    · omega
    · have x := zbsm S hS8 c (by omega) c2
      have y := hP _ x
      have z := apr_in hw hk (h234 c (by omega)).2
      rw [c3]
      show 0 ≤ P (S ^^^ 2 ^ c) + apr W k (L c)
      omega
  have e := z_chain (N := m) (X := fun b => Zx 228 20 [zR 202, zI (k : Int), zI (S : Int), zI (dpm (fun b => apr W k (L b)) P S a b), zI (b : Int)] [] (Z0 n) h) (fun b hb => by
    have B := bd b (by omega)
    have zb := zbit S hS8 b (by omega)
    have st := b228_20 (n := n) (h := h) (l1 := (k : Int)) (l2 := (S : Int)) (l3 := dpm (fun b => apr W k (L b)) P S a b) (l4 := (b : Int)) (by intros; omega) (by intros; omega) (fun _ q => by
      rw [zb] at q
      by_cases c : S.testBit b = true
      · rw [zbsb S hS8 b (by omega) c]; exact Int.natCast_nonneg _
      · rw [if_neg c] at q; exact absurd (by decide) q) (fun _ q => by
      rw [zb] at q
      by_cases c : S.testBit b = true
      · have := zbsm S hS8 b (by omega) c
        rw [zbsb S hS8 b (by omega) c]; omega
      · rw [if_neg c] at q; exact absurd (by decide) q) (by intros; omega) (by intros; omega)
    show Zx 228 20 _ _ _ _ = Zx 228 20 [zR 202, zI (k : Int), zI (S : Int), zI (dpm (fun b => apr W k (L b)) P S a (b + 1)), zI ((b + 1 : Nat) : Int)] [] (Z0 n) h
    have ed : dpm (fun b => apr W k (L b)) P S a (b + 1) = if S.testBit b = true then mn (dpm (fun b => apr W k (L b)) P S a b) (P (S ^^^ 2 ^ b) + apr W k (L b)) else dpm (fun b => apr W k (L b)) P S a b := rfl
    rw [st, h58, zw_nat (n := m) (by omega), zw_nat (n := b) (by omega), if_neg (by omega), zb, ed]
    by_cases c : S.testBit b = true
    · have x := zbsm S hS8 b (by omega) c
      have y := hP _ x
      have z := apr_in hw hk (h234 b hb).2
      rw [if_pos c, if_neg (fun q => q rfl), if_pos c, zbsb S hS8 b (by omega) c, Int.toNat_natCast, Int.toNat_natCast, (h234 b hb).1, y.1, b228_46 (m_apr hR hw hk (h234 b hb).2), b228_48 (m_mn ⟨by omega, by omega⟩ ⟨by omega, by omega⟩), b228_51]
      rfl
    · rw [if_neg c, if_pos (by decide), if_neg c, b228_51]
      rfl)
  refine ⟨_, Eq.trans e ?_, rfl⟩
  show Zx 228 20 [zR 202, zI (k : Int), zI (S : Int), zI (dpm (fun b => apr W k (L b)) P S a m), zI (m : Int)] [] (Z0 n) h = _
  rw [b228_20 (by intros; omega) (by intros; omega) (by rw [h58]; intro q; exact absurd (Int.le_refl _) q) (by rw [h58]; intro q; exact absurd (Int.le_refl _) q) (by rw [h58]; intro q; exact absurd (Int.le_refl _) q) (by rw [h58]; intro q; exact absurd (Int.le_refl _) q), h58, if_pos (Int.le_refl _), Int.toNat_natCast]
  rfl
theorem RfC.cg2 {h' : zH} (hR : RfC h W H N T F G) (f : ∀ x k, ((x = 202 ∧ k < 45) ∨ (203 ≤ x ∧ x < 230)) → h' x k = h x k) : RfC h' W H N T F G := hR.cg (fun x k q => f x k (by omega))
/-- FringeBenchModel.payFor -/
theorem m_pay {L : Nat → Nat} {m k : Nat} {P : Nat → Int} (hR : RfC h W H N T F G) (hw : wfS W H N T F G) (hm : m ≤ 8) (h58 : h 202 58 = (m : Int)) (h234 : ∀ b, b < m → h 234 b = (L b : Int) ∧ L b < N) (hk : k < N) (hP : ∀ R, R < 2 ^ m → h 235 R = P R ∧ 0 ≤ P R ∧ P R ≤ 1001000) : ∃ g, Zx 228 0 [zR 202, zI (k : Int), zN, zN, zN] [] (Z0 n) h = some (none, Z0 n, g) ∧ (∀ R, R < 2 ^ m → g 235 R = dpm (fun b => apr W k (L b)) P R (P R + ed W H k) m) ∧ ∀ x i, x ≠ 235 → g x i = h x i := by
  obtain ⟨⟨w1, w2⟩, ⟨w3, w4⟩, w5, w6, -⟩ := id hw
  have e1 := ed_in hw hk
  have z8 : (2 : Nat) ^ m ≤ 256 := Nat.pow_le_pow_right (n := 2) (by omega) (show m ≤ 8 from hm)
  have zs := zsh2 m (by omega)
  generalize hZ : (2 : Nat) ^ m = Z at *
  obtain ⟨g, e, i1, i2, i3⟩ := z_inv (N := Z) (X := fun t (u : zH) => Zx 228 7 [zR 202, zI (k : Int), zI ((Z : Int) - 1 - (t : Int)), zN, zN] [] (Z0 n) u) (I := fun t u => (∀ R, Z - t ≤ R → R < Z → u 235 R = dpm (fun b => apr W k (L b)) P R (P R + ed W H k) m) ∧ (∀ R, R < Z - t → u 235 R = h 235 R) ∧ ∀ x i, x ≠ 235 → u x i = h x i) (s := h) ⟨fun R q1 q2 => absurd q2 (by omega), fun R _ => rfl, fun _ _ _ => rfl⟩ (fun t u ht Iu => by
    obtain ⟨i1, i2, i3⟩ := Iu
    have Ru : RfC u W H N T F G := hR.cg2 (fun x i q => i3 x i (by omega))
    have eS : (Z : Int) - 1 - (t : Int) = ((Z - 1 - t : Nat) : Int) := by omega
    obtain ⟨S, hS⟩ : ∃ S, S = Z - 1 - t := ⟨_, rfl⟩
    have hS2 : S < Z := by omega
    have uS : u 235 S = P S := by rw [i2 S (by omega)]; exact (hP S hS2).1
    have pS := (hP S hS2).2
    obtain ⟨u', a, b⟩ := m_py1 (n := n) (h := u) (k := k) (S := S) (P := P) (a := P S + ed W H k) (L := L) Ru hw hm (by rw [i3 _ _ (by omega)]; exact h58) (fun b hb => by rw [i3 _ _ (by omega)]; exact h234 b hb) hk (by rw [hZ]; exact hS2) (by omega) (fun R hR' => by rw [i2 R (by omega)]; exact hP R (by omega)) ⟨by omega, by omega⟩
    refine ⟨u', ?_, fun R q1 q2 => ?_, fun R q => ?_, fun x i q => by rw [b, zu_off (by omega)]; exact i3 x i q⟩
    · show Zx 228 7 [zR 202, zI (k : Int), zI ((Z : Int) - 1 - (t : Int)), zN, zN] [] (Z0 n) u = Zx 228 7 [zR 202, zI (k : Int), zI ((Z : Int) - 1 - ((t + 1 : Nat) : Int)), zN, zN] [] (Z0 n) u'
      rw [eS, ← hS, show (Z : Int) - 1 - ((t + 1 : Nat) : Int) = (S : Int) - 1 by omega, b228_7 (by intros; omega) (by intros; omega), zw_nat (n := S) (by omega), if_neg (by omega), Int.toNat_natCast, uS, b228_15 (m_edg Ru hw hk)]
      exact a
    · by_cases c : R = S
      · rw [c, b, zu_eq]
      · rw [b, zu_off (by omega)]; exact i1 R (by omega) q2
    · rw [b, zu_off (by omega)]; exact i2 R (by omega))
  refine ⟨g, ?_, fun R hR' => i1 R (by omega) hR', i3⟩
  rw [b228_0, h58, zs]
  have e' : Zx 228 7 [zR 202, zI (k : Int), zI ((Z : Int) - 1 - ((0 : Nat) : Int)), zN, zN] [] (Z0 n) h = Zx 228 7 [zR 202, zI (k : Int), zI ((Z : Int) - 1 - (Z : Int)), zN, zN] [] (Z0 n) g := e
  rw [show (Z : Int) - 1 - ((0 : Nat) : Int) = (Z : Int) - 1 by omega, show (Z : Int) - 1 - (Z : Int) = -1 by omega] at e'
  rw [e', b228_7 (fun q => absurd (by decide) q) (fun q => absurd (by decide) q), if_pos (by decide)]
end RPA
