/-! THE CLASS'S PICTURES: contrasts and phases -/
def PiC (h : zH) (p W H : Nat) (le : Int) (st wt ph : Nat → Int) (ho : Nat → Bool) : Prop := h p 0 = W ∧ h p 1 = H ∧ h p 2 = le ∧ (∀ k, k < 100 → h (p + 1) k = st k) ∧ ∀ k, k < 25 → h (p + 2) k = wt k ∧ h (p + 3) k = ph k ∧ zb1 (h (p + 4) k) = if ho k = true then 1 else 0
def wfP (W H : Nat) (le : Int) (st wt ph : Nat → Int) : Prop := (2 ≤ W ∧ W ≤ 5) ∧ (2 ≤ H ∧ H ≤ 5) ∧ (1 ≤ le ∧ le ≤ 198) ∧ (∀ k, k < 100 → 0 ≤ st k ∧ st k ≤ 99) ∧ ∀ k, k < 25 → (1 ≤ wt k ∧ wt k ≤ 9) ∧ -1 ≤ ph k ∧ ph k < 400
/-- contrast, phase by steps, phase -/
def ctr (st : Nat → Int) (k : Nat) : Int := ab (st k - st (50 + k)) + ab (st (25 + k) - st (75 + k))
def pbs (st : Nat → Int) (k : Nat) : Int :=
  if 0 < st k - st (50 + k) ∧ 0 ≤ st (25 + k) - st (75 + k) then Int.tdiv (100 * (st (25 + k) - st (75 + k))) (ctr st k)
  else if st k - st (50 + k) ≤ 0 ∧ 0 < st (25 + k) - st (75 + k) then 100 - Int.tdiv (100 * (st k - st (50 + k))) (ctr st k)
  else if st k - st (50 + k) < 0 then 200 - Int.tdiv (100 * (st (25 + k) - st (75 + k))) (ctr st k)
  else 300 + Int.tdiv (100 * (st k - st (50 + k))) (ctr st k)
def phs (st ph : Nat → Int) (le : Int) (k : Nat) : Int := if ph k = -1 then (if ctr st k < le ∨ ctr st k = 0 then -1 else pbs st k) else ph k
theorem td_in {v c : Int} (h1 : 0 ≤ v) (h2 : v < c) : 0 ≤ Int.tdiv (100 * v) c ∧ Int.tdiv (100 * v) c ≤ 99 := by
  rw [Int.tdiv_eq_ediv_of_nonneg (by omega)]
  refine ⟨Int.ediv_nonneg (by omega) (by omega), ?_⟩
  have : 100 * v / c < 100 := Int.ediv_lt_of_lt_mul (by omega) (by omega)
  omega
theorem td_neg {v c : Int} (h1 : v ≤ 0) (h2 : -v < c) : -99 ≤ Int.tdiv (100 * v) c ∧ Int.tdiv (100 * v) c ≤ 0 := by
  have e : Int.tdiv (100 * v) c = -(Int.tdiv (100 * (-v)) c) := by
    rw [← Int.neg_tdiv]
    congr 1
    omega
  have := td_in (v := -v) (c := c) (by omega) h2
  omega
theorem ab_e (x : Int) : (0 ≤ x ∧ ab x = x) ∨ (x < 0 ∧ ab x = -x) := by
  unfold ab
  split
  · left; exact ⟨by assumption, rfl⟩
  · right; exact ⟨by omega, rfl⟩
theorem pbs_in {st : Nat → Int} {k : Nat} (h : ctr st k ≠ 0) : 0 ≤ pbs st k ∧ pbs st k < 400 := by
  unfold pbs
  have e : ctr st k = ab (st k - st (50 + k)) + ab (st (25 + k) - st (75 + k)) := rfl
  generalize ctr st k = c at *
  generalize st k - st (50 + k) = x at *
  generalize st (25 + k) - st (75 + k) = y at *
  have ex := ab_e x
  have ey := ab_e y
  split
  · have := td_in (v := y) (c := c) (by omega) (by omega)
    omega
  · split
    · have := td_neg (v := x) (c := c) (by omega) (by omega)
      omega
    · split
      · have := td_neg (v := y) (c := c) (by omega) (by omega)
        omega
      · have := td_in (v := x) (c := c) (by omega) (by omega)
        omega
theorem phs_in {W H : Nat} {le l2 : Int} {st wt ph : Nat → Int} (hp : wfP W H l2 st wt ph) {k : Nat} (hk : k < 25) : -1 ≤ phs st ph le k ∧ phs st ph le k < 400 := by
  have r := (hp.2.2.2.2 k hk).2
  unfold phs
  split
  · split
    · omega
    · rename_i g
      have := pbs_in (st := st) (k := k) (fun z => g (Or.inr z))
      omega
  · omega
section PIC
variable {S : zS} {h : zH} {p W H : Nat} {le : Int} {st wt ph : Nat → Int} {ho : Nat → Bool}
theorem s_l02 (hL : LX2 S p) (hP : PiC h p W H le st wt ph ho) {k : Nat} (hk : k < 25) : Zx 31 0 [zR p, zI (k : Int), zI 0, zI 2] [] S h = some (some (zI (st k - st (50 + k))), S, h) := by
  rw [b31_0 hL (by intros; omega) (by intros; omega) (by intros; omega) (by intros; omega), show ((0 : Int) * 25 + (k : Int)).toNat = k by omega, show ((2 : Int) * 25 + (k : Int)).toNat = 50 + k by omega, hP.2.2.2.1 k (by omega), hP.2.2.2.1 (50 + k) (by omega)]
theorem s_l13 (hL : LX2 S p) (hP : PiC h p W H le st wt ph ho) {k : Nat} (hk : k < 25) : Zx 31 0 [zR p, zI (k : Int), zI 1, zI 3] [] S h = some (some (zI (st (25 + k) - st (75 + k))), S, h) := by
  rw [b31_0 hL (by intros; omega) (by intros; omega) (by intros; omega) (by intros; omega), show ((1 : Int) * 25 + (k : Int)).toNat = 25 + k by omega, show ((3 : Int) * 25 + (k : Int)).toNat = 75 + k by omega, hP.2.2.2.1 (25 + k) (by omega), hP.2.2.2.1 (75 + k) (by omega)]
/-- Picture.contrastOf -/
theorem s_ctr (hL : LX2 S p) (hP : PiC h p W H le st wt ph ho) (hw : wfP W H le st wt ph) {k : Nat} (hk : k < 25) : Zx 32 0 [zR p, zI (k : Int)] [] S h = some (some (zI (ctr st k)), S, h) := by
  have r := hw.2.2.2.1
  have r1 := r k (by omega)
  have r2 := r (50 + k) (by omega)
  have r3 := r (25 + k) (by omega)
  have r4 := r (75 + k) (by omega)
  rw [b32_0 hL, b32_4 hL hL (s_l02 hL hP hk), b32_5 hL (s_abI ⟨by omega, by omega⟩), b32_10 hL (s_l13 hL hP hk), b32_11 (s_abI ⟨by omega, by omega⟩)]
  rfl
theorem ctr_in (hw : wfP W H le st wt ph) {k : Nat} (hk : k < 25) : 0 ≤ ctr st k ∧ ctr st k ≤ 198 := by
  have r := hw.2.2.2.1
  have r1 := r k (by omega)
  have r2 := r (50 + k) (by omega)
  have r3 := r (25 + k) (by omega)
  have r4 := r (75 + k) (by omega)
  have a := ab_e (st k - st (50 + k))
  have b := ab_e (st (25 + k) - st (75 + k))
  unfold ctr
  omega
/-- Picture.phaseOf -/
theorem s_phs (hL : LX2 S p) (hP : PiC h p W H le st wt ph ho) (hw : wfP W H le st wt ph) {k : Nat} {l2 : Int} (hk : k < 25) (hl : zint l2) : Zx 33 0 [zR p, zI (k : Int), zI l2, zN, zN, zN] [] S h = some (some (zI (phs st ph l2 k)), S, h) := by
  have r := hw.2.2.2.1
  have r1 := r k (by omega)
  have r2 := r (50 + k) (by omega)
  have r3 := r (25 + k) (by omega)
  have r4 := r (75 + k) (by omega)
  have rp := (hw.2.2.2.2 k hk).2
  have rc := ctr_in hw hk
  have e3 := (hP.2.2.2.2 k hk).2.1
  have zc := zw_id (z := ctr st k) (by omega) (by omega)
  rw [b33_0 hL (by intros; omega) (by intros; omega) (by intros; omega) (by intros; omega), Int.toNat_natCast, e3, zw_id (z := ph k) (by omega) (by omega)]
  unfold phs
  by_cases q : ph k = -1
  rotate_left
  · rw [if_neg q, if_neg q]
  rw [if_pos q, if_pos q, b33_15 hL hL (s_l02 hL hP hk), b33_21 hL hL (s_l13 hL hP hk), b33_25 hL (s_ctr hL hP hw hk) (fun _ g _ _ => g), zc, hl.e]
  by_cases c1 : ctr st k < l2
  · rw [if_pos c1, b33_32, if_pos (Or.inl c1)]
  rw [if_neg c1]
  by_cases c2 : ctr st k = 0
  · rw [if_neg (fun z => z c2), b33_32, if_pos (Or.inr c2)]
  have nz : ¬ zw (ctr st k) = 0 := by rw [zc]; exact c2
  rw [if_pos c2, if_neg (show ¬ (ctr st k < l2 ∨ ctr st k = 0) from fun z => by rcases z with z | z; exact c1 z; exact c2 z)]
  have xr : -99 ≤ st k - st (50 + k) ∧ st k - st (50 + k) ≤ 99 := by omega
  have yr : -99 ≤ st (25 + k) - st (75 + k) ∧ st (25 + k) - st (75 + k) ≤ 99 := by omega
  have e44 := b33_44 (S := S) (h := h) (l3 := st k - st (50 + k)) (l4 := st (25 + k) - st (75 + k)) (l5 := ctr st k) (fun _ _ => nz)
  rw [b33_56 (fun _ => nz) (fun _ => nz), zc] at e44
  unfold pbs
  generalize st k - st (50 + k) = x at *
  generalize st (25 + k) - st (75 + k) = y at *
  have zx := zw_id (z := x) (by omega) (by omega)
  have zy := zw_id (z := y) (by omega) (by omega)
  have zx1 := zw_id (z := 100 * x) (by omega) (by omega)
  have zy1 := zw_id (z := 100 * y) (by omega) (by omega)
  rw [zx, zy, zx1, zy1] at e44
  rw [zx, zy, zy1, e44]
  by_cases d1 : 0 < x
  · by_cases d2 : 0 ≤ y
    · rw [if_neg (show ¬ x ≤ 0 by omega), if_neg (show ¬ y < 0 by omega), if_pos ⟨d1, d2⟩]
    · rw [if_neg (show ¬ x ≤ 0 by omega), if_pos (show y < 0 by omega), if_pos d1, if_pos (show 0 ≤ x by omega), if_neg (show ¬ (0 < x ∧ 0 ≤ y) by omega), if_neg (show ¬ (x ≤ 0 ∧ 0 < y) by omega), if_neg (show ¬ x < 0 by omega)]
  · rw [if_pos (show x ≤ 0 by omega), if_neg d1, if_neg (show ¬ (0 < x ∧ 0 ≤ y) by omega)]
    by_cases d2 : 0 < y
    · rw [if_neg (show ¬ y ≤ 0 by omega), if_pos (show x ≤ 0 ∧ 0 < y by omega)]
    · rw [if_pos (show y ≤ 0 by omega), if_neg (show ¬ (x ≤ 0 ∧ 0 < y) by omega)]
      by_cases d3 : 0 ≤ x
      · rw [if_pos d3, if_neg (show ¬ x < 0 by omega)]
      · rw [if_neg d3, if_pos (show x < 0 by omega)]
end PIC
