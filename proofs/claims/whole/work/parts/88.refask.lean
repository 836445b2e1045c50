/-! THE REFERENCE: what is asked of parts -/
section RAK
variable {n : Nat} {h : zH} {W H N : Nat} {T : Nat → Bool} {F G : Nat → Int} {z : Int} {tl tg : Nat → Int}
theorem ploR_in (hV : RtC h W H N T F G z tl tg) (hw : wfS W H N T F G) {p : Int} : ∀ k, k ≤ N → -500000000 ≤ plo N W T F tl p k ∧ plo N W T F tl p k ≤ 2147483647
  | 0, _ => ⟨by show (-500000000 : Int) ≤ 2147483647; omega, Int.le_refl _⟩
  | k + 1, hk => by
    have i := ploR_in hV hw (p := p) k (by omega)
    unfold plo
    by_cases c : T k = true ∧ pP N W T k = p
    · have hh := hV.hin hw (show k < N by omega) c.1
      rw [if_pos c]
      split <;> omega
    · rw [if_neg c]; exact i
theorem phiR_in (hV : RtC h W H N T F G z tl tg) (hw : wfS W H N T F G) {p : Int} : ∀ k, k ≤ N → -2147483648 ≤ phi N W T F tl p k ∧ phi N W T F tl p k ≤ 500000000
  | 0, _ => ⟨Int.le_refl _, by show (-2147483648 : Int) ≤ 500000000; omega⟩
  | k + 1, hk => by
    have i := phiR_in hV hw (p := p) k (by omega)
    unfold phi
    by_cases c : T k = true ∧ pP N W T k = p
    · have hh := hV.hin hw (show k < N by omega) c.1
      rw [if_pos c]
      split <;> omega
    · rw [if_neg c]; exact i
theorem plo_le {p : Int} {j : Nat} (tj : T j = true) (pj : pP N W T j = p) : ∀ k, j < k → plo N W T F tl p k ≤ hgt F tl j
  | 0, hk => absurd hk (Nat.not_lt_zero j)
  | k + 1, hk => by
    unfold plo
    by_cases c : j = k
    · subst c
      rw [if_pos ⟨tj, pj⟩]
      split <;> omega
    · have i := plo_le tj pj k (by omega)
      split
      · split <;> omega
      · exact i
theorem phi_ge {p : Int} {j : Nat} (tj : T j = true) (pj : pP N W T j = p) : ∀ k, j < k → hgt F tl j ≤ phi N W T F tl p k
  | 0, hk => absurd hk (Nat.not_lt_zero j)
  | k + 1, hk => by
    unfold phi
    by_cases c : j = k
    · subst c
      rw [if_pos ⟨tj, pj⟩]
      split <;> omega
    · have i := phi_ge tj pj k (by omega)
      split
      · split <;> omega
      · exact i
/-- the first pixel of a part, by the reference -/
theorem m_roP (hV : RtC h W H N T F G z tl tg) (hw : wfS W H N T F G) {p : Int} (hp : zint p) : Zx 171 0 [zR 202, zI p, zN] [] (Z0 n) h = some (some (zI (fst (fun k => decide ((if T k = true then pP N W T k else -1) = p)) N)), Z0 n, h) :=
  m_roo (q := fun k => if T k = true then pP N W T k else -1) hV.1.2.2.1 hw.2.2.2.1 hp (fun k hk => ⟨(hV.po hw hk).1, by
    (try dsimp only)
    by_cases tk : T k = true
    · rw [if_pos tk]
      have := pP_in hw hk tk
      exact ⟨by omega, by omega⟩
    · rw [if_neg tk]; exact ⟨by omega, by omega⟩⟩)
theorem po_iff {p : Int} {k : Nat} (hp : 0 ≤ p) : (if T k = true then pP N W T k else -1) = p ↔ T k = true ∧ pP N W T k = p := by
  by_cases tk : T k = true
  · rw [if_pos tk]; exact ⟨fun q => ⟨tk, q⟩, fun q => q.2⟩
  · rw [if_neg tk]; exact ⟨fun q => by omega, fun q => absurd q.1 tk⟩
/-- FringeBenchModel.sizeOf -/
theorem m_siz (hV : RtC h W H N T F G z tl tg) (hw : wfS W H N T F G) {p : Nat} (hp : p < 25) : Zx 201 0 [zR 202, zI (p : Int), zN, zN] [] (Z0 n) h = some (some (zI (su (fun k => if T k = true ∧ pP N W T k = (p : Int) then 1 else 0) N)), Z0 n, h) := by
  have h25 := hw.2.2.2.1
  have e23 := hV.1.2.2.1
  rw [b201_0]
  refine (z_chain (N := N) (X := fun k => Zx 201 4 [zR 202, zI (p : Int), zI (su (fun k => if T k = true ∧ pP N W T k = (p : Int) then 1 else 0) k), zI (k : Int)] [] (Z0 n) h) (fun k hk => ?_)).trans ?_
  · show Zx 201 4 _ _ _ _ = Zx 201 4 _ _ _ _
    rw [b201_4 (by intros; omega) (by intros; omega), e23, zw_nat (by omega), zw_nat (by omega), if_neg (by omega), Int.toNat_natCast, (hV.po hw hk).2, zw_nat (n := p) (by omega)]
    have pi := po_iff (N := N) (W := W) (T := T) (p := (p : Int)) (k := k) (by omega)
    by_cases c : T k = true ∧ pP N W T k = (p : Int)
    · rw [if_neg (fun q => q (pi.mpr c)), b201_18, su, if_pos c]; rfl
    · rw [if_pos (fun q => c (pi.mp q)), b201_18, su, if_neg c]; rfl
  · show Zx 201 4 _ _ _ _ = _
    rw [b201_4 (by rw [e23]; intro q; exact absurd (Int.le_refl _) q) (by rw [e23]; intro q; exact absurd (Int.le_refl _) q), e23, if_pos (Int.le_refl _)]
theorem lw3 {x y b : Int} : (if (if x < y then x else y) < b then (if x < y then x else y) else b) = if x < (if y < b then y else b) then x else (if y < b then y else b) := by
  by_cases c1 : x < y
  · rw [if_pos c1]
    by_cases c2 : y < b
    · rw [if_pos c2, if_pos (show x < b by omega), if_pos c1]
    · rw [if_neg c2]
  · rw [if_neg c1]
    by_cases c2 : y < b
    · rw [if_pos c2, if_neg c1]
    · rw [if_neg c2, if_neg (show ¬ x < b by omega)]
theorem hg3 {x y b : Int} : (if b < (if y < x then x else y) then (if y < x then x else y) else b) = if (if b < y then y else b) < x then x else (if b < y then y else b) := by
  by_cases c1 : y < x
  · rw [if_pos c1]
    by_cases c2 : b < y
    · rw [if_pos c2, if_pos (show b < x by omega), if_pos c1]
    · rw [if_neg c2]
  · rw [if_neg c1]
    by_cases c2 : b < y
    · rw [if_pos c2, if_neg c1]
    · rw [if_neg c2, if_neg (show ¬ b < x by omega)]
/-- FringeBenchModel.lowest -/
theorem m_low (hV : RtC h W H N T F G z tl tg) (hw : wfS W H N T F G) {p : Nat} (hp : p < pM N W T) : Zx 199 0 [zR 202, zI (p : Int), zN, zN] [] (Z0 n) h = some (some (zI (plo N W T F tl (p : Int) N)), Z0 n, h) := by
  have h25 := hw.2.2.2.1
  have e23 := hV.1.2.2.1
  have m25 := pM25 hw
  obtain ⟨ρ, hP⟩ := pP_isP (N := N) (W := W) (T := T)
  obtain ⟨r1, r2, r3⟩ := hP.2.1 p hp
  have hb := hV.hin hw r1 r2
  have ro := m_roP (n := n) hV hw (p := (p : Int)) ⟨by omega, by omega⟩
  rw [root_fst hP hp] at ro
  have e0 : (if plo N W T F tl (p : Int) 0 < hgt F tl (ρ p) then plo N W T F tl (p : Int) 0 else hgt F tl (ρ p)) = hgt F tl (ρ p) := if_neg (by show ¬ (2147483647 : Int) < _; omega)
  have eN : (if plo N W T F tl (p : Int) N < hgt F tl (ρ p) then plo N W T F tl (p : Int) N else hgt F tl (ρ p)) = plo N W T F tl (p : Int) N := by
    have := plo_le (F := F) (tl := tl) r2 r3 N r1
    split <;> omega
  rw [b199_0, b199_3 ro, b199_4 (m_hgt hV hw r1 r2)]
  have ch := z_chain (N := N) (X := fun k => Zx 199 8 [zR 202, zI (p : Int), zI (if plo N W T F tl (p : Int) k < hgt F tl (ρ p) then plo N W T F tl (p : Int) k else hgt F tl (ρ p)), zI (k : Int)] [] (Z0 n) h) (fun k hk => by
    have pl := ploR_in hV hw (p := (p : Int)) k (by omega)
    show Zx 199 8 _ _ _ _ = Zx 199 8 _ _ _ _
    generalize hL : (if plo N W T F tl (p : Int) k < hgt F tl (ρ p) then plo N W T F tl (p : Int) k else hgt F tl (ρ p)) = L
    have lr : -500000000 ≤ L ∧ L ≤ 500000000 := by
      rw [← hL]
      split <;> omega
    have eq : plo N W T F tl (p : Int) (k + 1) = if T k = true ∧ pP N W T k = (p : Int) then (if hgt F tl k < plo N W T F tl (p : Int) k then hgt F tl k else plo N W T F tl (p : Int) k) else plo N W T F tl (p : Int) k := rfl
    rw [eq, b199_8 (by intros; omega) (by intros; omega), e23, zw_nat (by omega), zw_nat (by omega), if_neg (by omega), Int.toNat_natCast, (hV.po hw hk).2, zw_nat (n := p) (by omega)]
    have pi := po_iff (N := N) (W := W) (T := T) (p := (p : Int)) (k := k) (by omega)
    by_cases c : T k = true ∧ pP N W T k = (p : Int)
    · have hh := hV.hin hw hk c.1
      rw [if_neg (fun q => q (pi.mpr c)), b199_20 (m_hgt hV hw hk c.1), if_pos c, zw_id (z := L) (by omega) (by omega), zw_id (z := hgt F tl k) (by omega) (by omega)]
      by_cases d : L ≤ hgt F tl k
      · rw [if_pos d, b199_27, b199_28]
        have : (if (if hgt F tl k < plo N W T F tl (p : Int) k then hgt F tl k else plo N W T F tl (p : Int) k) < hgt F tl (ρ p) then (if hgt F tl k < plo N W T F tl (p : Int) k then hgt F tl k else plo N W T F tl (p : Int) k) else hgt F tl (ρ p)) = L := by
          rw [lw3, hL, if_neg (by omega)]
        rw [this]; rfl
      · rw [if_neg d, b199_25 (m_hgt hV hw hk c.1), b199_28]
        have : (if (if hgt F tl k < plo N W T F tl (p : Int) k then hgt F tl k else plo N W T F tl (p : Int) k) < hgt F tl (ρ p) then (if hgt F tl k < plo N W T F tl (p : Int) k then hgt F tl k else plo N W T F tl (p : Int) k) else hgt F tl (ρ p)) = hgt F tl k := by
          rw [lw3, hL, if_pos (by omega)]
        rw [this]; rfl
    · rw [if_pos (fun q => c (pi.mp q)), b199_27, b199_28, if_neg c, hL]
      rfl)
  (try dsimp only at ch)
  rw [e0, eN] at ch
  refine Eq.trans ch ?_
  rw [b199_8 (by rw [e23]; intro q; exact absurd (Int.le_refl _) q) (by rw [e23]; intro q; exact absurd (Int.le_refl _) q), e23, if_pos (Int.le_refl _)]
/-- FringeBenchModel.highest -/
theorem m_hig (hV : RtC h W H N T F G z tl tg) (hw : wfS W H N T F G) {p : Nat} (hp : p < pM N W T) : Zx 200 0 [zR 202, zI (p : Int), zN, zN] [] (Z0 n) h = some (some (zI (phi N W T F tl (p : Int) N)), Z0 n, h) := by
  have h25 := hw.2.2.2.1
  have e23 := hV.1.2.2.1
  have m25 := pM25 hw
  obtain ⟨ρ, hP⟩ := pP_isP (N := N) (W := W) (T := T)
  obtain ⟨r1, r2, r3⟩ := hP.2.1 p hp
  have hb := hV.hin hw r1 r2
  have ro := m_roP (n := n) hV hw (p := (p : Int)) ⟨by omega, by omega⟩
  rw [root_fst hP hp] at ro
  have e0 : (if hgt F tl (ρ p) < phi N W T F tl (p : Int) 0 then phi N W T F tl (p : Int) 0 else hgt F tl (ρ p)) = hgt F tl (ρ p) := if_neg (by show ¬ _ < (-2147483648 : Int); omega)
  have eN : (if hgt F tl (ρ p) < phi N W T F tl (p : Int) N then phi N W T F tl (p : Int) N else hgt F tl (ρ p)) = phi N W T F tl (p : Int) N := by
    have := phi_ge (F := F) (tl := tl) r2 r3 N r1
    split <;> omega
  rw [b200_0, b200_3 ro, b200_4 (m_hgt hV hw r1 r2)]
  have ch := z_chain (N := N) (X := fun k => Zx 200 8 [zR 202, zI (p : Int), zI (if hgt F tl (ρ p) < phi N W T F tl (p : Int) k then phi N W T F tl (p : Int) k else hgt F tl (ρ p)), zI (k : Int)] [] (Z0 n) h) (fun k hk => by
    have pl := phiR_in hV hw (p := (p : Int)) k (by omega)
    show Zx 200 8 _ _ _ _ = Zx 200 8 _ _ _ _
    generalize hL : (if hgt F tl (ρ p) < phi N W T F tl (p : Int) k then phi N W T F tl (p : Int) k else hgt F tl (ρ p)) = L
    have lr : -500000000 ≤ L ∧ L ≤ 500000000 := by
      rw [← hL]
      split <;> omega
    have eq : phi N W T F tl (p : Int) (k + 1) = if T k = true ∧ pP N W T k = (p : Int) then (if phi N W T F tl (p : Int) k < hgt F tl k then hgt F tl k else phi N W T F tl (p : Int) k) else phi N W T F tl (p : Int) k := rfl
    rw [eq, b200_8 (by intros; omega) (by intros; omega), e23, zw_nat (by omega), zw_nat (by omega), if_neg (by omega), Int.toNat_natCast, (hV.po hw hk).2, zw_nat (n := p) (by omega)]
    have pi := po_iff (N := N) (W := W) (T := T) (p := (p : Int)) (k := k) (by omega)
    by_cases c : T k = true ∧ pP N W T k = (p : Int)
    · have hh := hV.hin hw hk c.1
      rw [if_neg (fun q => q (pi.mpr c)), b200_20 (m_hgt hV hw hk c.1), if_pos c, zw_id (z := L) (by omega) (by omega), zw_id (z := hgt F tl k) (by omega) (by omega)]
      by_cases d : hgt F tl k ≤ L
      · rw [if_pos d, b200_27, b200_28]
        have : (if hgt F tl (ρ p) < (if phi N W T F tl (p : Int) k < hgt F tl k then hgt F tl k else phi N W T F tl (p : Int) k) then (if phi N W T F tl (p : Int) k < hgt F tl k then hgt F tl k else phi N W T F tl (p : Int) k) else hgt F tl (ρ p)) = L := by
          rw [hg3, hL, if_neg (by omega)]
        rw [this]; rfl
      · rw [if_neg d, b200_25 (m_hgt hV hw hk c.1), b200_28]
        have : (if hgt F tl (ρ p) < (if phi N W T F tl (p : Int) k < hgt F tl k then hgt F tl k else phi N W T F tl (p : Int) k) then (if phi N W T F tl (p : Int) k < hgt F tl k then hgt F tl k else phi N W T F tl (p : Int) k) else hgt F tl (ρ p)) = hgt F tl k := by
          rw [hg3, hL, if_pos (by omega)]
        rw [this]; rfl
    · rw [if_pos (fun q => c (pi.mp q)), b200_27, b200_28, if_neg c, hL]
      rfl)
  (try dsimp only at ch)
  rw [e0, eN] at ch
  refine Eq.trans ch ?_
  rw [b200_8 (by rw [e23]; intro q; exact absurd (Int.le_refl _) q) (by rw [e23]; intro q; exact absurd (Int.le_refl _) q), e23, if_pos (Int.le_refl _)]
theorem hl_in (hV : RtC h W H N T F G z tl tg) (hw : wfS W H N T F G) {p : Nat} (hp : p < pM N W T) : (-500000000 ≤ plo N W T F tl (p : Int) N ∧ plo N W T F tl (p : Int) N ≤ 500000000) ∧ -500000000 ≤ phi N W T F tl (p : Int) N ∧ phi N W T F tl (p : Int) N ≤ 500000000 := by
  obtain ⟨ρ, hP⟩ := pP_isP (N := N) (W := W) (T := T)
  obtain ⟨r1, r2, r3⟩ := hP.2.1 p hp
  have hb := hV.hin hw r1 r2
  have a := plo_le (F := F) (tl := tl) r2 r3 N r1
  have b := phi_ge (F := F) (tl := tl) r2 r3 N r1
  have c := ploR_in hV hw (p := (p : Int)) N (Nat.le_refl _)
  have d := phiR_in hV hw (p := (p : Int)) N (Nat.le_refl _)
  omega
theorem pghR_in (hV : RtC h W H N T F G z tl tg) (hw : wfS W H N T F G) : ∀ k, k ≤ pM N W T → 0 ≤ pgh N W T F tl k ∧ pgh N W T F tl k ≤ 1000000000
  | 0, _ => ⟨Int.le_refl _, by show (0 : Int) ≤ 1000000000; omega⟩
  | k + 1, hk => by
    have i := pghR_in hV hw k (by omega)
    have r := hl_in hV hw (p := k) (by omega)
    unfold pgh
    split <;> omega
/-- FringeBenchModel.greatestHigh -/
theorem m_ghi (hV : RtC h W H N T F G z tl tg) (hw : wfS W H N T F G) : Zx 221 0 [zR 202, zN, zN] [] (Z0 n) h = some (some (zI (pgh N W T F tl (pM N W T))), Z0 n, h) := by
  have m25 := pM25 hw
  have e32 := hV.2.1.1
  rw [b221_0]
  refine (z_chain (N := pM N W T) (X := fun k => Zx 221 4 [zR 202, zI (pgh N W T F tl k), zI (k : Int)] [] (Z0 n) h) (fun k hk => ?_)).trans ?_
  · show Zx 221 4 _ _ _ _ = Zx 221 4 _ _ _ _
    have i := pghR_in hV hw k (by omega)
    have r := hl_in hV hw hk
    have eq : pgh N W T F tl (k + 1) = if pgh N W T F tl k < phi N W T F tl (k : Int) N - plo N W T F tl (k : Int) N then phi N W T F tl (k : Int) N - plo N W T F tl (k : Int) N else pgh N W T F tl k := rfl
    rw [eq, b221_4, e32, zw_nat (by omega), zw_nat (by omega), if_neg (by omega), b221_10 (m_hig hV hw hk), b221_13 (m_low hV hw hk), zw_id (z := phi N W T F tl (k : Int) N - plo N W T F tl (k : Int) N) (by omega) (by omega), zw_id (z := pgh N W T F tl k) (by omega) (by omega)]
    by_cases c : phi N W T F tl (k : Int) N - plo N W T F tl (k : Int) N ≤ pgh N W T F tl k
    · rw [if_pos c, b221_26, if_neg (show ¬ pgh N W T F tl k < phi N W T F tl (k : Int) N - plo N W T F tl (k : Int) N by omega)]; rfl
    · rw [if_neg c, b221_19 (m_hig hV hw hk), b221_22 (m_low hV hw hk), b221_26, if_pos (show pgh N W T F tl k < phi N W T F tl (k : Int) N - plo N W T F tl (k : Int) N by omega)]; rfl
  · show Zx 221 4 _ _ _ _ = _
    rw [b221_4, e32, if_pos (Int.le_refl _)]
/-- FringeBenchModel.foursOff -/
theorem m_fof (hR : RfC h W H N T F G) (hw : wfS W H N T F G) : Zx 218 0 [zR 202] [] (Z0 n) h = some (some (zI (cf W H T F 1 + cf W H T F (-1))), Z0 n, h) := by
  have a := m_fot (n := n) hR hw (kind := 1) ⟨by omega, by omega⟩
  have b := m_fot (n := n) hR hw (kind := -1) ⟨by omega, by omega⟩
  rw [four1_cf (by omega)] at a b
  rw [b218_0, b218_2 a, b218_5 b]
theorem s_inz {S : zS} {h : zH} {a b c : Int} (ha : zint a) (hb : zint b) (hc : zint c) : Zx 138 0 [zI a, zI b, zI c] [] S h = some (some (zI (if b ≤ a ∧ a ≤ c then 1 else 0)), S, h) := by
  have := s_in (S := S) (h := h) (a := a) (b := b) (c := c)
  rw [ha.e, hb.e, hc.e] at this
  exact this
theorem zif_neg {P : Prop} [Decidable P] (h : P) : ¬ zw (if P then (1 : Int) else 0) = 0 := by
  rw [if_pos h]; decide
theorem zif_pos {P : Prop} [Decidable P] (h : ¬ P) : zw (if P then (1 : Int) else 0) = 0 := by
  rw [if_neg h]; decide
theorem zif_of {P : Prop} [Decidable P] (h : ¬ zw (if P then (1 : Int) else 0) = 0) : P := by
  by_cases c : P
  · exact c
  · exact absurd (zif_pos c) h
/-- FringeBenchModel.isThere -/
theorem m_ith (hR : RfC h W H N T F G) (hw : wfS W H N T F G) {k : Int} (hk : zint k) : Zx 195 0 [zR 202, zI k] [] (Z0 n) h = some (some (zI (if 0 ≤ k ∧ k < N ∧ T k.toNat = true then 1 else 0)), Z0 n, h) := by
  have h25 := hw.2.2.2.1
  have hi := s_inz (S := Z0 n) (h := h) (a := k) (b := 0) (c := (N : Int) - 1) hk ⟨by omega, by omega⟩ ⟨by omega, by omega⟩
  rw [b195_0, hR.2.2.1, b195_6 hi (fun q => (zif_of q).1) (fun q => by have := (zif_of q).2; omega)]
  by_cases c : 0 ≤ k ∧ k ≤ (N : Int) - 1
  · rw [if_neg (zif_neg c)]
    have th := hR.th (k := k.toNat) (by omega)
    by_cases d : zw (zb1 (h 216 k.toNat)) = 0
    · rw [if_pos d, b195_15, b195_16 (Or.inl rfl), if_neg (fun q => by rw [th.mp d] at q; exact Bool.noConfusion q.2.2)]
    · have tk : T k.toNat = true := by
        cases q : T k.toNat
        · exact absurd (th.mpr q) d
        · rfl
      rw [if_neg d, b195_16 (Or.inr rfl), if_pos ⟨c.1, by omega, tk⟩]
  · rw [if_pos (zif_pos c), b195_15, b195_16 (Or.inl rfl), if_neg (fun q => c ⟨q.1, by omega⟩)]
end RAK
