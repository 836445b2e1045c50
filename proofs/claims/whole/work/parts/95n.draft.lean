/-! READING: the draft -/
section DRF
variable {n : Nat} {h : zH}
/-- what is mentioned: the greatest -/
def MnC (h : zH) (mx : Int) : Prop := (∀ k : Nat, k < 25 → zb1 (h 105 k) = 1 → (k : Int) ≤ mx) ∧ (mx = -1 ∨ (0 ≤ mx ∧ mx < 25 ∧ zb1 (h 105 mx.toNat) = 1))
def mxm (mx k : Int) : Int := if mx < k then k else mx
theorem MnC.cg {h' : zH} {mx : Int} (hM : MnC h mx) (e : ∀ k, h' 105 k = h 105 k) : MnC h' mx := by
  obtain ⟨a, b⟩ := hM
  refine ⟨fun k hk q => a k hk (by rw [← e]; exact q), ?_⟩
  rw [e]
  exact b
theorem MnC.put {mx k : Int} (hM : MnC h mx) (hk : 0 ≤ k ∧ k < 25) : MnC (zu h 105 k.toNat 1) (mxm mx k) := by
  obtain ⟨a, b⟩ := hM
  unfold mxm
  refine ⟨fun j hj q => ?_, ?_⟩
  · by_cases z : j = k.toNat
    · split <;> omega
    · rw [zu_off (by omega)] at q
      have := a j hj q
      split <;> omega
  · by_cases z : mx < k
    · rw [if_pos z]
      exact Or.inr ⟨hk.1, hk.2, by rw [zu_eq]; decide⟩
    · rw [if_neg z]
      rcases b with y | ⟨y1, y2, y3⟩
      · omega
      · refine Or.inr ⟨y1, y2, ?_⟩
        by_cases w : mx.toNat = k.toNat
        · rw [w, zu_eq]; decide
        · rw [zu_off (by omega)]; exact y3
/-- the draft: picture, test, greatest mention, pixel, shift, fault, its place -/
abbrev dR : Type := pD × tD × Int × Int × Int × Int × Int
abbrev rD (d : dR) : pD := d.1
abbrev rT (d : dR) : tD := d.2.1
abbrev rM (d : dR) : Int := d.2.2.1
abbrev rP (d : dR) : Int := d.2.2.2.1
abbrev rS (d : dR) : Int := d.2.2.2.2.1
abbrev rF (d : dR) : Int := d.2.2.2.2.2.1
abbrev rQ (d : dR) : Int := d.2.2.2.2.2.2
/-- a draft is sound as long as there is no fault -/
def wfR (d : dR) : Prop := wfD (rD d) ∧ wfT (rT d) ∧ (-1 ≤ rM d ∧ rM d < 25) ∧ (0 ≤ rP d ∧ rP d ≤ 24) ∧ 0 ≤ rS d ∧ rS d ≤ 3
/-- as the class holds it; as the reference holds it -/
def TrL (h : zH) (t : tD) : Prop := h 111 0 = (t.1 : Int) ∧ ∀ k, k < t.1 → h 112 k = t.2.1 k ∧ h 113 k = t.2.2 k
def CDr (h : zH) (d : dR) : Prop := h 104 11 = rF d ∧ h 104 12 = rQ d ∧ (0 ≤ h 111 0 ∧ h 111 0 ≤ 8) ∧ (rF d = 0 → PiD h 106 (rD d) ∧ TrL h (rT d) ∧ MnC h (rM d))
def RDr (h : zH) (t : Int) (d : dR) : Prop := h 202 15 = rF d ∧ (rF d ≠ 0 → h 202 16 = rQ d) ∧ (-1 ≤ h 202 19 ∧ h 202 19 ≤ 20000) ∧ (t = 1 → 0 ≤ h 210 0 ∧ h 210 0 ≤ 8) ∧ (rF d = 0 → (t = 0 → RoP h (rD d)) ∧ (t = 1 → RoT h (rT d)) ∧ h 202 19 = rM d)
/-- with the fault k at the place p -/
def rflt (d : dR) (k p : Int) : dR := (rD d, rT d, rM d, rP d, rS d, k, p)
theorem CDr.flt {d : dR} {p : Int} (h3 : h 104 3 = p) (hc : 0 ≤ h 111 0 ∧ h 111 0 ≤ 8) : CDr (flt2 h) (rflt d 2 p) := by
  have e : flt2 h 111 0 = h 111 0 := by show zu (zu h 104 11 2) 104 12 (h 104 3) 111 0 = _; rw [zu_off (by omega), zu_off (by omega)]
  refine ⟨?_, ?_, by rw [e]; exact hc, fun z => absurd z (by show ¬ (2 : Int) = 0; omega)⟩
  · show zu (zu h 104 11 2) 104 12 (h 104 3) 104 11 = 2
    rw [zu_off (by omega), zu_eq]
  · show zu (zu h 104 11 2) 104 12 (h 104 3) 104 12 = p
    rw [zu_eq]; exact h3
end DRF
