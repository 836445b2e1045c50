/-! READING: how a draft changes -/
section DCH
variable {n : Nat} {h : zH} {D : pD} {d : dR}
def sW (D : pD) (v : Nat) : pD := (v, D.2)
def sH (D : pD) (v : Nat) : pD := (dW D, v, D.2.2)
def sL (D : pD) (v : Int) : pD := (dW D, dH D, v, D.2.2.2)
def sS (D : pD) (k : Nat) (v : Int) : pD := (dW D, dH D, dL D, fu (dS D) k v, D.2.2.2.2)
def sG (D : pD) (k : Nat) (v : Int) : pD := (dW D, dH D, dL D, dS D, fu (dG D) k v, D.2.2.2.2.2)
def sP (D : pD) (k : Nat) (v : Int) : pD := (dW D, dH D, dL D, dS D, dG D, fu (dP D) k v, dO D)
def sO (D : pD) (k : Nat) : pD := (dW D, dH D, dL D, dS D, dG D, dP D, fun j => if j = k then true else dO D j)
theorem fu_in {f : Nat → Int} {k j : Nat} {v lo hi : Int} (hf : lo ≤ f j ∧ f j ≤ hi) (hv : lo ≤ v ∧ v ≤ hi) : lo ≤ fu f k v j ∧ fu f k v j ≤ hi := by
  unfold fu
  split
  · exact hv
  · exact hf
theorem sW.wf {v : Nat} (hD : wfD D) (hv : 2 ≤ v ∧ v ≤ 5) : wfD (sW D v) := ⟨hv, hD.2⟩
theorem sH.wf {v : Nat} (hD : wfD D) (hv : 2 ≤ v ∧ v ≤ 5) : wfD (sH D v) := ⟨hD.1, hv, hD.2.2⟩
theorem sL.wf {v : Int} (hD : wfD D) (hv : 1 ≤ v ∧ v ≤ 198) : wfD (sL D v) := ⟨hD.1, hD.2.1, hv, hD.2.2.2⟩
theorem sS.wf {k : Nat} {v : Int} (hD : wfD D) (hv : 0 ≤ v ∧ v ≤ 99) : wfD (sS D k v) := ⟨hD.1, hD.2.1, hD.2.2.1, fun j hj => fu_in (hD.2.2.2.1 j hj) hv, hD.2.2.2.2⟩
theorem sG.wf {k : Nat} {v : Int} (hD : wfD D) (hv : 1 ≤ v ∧ v ≤ 9) : wfD (sG D k v) := ⟨hD.1, hD.2.1, hD.2.2.1, hD.2.2.2.1, fun j hj => ⟨fu_in (hD.2.2.2.2 j hj).1 hv, (hD.2.2.2.2 j hj).2⟩⟩
theorem sP.wf {k : Nat} {v : Int} (hD : wfD D) (hv : 0 ≤ v ∧ v ≤ 399) : wfD (sP D k v) := ⟨hD.1, hD.2.1, hD.2.2.1, hD.2.2.2.1, fun j hj => ⟨(hD.2.2.2.2 j hj).1, by
  have := (hD.2.2.2.2 j hj).2
  show -1 ≤ fu (dP D) k v j ∧ fu (dP D) k v j < 400
  unfold fu
  split
  · omega
  · exact this⟩⟩
theorem sO.wf {k : Nat} (hD : wfD D) : wfD (sO D k) := hD
/-- the class's draft -/
theorem PiD.far {h' : zH} (hP : PiD h 106 D) (e : ∀ x k, 106 ≤ x → x ≤ 110 → h' x k = h x k) : PiD h' 106 D := hP.cg2 (fun x k a b => e x k (by omega) (by omega))
theorem PiD.sW {v : Nat} (hP : PiD h 106 D) : PiD (zu h 106 0 (v : Int)) 106 (sW D v) := by
  obtain ⟨a, b, c, e, f⟩ := hP
  exact ⟨zu_eq, by rw [zu_off (by omega)]; exact b, by rw [zu_off (by omega)]; exact c, fun k hk => by rw [zu_off (by omega)]; exact e k hk, fun k hk => by rw [zu_off (by omega), zu_off (by omega), zu_off (by omega)]; exact f k hk⟩
theorem PiD.sH {v : Nat} (hP : PiD h 106 D) : PiD (zu h 106 1 (v : Int)) 106 (sH D v) := by
  obtain ⟨a, b, c, e, f⟩ := hP
  exact ⟨by rw [zu_off (by omega)]; exact a, zu_eq, by rw [zu_off (by omega)]; exact c, fun k hk => by rw [zu_off (by omega)]; exact e k hk, fun k hk => by rw [zu_off (by omega), zu_off (by omega), zu_off (by omega)]; exact f k hk⟩
theorem PiD.sL {v : Int} (hP : PiD h 106 D) : PiD (zu h 106 2 v) 106 (sL D v) := by
  obtain ⟨a, b, c, e, f⟩ := hP
  exact ⟨by rw [zu_off (by omega)]; exact a, by rw [zu_off (by omega)]; exact b, zu_eq, fun k hk => by rw [zu_off (by omega)]; exact e k hk, fun k hk => by rw [zu_off (by omega), zu_off (by omega), zu_off (by omega)]; exact f k hk⟩
theorem PiD.sS {j : Nat} {v : Int} (hP : PiD h 106 D) : PiD (zu h 107 j v) 106 (sS D j v) := by
  obtain ⟨a, b, c, e, f⟩ := hP
  refine ⟨by rw [zu_off (by omega)]; exact a, by rw [zu_off (by omega)]; exact b, by rw [zu_off (by omega)]; exact c, fun k hk => ?_, fun k hk => by rw [zu_off (by omega), zu_off (by omega), zu_off (by omega)]; exact f k hk⟩
  by_cases z : k = j
  · rw [z, zu_eq]; exact fu_same.symm
  · rw [zu_off (by omega), e k hk]; exact (fu_ne z).symm
theorem PiD.sG {j : Nat} {v : Int} (hP : PiD h 106 D) : PiD (zu h 108 j v) 106 (sG D j v) := by
  obtain ⟨a, b, c, e, f⟩ := hP
  refine ⟨by rw [zu_off (by omega)]; exact a, by rw [zu_off (by omega)]; exact b, by rw [zu_off (by omega)]; exact c, fun k hk => by rw [zu_off (by omega)]; exact e k hk, fun k hk => ?_⟩
  obtain ⟨f1, f2, f3⟩ := f k hk
  refine ⟨?_, by rw [zu_off (by omega)]; exact f2, by rw [zu_off (by omega)]; exact f3⟩
  by_cases z : k = j
  · rw [z, zu_eq]; exact fu_same.symm
  · rw [zu_off (by omega), f1]; exact (fu_ne z).symm
theorem PiD.sP {j : Nat} {v : Int} (hP : PiD h 106 D) : PiD (zu h 109 j v) 106 (sP D j v) := by
  obtain ⟨a, b, c, e, f⟩ := hP
  refine ⟨by rw [zu_off (by omega)]; exact a, by rw [zu_off (by omega)]; exact b, by rw [zu_off (by omega)]; exact c, fun k hk => by rw [zu_off (by omega)]; exact e k hk, fun k hk => ?_⟩
  obtain ⟨f1, f2, f3⟩ := f k hk
  refine ⟨by rw [zu_off (by omega)]; exact f1, ?_, by rw [zu_off (by omega)]; exact f3⟩
  by_cases z : k = j
  · rw [z, zu_eq]; exact fu_same.symm
  · rw [zu_off (by omega), f2]; exact (fu_ne z).symm
theorem PiD.sO {j : Nat} (hP : PiD h 106 D) : PiD (zu h 110 j 1) 106 (sO D j) := by
  obtain ⟨a, b, c, e, f⟩ := hP
  refine ⟨by rw [zu_off (by omega)]; exact a, by rw [zu_off (by omega)]; exact b, by rw [zu_off (by omega)]; exact c, fun k hk => by rw [zu_off (by omega)]; exact e k hk, fun k hk => ?_⟩
  obtain ⟨f1, f2, f3⟩ := f k hk
  refine ⟨by rw [zu_off (by omega)]; exact f1, by rw [zu_off (by omega)]; exact f2, ?_⟩
  show zb1 (zu h 110 j 1 (106 + 4) k) = if (if k = j then true else dO D k) = true then 1 else 0
  by_cases z : k = j
  · rw [z, zu_eq, if_pos rfl, if_pos rfl]; decide
  · rw [zu_off (by omega), f3, if_neg z]
/-- the reference's -/
theorem RoP.far {h' : zH} (hP : RoP h D) (e : ∀ k, h' 210 k = h 210 k) : RoP h' D := by
  obtain ⟨a, b, c, f, g⟩ := hP
  exact ⟨by rw [e]; exact a, by rw [e]; exact b, by rw [e]; exact c, fun k hk => by rw [e]; exact f k hk, fun k hk => by rw [e, e, e]; exact g k hk⟩
theorem RoP.sW {v : Nat} (hP : RoP h D) : RoP (zu h 210 0 (v : Int)) (sW D v) := by
  obtain ⟨a, b, c, e, f⟩ := hP
  exact ⟨zu_eq, by rw [zu_off (by omega)]; exact b, by rw [zu_off (by omega)]; exact c, fun k hk => by rw [zu_off (by omega)]; exact e k hk, fun k hk => by rw [zu_off (by omega), zu_off (by omega), zu_off (by omega)]; exact f k hk⟩
theorem RoP.sH {v : Nat} (hP : RoP h D) : RoP (zu h 210 1 (v : Int)) (sH D v) := by
  obtain ⟨a, b, c, e, f⟩ := hP
  exact ⟨by rw [zu_off (by omega)]; exact a, zu_eq, by rw [zu_off (by omega)]; exact c, fun k hk => by rw [zu_off (by omega)]; exact e k hk, fun k hk => by rw [zu_off (by omega), zu_off (by omega), zu_off (by omega)]; exact f k hk⟩
theorem RoP.sL {v : Int} (hP : RoP h D) : RoP (zu h 210 2 v) (sL D v) := by
  obtain ⟨a, b, c, e, f⟩ := hP
  exact ⟨by rw [zu_off (by omega)]; exact a, by rw [zu_off (by omega)]; exact b, zu_eq, fun k hk => by rw [zu_off (by omega)]; exact e k hk, fun k hk => by rw [zu_off (by omega), zu_off (by omega), zu_off (by omega)]; exact f k hk⟩
theorem RoP.sS {j : Nat} {v : Int} (hP : RoP h D) (hj : j < 100) : RoP (zu h 210 (3 + j) v) (sS D j v) := by
  obtain ⟨a, b, c, e, f⟩ := hP
  refine ⟨by rw [zu_off (by omega)]; exact a, by rw [zu_off (by omega)]; exact b, by rw [zu_off (by omega)]; exact c, fun k hk => ?_, fun k hk => by rw [zu_off (by omega), zu_off (by omega), zu_off (by omega)]; exact f k hk⟩
  by_cases z : k = j
  · rw [z, zu_eq]; exact fu_same.symm
  · rw [zu_off (by omega), e k hk]; exact (fu_ne z).symm
theorem RoP.sG {j : Nat} {v : Int} (hP : RoP h D) (hj : j < 25) : RoP (zu h 210 (103 + j) v) (sG D j v) := by
  obtain ⟨a, b, c, e, f⟩ := hP
  refine ⟨by rw [zu_off (by omega)]; exact a, by rw [zu_off (by omega)]; exact b, by rw [zu_off (by omega)]; exact c, fun k hk => by rw [zu_off (by omega)]; exact e k hk, fun k hk => ?_⟩
  obtain ⟨f1, f2, f3⟩ := f k hk
  refine ⟨?_, by rw [zu_off (by omega)]; exact f2, by rw [zu_off (by omega)]; exact f3⟩
  by_cases z : k = j
  · rw [z, zu_eq]; exact fu_same.symm
  · rw [zu_off (by omega), f1]; exact (fu_ne z).symm
theorem RoP.sP {j : Nat} {v : Int} (hP : RoP h D) (hj : j < 25) : RoP (zu h 210 (128 + j) v) (sP D j v) := by
  obtain ⟨a, b, c, e, f⟩ := hP
  refine ⟨by rw [zu_off (by omega)]; exact a, by rw [zu_off (by omega)]; exact b, by rw [zu_off (by omega)]; exact c, fun k hk => by rw [zu_off (by omega)]; exact e k hk, fun k hk => ?_⟩
  obtain ⟨f1, f2, f3⟩ := f k hk
  refine ⟨by rw [zu_off (by omega)]; exact f1, ?_, by rw [zu_off (by omega)]; exact f3⟩
  by_cases z : k = j
  · rw [z, zu_eq]; exact fu_same.symm
  · rw [zu_off (by omega), f2]; exact (fu_ne z).symm
theorem RoP.sO {j : Nat} (hP : RoP h D) (hj : j < 25) : RoP (zu h 210 (153 + j) 1) (sO D j) := by
  obtain ⟨a, b, c, e, f⟩ := hP
  refine ⟨by rw [zu_off (by omega)]; exact a, by rw [zu_off (by omega)]; exact b, by rw [zu_off (by omega)]; exact c, fun k hk => by rw [zu_off (by omega)]; exact e k hk, fun k hk => ?_⟩
  obtain ⟨f1, f2, f3⟩ := f k hk
  refine ⟨by rw [zu_off (by omega)]; exact f1, by rw [zu_off (by omega)]; exact f2, ?_⟩
  show zu h 210 (153 + j) 1 210 (153 + k) = if (if k = j then true else dO D k) = true then 1 else 0
  by_cases z : k = j
  · rw [z, zu_eq, if_pos rfl, if_pos rfl]
  · rw [zu_off (by omega), f3, if_neg z]
/-- what a number of a line of a picture does to the draft -/
def rpx (d : dR) (v q : Int) : dR := if 0 ≤ v ∧ v ≤ 24 then (rD d, rT d, mxm (rM d) v, v, rS d, rF d, rQ d) else rflt d 2 q
def rsz (i : Nat) (v q : Int) (d : dR) : dR := if 2 ≤ v ∧ v ≤ 5 then (if i = 0 then (sW (rD d) v.toNat, d.2) else (sH (rD d) v.toNat, d.2)) else rflt d 2 q
def rst (i : Nat) (v q : Int) (d : dR) : dR := if i = 0 then (if 0 ≤ v ∧ v ≤ 3 then (rD d, rT d, rM d, rP d, v, rF d, rQ d) else rflt d 2 q) else if i = 1 then rpx d v q else if (0 ≤ v ∧ v ≤ 99) ∧ rP d + ((i : Int) - 2) < 25 then (sS (rD d) (rS d * 25 + (rP d + ((i : Int) - 2))).toNat v, rT d, mxm (rM d) (rP d + ((i : Int) - 2)), rP d, rS d, rF d, rQ d) else rflt d 2 q
def rph (i : Nat) (v q : Int) (d : dR) : dR := if i = 0 then rpx d v q else if (0 ≤ v ∧ v ≤ 399) ∧ rP d + ((i : Int) - 1) < 25 then (sP (rD d) (rP d + ((i : Int) - 1)).toNat v, rT d, mxm (rM d) (rP d + ((i : Int) - 1)), rP d, rS d, rF d, rQ d) else rflt d 2 q
def rho (v q : Int) (d : dR) : dR := if 0 ≤ v ∧ v ≤ 24 then (sO (rD d) v.toNat, rT d, mxm (rM d) v, v, rS d, rF d, rQ d) else rflt d 2 q
def rwt (i : Nat) (v q : Int) (d : dR) : dR := if i = 0 then rpx d v q else if 1 ≤ v ∧ v ≤ 9 then (sG (rD d) (rP d).toNat v, d.2) else rflt d 2 q
def rle (v q : Int) (d : dR) : dR := if 1 ≤ v ∧ v ≤ 198 then (sL (rD d) v, d.2) else rflt d 2 q
def rkn (l : Int) (i : Nat) (v q : Int) (d : dR) : dR := if l = 0 then rsz i v q d else if l = 1 then rst i v q d else if l = 2 then rph i v q d else if l = 3 then rho v q d else if l = 4 then rwt i v q d else rle v q d
def tkP (l : Int) (i : Nat) (v q : Int) (d : dR) : dR := if rF d = 0 then rkn l i v q d else d
/-- a draft with its fault -/
def wfQ (d : dR) (p : Nat) : Prop := wfR d ∧ (0 ≤ rF d ∧ rF d ≤ 4) ∧ (rF d ≠ 0 → 0 ≤ rQ d ∧ rQ d < (p : Int))
theorem mxm_in {a b : Int} (ha : -1 ≤ a ∧ a < 25) (hb : 0 ≤ b ∧ b < 25) : -1 ≤ mxm a b ∧ mxm a b < 25 := by
  unfold mxm
  split <;> omega
theorem wfR.px (hw : wfR d) {v q : Int} : wfR (rpx d v q) := by
  obtain ⟨a, b, c, e, f⟩ := hw
  unfold rpx
  split
  · rename_i z
    exact ⟨a, b, mxm_in c (by omega), ⟨z.1, z.2⟩, f⟩
  · exact ⟨a, b, c, e, f⟩
theorem wfR.flt (hw : wfR d) {k q : Int} : wfR (rflt d k q) := hw
theorem wfR.kn (hw : wfR d) {l : Int} {i : Nat} {v q : Int} : wfR (rkn l i v q d) := by
  have hw' := hw
  obtain ⟨a, b, c, e, f⟩ := hw'
  unfold rkn
  split
  · unfold rsz
    split
    · split
      · exact ⟨sW.wf a (by omega), b, c, e, f⟩
      · exact ⟨sH.wf a (by omega), b, c, e, f⟩
    · exact hw.flt
  split
  · unfold rst
    split
    · split
      · rename_i z
        exact ⟨a, b, c, e, z.1, z.2⟩
      · exact hw.flt
    split
    · exact hw.px
    split
    · rename_i z
      exact ⟨sS.wf a z.1, b, mxm_in c (by omega), e, f⟩
    · exact hw.flt
  split
  · unfold rph
    split
    · exact hw.px
    split
    · rename_i z
      exact ⟨sP.wf a z.1, b, mxm_in c (by omega), e, f⟩
    · exact hw.flt
  split
  · unfold rho
    split
    · rename_i z
      exact ⟨sO.wf a, b, mxm_in c (by omega), ⟨z.1, z.2⟩, f⟩
    · exact hw.flt
  split
  · unfold rwt
    split
    · exact hw.px
    split
    · rename_i z
      exact ⟨sG.wf a z, b, c, e, f⟩
    · exact hw.flt
  · unfold rle
    split
    · rename_i z
      exact ⟨a.1, a.2.1, z, a.2.2.2⟩ |> fun y => ⟨y, b, c, e, f⟩
    · exact hw.flt
/-- its fault is the old one or 2 at q -/
theorem rkn_f {l : Int} {i : Nat} {v q : Int} : (rF (rkn l i v q d) = rF d ∧ rQ (rkn l i v q d) = rQ d) ∨ rkn l i v q d = rflt d 2 q := by
  unfold rkn rsz rst rph rho rwt rle rpx
  repeat' split
  all_goals first | exact Or.inr rfl | exact Or.inl ⟨rfl, rfl⟩
theorem wfQ.tk {p p' : Nat} (hw : wfQ d p) {l : Int} {i : Nat} {v : Int} {q : Nat} (hp : p ≤ q) (hq : q < p') : wfQ (tkP l i v (q : Int) d) p' := by
  obtain ⟨a, b, c⟩ := hw
  unfold tkP
  split
  · rename_i z
    refine ⟨a.kn, ?_⟩
    rcases rkn_f (d := d) (l := l) (i := i) (v := v) (q := (q : Int)) with ⟨y1, y2⟩ | y
    · rw [y1, y2]
      exact ⟨b, fun w => by have := c w; omega⟩
    · rw [y]
      exact ⟨⟨by show (0 : Int) ≤ 2; omega, by show (2 : Int) ≤ 4; omega⟩, fun _ => by show (0 : Int) ≤ (q : Int) ∧ (q : Int) < (p' : Int); omega⟩
  · exact ⟨a, b, fun w => by have := c w; omega⟩
end DCH
