/-! READING: the reference takes a number -/
section RTK
variable {n : Nat} {h : zH} {d : dR} {c : Nat → Int} {m : Nat} {t : Int}
theorem tK_in {p : Nat} : 0 ≤ tK c m p ∧ tK c m p ≤ 4 := by
  unfold tK
  repeat' split
  all_goals omega
theorem rK3 {k : Int} (hk : 0 ≤ k ∧ k ≤ 4) : zw (rK k) = 3 ↔ k = 2 := by
  rcases (by omega : k = 0 ∨ k = 1 ∨ k = 2 ∨ k = 3 ∨ k = 4) with e | e | e | e | e <;> subst e <;> decide
theorem rK4 {k : Int} (hk : 0 ≤ k ∧ k ≤ 4) : zw (rK k) = 4 ↔ k = 3 := by
  rcases (by omega : k = 0 ∨ k = 1 ∨ k = 2 ∨ k = 3 ∨ k = 4) with e | e | e | e | e <;> subst e <;> decide
theorem rK2 {k : Int} (hk : 0 ≤ k ∧ k ≤ 4) : zw (rK k) = 2 ↔ k = 1 := by
  rcases (by omega : k = 0 ∨ k = 1 ∨ k = 2 ∨ k = 3 ∨ k = 4) with e | e | e | e | e <;> subst e <;> decide
theorem rK0 {k : Int} (hk : 0 ≤ k ∧ k ≤ 4) : zw (rK k) = 0 ↔ k = 0 := by
  rcases (by omega : k = 0 ∨ k = 1 ∨ k = 2 ∨ k = 3 ∨ k = 4) with e | e | e | e | e <;> subst e <;> decide
/-- the tape as the reference sees it; its token, sought from p on -/
def RTp (h : zH) (c : Nat → Int) (m : Nat) : Prop := h 202 9 = (m : Int) ∧ ∀ k, k < m → zb8 (h 203 k) = c k
def RAt (h : zH) (c : Nat → Int) (m p : Nat) : Prop := h 202 11 = rK (tK c m p) ∧ h 202 10 = ((tA c m p : Nat) : Int) ∧ h 202 8 = ((tB c m p : Nat) : Int) ∧ (tK c m p = 2 → h 202 12 = tN c m p) ∧ (tK c m p = 1 → h 202 13 = tW c m p)
/-- what reading may change of the reference -/
def frS (h' h : zH) : Prop := ∀ x k, x ≠ 210 → ¬ (x = 202 ∧ (k = 8 ∨ (10 ≤ k ∧ k ≤ 16) ∨ k = 18 ∨ k = 19)) → h' x k = h x k
theorem frS.rf : frS h h := fun _ _ _ _ => rfl
theorem frS.tr {a b c : zH} (p : frS a b) (q : frS b c) : frS a c := fun x k e e' => (p x k e e').trans (q x k e e')
theorem frS.z {h' : zH} {a b : Nat} {v : Int} (f : frS h' h) (q : a = 210 ∨ (a = 202 ∧ (b = 8 ∨ (10 ≤ b ∧ b ≤ 16) ∨ b = 18 ∨ b = 19))) : frS (zu h' a b v) h := fun x k z z' => by
  rw [zu_off (by omega)]
  exact f x k z z'
theorem RTp.S {h' : zH} (hT : RTp h c m) (f : frS h' h) : RTp h' c m := ⟨by rw [f _ _ (by omega) (by omega)]; exact hT.1, fun k hk => by rw [f _ _ (by omega) (by omega)]; exact hT.2 k hk⟩
theorem RAt.cg {h' : zH} {p : Nat} (hA : RAt h c m p) (e : ∀ k, (k = 8 ∨ (10 ≤ k ∧ k ≤ 13)) → h' 202 k = h 202 k) : RAt h' c m p := by
  obtain ⟨a, b, f, g, i⟩ := hA
  exact ⟨by rw [e _ (by omega)]; exact a, by rw [e _ (by omega)]; exact b, by rw [e _ (by omega)]; exact f, by rw [e _ (by omega)]; exact g, by rw [e _ (by omega)]; exact i⟩
theorem RDr.cg {h' : zH} (hR : RDr h t d) (e : ∀ x k, (x = 210 ∨ (x = 202 ∧ (k = 15 ∨ k = 16 ∨ k = 19))) → h' x k = h x k) : RDr h' t d := by
  obtain ⟨a, b, f, g, i⟩ := hR
  refine ⟨by rw [e _ _ (by omega)]; exact a, by rw [e _ _ (by omega)]; exact b, by rw [e _ _ (by omega)]; exact f, by rw [e _ _ (by omega)]; exact g, fun z => ?_⟩
  obtain ⟨i1, i2, i3⟩ := i z
  refine ⟨fun y => (i1 y).far (fun k => e _ _ (by omega)), fun y => ?_, by rw [e _ _ (by omega)]; exact i3⟩
  obtain ⟨j1, j2⟩ := i2 y
  exact ⟨by rw [e _ _ (by omega)]; exact j1, fun k hk => by rw [e _ _ (by omega), e _ _ (by omega)]; exact j2 k hk⟩
/-- behind a fault -/
theorem RDr.fl {h' : zH} (hR : RDr h t d) (hf : rF d ≠ 0) (e15 : h' 202 15 = h 202 15) (e16 : h' 202 16 = h 202 16) (e19 : -1 ≤ h' 202 19 ∧ h' 202 19 ≤ 20000) (e0 : t = 1 → 0 ≤ h' 210 0 ∧ h' 210 0 ≤ 8) : RDr h' t d :=
  ⟨e15.trans hR.1, fun z => e16.trans (hR.2.1 z), e19, e0, fun z => absurd z hf⟩
/-- of a picture, without a fault -/
theorem RDr.ch {h' : zH} {D' : pD} {mx' p' s' : Int} (hR : RDr h 0 d) (hf : rF d = 0) (e15 : h' 202 15 = h 202 15) (hP : RoP h' D') (e19 : h' 202 19 = mx') (hm : -1 ≤ mx' ∧ mx' ≤ 20000) : RDr h' 0 (D', rT d, mx', p', s', rF d, rQ d) :=
  ⟨e15.trans hR.1, fun z => absurd hf z, by rw [e19]; exact hm, fun z => absurd z (by decide), fun _ => ⟨fun _ => hP, fun z => absurd z (by decide), e19⟩⟩
/-- the first fault stands -/
def mkF (d : dR) (k q : Int) : dR := if rF d = 0 then rflt d k q else d
theorem m_lat {k q : Int} (hR : RDr h t d) (hz : 0 ≤ rF d ∧ rF d ≤ 4) (hk : 1 ≤ k ∧ k ≤ 4) (hq : rF d ≠ 0 → 0 ≤ rQ d ∧ (rQ d < q ∨ (rQ d = q ∧ rF d ≤ k))) (hq6 : 0 ≤ q ∧ q ≤ 600) : ∃ h', Zx 151 0 [zR 202, zI k, zI q] [] (Z0 n) h = some (none, Z0 n, h') ∧ RDr h' t (mkF d k q) ∧ ∀ x i, ¬ (x = 202 ∧ (i = 15 ∨ i = 16)) → h' x i = h x i := by
  unfold mkF
  by_cases f0 : rF d = 0
  · rw [if_pos f0]
    refine ⟨_, m_ltr (hR.1.trans f0), ⟨by rw [zu_off (by omega), zu_eq]; rfl, fun _ => zu_eq, by rw [zu_off (by omega), zu_off (by omega)]; exact hR.2.2.1, fun z => by rw [zu_off (by omega), zu_off (by omega)]; exact hR.2.2.2.1 z, fun z => absurd z (by show ¬ k = 0; omega)⟩, fun x i z => by rw [zu_off (by omega), zu_off (by omega)]⟩
  · rw [if_neg f0]
    have q' := hq f0
    exact ⟨h, m_ltr2 hR.1 (hR.2.1 f0) ⟨⟨by omega, by omega⟩, f0⟩ ⟨by omega, by omega⟩ ⟨by omega, by omega⟩ ⟨by omega, by omega⟩ q'.2, hR, fun _ _ _ => rfl⟩
/-- the draft when a number ought to lie in a range -/
def rgF (d : dR) (v lo hi q : Int) : dR := if lo ≤ v ∧ v ≤ hi then d else mkF d 2 q
theorem mkF_f {k q : Int} (hz : 0 ≤ rF d ∧ rF d ≤ 4) (hk : 1 ≤ k ∧ k ≤ 4) : rF (mkF d k q) ≠ 0 := by
  unfold mkF
  split
  · show k ≠ 0; omega
  · assumption
/-- FringeBenchModel.take: no number -/
theorem m_tk0 {p : Nat} {lo hi : Int} (hA : RAt h c m p) (hk : tK c m p ≠ 2) : Zx 152 0 [zR 202, zI lo, zI hi] [] (Z0 n) h = some (some (zI 0), Z0 n, zu h 202 14 ((tA c m p : Nat) : Int)) := by
  rw [b152_0, hA.1, if_neg (fun z => hk ((rK3 tK_in).mp z)), b152_5 m_stp (Or.inl rfl), hA.2.1]
/-- FringeBenchModel.take -/
theorem m_tak {p : Nat} {lo hi : Int} (hm : m ≤ 600) (hc : ∀ k, -128 ≤ c k ∧ c k ≤ 127) (hp : p ≤ m) (hT : RTp h c m) (hA : RAt h c m p) (hk : tK c m p = 2) (hR : RDr h t d) (hz : 0 ≤ rF d ∧ rF d ≤ 4) (hq : rF d ≠ 0 → 0 ≤ rQ d ∧ (rQ d < ((tA c m p : Nat) : Int) ∨ (rQ d = ((tA c m p : Nat) : Int) ∧ rF d ≤ 2))) (hlo : zint lo) (hhi : zint hi) : ∃ h', Zx 152 0 [zR 202, zI lo, zI hi] [] (Z0 n) h = some (some (zI 1), Z0 n, h') ∧ RAt h' c m (tB c m p) ∧ h' 202 18 = tN c m p ∧ RDr h' t (rgF d (tN c m p) lo hi ((tA c m p : Nat) : Int)) ∧ (∀ k, h' 210 k = h 210 k) ∧ h' 202 19 = h 202 19 ∧ frS h' h := by
  obtain ⟨t1, t2, t3, t4, t5⟩ := tB_in (c := c) hp
  have v := tN_in (c := c) hp hk
  have b0 := b152_0 (n := n) (h := h) (l1 := lo) (l2 := hi)
  rw [hA.1, if_pos ((rK3 tK_in).mpr hk), zu_off (x := 202) (y := 202) (k := 18) (i := 12) (by omega), hA.2.2.2.1 hk] at b0
  have gR : RDr (zu h 202 18 (tN c m p)) t d := hR.cg (fun x k z => by rw [zu_off (by omega)])
  have iz := s_inz (S := Z0 n) (h := zu h 202 18 (tN c m p)) (a := tN c m p) (b := lo) (c := hi) ⟨by omega, by omega⟩ hlo hhi
  rw [b152_15 iz] at b0
  -- up to the next token
  have mid : ∃ g, Zx 152 0 [zR 202, zI lo, zI hi] [] (Z0 n) h = Zx 152 22 [zR 202, zN, zN] [] (Z0 n) g ∧ RDr g t (rgF d (tN c m p) lo hi ((tA c m p : Nat) : Int)) ∧ ∀ x i, ¬ (x = 202 ∧ (i = 15 ∨ i = 16)) → g x i = zu h 202 18 (tN c m p) x i := by
    unfold rgF
    by_cases q : lo ≤ tN c m p ∧ tN c m p ≤ hi
    · rw [if_pos (zif_neg q)] at b0
      rw [if_pos q]
      exact ⟨_, b0, gR, fun _ _ _ => rfl⟩
    · rw [if_neg (fun z => z (zif_pos q)), zu_off (x := 202) (y := 202) (k := 18) (i := 10) (by omega), hA.2.1] at b0
      rw [if_neg q]
      obtain ⟨g, g1, g2, g3⟩ := m_lat (n := n) (k := 2) (q := ((tA c m p : Nat) : Int)) gR hz ⟨by omega, by omega⟩ hq ⟨by omega, by omega⟩
      rw [b152_21 g1] at b0
      exact ⟨g, b0, g2, g3⟩
  obtain ⟨g, g1, g2, g3⟩ := mid
  have g8 : g 202 8 = ((tB c m p : Nat) : Int) := by rw [g3 _ _ (by omega), zu_off (by omega)]; exact hA.2.2.1
  have gT : RTp g c m := ⟨by rw [g3 _ _ (by omega), zu_off (by omega)]; exact hT.1, fun k hk => by rw [g3 _ _ (by omega), zu_off (by omega)]; exact hT.2 k hk⟩
  obtain ⟨u, u1, u2, u3, u4, u5, u6, uf⟩ := m_tok (n := n) (h := g) (c := c) hm t3 g8 gT.1 gT.2 hc
  refine ⟨u, ?_, ⟨u2, u3, u4, u5, u6⟩, by rw [uf _ _ (by omega), g3 _ _ (by omega), zu_eq], g2.cg (fun x k z => uf x k (by omega)), fun k => by rw [uf _ _ (by omega), g3 _ _ (by omega), zu_off (by omega)], by rw [uf _ _ (by omega), g3 _ _ (by omega), zu_off (by omega)], fun x k z1 z2 => by rw [uf x k (by omega), g3 x k (by omega), zu_off (by omega)]⟩
  rw [g1, b152_22, b152_23 u1]
/-- FringeBenchModel.pixelNumber: no number -/
theorem m_px0 {p : Nat} (hA : RAt h c m p) (hk : tK c m p ≠ 2) : ∃ h', Zx 154 0 [zR 202, zN] [] (Z0 n) h = some (some (zI 0), Z0 n, h') ∧ h' 202 14 = ((tA c m p : Nat) : Int) ∧ frS h' h := by
  have st : Zx 154 0 [zR 202, zN] [] (Z0 n) h = some (some (zI 0), Z0 n, zu (zu h 202 14 ((tA c m p : Nat) : Int)) 202 19 ((zu h 202 14 ((tA c m p : Nat) : Int)) 202 19)) := by
    rw [b154_0, b154_3 (m_tk0 hA hk), if_pos zw0, b154_16, b154_18 (Or.inl rfl)]
  refine ⟨_, st, ?_, ?_⟩
  · rw [zu_off (by omega), zu_eq]
  · exact (frS.rf.z (Or.inr ⟨rfl, by omega⟩)).z (Or.inr ⟨rfl, by omega⟩)
/-- the draft with a first pixel -/
def pxF (v q : Int) (d : dR) : dR := if rF d = 0 then rpx d v q else d
/-- FringeBenchModel.pixelNumber -/
theorem m_pxn {p : Nat} (hm : m ≤ 600) (hc : ∀ k, -128 ≤ c k ∧ c k ≤ 127) (hp : p ≤ m) (hT : RTp h c m) (hA : RAt h c m p) (hk : tK c m p = 2) (hR : RDr h 0 d) (hw : wfQ d p) : ∃ h', Zx 154 0 [zR 202, zN] [] (Z0 n) h = some (some (zI 1), Z0 n, h') ∧ RAt h' c m (tB c m p) ∧ h' 202 18 = tN c m p ∧ RDr h' 0 (pxF (tN c m p) ((tA c m p : Nat) : Int) d) ∧ frS h' h := by
  obtain ⟨t1, t2, t3, t4, t5⟩ := tB_in (c := c) hp
  have v := tN_in (c := c) hp hk
  obtain ⟨⟨w1, w2, w3, w4, w5⟩, w6, w7⟩ := hw
  obtain ⟨u, u1, u2, u3, u4, u5, u6, uf⟩ := m_tak (n := n) (d := d) (lo := 0) (hi := 24) hm hc hp hT hA hk hR w6 (fun z => by have := w7 z; omega) ⟨by omega, by omega⟩ ⟨by omega, by omega⟩
  have r19 := hR.2.2.1
  have st : Zx 154 0 [zR 202, zN] [] (Z0 n) h = some (some (zI 1), Z0 n, zu u 202 19 (if u 202 19 < tN c m p then tN c m p else u 202 19)) := by
    rw [b154_0, b154_3 u1, if_neg (show ¬ zw 1 = 0 by decide), u3, u6, zw_id (z := tN c m p) (by omega) (by omega), zw_id (z := h 202 19) (by omega) (by omega)]
    by_cases q : h 202 19 < tN c m p
    · rw [if_neg (by omega), if_pos q, b154_18 (Or.inr rfl)]
    · rw [if_pos (by omega), if_neg q, b154_16, b154_18 (Or.inr rfl), u6]
  have mx : -1 ≤ (if u 202 19 < tN c m p then tN c m p else u 202 19) ∧ (if u 202 19 < tN c m p then tN c m p else u 202 19) ≤ 20000 := by
    rw [u6]
    split <;> omega
  refine ⟨_, st, u2.cg (fun k z => by rw [zu_off (by omega)]), by rw [zu_off (by omega)]; exact u3, ?_, uf.z (Or.inr ⟨rfl, by omega⟩)⟩
  have et : pxF (tN c m p) ((tA c m p : Nat) : Int) d = if rF d = 0 then rpx d (tN c m p) ((tA c m p : Nat) : Int) else d := rfl
  rw [et]
  unfold rgF at u4
  by_cases f0 : rF d = 0
  · rw [if_pos f0]
    unfold rpx
    by_cases q : 0 ≤ tN c m p ∧ tN c m p ≤ 24
    · rw [if_pos q] at u4 ⊢
      obtain ⟨i1, i2, i3⟩ := u4.2.2.2.2 f0
      refine RDr.ch u4 f0 (by rw [zu_off (by omega)]) ((i1 rfl).far (fun k => by rw [zu_off (by omega)])) (by rw [zu_eq, i3]; rfl) ?_
      rw [i3] at mx
      exact mx
    · rw [if_neg q] at u4 ⊢
      have e : mkF d 2 ((tA c m p : Nat) : Int) = rflt d 2 ((tA c m p : Nat) : Int) := if_pos f0
      rw [e] at u4
      exact RDr.fl u4 (by show ¬ (2 : Int) = 0; omega) (by rw [zu_off (by omega)]) (by rw [zu_off (by omega)]) (by rw [zu_eq]; exact mx) (fun z => absurd z (by decide))
  · rw [if_neg f0]
    have e : (if 0 ≤ tN c m p ∧ tN c m p ≤ 24 then d else mkF d 2 ((tA c m p : Nat) : Int)) = d := by
      unfold mkF
      rw [if_neg f0]
      split <;> rfl
    rw [e] at u4
    exact RDr.fl u4 f0 (by rw [zu_off (by omega)]) (by rw [zu_off (by omega)]) (by rw [zu_eq]; exact mx) (fun z => absurd z (by decide))
/-- FringeBenchModel.into: no number -/
theorem m_in0 {p a : Nat} {lo hi : Int} (ha : a < 178) (hA : RAt h c m p) (hk : tK c m p ≠ 2) : ∃ h', Zx 153 0 [zR 202, zI (a : Int), zI lo, zI hi, zN] [] (Z0 n) h = some (some (zI 0), Z0 n, h') ∧ h' 202 14 = ((tA c m p : Nat) : Int) ∧ frS h' h := by
  have st : Zx 153 0 [zR 202, zI (a : Int), zI lo, zI hi, zN] [] (Z0 n) h = some (some (zI 0), Z0 n, zu (zu h 202 14 ((tA c m p : Nat) : Int)) 210 a ((zu h 202 14 ((tA c m p : Nat) : Int)) 210 a)) := by
    rw [b153_0, b153_3 (m_tk0 hA hk) (by intros; omega) (by intros; omega), if_pos zw0, b153_17 (n_s0 := 178) (r_s0 := []) rfl (by omega) (by omega) (by omega) (Or.inl rfl), Int.toNat_natCast]
  refine ⟨_, st, ?_, ?_⟩
  · rw [zu_off (by omega), zu_eq]
  · exact (frS.rf.z (Or.inr ⟨rfl, by omega⟩)).z (Or.inl rfl)
/-- FringeBenchModel.into -/
theorem m_int {p a : Nat} {lo hi : Int} (ha : a < 178) (hm : m ≤ 600) (hc : ∀ k, -128 ≤ c k ∧ c k ≤ 127) (hp : p ≤ m) (hT : RTp h c m) (hA : RAt h c m p) (hk : tK c m p = 2) (hR : RDr h 0 d) (hw : wfQ d p) (hlo : zint lo) (hhi : zint hi) : ∃ h', Zx 153 0 [zR 202, zI (a : Int), zI lo, zI hi, zN] [] (Z0 n) h = some (some (zI 1), Z0 n, zu h' 210 a (tN c m p)) ∧ RAt h' c m (tB c m p) ∧ RDr h' 0 (rgF d (tN c m p) lo hi ((tA c m p : Nat) : Int)) ∧ h' 202 19 = h 202 19 ∧ frS h' h := by
  obtain ⟨⟨w1, w2, w3, w4, w5⟩, w6, w7⟩ := hw
  obtain ⟨t1, t2, t3, t4, t5⟩ := tB_in (c := c) hp
  obtain ⟨u, u1, u2, u3, u4, u5, u6, uf⟩ := m_tak (n := n) (d := d) (lo := lo) (hi := hi) hm hc hp hT hA hk hR w6 (fun z => by have := w7 z; omega) hlo hhi
  refine ⟨u, ?_, u2, u4, u6, uf⟩
  rw [b153_0, b153_3 u1 (by intros; omega) (by intros; omega), if_neg (show ¬ zw 1 = 0 by decide), u3, b153_17 (n_s0 := 178) (r_s0 := []) rfl (by omega) (by omega) (by omega) (Or.inr rfl), Int.toNat_natCast]
end RTK
