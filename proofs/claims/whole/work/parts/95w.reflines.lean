/-! READING: the reference's lines of a picture -/
section RLP
variable {n : Nat} {h : zH} {d : dR} {c : Nat → Int} {m : Nat} {t : Int}
theorem MEn.r {g : zH} {l : Int} {f i p : Nat} (hf : m + 1 ≤ p + f) (hp : p ≤ m) (hk : tK c m p ≠ 2) (hi : (i : Int) < fewN 0 l) (h14 : g 202 14 = ((tA c m p : Nat) : Int)) : MEn g 0 0 c m (rdL c m l f i p d) := by
  rw [rdL_r hf hp hk hi]
  exact Or.inr ⟨rfl, rfl, h14⟩
theorem few_e : fewN 0 0 = 2 ∧ fewN 0 1 = 3 ∧ fewN 0 2 = 2 ∧ fewN 0 3 = 1 ∧ fewN 0 4 = 2 ∧ fewN 0 5 = 1 := by decide
theorem most_e : mostN 0 0 = 2 ∧ mostN 0 1 = 600 ∧ mostN 0 2 = 600 ∧ mostN 0 3 = 600 ∧ mostN 0 4 = 2 ∧ mostN 0 5 = 1 := by decide
theorem tkP_n {l v q : Int} {i : Nat} (hf : rF d ≠ 0) : tkP l i v q d = d := if_neg hf
theorem tkP_z {l v q : Int} {i : Nat} (hf : rF d = 0) : tkP l i v q d = rkn l i v q d := if_pos hf
/-- a cell of the row is put in -/
theorem RDr.int {d' : dR} {D' : pD} {a : Nat} {v lo hi q : Int} (u4 : RDr h 0 (rgF d v lo hi q)) (good : rF d = 0 → lo ≤ v ∧ v ≤ hi → RoP h (rD d) → RoP (zu h 210 a v) D' ∧ d' = (D', d.2)) (bad : rF d = 0 → ¬ (lo ≤ v ∧ v ≤ hi) → d' = rflt d 2 q) (fl : rF d ≠ 0 → d' = d) : RDr (zu h 210 a v) 0 d' := by
  have r19 := u4.2.2.1
  unfold rgF at u4
  by_cases f0 : rF d = 0
  · by_cases q : lo ≤ v ∧ v ≤ hi
    · rw [if_pos q] at u4
      obtain ⟨i1, i2, i3⟩ := u4.2.2.2.2 f0
      obtain ⟨g1, g2⟩ := good f0 q (i1 rfl)
      rw [g2]
      exact RDr.ch (mx' := rM d) (p' := rP d) (s' := rS d) u4 f0 (by rw [zu_off (by omega)]) g1 (by rw [zu_off (by omega)]; exact i3) (by rw [← i3]; exact r19)
    · rw [if_neg q, mkF_z f0] at u4
      rw [bad f0 q]
      exact RDr.fl u4 (by show ¬ (2 : Int) = 0; omega) (by rw [zu_off (by omega)]) (by rw [zu_off (by omega)]) (by rw [zu_off (by omega)]; exact r19) (fun z => absurd z (by decide))
  · have e : (if lo ≤ v ∧ v ≤ hi then d else mkF d 2 q) = d := by
      rw [mkF_n f0]
      split <;> rfl
    rw [e] at u4
    rw [fl f0]
    exact RDr.fl u4 f0 (by rw [zu_off (by omega)]) (by rw [zu_off (by omega)]) (by rw [zu_off (by omega)]; exact r19) (fun z => absurd z (by decide))
/-- the numbers of a row, no number there -/
theorem m_nm0 {p a : Nat} {hi : Int} {px : Nat} (hA : RAt h c m p) (hk : tK c m p ≠ 2) : Zx 155 8 [zR 202, zI (a : Int), zI hi, zI (px : Int)] [] (Z0 n) h = some (some (zI 0), Z0 n, zu h 202 14 ((tA c m p : Nat) : Int)) := by
  rw [b155_8, hA.1, if_pos (fun z => hk ((rK3 tK_in).mp z)), b155_20, b155_23 (m_tk0 hA hk) (fun z => absurd zw0 z) (fun z => absurd zw0 z), if_neg (fun z => z zw0)]
/-- FringeBenchModel.numbers -/
theorem m_nums {l hi : Int} {o a f p : Nat} (hl : (l = 1 ∧ hi = 99 ∧ o = 2) ∨ (l = 2 ∧ hi = 399 ∧ o = 1)) (hm : m ≤ 600) (hc : ∀ k, -128 ≤ c k ∧ c k ≤ 127) (ha : a ≤ 128) (hf : m + 1 ≤ p + f) (hop : o ≤ p + 1) (hp : p ≤ m) (hT : RTp h c m) (hA : RAt h c m p) (hR : RDr h 0 d) (hw : wfQ d p) (hx : rF d = 0 → (a : Int) = if l = 1 then 3 + 25 * rS d else 128) : ∃ h' r, Zx 155 0 [zR 202, zI (a : Int), zI hi, zN] [] (Z0 n) h = some (some (zI r), Z0 n, h') ∧ MEn h' 0 r c m (rdL c m l f (o - 1) p d) ∧ frS h' h ∧ (r = 0 ∨ r = 1) := by
  obtain ⟨e1, e2, e3, e4, e5, e6⟩ := few_e
  obtain ⟨k1, k2, k3, k4, k5, k6⟩ := most_e
  obtain ⟨t1, t2, t3, t4, t5⟩ := tB_in (c := c) hp
  have fw : fewN 0 l = (o : Int) + 1 := by rcases hl with z | z <;> rw [z.1] <;> omega
  have ml : mostN 0 l = 600 := by rcases hl with z | z <;> rw [z.1] <;> assumption
  have o12 : o = 1 ∨ o = 2 := by omega
  by_cases hk : tK c m p = 2
  case neg =>
    obtain ⟨g, g1, g2, g3⟩ := m_px0 (n := n) hA hk
    refine ⟨g, 0, ?_, MEn.r hf hp hk (by omega) g2, g3, Or.inl rfl⟩
    rw [b155_0, b155_1 g1, if_neg (fun z => z zw0)]
  have t6 := t4 (by rw [hk]; decide)
  have v := tN_in (c := c) hp hk
  obtain ⟨u, u1, u2, u3, u4, uf⟩ := m_pxn (n := n) (d := d) hm hc hp hT hA hk hR hw
  have ep : tkP l (o - 1) (tN c m p) ((tA c m p : Nat) : Int) d = pxF (tN c m p) ((tA c m p : Nat) : Int) d := by
    unfold tkP pxF
    rcases hl with ⟨l1, l2, l3⟩ | ⟨l1, l2, l3⟩ <;> rw [l1, l3] <;> rfl
  have st : Zx 155 0 [zR 202, zI (a : Int), zI hi, zN] [] (Z0 n) h = Zx 155 8 [zR 202, zI (a : Int), zI hi, zI (((tN c m p).toNat : Nat) : Int)] [] (Z0 n) u := by
    rw [b155_0, b155_1 u1, if_pos (show ¬ zw 1 = 0 by decide), u3, show (((tN c m p).toNat : Nat) : Int) = tN c m p by omega]
  obtain ⟨f', rfl⟩ : ∃ f', f = f' + 1 := ⟨f - 1, by omega⟩
  rw [rdL_n hk (by omega), ep, show o - 1 + 1 = o by omega]
  by_cases q : tK c m (tB c m p) = 2
  case neg =>
    refine ⟨_, 0, st.trans (m_nm0 u2 q), MEn.r (by omega) t3 q (by omega) zu_eq, uf.z (Or.inr ⟨rfl, by omega⟩), Or.inl rfl⟩
  have wq : wfQ (pxF (tN c m p) ((tA c m p : Nat) : Int) d) (tB c m p) := by
    rw [← ep]
    exact hw.tk t1 t6
  obtain ⟨w, r, w1, w2, w3, w4⟩ := m_nmL (n := n) (l := l) (hi := hi) (o := o) (a := a) hl hm hc ha f' o (tB c m p) (tN c m p).toNat (pxF (tN c m p) ((tA c m p : Nat) : Int) d) u (by omega) (Nat.le_refl _) (by omega) t3 (hT.S uf) u2 q u4 wq (by omega) (fun z => by
    have f0 : rF d = 0 := by
      by_cases y : rF d = 0
      · exact y
      · have e : pxF (tN c m p) ((tA c m p : Nat) : Int) d = d := if_neg y
        rw [e] at z
        exact absurd z y
    have e : pxF (tN c m p) ((tA c m p : Nat) : Int) d = rpx d (tN c m p) ((tA c m p : Nat) : Int) := if_pos f0
    have hx' := hx f0
    rw [e] at z ⊢
    unfold rpx at z ⊢
    by_cases y : 0 ≤ tN c m p ∧ tN c m p ≤ 24
    · rw [if_pos y]
      exact ⟨by show (((tN c m p).toNat : Nat) : Int) = tN c m p + ((o : Int) - (o : Int)); omega, hx'⟩
    · rw [if_neg y] at z
      exact absurd z (by show ¬ (2 : Int) = 0; omega))
  exact ⟨w, r, st.trans w1, w2, w3.tr uf, w4⟩
/-- step -/
theorem m_lst {f p : Nat} (hm : m ≤ 600) (hc : ∀ k, -128 ≤ c k ∧ c k ≤ 127) (hf : m + 1 ≤ p + f) (hp : p ≤ m) (hT : RTp h c m) (hA : RAt h c m p) (hR : RDr h 0 d) (hw : wfQ d p) : ∃ h' r, Zx 156 66 [zR 202, zN, zN] [zI 3, zI 0, zR 202] (Z0 n) h = some (some (zI r), Z0 n, h') ∧ MEn h' 0 r c m (rdL c m 1 f 0 p d) ∧ frS h' h ∧ (r = 0 ∨ r = 1) := by
  obtain ⟨e1, e2, e3, e4, e5, e6⟩ := few_e
  obtain ⟨k1, k2, k3, k4, k5, k6⟩ := most_e
  obtain ⟨t1, t2, t3, t4, t5⟩ := tB_in (c := c) hp
  by_cases hk : tK c m p = 2
  case neg =>
    refine ⟨_, 0, ?_, MEn.r (g := zu h 202 14 ((tA c m p : Nat) : Int)) hf hp hk (by omega) zu_eq, frS.rf.z (Or.inr ⟨rfl, by omega⟩), Or.inl rfl⟩
    rw [b156_66 (m_tk0 hA hk), if_neg (fun z => z zw0)]
  have t6 := t4 (by rw [hk]; decide)
  have v := tN_in (c := c) hp hk
  have w7 := hw.2.2
  obtain ⟨u, u1, u2, u3, u4, u5, u6, uf⟩ := m_tak (n := n) (d := d) (lo := 0) (hi := 3) hm hc hp hT hA hk hR hw.2.1 (fun z => by have := w7 z; omega) ⟨by omega, by omega⟩ ⟨by omega, by omega⟩
  have uR : RDr u 0 (tkP 1 0 (tN c m p) ((tA c m p : Nat) : Int) d) := by
    unfold rgF at u4
    by_cases f0 : rF d = 0
    · rw [tkP_z f0]
      show RDr u 0 (rst 0 (tN c m p) ((tA c m p : Nat) : Int) d)
      unfold rst
      rw [if_pos rfl]
      by_cases q : 0 ≤ tN c m p ∧ tN c m p ≤ 3
      · rw [if_pos q] at u4 ⊢
        exact u4
      · rw [if_neg q] at u4 ⊢
        rw [mkF_z f0] at u4
        exact u4
    · have e : (if 0 ≤ tN c m p ∧ tN c m p ≤ 3 then d else mkF d 2 ((tA c m p : Nat) : Int)) = d := by
        rw [mkF_n f0]
        split <;> rfl
      rw [e] at u4
      rw [tkP_n f0]
      exact u4
  obtain ⟨s, hs, hs2⟩ : ∃ s : Nat, (s : Int) = (if 4 ≤ tN c m p then 0 else tN c m p) ∧ s ≤ 3 := by
    by_cases q : 4 ≤ tN c m p
    · exact ⟨0, by rw [if_pos q]; rfl, by omega⟩
    · exact ⟨(tN c m p).toNat, by rw [if_neg q]; omega, by omega⟩
  have st : Zx 156 66 [zR 202, zN, zN] [zI 3, zI 0, zR 202] (Z0 n) h = Zx 156 84 [zN, zN, zN] [zI 99, zI ((3 + 25 * s : Nat) : Int), zR 202] (Z0 n) u := by
    have b81 : ∀ x : Int, x = (s : Int) → Zx 156 81 [zN, zN, zN] [zI x, zI 25, zI 3, zR 202] (Z0 n) u = Zx 156 84 [zN, zN, zN] [zI 99, zI ((3 + 25 * s : Nat) : Int), zR 202] (Z0 n) u := fun x e => by
      rw [b156_81, show (3 : Int) + 25 * x = ((3 + 25 * s : Nat) : Int) by omega]
    rw [b156_66 u1, if_pos (show ¬ zw 1 = 0 by decide), u3, zw_id (z := tN c m p) (by omega) (by omega)]
    by_cases q : 4 ≤ tN c m p
    · rw [if_pos q] at hs
      rw [if_pos q, b81 0 hs.symm]
    · rw [if_neg q] at hs
      rw [if_neg q, b81 _ hs.symm]
  obtain ⟨f', rfl⟩ : ∃ f', f = f' + 1 := ⟨f - 1, by omega⟩
  rw [rdL_n hk (by omega)]
  obtain ⟨w, r, w1, w2, w3, w4⟩ := m_nums (n := n) (l := 1) (hi := 99) (o := 2) (a := 3 + 25 * s) (f := f') (p := tB c m p) (d := tkP 1 0 (tN c m p) ((tA c m p : Nat) : Int) d) (Or.inl ⟨rfl, rfl, rfl⟩) hm hc (by omega) (by omega) (by omega) t3 (hT.S uf) u2 uR (hw.tk t1 t6) (fun z => by
    rw [if_pos rfl]
    have f0 : rF d = 0 := by
      by_cases y : rF d = 0
      · exact y
      · rw [tkP_n y] at z
        exact absurd z y
    rw [tkP_z f0] at z ⊢
    have z' : rF (rst 0 (tN c m p) ((tA c m p : Nat) : Int) d) = 0 := z
    show ((3 + 25 * s : Nat) : Int) = 3 + 25 * rS (rst 0 (tN c m p) ((tA c m p : Nat) : Int) d)
    unfold rst at z' ⊢
    rw [if_pos rfl] at z' ⊢
    by_cases y : 0 ≤ tN c m p ∧ tN c m p ≤ 3
    · rw [if_pos y]
      rw [if_neg (by omega)] at hs
      show ((3 + 25 * s : Nat) : Int) = 3 + 25 * tN c m p
      omega
    · rw [if_neg y] at z'
      exact absurd z' (by show ¬ (2 : Int) = 0; omega))
  exact ⟨w, r, by rw [st, b156_84 w1 w4], w2, w3.tr uf, w4⟩
/-- phase -/
theorem m_lph {f p : Nat} (hm : m ≤ 600) (hc : ∀ k, -128 ≤ c k ∧ c k ≤ 127) (hf : m + 1 ≤ p + f) (hp : p ≤ m) (hT : RTp h c m) (hA : RAt h c m p) (hR : RDr h 0 d) (hw : wfQ d p) : ∃ h' r, Zx 156 93 [zN, zN, zN] [zI 399, zI 128, zR 202] (Z0 n) h = some (some (zI r), Z0 n, h') ∧ MEn h' 0 r c m (rdL c m 2 f 0 p d) ∧ frS h' h ∧ (r = 0 ∨ r = 1) := by
  obtain ⟨w, r, w1, w2, w3, w4⟩ := m_nums (n := n) (l := 2) (hi := 399) (o := 1) (a := 128) (f := f) (p := p) (d := d) (Or.inr ⟨rfl, rfl, rfl⟩) hm hc (by omega) hf (by omega) hp hT hA hR hw (fun z => rfl)
  exact ⟨w, r, b156_93 w1 w4, w2, w3, w4⟩
/-- least -/
theorem m_lle {f p : Nat} (hm : m ≤ 600) (hc : ∀ k, -128 ≤ c k ∧ c k ≤ 127) (hf : m + 1 ≤ p + f) (hp : p ≤ m) (hT : RTp h c m) (hA : RAt h c m p) (hR : RDr h 0 d) (hw : wfQ d p) : ∃ h' r, Zx 156 57 [zN, zN, zN] [zI 198, zI 1, zI 2, zR 202] (Z0 n) h = some (some (zI r), Z0 n, h') ∧ MEn h' 0 r c m (rdL c m 5 f 0 p d) ∧ frS h' h ∧ (r = 0 ∨ r = 1) := by
  obtain ⟨e1, e2, e3, e4, e5, e6⟩ := few_e
  obtain ⟨k1, k2, k3, k4, k5, k6⟩ := most_e
  obtain ⟨t1, t2, t3, t4, t5⟩ := tB_in (c := c) hp
  by_cases hk : tK c m p = 2
  case neg =>
    obtain ⟨g, g1, g2, g3⟩ := m_in0 (n := n) (a := 2) (lo := 1) (hi := 198) (by omega) hA hk
    exact ⟨g, 0, b156_57 g1 (Or.inl rfl), MEn.r hf hp hk (by omega) g2, g3, Or.inl rfl⟩
  have t6 := t4 (by rw [hk]; decide)
  have v := tN_in (c := c) hp hk
  obtain ⟨u, u1, u2, u4, u6, uf⟩ := m_int (n := n) (d := d) (a := 2) (lo := 1) (hi := 198) (by omega) hm hc hp hT hA hk hR hw ⟨by omega, by omega⟩ ⟨by omega, by omega⟩
  have uR : RDr (zu u 210 2 (tN c m p)) 0 (tkP 5 0 (tN c m p) ((tA c m p : Nat) : Int) d) := RDr.int (D' := sL (rD d) (tN c m p)) u4 (fun f0 q rp => ⟨rp.sL, by rw [tkP_z f0]; exact if_pos q⟩) (fun f0 q => by rw [tkP_z f0]; exact if_neg q) (fun f0 => tkP_n f0)
  obtain ⟨f', rfl⟩ : ∃ f', f = f' + 1 := ⟨f - 1, by omega⟩
  rw [rdL_n hk (by omega)]
  exact ⟨_, 1, b156_57 u1 (Or.inr rfl), MEn.e (by omega) t3 (u2.cg (fun k z => by rw [zu_off (by omega)])) uR (fun z => by omega) (by omega), uf.z (Or.inl rfl), Or.inr rfl⟩
/-- size -/
theorem m_lsz {f p : Nat} (hm : m ≤ 600) (hc : ∀ k, -128 ≤ c k ∧ c k ≤ 127) (hf : m + 1 ≤ p + f) (hp : p ≤ m) (hT : RTp h c m) (hA : RAt h c m p) (hR : RDr h 0 d) (hw : wfQ d p) : ∃ h' r, Zx 156 37 [zR 202, zN, zN] [zI 5, zI 2, zI 0, zR 202] (Z0 n) h = some (some (zI r), Z0 n, h') ∧ MEn h' 0 r c m (rdL c m 0 f 0 p d) ∧ frS h' h ∧ (r = 0 ∨ r = 1) := by
  obtain ⟨e1, e2, e3, e4, e5, e6⟩ := few_e
  obtain ⟨k1, k2, k3, k4, k5, k6⟩ := most_e
  obtain ⟨t1, t2, t3, t4, t5⟩ := tB_in (c := c) hp
  obtain ⟨s1, s2, s3, s4, s5⟩ := tB_in (c := c) t3
  by_cases hk : tK c m p = 2
  case neg =>
    obtain ⟨g, g1, g2, g3⟩ := m_in0 (n := n) (a := 0) (lo := 2) (hi := 5) (by omega) hA hk
    refine ⟨g, 0, ?_, MEn.r hf hp hk (by omega) g2, g3, Or.inl rfl⟩
    show Zx 156 37 [zR 202, zN, zN] [zI 5, zI 2, zI ((0 : Nat) : Int), zR 202] (Z0 n) h = _
    rw [b156_37 g1, if_pos zw0, b156_47, b156_48 (Or.inl rfl)]
  have t6 := t4 (by rw [hk]; decide)
  have v := tN_in (c := c) hp hk
  obtain ⟨u, u1, u2, u4, u6, uf⟩ := m_int (n := n) (d := d) (a := 0) (lo := 2) (hi := 5) (by omega) hm hc hp hT hA hk hR hw ⟨by omega, by omega⟩ ⟨by omega, by omega⟩
  have uR : RDr (zu u 210 0 (tN c m p)) 0 (tkP 0 0 (tN c m p) ((tA c m p : Nat) : Int) d) := RDr.int (D' := sW (rD d) (tN c m p).toNat) u4 (fun f0 q rp => ⟨by
    have := rp.sW (v := (tN c m p).toNat)
    rw [show (((tN c m p).toNat : Nat) : Int) = tN c m p by omega] at this
    exact this, by
    rw [tkP_z f0]
    show rsz 0 (tN c m p) ((tA c m p : Nat) : Int) d = _
    unfold rsz
    rw [if_pos q, if_pos rfl]⟩) (fun f0 q => by rw [tkP_z f0]; exact if_neg q) (fun f0 => tkP_n f0)
  have uA : RAt (zu u 210 0 (tN c m p)) c m (tB c m p) := u2.cg (fun k z => by rw [zu_off (by omega)])
  have uS : frS (zu u 210 0 (tN c m p)) h := uf.z (Or.inl rfl)
  have wq := hw.tk (l := 0) (i := 0) (v := tN c m p) t1 t6
  obtain ⟨f', rfl⟩ : ∃ f', f = f' + 1 := ⟨f - 1, by omega⟩
  rw [rdL_n hk (by omega)]
  by_cases hk2 : tK c m (tB c m p) = 2
  case neg =>
    obtain ⟨g, g1, g2, g3⟩ := m_in0 (n := n) (a := 1) (lo := 2) (hi := 5) (by omega) uA hk2
    refine ⟨g, 0, ?_, MEn.r (by omega) t3 hk2 (by omega) g2, g3.tr uS, Or.inl rfl⟩
    have g1' : Zx 153 0 [zR 202, zI 1, zI 2, zI 5, zN] [] (Z0 n) (zu u 210 0 (tN c m p)) = some (some (zI 0), Z0 n, g) := g1
    show Zx 156 37 [zR 202, zN, zN] [zI 5, zI 2, zI ((0 : Nat) : Int), zR 202] (Z0 n) h = _
    rw [b156_37 u1, if_neg (show ¬ zw 1 = 0 by decide), b156_43 g1', if_pos zw0, b156_47, b156_48 (Or.inl rfl)]
  have s6 := s4 (by rw [hk2]; decide)
  have v2 := tN_in (c := c) t3 hk2
  obtain ⟨w, w1, w2, w4, w6, wf⟩ := m_int (n := n) (d := tkP 0 0 (tN c m p) ((tA c m p : Nat) : Int) d) (a := 1) (lo := 2) (hi := 5) (by omega) hm hc t3 (hT.S uS) uA hk2 uR wq ⟨by omega, by omega⟩ ⟨by omega, by omega⟩
  generalize tkP 0 0 (tN c m p) ((tA c m p : Nat) : Int) d = d1 at *
  have wR : RDr (zu w 210 1 (tN c m (tB c m p))) 0 (tkP 0 1 (tN c m (tB c m p)) ((tA c m (tB c m p) : Nat) : Int) d1) := RDr.int (D' := sH (rD d1) (tN c m (tB c m p)).toNat) w4 (fun f0 q rp => ⟨by
    have := rp.sH (v := (tN c m (tB c m p)).toNat)
    rw [show (((tN c m (tB c m p)).toNat : Nat) : Int) = tN c m (tB c m p) by omega] at this
    exact this, by
    rw [tkP_z f0]
    show rsz 1 (tN c m (tB c m p)) ((tA c m (tB c m p) : Nat) : Int) d1 = _
    unfold rsz
    rw [if_pos q, if_neg (by omega)]⟩) (fun f0 q => by rw [tkP_z f0]; exact if_neg q) (fun f0 => tkP_n f0)
  obtain ⟨f'', rfl⟩ : ∃ f'', f' = f'' + 1 := ⟨f' - 1, by omega⟩
  rw [rdL_n hk2 (by omega)]
  refine ⟨zu w 210 1 (tN c m (tB c m p)), 1, ?_, MEn.e (by omega) s3 (w2.cg (fun k z => by rw [zu_off (by omega)])) wR (fun z => by omega) (by omega), (wf.tr uS).z (Or.inl rfl), Or.inr rfl⟩
  have w1' : Zx 153 0 [zR 202, zI 1, zI 2, zI 5, zN] [] (Z0 n) (zu u 210 0 (tN c m p)) = some (some (zI 1), Z0 n, zu w 210 1 (tN c m (tB c m p))) := w1
  show Zx 156 37 [zR 202, zN, zN] [zI 5, zI 2, zI ((0 : Nat) : Int), zR 202] (Z0 n) h = _
  rw [b156_37 u1, if_neg (show ¬ zw 1 = 0 by decide), b156_43 w1', if_neg (show ¬ zw 1 = 0 by decide), b156_48 (Or.inr rfl)]
/-- weight -/
theorem m_lwt {f p : Nat} (hm : m ≤ 600) (hc : ∀ k, -128 ≤ c k ∧ c k ≤ 127) (hf : m + 1 ≤ p + f) (hp : p ≤ m) (hT : RTp h c m) (hA : RAt h c m p) (hR : RDr h 0 d) (hw : wfQ d p) : ∃ h' r, Zx 156 100 [zR 202, zN, zN] [zR 202] (Z0 n) h = some (some (zI r), Z0 n, h') ∧ MEn h' 0 r c m (rdL c m 4 f 0 p d) ∧ frS h' h ∧ (r = 0 ∨ r = 1) := by
  obtain ⟨e1, e2, e3, e4, e5, e6⟩ := few_e
  obtain ⟨k1, k2, k3, k4, k5, k6⟩ := most_e
  obtain ⟨t1, t2, t3, t4, t5⟩ := tB_in (c := c) hp
  obtain ⟨s1, s2, s3, s4, s5⟩ := tB_in (c := c) t3
  by_cases hk : tK c m p = 2
  case neg =>
    obtain ⟨g, g1, g2, g3⟩ := m_px0 (n := n) hA hk
    refine ⟨g, 0, ?_, MEn.r hf hp hk (by omega) g2, g3, Or.inl rfl⟩
    rw [b156_100 g1, if_neg (fun z => z zw0)]
  have t6 := t4 (by rw [hk]; decide)
  have v := tN_in (c := c) hp hk
  obtain ⟨u, u1, u2, u3, u4, uf⟩ := m_pxn (n := n) (d := d) hm hc hp hT hA hk hR hw
  have ep : tkP 4 0 (tN c m p) ((tA c m p : Nat) : Int) d = pxF (tN c m p) ((tA c m p : Nat) : Int) d := rfl
  have wq := hw.tk (l := 4) (i := 0) (v := tN c m p) t1 t6
  rw [ep] at wq
  obtain ⟨s, hs, hs2⟩ : ∃ s : Nat, (s : Int) = (if 25 ≤ tN c m p then 0 else tN c m p) ∧ s ≤ 24 := by
    by_cases q : 25 ≤ tN c m p
    · exact ⟨0, by rw [if_pos q]; rfl, by omega⟩
    · exact ⟨(tN c m p).toNat, by rw [if_neg q]; omega, by omega⟩
  have sp : rF (pxF (tN c m p) ((tA c m p : Nat) : Int) d) = 0 → (s : Int) = rP (pxF (tN c m p) ((tA c m p : Nat) : Int) d) := fun z => by
    have f0 : rF d = 0 := by
      by_cases y : rF d = 0
      · exact y
      · have e : pxF (tN c m p) ((tA c m p : Nat) : Int) d = d := if_neg y
        rw [e] at z
        exact absurd z y
    have e : pxF (tN c m p) ((tA c m p : Nat) : Int) d = rpx d (tN c m p) ((tA c m p : Nat) : Int) := if_pos f0
    rw [e] at z ⊢
    unfold rpx at z ⊢
    by_cases y : 0 ≤ tN c m p ∧ tN c m p ≤ 24
    · rw [if_pos y]
      rw [if_neg (by omega)] at hs
      exact hs
    · rw [if_neg y] at z
      exact absurd z (by show ¬ (2 : Int) = 0; omega)
  have st : Zx 156 100 [zR 202, zN, zN] [zR 202] (Z0 n) h = Zx 156 117 [zN, zN, zN] [zI 9, zI 1, zI ((103 + s : Nat) : Int), zR 202] (Z0 n) u := by
    have b114 : ∀ x : Int, x = (s : Int) → Zx 156 114 [zN, zN, zN] [zI x, zI 103, zR 202] (Z0 n) u = Zx 156 117 [zN, zN, zN] [zI 9, zI 1, zI ((103 + s : Nat) : Int), zR 202] (Z0 n) u := fun x e => by
      rw [b156_114, show (103 : Int) + x = ((103 + s : Nat) : Int) by omega]
    rw [b156_100 u1, if_pos (show ¬ zw 1 = 0 by decide), u3, zw_id (z := tN c m p) (by omega) (by omega)]
    by_cases q : 25 ≤ tN c m p
    · rw [if_pos q] at hs
      rw [if_pos q, b114 0 hs.symm]
    · rw [if_neg q] at hs
      rw [if_neg q, b114 _ hs.symm]
  obtain ⟨f', rfl⟩ : ∃ f', f = f' + 1 := ⟨f - 1, by omega⟩
  rw [rdL_n hk (by omega), ep]
  generalize pxF (tN c m p) ((tA c m p : Nat) : Int) d = d1 at *
  by_cases hk2 : tK c m (tB c m p) = 2
  case neg =>
    obtain ⟨g, g1, g2, g3⟩ := m_in0 (n := n) (a := 103 + s) (lo := 1) (hi := 9) (by omega) u2 hk2
    exact ⟨g, 0, st.trans (b156_117 g1 (Or.inl rfl)), MEn.r (by omega) t3 hk2 (by omega) g2, g3.tr uf, Or.inl rfl⟩
  have s6 := s4 (by rw [hk2]; decide)
  have v2 := tN_in (c := c) t3 hk2
  obtain ⟨w, w1, w2, w4, w6, wf⟩ := m_int (n := n) (d := d1) (a := 103 + s) (lo := 1) (hi := 9) (by omega) hm hc t3 (hT.S uf) u2 hk2 u4 wq ⟨by omega, by omega⟩ ⟨by omega, by omega⟩
  have wR : RDr (zu w 210 (103 + s) (tN c m (tB c m p))) 0 (tkP 4 1 (tN c m (tB c m p)) ((tA c m (tB c m p) : Nat) : Int) d1) := RDr.int (D' := sG (rD d1) s (tN c m (tB c m p))) w4 (fun f0 q rp => ⟨rp.sG (by omega), by
    rw [tkP_z f0]
    show rwt 1 (tN c m (tB c m p)) ((tA c m (tB c m p) : Nat) : Int) d1 = _
    unfold rwt
    rw [if_neg (by omega), if_pos q, ← sp f0, Int.toNat_natCast]⟩) (fun f0 q => by
    rw [tkP_z f0]
    show rwt 1 (tN c m (tB c m p)) ((tA c m (tB c m p) : Nat) : Int) d1 = _
    unfold rwt
    rw [if_neg (by omega), if_neg q]) (fun f0 => tkP_n f0)
  obtain ⟨f'', rfl⟩ : ∃ f'', f' = f'' + 1 := ⟨f' - 1, by omega⟩
  rw [rdL_n hk2 (by omega)]
  exact ⟨zu w 210 (103 + s) (tN c m (tB c m p)), 1, st.trans (b156_117 w1 (Or.inr rfl)), MEn.e (by omega) s3 (w2.cg (fun k z => by rw [zu_off (by omega)])) wR (fun z => by omega) (by omega), (wf.tr uf).z (Or.inl rfl), Or.inr rfl⟩
/-- holes -/
theorem m_lho (hm : m ≤ 600) (hc : ∀ k, -128 ≤ c k ∧ c k ≤ 127) : ∀ f i p (d : dR) (h : zH), m + 1 ≤ p + f → i ≤ p → p ≤ m → RTp h c m → RAt h c m p → (tK c m p = 2 ∨ i = 0) → RDr h 0 d → wfQ d p → ∃ h' r, Zx 156 119 [zR 202, zN, zN] [] (Z0 n) h = some (some (zI r), Z0 n, h') ∧ MEn h' 0 r c m (rdL c m 3 f i p d) ∧ frS h' h ∧ (r = 0 ∨ r = 1)
  | 0, i, p, d, h, hf, _, hp, _, _, _, _, _ => absurd hf (by omega)
  | f + 1, i, p, d, h, hf, hip, hp, hT, hA, hki, hR, hw => by
    obtain ⟨e1, e2, e3, e4, e5, e6⟩ := few_e
    obtain ⟨k1, k2, k3, k4, k5, k6⟩ := most_e
    obtain ⟨t1, t2, t3, t4, t5⟩ := tB_in (c := c) hp
    by_cases hk : tK c m p = 2
    case neg =>
      have i0 : i = 0 := by rcases hki with z | z; exact absurd z hk; exact z
      obtain ⟨g, g1, g2, g3⟩ := m_px0 (n := n) hA hk
      refine ⟨g, 0, ?_, MEn.r hf hp hk (by omega) g2, g3, Or.inl rfl⟩
      rw [b156_119, b156_120 g1, if_neg (fun z => z zw0)]
    have t6 := t4 (by rw [hk]; decide)
    have v := tN_in (c := c) hp hk
    obtain ⟨u, u1, u2, u3, u4, uf⟩ := m_pxn (n := n) (d := d) hm hc hp hT hA hk hR hw
    have r19 := u4.2.2.1
    obtain ⟨s, hs, hs2⟩ : ∃ s : Nat, (s : Int) = (if 25 ≤ tN c m p then 0 else tN c m p) ∧ s ≤ 24 := by
      by_cases q : 25 ≤ tN c m p
      · exact ⟨0, by rw [if_pos q]; rfl, by omega⟩
      · exact ⟨(tN c m p).toNat, by rw [if_neg q]; omega, by omega⟩
    have st : Zx 156 119 [zR 202, zN, zN] [] (Z0 n) h = if tK c m (tB c m p) = 2 then Zx 156 119 [zR 202, zN, zN] [] (Z0 n) (zu u 210 (153 + s) 1) else some (some (zI 1), Z0 n, zu u 210 (153 + s) 1) := by
      have b135 : ∀ x : Int, x = (s : Int) → Zx 156 135 [zR 202, zN, zN] [zI x, zI 153, zR 210] (Z0 n) u = if tK c m (tB c m p) = 2 then Zx 156 119 [zR 202, zN, zN] [] (Z0 n) (zu u 210 (153 + s) 1) else some (some (zI 1), Z0 n, zu u 210 (153 + s) 1) := fun x e => by
        rw [b156_135 (n_s0 := 178) (r_s0 := []) rfl (by omega) (by omega) (by omega), show ((153 : Int) + x).toNat = 153 + s by omega, zu_off (x := 210) (y := 202) (by omega), u2.1]
        by_cases q : tK c m (tB c m p) = 2
        · rw [if_pos ((rK3 tK_in).mpr q), if_pos q]
        · rw [if_neg (fun z => q ((rK3 tK_in).mp z)), if_neg q]
      rw [b156_119, b156_120 u1, if_pos (show ¬ zw 1 = 0 by decide), u3, zw_id (z := tN c m p) (by omega) (by omega)]
      by_cases q : 25 ≤ tN c m p
      · rw [if_pos q] at hs
        rw [if_pos q, b135 0 hs.symm]
      · rw [if_neg q] at hs
        rw [if_neg q, b135 _ hs.symm]
    have uR : RDr (zu u 210 (153 + s) 1) 0 (tkP 3 i (tN c m p) ((tA c m p : Nat) : Int) d) := by
      have e : pxF (tN c m p) ((tA c m p : Nat) : Int) d = if rF d = 0 then rpx d (tN c m p) ((tA c m p : Nat) : Int) else d := rfl
      rw [e] at u4
      by_cases f0 : rF d = 0
      · rw [if_pos f0] at u4
        rw [tkP_z f0]
        show RDr _ 0 (rho (tN c m p) ((tA c m p : Nat) : Int) d)
        unfold rpx at u4
        unfold rho
        by_cases q : 0 ≤ tN c m p ∧ tN c m p ≤ 24
        · rw [if_pos q] at u4 ⊢
          rw [if_neg (by omega)] at hs
          obtain ⟨i1, i2, i3⟩ := u4.2.2.2.2 f0
          rw [show (tN c m p).toNat = s by omega]
          exact RDr.ch (d := (rD d, rT d, mxm (rM d) (tN c m p), tN c m p, rS d, rF d, rQ d)) u4 f0 (by rw [zu_off (by omega)]) ((i1 rfl).sO (by omega)) (by rw [zu_off (by omega)]; exact i3) (by
            have i3' : u 202 19 = mxm (rM d) (tN c m p) := i3
            rw [← i3']; exact r19)
        · rw [if_neg q] at u4 ⊢
          exact RDr.fl u4 (by show ¬ (2 : Int) = 0; omega) (by rw [zu_off (by omega)]) (by rw [zu_off (by omega)]) (by rw [zu_off (by omega)]; exact r19) (fun z => absurd z (by decide))
      · rw [if_neg f0] at u4
        rw [tkP_n f0]
        exact RDr.fl u4 f0 (by rw [zu_off (by omega)]) (by rw [zu_off (by omega)]) (by rw [zu_off (by omega)]; exact r19) (fun z => absurd z (by decide))
    have uA : RAt (zu u 210 (153 + s) 1) c m (tB c m p) := u2.cg (fun k z => by rw [zu_off (by omega)])
    have uS : frS (zu u 210 (153 + s) 1) h := uf.z (Or.inl rfl)
    rw [rdL_n hk (by omega)]
    by_cases q : tK c m (tB c m p) = 2
    · rw [if_pos q] at st
      obtain ⟨w, r, w1, w2, w3, w4⟩ := m_lho hm hc f (i + 1) (tB c m p) (tkP 3 i (tN c m p) ((tA c m p : Nat) : Int) d) (zu u 210 (153 + s) 1) (by omega) (by omega) t3 (hT.S uS) uA (Or.inl q) uR (hw.tk t1 t6)
      exact ⟨w, r, st.trans w1, w2, w3.tr uS, w4⟩
    · rw [if_neg q] at st
      exact ⟨_, 1, st, MEn.e (by omega) t3 uA uR (fun z => q z.1) (by omega), uS, Or.inr rfl⟩
end RLP
