/-! READING: the reference's words; a line -/
section RWD
variable {n : Nat} {h : zH} {d : dR} {c : Nat → Int} {m : Nat} {t : Int}
theorem tB_w {p : Nat} (hk : tK c m p = 1) : tB c m p = rn (ltr c) m (tA c m p) ∧ tA c m p < m := by
  unfold tK at hk
  unfold tB
  generalize tA c m p = a at *
  by_cases q : m ≤ a
  · rw [if_pos q] at hk; exact absurd hk (by omega)
  rw [if_neg q] at hk
  rw [if_neg q]
  by_cases q1 : c a = 59
  · rw [if_pos q1] at hk; exact absurd hk (by omega)
  rw [if_neg q1] at hk
  rw [if_neg q1]
  by_cases q2 : ltr c a = true
  · rw [if_pos q2]
    exact ⟨rfl, by omega⟩
  rw [if_neg q2] at hk
  by_cases q3 : dgt c a = true
  · rw [if_pos q3] at hk
    by_cases y : 4 < rn (dgt c) m a - a
    · rw [if_pos y] at hk; exact absurd hk (by omega)
    · rw [if_neg y] at hk; exact absurd hk (by omega)
  · rw [if_neg q3] at hk; exact absurd hk (by omega)
theorem lw_w {a b off i : Nat} (ho : off = 0 ∨ off = 6) (hi : i < 6) : isW c a b (off + i) ↔ lw c a b off = (i : Int) := by
  have s := lw_s (c := c) (a := a) (b := b) (off := off)
  constructor
  · intro z
    rcases s with ⟨j, x1, x2, x3, x4, x5⟩ | ⟨x1, x2⟩
    · have := isW_u (c := c) (by omega) (by omega) x3 z
      rw [x4]; omega
    · exact absurd z (x2 i (Nat.zero_le _) hi)
  · intro z
    rcases s with ⟨j, x1, x2, x3, x4, x5⟩ | ⟨x1, x2⟩
    · have : i = j := by omega
      rw [this]; exact x3
    · omega
/-- the reference's comparison of a word -/
theorem m_wrd {p off i : Nat} {K : Int} (ho : off = 0 ∨ off = 6) (hi : i < 6) (hp : p ≤ m) (hk : tK c m p = 1) (hK : ((pkw (zsc (off + i)) (zsl (off + i)) : Nat) : Int) = K) : zw (zlcmp (tW c m p) K) = 0 ↔ lw c (tA c m p) (tB c m p) off = (i : Int) := by
  obtain ⟨b1, b2⟩ := tB_w hk
  obtain ⟨r1, r2, r3, r4⟩ := rn_spec (P := ltr c) (m := m) (p := tA c m p) (by omega)
  have w := tW_w (c := c) (a := tA c m p) (b := tB c m p) (w := off + i) (by omega) (by omega) (fun z z1 z2 => of_decide_eq_true (r3 z z1 (by omega)))
  rw [hK, lw_w ho hi] at w
  have e : tW c m p = if tB c m p - tA c m p ≤ 8 then pw c (tA c m p) (tB c m p - tA c m p) else 0 := by
    rw [b1]
    rfl
  rw [e]
  exact w
/-- the word that the reference hands on: of a token that is no word it is 0 -/
def wdO (c : Nat → Int) (m p : Nat) : Int := if tK c m p = 1 then tW c m p else 0
/-- which line, -1 none -/
noncomputable def lnO (c : Nat → Int) (m p off : Nat) : Int := if tK c m p = 1 then lw c (tA c m p) (tB c m p) off else -1
theorem lnO_in {p off : Nat} : lnO c m p off = -1 ∨ (0 ≤ lnO c m p off ∧ lnO c m p off ≤ 5) := by
  unfold lnO
  split
  · exact Lw_in lw_s
  · left; rfl
theorem m_wln {p off i : Nat} {K : Int} (ho : off = 0 ∨ off = 6) (hi : i < 6) (hp : p ≤ m) (hK : ((pkw (zsc (off + i)) (zsl (off + i)) : Nat) : Int) = K) (h0 : ¬ zw (zlcmp 0 K) = 0) : zw (zlcmp (wdO c m p) K) = 0 ↔ lnO c m p off = (i : Int) := by
  unfold wdO lnO
  by_cases k : tK c m p = 1
  · rw [if_pos k, if_pos k]
    exact m_wrd ho hi hp k hK
  · rw [if_neg k, if_neg k]
    exact ⟨fun z => absurd z h0, fun z => by omega⟩
theorem rdG_r {p : Nat} (hr : lnO c m p (oft t) = -1) : rdG c m t p d = (false, tA c m p, d) := by
  unfold rdG
  unfold lnO at hr
  by_cases k : tK c m p = 1
  · rw [if_pos k] at hr
    rw [if_neg (fun z => z.2 hr)]
  · rw [if_neg (fun z => k z.1)]
theorem rdG_l {p : Nat} {r : Int} (hr : lnO c m p (oft t) = r) (h0 : 0 ≤ r) : tK c m p = 1 ∧ rdG c m t p d = if t = 1 then rdJ c m r (tA c m p) (tB c m p) d else rdL c m r (m + 1) 0 (tB c m p) d := by
  unfold lnO at hr
  unfold rdG
  by_cases k : tK c m p = 1
  · rw [if_pos k] at hr
    rw [hr, if_pos ⟨k, by omega⟩]
    exact ⟨k, rfl⟩
  · rw [if_neg k] at hr
    omega
/-- FringeBenchModel.pictureLine -/
theorem m_pln {p : Nat} (hm : m ≤ 600) (hc : ∀ k, -128 ≤ c k ∧ c k ≤ 127) (hp : p ≤ m) (hT : RTp h c m) (hA : RAt h c m p) (hR : RDr h 0 d) (hw : wfQ d p) : ∃ h' r, Zx 156 0 [zR 202, zL (wdO c m p), zN] [] (Z0 n) h = some (some (zI r), Z0 n, h') ∧ MEn h' 0 r c m (rdG c m 0 p d) ∧ frS h' h ∧ (r = 0 ∨ r = 1) := by
  obtain ⟨t1, t2, t3, t4, t5⟩ := tB_in (c := c) hp
  obtain ⟨⟨k0, k1, k2, k3, k4, k5⟩, -⟩ := pkw_w
  have c0 := m_wln (c := c) (m := m) (p := p) (off := 0) (i := 0) (K := 1936292453) (Or.inl rfl) (by omega) hp (by rw [k0]; rfl) (by decide)
  have c1 := m_wln (c := c) (m := m) (p := p) (off := 0) (i := 1) (K := 1937007984) (Or.inl rfl) (by omega) hp (by rw [k1]; rfl) (by decide)
  have c2 := m_wln (c := c) (m := m) (p := p) (off := 0) (i := 2) (K := 482787554149) (Or.inl rfl) (by omega) hp (by rw [k2]; rfl) (by decide)
  have c3 := m_wln (c := c) (m := m) (p := p) (off := 0) (i := 3) (K := 1752132709) (Or.inl rfl) (by omega) hp (by rw [k3]; rfl) (by decide)
  have c4 := m_wln (c := c) (m := m) (p := p) (off := 0) (i := 4) (K := 131277443786868) (Or.inl rfl) (by omega) hp (by rw [k4]; rfl) (by decide)
  have c5 := m_wln (c := c) (m := m) (p := p) (off := 0) (i := 5) (K := 465557353332) (Or.inl rfl) (by omega) hp (by rw [k5]; rfl) (by decide)
  have e := lnO_in (c := c) (m := m) (p := p) (off := 0)
  rcases (by omega : lnO c m p 0 = -1 ∨ lnO c m p 0 = 0 ∨ lnO c m p 0 = 1 ∨ lnO c m p 0 = 2 ∨ lnO c m p 0 = 3 ∨ lnO c m p 0 = 4 ∨ lnO c m p 0 = 5) with e | e | e | e | e | e | e
  · rw [rdG_r (t := 0) e]
    refine ⟨zu h 202 14 (h 202 10), 0, ?_, Or.inr ⟨rfl, rfl, by rw [zu_eq]; exact hA.2.1⟩, frS.rf.z (Or.inr ⟨rfl, by omega⟩), Or.inl rfl⟩
    rw [b156_0, if_neg (fun z => absurd (e.symm.trans (c0.mp z)) (by decide)), if_neg (fun z => absurd (e.symm.trans (c1.mp z)) (by decide)), if_neg (fun z => absurd (e.symm.trans (c2.mp z)) (by decide)), if_neg (fun z => absurd (e.symm.trans (c3.mp z)) (by decide)), if_neg (fun z => absurd (e.symm.trans (c4.mp z)) (by decide)), if_neg (fun z => absurd (e.symm.trans (c5.mp z)) (by decide)), b156_25 m_stp (Or.inl rfl)]
  · obtain ⟨kw, eg⟩ := rdG_l (d := d) (t := 0) e (by omega)
    rw [eg, if_neg (by decide)]
    have t6 := t4 (by rw [kw]; decide)
    obtain ⟨u, u1, u2, u3, u4, u5, u6, uf⟩ := m_tok (n := n) (h := h) (c := c) hm t3 hA.2.2.1 hT.1 hT.2 hc
    have uS : frS u h := fun x k _ z => uf x k (by omega)
    have uR : RDr u 0 d := hR.cg (fun x k z => uf x k (by omega))
    have wq : wfQ d (tB c m p) := ⟨hw.1, hw.2.1, fun z => by have := hw.2.2 z; omega⟩
    obtain ⟨w, q, w1, w2, w3, w4⟩ := m_lsz (n := n) (h := u) (d := d) (f := m + 1) (p := tB c m p) hm hc (by omega) t3 (hT.S uS) ⟨u2, u3, u4, u5, u6⟩ uR wq
    refine ⟨w, q, ?_, w2, w3.tr uS, w4⟩
    rw [b156_0, if_pos (c0.mpr e), b156_27, b156_28 u1, if_neg (fun z => z (c0.mpr e))]
    exact w1
  · obtain ⟨kw, eg⟩ := rdG_l (d := d) (t := 0) e (by omega)
    rw [eg, if_neg (by decide)]
    have t6 := t4 (by rw [kw]; decide)
    obtain ⟨u, u1, u2, u3, u4, u5, u6, uf⟩ := m_tok (n := n) (h := h) (c := c) hm t3 hA.2.2.1 hT.1 hT.2 hc
    have uS : frS u h := fun x k _ z => uf x k (by omega)
    have uR : RDr u 0 d := hR.cg (fun x k z => uf x k (by omega))
    have wq : wfQ d (tB c m p) := ⟨hw.1, hw.2.1, fun z => by have := hw.2.2 z; omega⟩
    obtain ⟨w, q, w1, w2, w3, w4⟩ := m_lst (n := n) (h := u) (d := d) (f := m + 1) (p := tB c m p) hm hc (by omega) t3 (hT.S uS) ⟨u2, u3, u4, u5, u6⟩ uR wq
    refine ⟨w, q, ?_, w2, w3.tr uS, w4⟩
    rw [b156_0, if_neg (fun z => absurd (e.symm.trans (c0.mp z)) (by decide)), if_pos (c1.mpr e), b156_27, b156_28 u1, if_pos (fun z => absurd (e.symm.trans (c0.mp z)) (by decide)), if_pos (fun z => absurd (e.symm.trans (c5.mp z)) (by decide)), if_neg (fun z => z (c1.mpr e))]
    exact w1
  · obtain ⟨kw, eg⟩ := rdG_l (d := d) (t := 0) e (by omega)
    rw [eg, if_neg (by decide)]
    have t6 := t4 (by rw [kw]; decide)
    obtain ⟨u, u1, u2, u3, u4, u5, u6, uf⟩ := m_tok (n := n) (h := h) (c := c) hm t3 hA.2.2.1 hT.1 hT.2 hc
    have uS : frS u h := fun x k _ z => uf x k (by omega)
    have uR : RDr u 0 d := hR.cg (fun x k z => uf x k (by omega))
    have wq : wfQ d (tB c m p) := ⟨hw.1, hw.2.1, fun z => by have := hw.2.2 z; omega⟩
    obtain ⟨w, q, w1, w2, w3, w4⟩ := m_lph (n := n) (h := u) (d := d) (f := m + 1) (p := tB c m p) hm hc (by omega) t3 (hT.S uS) ⟨u2, u3, u4, u5, u6⟩ uR wq
    refine ⟨w, q, ?_, w2, w3.tr uS, w4⟩
    rw [b156_0, if_neg (fun z => absurd (e.symm.trans (c0.mp z)) (by decide)), if_neg (fun z => absurd (e.symm.trans (c1.mp z)) (by decide)), if_pos (c2.mpr e), b156_27, b156_28 u1, if_pos (fun z => absurd (e.symm.trans (c0.mp z)) (by decide)), if_pos (fun z => absurd (e.symm.trans (c5.mp z)) (by decide)), if_pos (fun z => absurd (e.symm.trans (c1.mp z)) (by decide)), if_neg (fun z => z (c2.mpr e))]
    exact w1
  · obtain ⟨kw, eg⟩ := rdG_l (d := d) (t := 0) e (by omega)
    rw [eg, if_neg (by decide)]
    have t6 := t4 (by rw [kw]; decide)
    obtain ⟨u, u1, u2, u3, u4, u5, u6, uf⟩ := m_tok (n := n) (h := h) (c := c) hm t3 hA.2.2.1 hT.1 hT.2 hc
    have uS : frS u h := fun x k _ z => uf x k (by omega)
    have uR : RDr u 0 d := hR.cg (fun x k z => uf x k (by omega))
    have wq : wfQ d (tB c m p) := ⟨hw.1, hw.2.1, fun z => by have := hw.2.2 z; omega⟩
    obtain ⟨w, q, w1, w2, w3, w4⟩ := m_lho (n := n) hm hc (m + 1) 0 (tB c m p) d u (by omega) (Nat.zero_le _) t3 (hT.S uS) ⟨u2, u3, u4, u5, u6⟩ (Or.inr rfl) uR wq
    refine ⟨w, q, ?_, w2, w3.tr uS, w4⟩
    rw [b156_0, if_neg (fun z => absurd (e.symm.trans (c0.mp z)) (by decide)), if_neg (fun z => absurd (e.symm.trans (c1.mp z)) (by decide)), if_neg (fun z => absurd (e.symm.trans (c2.mp z)) (by decide)), if_pos (c3.mpr e), b156_27, b156_28 u1, if_pos (fun z => absurd (e.symm.trans (c0.mp z)) (by decide)), if_pos (fun z => absurd (e.symm.trans (c5.mp z)) (by decide)), if_pos (fun z => absurd (e.symm.trans (c1.mp z)) (by decide)), if_pos (fun z => absurd (e.symm.trans (c2.mp z)) (by decide)), if_pos (fun z => absurd (e.symm.trans (c4.mp z)) (by decide))]
    exact w1
  · obtain ⟨kw, eg⟩ := rdG_l (d := d) (t := 0) e (by omega)
    rw [eg, if_neg (by decide)]
    have t6 := t4 (by rw [kw]; decide)
    obtain ⟨u, u1, u2, u3, u4, u5, u6, uf⟩ := m_tok (n := n) (h := h) (c := c) hm t3 hA.2.2.1 hT.1 hT.2 hc
    have uS : frS u h := fun x k _ z => uf x k (by omega)
    have uR : RDr u 0 d := hR.cg (fun x k z => uf x k (by omega))
    have wq : wfQ d (tB c m p) := ⟨hw.1, hw.2.1, fun z => by have := hw.2.2 z; omega⟩
    obtain ⟨w, q, w1, w2, w3, w4⟩ := m_lwt (n := n) (h := u) (d := d) (f := m + 1) (p := tB c m p) hm hc (by omega) t3 (hT.S uS) ⟨u2, u3, u4, u5, u6⟩ uR wq
    refine ⟨w, q, ?_, w2, w3.tr uS, w4⟩
    rw [b156_0, if_neg (fun z => absurd (e.symm.trans (c0.mp z)) (by decide)), if_neg (fun z => absurd (e.symm.trans (c1.mp z)) (by decide)), if_neg (fun z => absurd (e.symm.trans (c2.mp z)) (by decide)), if_neg (fun z => absurd (e.symm.trans (c3.mp z)) (by decide)), if_pos (c4.mpr e), b156_27, b156_28 u1, if_pos (fun z => absurd (e.symm.trans (c0.mp z)) (by decide)), if_pos (fun z => absurd (e.symm.trans (c5.mp z)) (by decide)), if_pos (fun z => absurd (e.symm.trans (c1.mp z)) (by decide)), if_pos (fun z => absurd (e.symm.trans (c2.mp z)) (by decide)), if_neg (fun z => z (c4.mpr e))]
    exact w1
  · obtain ⟨kw, eg⟩ := rdG_l (d := d) (t := 0) e (by omega)
    rw [eg, if_neg (by decide)]
    have t6 := t4 (by rw [kw]; decide)
    obtain ⟨u, u1, u2, u3, u4, u5, u6, uf⟩ := m_tok (n := n) (h := h) (c := c) hm t3 hA.2.2.1 hT.1 hT.2 hc
    have uS : frS u h := fun x k _ z => uf x k (by omega)
    have uR : RDr u 0 d := hR.cg (fun x k z => uf x k (by omega))
    have wq : wfQ d (tB c m p) := ⟨hw.1, hw.2.1, fun z => by have := hw.2.2 z; omega⟩
    obtain ⟨w, q, w1, w2, w3, w4⟩ := m_lle (n := n) (h := u) (d := d) (f := m + 1) (p := tB c m p) hm hc (by omega) t3 (hT.S uS) ⟨u2, u3, u4, u5, u6⟩ uR wq
    refine ⟨w, q, ?_, w2, w3.tr uS, w4⟩
    rw [b156_0, if_neg (fun z => absurd (e.symm.trans (c0.mp z)) (by decide)), if_neg (fun z => absurd (e.symm.trans (c1.mp z)) (by decide)), if_neg (fun z => absurd (e.symm.trans (c2.mp z)) (by decide)), if_neg (fun z => absurd (e.symm.trans (c3.mp z)) (by decide)), if_neg (fun z => absurd (e.symm.trans (c4.mp z)) (by decide)), if_pos (c5.mpr e), b156_27, b156_28 u1, if_pos (fun z => absurd (e.symm.trans (c0.mp z)) (by decide)), if_neg (fun z => z (c5.mpr e))]
    exact w1
/-- FringeBenchModel.testLine -/
theorem m_tln {p : Nat} (hm : m ≤ 600) (hc : ∀ k, -128 ≤ c k ∧ c k ≤ 127) (hp : p ≤ m) (hT : RTp h c m) (hA : RAt h c m p) (hR : RDr h 1 d) (hw : wfQ d p) : ∃ h' r, Zx 157 0 [zR 202, zL (wdO c m p), zN, zI ((tA c m p : Nat) : Int), zN] [] (Z0 n) h = some (some (zI r), Z0 n, h') ∧ MEn h' 1 r c m (rdG c m 1 p d) ∧ frS h' h ∧ (r = 0 ∨ r = 1) := by
  obtain ⟨t1, t2, t3, t4, t5⟩ := tB_in (c := c) hp
  obtain ⟨s1, s2, s3, s4, s5⟩ := tB_in (c := c) t3
  obtain ⟨-, k0, k1, k2, k3, k4, k5⟩ := pkw_w
  have c0 := m_wln (c := c) (m := m) (p := p) (off := 6) (i := 0) (K := 1668248436) (Or.inr rfl) (by omega) hp (by rw [k0]; rfl) (by decide)
  have c1 := m_wln (c := c) (m := m) (p := p) (off := 6) (i := 1) (K := 1819243380) (Or.inr rfl) (by omega) hp (by rw [k1]; rfl) (by decide)
  have c2 := m_wln (c := c) (m := m) (p := p) (off := 6) (i := 2) (K := 482671228019) (Or.inr rfl) (by omega) hp (by rw [k2]; rfl) (by decide)
  have c3 := m_wln (c := c) (m := m) (p := p) (off := 6) (i := 3) (K := 439956632179) (Or.inr rfl) (by omega) hp (by rw [k3]; rfl) (by decide)
  have c4 := m_wln (c := c) (m := m) (p := p) (off := 6) (i := 4) (K := 1751738216) (Or.inr rfl) (by omega) hp (by rw [k4]; rfl) (by decide)
  have c5 := m_wln (c := c) (m := m) (p := p) (off := 6) (i := 5) (K := 513021013607) (Or.inr rfl) (by omega) hp (by rw [k5]; rfl) (by decide)
  have e := lnO_in (c := c) (m := m) (p := p) (off := 6)
  have st : Zx 157 0 [zR 202, zL (wdO c m p), zN, zI ((tA c m p : Nat) : Int), zN] [] (Z0 n) h = Zx 157 37 [zR 202, zN, zN, zI ((tA c m p : Nat) : Int), zN] [zI (lnO c m p 6)] (Z0 n) h := by
    rcases (by omega : lnO c m p 6 = -1 ∨ lnO c m p 6 = 0 ∨ lnO c m p 6 = 1 ∨ lnO c m p 6 = 2 ∨ lnO c m p 6 = 3 ∨ lnO c m p 6 = 4 ∨ lnO c m p 6 = 5) with e | e | e | e | e | e | e
    · rw [b157_0, if_pos (fun z => absurd (e.symm.trans (c0.mp z)) (by decide)), if_pos (fun z => absurd (e.symm.trans (c1.mp z)) (by decide)), if_pos (fun z => absurd (e.symm.trans (c2.mp z)) (by decide)), if_pos (fun z => absurd (e.symm.trans (c3.mp z)) (by decide)), if_pos (fun z => absurd (e.symm.trans (c4.mp z)) (by decide)), if_pos (fun z => absurd (e.symm.trans (c5.mp z)) (by decide)), e]
    · rw [b157_0, if_neg (fun z => z (c0.mpr e)), e]
      try rfl
    · rw [b157_0, if_pos (fun z => absurd (e.symm.trans (c0.mp z)) (by decide)), if_neg (fun z => z (c1.mpr e)), e]
      try rfl
    · rw [b157_0, if_pos (fun z => absurd (e.symm.trans (c0.mp z)) (by decide)), if_pos (fun z => absurd (e.symm.trans (c1.mp z)) (by decide)), if_neg (fun z => z (c2.mpr e)), e]
      try rfl
    · rw [b157_0, if_pos (fun z => absurd (e.symm.trans (c0.mp z)) (by decide)), if_pos (fun z => absurd (e.symm.trans (c1.mp z)) (by decide)), if_pos (fun z => absurd (e.symm.trans (c2.mp z)) (by decide)), if_neg (fun z => z (c3.mpr e)), e]
      try rfl
    · rw [b157_0, if_pos (fun z => absurd (e.symm.trans (c0.mp z)) (by decide)), if_pos (fun z => absurd (e.symm.trans (c1.mp z)) (by decide)), if_pos (fun z => absurd (e.symm.trans (c2.mp z)) (by decide)), if_pos (fun z => absurd (e.symm.trans (c3.mp z)) (by decide)), if_neg (fun z => z (c4.mpr e)), e]
      try rfl
    · rw [b157_0, if_pos (fun z => absurd (e.symm.trans (c0.mp z)) (by decide)), if_pos (fun z => absurd (e.symm.trans (c1.mp z)) (by decide)), if_pos (fun z => absurd (e.symm.trans (c2.mp z)) (by decide)), if_pos (fun z => absurd (e.symm.trans (c3.mp z)) (by decide)), if_pos (fun z => absurd (e.symm.trans (c4.mp z)) (by decide)), if_neg (fun z => z (c5.mpr e)), e]
      try rfl
  by_cases r1 : lnO c m p 6 = -1
  · rw [rdG_r (t := 1) r1]
    refine ⟨zu h 202 14 (h 202 10), 0, ?_, Or.inr ⟨rfl, rfl, by rw [zu_eq]; exact hA.2.1⟩, frS.rf.z (Or.inr ⟨rfl, by omega⟩), Or.inl rfl⟩
    rw [st, r1, b157_37, if_neg (fun z => z (by decide)), b157_42 m_stp (Or.inl rfl)]
  obtain ⟨kw, eg⟩ := rdG_l (d := d) (t := 1) (r := lnO c m p 6) rfl (by omega)
  rw [eg, if_pos rfl]
  generalize lnO c m p 6 = r at *
  have t6 := t4 (by rw [kw]; decide)
  have w7 := hw.2.2
  have cr := hR.2.2.2.1 rfl
  have r19 := hR.2.2.1
  -- the ninth limit
  have g1 : ∃ (g : zH) (d1 : dR), Zx 157 37 [zR 202, zN, zN, zI ((tA c m p : Nat) : Int), zN] [zI r] (Z0 n) h = Zx 157 54 [zR 202, zN, zN, zN, zI r] [] (Z0 n) g ∧ RDr g 1 d1 ∧ (d1 = if h 210 0 = 8 then mkF d 3 ((tA c m p : Nat) : Int) else d) ∧ ∀ x k, ¬ (x = 202 ∧ (k = 15 ∨ k = 16)) → g x k = h x k := by
    have b0 := b157_37 (n := n) (h := h) (l3 := ((tA c m p : Nat) : Int)) (s0 := r)
    rw [zw_id (z := r) (by omega) (by omega), if_pos r1, zw_id (z := h 210 0) (by omega) (by omega)] at b0
    by_cases q : h 210 0 = 8
    · obtain ⟨g, g1, g2, g3⟩ := m_lat (n := n) (k := 3) (q := ((tA c m p : Nat) : Int)) hR hw.2.1 ⟨by omega, by omega⟩ (fun z => by have := w7 z; omega) ⟨by omega, by omega⟩
      rw [if_neg (fun z => z q), b157_53 g1] at b0
      exact ⟨g, _, b0, g2, by rw [if_pos q], g3⟩
    · rw [if_pos q] at b0
      exact ⟨h, d, b0, hR, by rw [if_neg q], fun _ _ _ => rfl⟩
  obtain ⟨g, d1, g1, g2, g3, gf⟩ := g1
  have gS : frS g h := fun x k z1 z2 => gf x k (by omega)
  have gT := hT.S gS
  have g8 : g 202 8 = ((tB c m p : Nat) : Int) := by rw [gf _ _ (by omega)]; exact hA.2.2.1
  obtain ⟨u, u1, u2, u3, u4, u5, u6, uf⟩ := m_tok (n := n) (h := g) (c := c) hm t3 g8 gT.1 gT.2 hc
  have uS : frS u h := fun x k z1 z2 => by rw [uf x k (by omega), gS x k z1 z2]
  have uR : RDr u 1 d1 := g2.cg (fun x k z => uf x k (by omega))
  have uA : RAt u c m (tB c m p) := ⟨u2, u3, u4, u5, u6⟩
  have s2' : Zx 157 0 [zR 202, zL (wdO c m p), zN, zI ((tA c m p : Nat) : Int), zN] [] (Z0 n) h = Zx 157 59 [zR 202, zN, zN, zN, zI r] [zI 9999, zI 0, zR 202] (Z0 n) u := by
    rw [st, g1, b157_54, b157_55 u1]
  unfold rdJ
  by_cases hk : tK c m (tB c m p) = 2
  case neg =>
    rw [if_neg hk]
    refine ⟨zu u 202 14 ((tA c m (tB c m p) : Nat) : Int), 0, ?_, Or.inr ⟨rfl, rfl, zu_eq⟩, uS.z (Or.inr ⟨rfl, by omega⟩), Or.inl rfl⟩
    rw [s2', b157_59 (m_tk0 uA hk) (fun z => absurd zw0 z) (fun z => absurd zw0 z) (fun z => absurd zw0 z) (fun z => absurd zw0 z), if_neg (fun z => z zw0)]
  rw [if_pos hk]
  have v := tN_in (c := c) t3 hk
  have d1f : (0 ≤ rF d1 ∧ rF d1 ≤ 4) ∧ (rF d1 ≠ 0 → 0 ≤ rQ d1 ∧ rQ d1 < ((tB c m p : Nat) : Int)) := by
    rw [g3]
    by_cases q : h 210 0 = 8
    · rw [if_pos q]
      by_cases f0 : rF d = 0
      · rw [mkF_z f0]
        exact ⟨⟨by show (0 : Int) ≤ 3; omega, by show (3 : Int) ≤ 4; omega⟩, fun _ => ⟨by show (0 : Int) ≤ ((tA c m p : Nat) : Int); omega, by show ((tA c m p : Nat) : Int) < ((tB c m p : Nat) : Int); omega⟩⟩
      · rw [mkF_n f0]
        exact ⟨hw.2.1, fun z => by have := w7 z; omega⟩
    · rw [if_neg q]
      exact ⟨hw.2.1, fun z => by have := w7 z; omega⟩
  obtain ⟨w, w1, w2, w3, w4, w5, w6, wf⟩ := m_tak (n := n) (d := d1) (lo := 0) (hi := 9999) hm hc t3 (hT.S uS) uA hk uR d1f.1 (fun z => by have := d1f.2 z; omega) ⟨by omega, by omega⟩ ⟨by omega, by omega⟩
  have er : rgF d1 (tN c m (tB c m p)) 0 9999 ((tA c m (tB c m p) : Nat) : Int) = d1 := if_pos v
  rw [er] at w4
  have w0 : w 210 0 = h 210 0 := by rw [w5, uf _ _ (by omega), gf _ _ (by omega)]
  have wS : frS w h := wf.tr uS
  have z12 : ∀ x : Int, zu w 210 (1 + 2 * (h 210 0)).toNat x 210 0 = h 210 0 := fun x => by rw [zu_off (by omega)]; exact w0
  have st2 : Zx 157 0 [zR 202, zL (wdO c m p), zN, zI ((tA c m p : Nat) : Int), zN] [] (Z0 n) h = some (some (zI 1), Z0 n, if h 210 0 = 8 then w else zu (zu (zu w 210 (1 + 2 * (h 210 0)).toNat r) 210 (2 + 2 * (h 210 0)).toNat (tN c m (tB c m p))) 210 0 (h 210 0 + 1)) := by
    have b0 := b157_59 (n := n) (l4 := r) w1 (by rw [w0, zw_id (z := h 210 0) (by omega) (by omega)]; intros; omega) (by rw [w0, zw_id (z := h 210 0) (by omega) (by omega)]; intros; omega) (by rw [w0, zw_id (z := h 210 0) (by omega) (by omega), z12]; intros; omega) (by rw [w0, zw_id (z := h 210 0) (by omega) (by omega), z12]; intros; omega)
    rw [if_pos (show ¬ zw 1 = 0 by decide), w0, zw_id (z := h 210 0) (by omega) (by omega), z12, zu_off (x := 210) (y := 202) (by omega), w3, zu_off (x := 210) (y := 210) (k := (2 + 2 * (h 210 0)).toNat) (i := 0) (by omega), z12, b157_102, b157_102] at b0
    rw [s2', b0]
    by_cases q : h 210 0 = 8
    · rw [if_pos (by omega), if_pos q]
    · rw [if_neg (by omega), if_neg q]
  have nA : ∀ (x y z : Int) (i j k : Nat), RAt (zu (zu (zu w 210 i x) 210 j y) 210 k z) c m (tB c m (tB c m p)) := fun x y z i j k => w2.cg (fun k z => by rw [zu_off (by omega), zu_off (by omega), zu_off (by omega)])
  have key : RAt (if h 210 0 = 8 then w else zu (zu (zu w 210 (1 + 2 * (h 210 0)).toNat r) 210 (2 + 2 * (h 210 0)).toNat (tN c m (tB c m p))) 210 0 (h 210 0 + 1)) c m (tB c m (tB c m p)) ∧ RDr (if h 210 0 = 8 then w else zu (zu (zu w 210 (1 + 2 * (h 210 0)).toNat r) 210 (2 + 2 * (h 210 0)).toNat (tN c m (tB c m p))) 210 0 (h 210 0 + 1)) 1 (ttL r (tN c m (tB c m p)) ((tA c m p : Nat) : Int) d) ∧ frS (if h 210 0 = 8 then w else zu (zu (zu w 210 (1 + 2 * (h 210 0)).toNat r) 210 (2 + 2 * (h 210 0)).toNat (tN c m (tB c m p))) 210 0 (h 210 0 + 1)) h := by
    by_cases q : h 210 0 = 8
    · rw [if_pos q]
      refine ⟨w2, ?_, wS⟩
      rw [if_pos q] at g3
      have : ttL r (tN c m (tB c m p)) ((tA c m p : Nat) : Int) d = d1 := by
        rw [g3]
        unfold ttL
        by_cases f0 : rF d = 0
        · have ct := ((hR.2.2.2.2 f0).2.1 rfl).1
          rw [if_pos f0, if_pos (by omega), mkF_z f0]
        · rw [if_neg f0, mkF_n f0]
      rw [this]
      exact w4
    · rw [if_neg q]
      rw [if_neg q] at g3
      rw [g3] at w4
      refine ⟨nA _ _ _ _ _ _, ?_, ((wS.z (Or.inl rfl)).z (Or.inl rfl)).z (Or.inl rfl)⟩
      have q15 : ∀ k, zu (zu (zu w 210 (1 + 2 * (h 210 0)).toNat r) 210 (2 + 2 * (h 210 0)).toNat (tN c m (tB c m p))) 210 0 (h 210 0 + 1) 202 k = w 202 k := fun k => by rw [zu_off (by omega), zu_off (by omega), zu_off (by omega)]
      unfold ttL
      by_cases f0 : rF d = 0
      · obtain ⟨i1, i2, i3⟩ := w4.2.2.2.2 f0
        obtain ⟨j1, j2⟩ := i2 rfl
        rw [w0] at j1
        rw [if_pos f0, if_neg (by omega)]
        refine ⟨(q15 _).trans w4.1, fun z => absurd f0 z, by rw [q15, w6, uf _ _ (by omega), gf _ _ (by omega)]; exact r19, fun _ => by rw [zu_eq]; omega, fun _ => ⟨fun z => absurd z (by decide), fun _ => ⟨by rw [zu_eq, j1]; show ((rT d).1 : Int) + 1 = (((rT d).1 + 1 : Nat) : Int); omega, fun k hk => ?_⟩, (q15 _).trans i3⟩⟩
        have hk' : k < (rT d).1 + 1 := hk
        show zu (zu (zu w 210 (1 + 2 * (h 210 0)).toNat r) 210 (2 + 2 * (h 210 0)).toNat (tN c m (tB c m p))) 210 0 (h 210 0 + 1) 210 (1 + 2 * k) = fu (rT d).2.1 (rT d).1 r k ∧ zu (zu (zu w 210 (1 + 2 * (h 210 0)).toNat r) 210 (2 + 2 * (h 210 0)).toNat (tN c m (tB c m p))) 210 0 (h 210 0 + 1) 210 (2 + 2 * k) = fu (rT d).2.2 (rT d).1 (tN c m (tB c m p)) k
        rw [j1]
        by_cases y : k = (rT d).1
        · rw [y, fu_same, fu_same, zu_off (by omega), zu_off (by omega), zu_off (i := 2 + 2 * (rT d).1) (k := 0) (by omega), show (1 + 2 * ((rT d).1 : Int)).toNat = 1 + 2 * (rT d).1 by omega, show (2 + 2 * ((rT d).1 : Int)).toNat = 2 + 2 * (rT d).1 by omega, zu_eq, zu_eq]
          exact ⟨rfl, rfl⟩
        · rw [fu_ne y, fu_ne y, zu_off (by omega), zu_off (by omega), zu_off (by omega), zu_off (by omega), zu_off (by omega), zu_off (by omega)]
          exact j2 k (by omega)
      · rw [if_neg f0]
        exact RDr.fl w4 f0 (q15 _) (q15 _) (by rw [q15, w6, uf _ _ (by omega), gf _ _ (by omega)]; exact r19) (fun _ => by rw [zu_eq]; omega)
  obtain ⟨x1, x2, x3⟩ := key
  refine ⟨_, 1, st2, Or.inl ⟨rfl, tB c m (tB c m p), ttL r (tN c m (tB c m p)) ((tA c m p : Nat) : Int) d, s3, x1, x2, ?_⟩, x3, Or.inr rfl⟩
  by_cases y : tK c m (tB c m p) = 3
  · exact absurd (hk.symm.trans y) (by decide)
  by_cases y3 : tK c m (tB c m (tB c m p)) = 3
  · rw [if_pos y3]
    exact Or.inl ⟨y3, rfl⟩
  · rw [if_neg y3]
    exact Or.inr ⟨y3, rfl, rfl⟩
end RWD
