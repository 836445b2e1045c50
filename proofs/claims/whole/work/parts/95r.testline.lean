/-! READING: the lines of a test; the class's -/
section LNT
variable {n : Nat} {h : zH} {d : dR} {c : Nat → Int} {m : Nat}
/-- a test's limit l with the number v, its word at q -/
def ttL (l v q : Int) (d : dR) : dR := if rF d = 0 then (if (rT d).1 = 8 then rflt d 3 q else (rD d, ((rT d).1 + 1, fu (rT d).2.1 (rT d).1 l, fu (rT d).2.2 (rT d).1 v), d.2.2)) else d
theorem wfQ.tt {p p' : Nat} (hw : wfQ d p) {l v : Int} {q : Nat} (hl : 0 ≤ l ∧ l ≤ 5) (hv : 0 ≤ v ∧ v ≤ 9999) (hp : p ≤ q) (hq : q < p') : wfQ (ttL l v (q : Int) d) p' := by
  obtain ⟨⟨a1, a2, a3⟩, b, c⟩ := hw
  unfold ttL
  by_cases f0 : rF d = 0
  case neg =>
    rw [if_neg f0]
    exact ⟨⟨a1, a2, a3⟩, b, fun w => by have := c w; omega⟩
  rw [if_pos f0]
  by_cases e : (rT d).1 = 8
  · rw [if_pos e]
    exact ⟨⟨a1, a2, a3⟩, ⟨by show (0 : Int) ≤ 3; omega, by show (3 : Int) ≤ 4; omega⟩, fun _ => by show (0 : Int) ≤ (q : Int) ∧ (q : Int) < (p' : Int); omega⟩
  · rw [if_neg e]
    refine ⟨⟨a1, ⟨by show (rT d).1 + 1 ≤ 8; have := a2.1; omega, fun k hk => ?_⟩, a3⟩, b, fun w => absurd f0 w⟩
    have hk' : k < (rT d).1 + 1 := hk
    show (0 ≤ fu (rT d).2.1 (rT d).1 l k ∧ fu (rT d).2.1 (rT d).1 l k ≤ 5) ∧ 0 ≤ fu (rT d).2.2 (rT d).1 v k ∧ fu (rT d).2.2 (rT d).1 v k ≤ 9999
    by_cases z : k = (rT d).1
    · rw [z, fu_same, fu_same]
      exact ⟨hl, hv⟩
    · rw [fu_ne z, fu_ne z]
      exact a2.2 k (by omega)
/-- a line of a test, behind its word -/
def rdJ (c : Nat → Int) (m : Nat) (l : Int) (q p : Nat) (d : dR) : Bool × Nat × dR := if tK c m p = 2 then (if tK c m (tB c m p) = 3 then (true, tB c m (tB c m p), ttL l (tN c m p) (q : Int) d) else (false, tA c m (tB c m p), d)) else (false, tA c m p, d)
theorem rdJ_ok {l : Int} {q p : Nat} (hl : 0 ≤ l ∧ l ≤ 5) (hp : p ≤ m) (hqp : q < p) (hw : wfQ d q) : (rdJ c m l q p d).2.1 ≤ m ∧ ((rdJ c m l q p d).1 = true → p < (rdJ c m l q p d).2.1 ∧ wfQ (rdJ c m l q p d).2.2 (rdJ c m l q p d).2.1) := by
  obtain ⟨t1, t2, t3, t4, t5⟩ := tB_in (c := c) hp
  obtain ⟨u1, u2, u3, u4, u5⟩ := tB_in (c := c) t3
  unfold rdJ
  by_cases k : tK c m p = 2
  · rw [if_pos k]
    have t6 := t4 (by rw [k]; decide)
    by_cases k2 : tK c m (tB c m p) = 3
    · rw [if_pos k2]
      have u6 := u4 (by rw [k2]; decide)
      refine ⟨u3, fun _ => ?_⟩
      show p < tB c m (tB c m p) ∧ wfQ (ttL l (tN c m p) (q : Int) d) (tB c m (tB c m p))
      exact ⟨by omega, hw.tt hl (tN_in hp k) (Nat.le_refl _) (by omega)⟩
    · rw [if_neg k2]
      exact ⟨by show tA c m (tB c m p) ≤ m; omega, fun z => Bool.noConfusion z⟩
  · rw [if_neg k]
    exact ⟨by show tA c m p ≤ m; omega, fun z => Bool.noConfusion z⟩
/-- Reader.openLimit -/
theorem c_opn {l : Int} {q : Nat} (hC : CDr h d) (hw : wfQ d q) (h3 : h 104 3 = (q : Int)) : ∃ g, Zx 55 0 [zR 104, zI l] [] (Z0 n) h = some (none, Z0 n, g) ∧ frR g h ∧ g 104 4 = h 104 4 ∧ ((∃ d1, CDr g d1 ∧ (1 ≤ rF d1 ∧ rF d1 ≤ 4) ∧ ∀ v, ttL l v (q : Int) d = d1) ∨ (rF d = 0 ∧ (rT d).1 < 8 ∧ g = zu (zu h 112 (rT d).1 l) 111 0 (((rT d).1 : Int) + 1))) := by
  obtain ⟨⟨w1, w2, w3, w4, w5⟩, w6, w7⟩ := hw
  have cr := hC.2.2.1
  have b0 := b55_0 (n := n) (h := h) (l1 := l) (by intros; omega) (fun z => by rw [zw_id (by omega) (by omega)] at z; omega)
  rw [zw_id (z := h 111 0) (by omega) (by omega)] at b0
  have mk := c_mrk (n := n) (h := h) (k := 3) (f := rF d) hC.1 ⟨by omega, by omega⟩
  by_cases f0 : rF d = 0
  · obtain ⟨e1, e2, e3⟩ := hC.2.2.2 f0
    by_cases e : (rT d).1 = 8
    · rw [if_pos f0] at mk
      rw [if_neg (by rw [e2.1, e]; omega), b55_7 mk, b55_24] at b0
      refine ⟨_, b0, (frR.rf.z (Or.inl ⟨rfl, by omega⟩)).z (Or.inl ⟨rfl, by omega⟩), by rw [zu_off (by omega), zu_off (by omega)], Or.inl ⟨rflt d 3 (q : Int), ⟨by rw [zu_off (by omega), zu_eq]; rfl, by rw [zu_eq]; exact h3, by rw [zu_off (by omega), zu_off (by omega)]; exact cr, fun z => absurd z (by show ¬ (3 : Int) = 0; omega)⟩, ⟨by show (1 : Int) ≤ 3; omega, by show (3 : Int) ≤ 4; omega⟩, fun v => ?_⟩⟩
      unfold ttL
      rw [if_pos f0, if_pos e]
    · have e8 := w2.1
      rw [if_pos (by rw [e2.1]; omega), b55_24, e2.1, Int.toNat_natCast, zu_off (x := 112) (y := 111) (by omega), e2.1] at b0
      exact ⟨_, b0, (frR.rf.z (Or.inr (by omega))).z (Or.inr (by omega)), by rw [zu_off (by omega), zu_off (by omega)], Or.inr ⟨f0, by omega, rfl⟩⟩
  · have tt : ∀ v, ttL l v (q : Int) d = d := fun v => if_neg f0
    by_cases e : h 111 0 < 8
    · rw [if_pos e, b55_24, zu_off (x := 112) (y := 111) (by omega)] at b0
      refine ⟨_, b0, (frR.rf.z (Or.inr (by omega))).z (Or.inr (by omega)), by rw [zu_off (by omega), zu_off (by omega)], Or.inl ⟨d, ⟨by rw [zu_off (by omega), zu_off (by omega)]; exact hC.1, by rw [zu_off (by omega), zu_off (by omega)]; exact hC.2.1, by rw [zu_eq]; omega, fun z => absurd z f0⟩, by omega, tt⟩⟩
    · rw [if_neg f0] at mk
      rw [if_neg e, b55_7 mk, b55_24] at b0
      exact ⟨h, b0, frR.rf, rfl, Or.inl ⟨d, hC, by omega, tt⟩⟩
/-- a line of a test, behind its word -/
theorem c_lnT {l : Int} {q p : Nat} (hl : 0 ≤ l ∧ l ≤ 5) (hm : m ≤ 600) (hc : ∀ k, -128 ≤ c k ∧ c k ≤ 127) (hp : p ≤ m) (hqp : q < p) (hT : CTp h c m) (h3 : h 104 3 = (q : Int)) (h4 : h 104 4 = (p : Int)) (hC : CDr h d) (hw : wfQ d q) : ∃ h' r, Zx 42 21 [zR 104, zI 1, zI l, zN] [zI l, zR 104] (Z0 n) h = some (some (zI r), Z0 n, h') ∧ CEn h' r (rdJ c m l q p d) ∧ frR h' h := by
  obtain ⟨t1, t2, t3, t4, t5⟩ := tB_in (c := c) hp
  obtain ⟨u1, u2, u3, u4, u5⟩ := tB_in (c := c) t3
  obtain ⟨a, a1, a2, a3, a4⟩ := c_opn (n := n) (h := h) (d := d) (l := l) (q := q) hC hw h3
  have aT := hT.R a2
  have kz : ∀ p, zw (tK c m p) = tK c m p := fun p => by
    refine zw_id ?_ ?_ <;> · unfold tK; repeat' split
                             all_goals omega
  have m1 : mostN 1 l = 1 := by
    unfold mostN fewN
    rw [if_neg (fun z => absurd z.1 (by decide)), if_pos rfl]
  have f1 : fewN 1 l = 1 := if_pos rfl
  obtain ⟨b, b1, b2, b3, b4, b5, bf⟩ := c_nxt (n := n) (h := a) (c := c) hm hp aT.1 (a3.trans h4) aT.2 hc
  have bR : frR b a := fun x k q => bf x k (by omega)
  have bT := aT.R bR
  have st : Zx 42 21 [zR 104, zI 1, zI l, zN] [zI l, zR 104] (Z0 n) h = if ¬ tK c m p = 2 then Zx 42 45 [zR 104, zI 1, zI l, zI ((0 : Nat) : Int)] [] (Z0 n) b else Zx 42 37 [zR 104, zI 1, zI l, zI ((0 : Nat) : Int)] [zI l, zI 1, zI ((0 : Nat) : Int)] (Z0 n) b := by
    rw [b42_21 a1, b42_22]
    show Zx 42 24 [zR 104, zI 1, zI l, zI ((0 : Nat) : Int)] [] (Z0 n) a = _
    rw [b42_24, aT.1, zw_nat (n := m) (by omega), zw_nat (n := 0) (by omega), if_neg (by omega), b42_29 b1, b2, kz]
  unfold rdJ
  by_cases k : tK c m p = 2
  case neg =>
    obtain ⟨u, r, s1, s2, s3⟩ := c_sem (n := n) (h := b) (c := c) (m := m) (d := d) (l := l) (t := 1) (i := 0) (p := p) hl (Or.inr rfl) (by omega) b2 b3 b4 (fun z => absurd z (by rw [f1]; decide))
    rw [if_neg (fun z => absurd z.2 (by rw [f1]; decide))] at s2
    rw [if_pos k] at st
    rw [if_neg k]
    exact ⟨u, r, st.trans s1, s2, s3.tr (bR.tr a2)⟩
  rw [if_neg (fun z => z k), b42_37 (s_most (Or.inr rfl) hl), m1, if_neg (show ¬ zw 1 ≤ zw ((0 : Nat) : Int) by decide)] at st
  rw [if_pos k]
  have t6 := t4 (by rw [k]; decide)
  -- the number
  have num : ∃ g, Zx 56 0 [zR 104, zI 1, zI l, zI ((0 : Nat) : Int)] [] (Z0 n) b = some (none, Z0 n, g) ∧ frR g b ∧ g 104 4 = b 104 4 ∧ CDr g (ttL l (tN c m p) (q : Int) d) := by
    rcases a4 with ⟨d1, y1, y2, y3⟩ | ⟨y1, y2, y3⟩
    · have bC : CDr b d1 := y1.cg (fun x k q => bf x k (by omega))
      have z0 := b56_0 (n := n) (h := b) (l1 := 1) (l2 := l) (l3 := ((0 : Nat) : Int)) (fun w => by rw [bC.1, zw_id (by omega) (by omega)] at w; omega) (fun w => by rw [bC.1, zw_id (by omega) (by omega)] at w; omega)
      rw [bC.1, zw_id (z := rF d1) (by omega) (by omega), if_neg (by omega)] at z0
      exact ⟨b, z0, frR.rf, rfl, by rw [y3]; exact bC⟩
    · obtain ⟨e1, e2, e3⟩ := hC.2.2.2 y1
      have b111 : b 111 0 = ((rT d).1 : Int) + 1 := by rw [bf _ _ (by omega), y3, zu_eq]
      have b11 : b 104 11 = 0 := by rw [bf _ _ (by omega), y3, zu_off (by omega), zu_off (by omega), hC.1, y1]
      have z0 := b56_0 (n := n) (h := b) (l1 := 1) (l2 := l) (l3 := ((0 : Nat) : Int)) (by intros; omega) (by intros; omega)
      rw [b11, if_pos zw0, if_neg (show ¬ ¬ zw 1 = 1 by decide), b111, zw_id (z := ((rT d).1 : Int) + 1) (by omega) (by omega), if_neg (by omega), if_neg (by omega), b56_28, show (((rT d).1 : Int) + 1 - 1).toNat = (rT d).1 by omega, b5 k] at z0
      have et : ttL l (tN c m p) (q : Int) d = (rD d, ((rT d).1 + 1, fu (rT d).2.1 (rT d).1 l, fu (rT d).2.2 (rT d).1 (tN c m p)), d.2.2) := by
        unfold ttL
        rw [if_pos y1, if_neg (by omega)]
      refine ⟨_, z0, frR.rf.z (Or.inr (by omega)), by rw [zu_off (by omega)], ?_⟩
      rw [et]
      have fa : ∀ x k, ¬ (x = 104 ∧ 2 ≤ k ∧ k ≤ 5) → ¬ (x = 111 ∧ k = 0) → ¬ (x = 112 ∧ k = (rT d).1) → ¬ (x = 113 ∧ k = (rT d).1) → zu b 113 (rT d).1 (tN c m p) x k = h x k := fun x k q1 q2 q3 q4 => by rw [zu_off (by omega), bf x k q1, y3, zu_off (by omega), zu_off (by omega)]
      refine ⟨by rw [fa _ _ (by omega) (by omega) (by omega) (by omega)]; exact hC.1, by rw [fa _ _ (by omega) (by omega) (by omega) (by omega)]; exact hC.2.1, by rw [zu_off (by omega), b111]; omega, fun _ => ⟨e1.far (fun x k q1 q2 => fa x k (by omega) (by omega) (by omega) (by omega)), ⟨by rw [zu_off (by omega), b111]; show ((rT d).1 : Int) + 1 = (((rT d).1 + 1 : Nat) : Int); omega, fun k hk => ?_⟩, e3.cg (fun k => fa _ _ (by omega) (by omega) (by omega) (by omega))⟩⟩
      have hk' : k < (rT d).1 + 1 := hk
      show zu b 113 (rT d).1 (tN c m p) 112 k = fu (rT d).2.1 (rT d).1 l k ∧ zu b 113 (rT d).1 (tN c m p) 113 k = fu (rT d).2.2 (rT d).1 (tN c m p) k
      by_cases z : k = (rT d).1
      · rw [z, zu_eq, fu_same, fu_same, zu_off (by omega), bf _ _ (by omega), y3, zu_off (by omega), zu_eq]
        exact ⟨rfl, rfl⟩
      · rw [fa _ _ (by omega) (by omega) (by omega) (by omega), fa _ _ (by omega) (by omega) (by omega) (by omega), fu_ne z, fu_ne z]
        exact e2.2 k (by omega)
  obtain ⟨g, g1, g2, g3, g4⟩ := num
  have gT := bT.R g2
  obtain ⟨v, v1, v2, v3, v4, v5, vf⟩ := c_nxt (n := n) (h := g) (c := c) hm t3 gT.1 (g3.trans b4) gT.2 hc
  have vR : frR v g := fun x k q => vf x k (by omega)
  have vC : CDr v (ttL l (tN c m p) (q : Int) d) := g4.cg (fun x k q => vf x k (by omega))
  obtain ⟨u, r, s1, s2, s3⟩ := c_sem (n := n) (h := v) (c := c) (m := m) (d := ttL l (tN c m p) (q : Int) d) (l := l) (t := 1) (i := 1) (p := tB c m p) hl (Or.inr rfl) (by omega) v2 v3 v4 (fun _ => vC)
  have s2' : CEn u r (if tK c m (tB c m p) = 3 then (true, tB c m (tB c m p), ttL l (tN c m p) (q : Int) d) else (false, tA c m (tB c m p), d)) := by
    by_cases k2 : tK c m (tB c m p) = 3
    · rw [if_pos ⟨k2, by rw [f1]; decide⟩] at s2
      rw [if_pos k2]
      exact s2
    · rw [if_neg (fun z => k2 z.1)] at s2
      rw [if_neg k2]
      rcases s2 with ⟨x, -⟩ | x
      · exact Bool.noConfusion x
      · exact Or.inr x
  have go : Zx 42 43 [zR 104, zI 1, zI l, zI ((0 : Nat) : Int)] [zI ((0 : Nat) : Int), zI l, zI 1, zR 104] (Z0 n) b = Zx 42 45 [zR 104, zI 1, zI l, zI ((1 : Nat) : Int)] [] (Z0 n) v := by
    rw [b42_43 g1]
    show Zx 42 24 [zR 104, zI 1, zI l, zI ((1 : Nat) : Int)] [] (Z0 n) g = _
    rw [b42_24, gT.1, zw_nat (n := m) (by omega), zw_nat (n := 1) (by omega), if_neg (by omega), b42_29 v1, v2, kz]
    by_cases y : tK c m (tB c m p) = 2
    · rw [if_neg (fun z => z y), b42_37 (s_most (Or.inr rfl) hl), m1, if_pos (show zw 1 ≤ zw ((1 : Nat) : Int) by decide)]
    · rw [if_pos y]
  exact ⟨u, r, st.trans (go.trans s1), s2', s3.tr (vR.tr (g2.tr (bR.tr a2)))⟩
end LNT
