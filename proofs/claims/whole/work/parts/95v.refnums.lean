/-! READING: the reference's rows of numbers -/
section RNM
variable {n : Nat} {h : zH} {d : dR} {c : Nat → Int} {m : Nat} {t : Int}
/-- how the reference leaves a line: behind its numbers, or refused -/
def MEn (g : zH) (t r : Int) (c : Nat → Int) (m : Nat) (R : Bool × Nat × dR) : Prop := (r = 1 ∧ ∃ p d', p ≤ m ∧ RAt g c m p ∧ RDr g t d' ∧ ((tK c m p = 3 ∧ R = (true, tB c m p, d')) ∨ (tK c m p ≠ 3 ∧ R.1 = false ∧ R.2.1 = tA c m p))) ∨ (r = 0 ∧ R.1 = false ∧ g 202 14 = (R.2.1 : Int))
theorem rdL_n {l : Int} {f i p : Nat} (hk : tK c m p = 2) (hi : (i : Int) < mostN 0 l) : rdL c m l (f + 1) i p d = rdL c m l f (i + 1) (tB c m p) (tkP l i (tN c m p) ((tA c m p : Nat) : Int) d) := if_pos ⟨hk, hi⟩
theorem rdL_e {l : Int} {f i p : Nat} (hk : ¬ (tK c m p = 2 ∧ (i : Int) < mostN 0 l)) : rdL c m l (f + 1) i p d = if tK c m p = 3 ∧ fewN 0 l ≤ (i : Int) then (true, tB c m p, d) else (false, tA c m p, d) := if_neg hk
theorem rdL_r {l : Int} {f i p : Nat} (hf : m + 1 ≤ p + f) (hp : p ≤ m) (hk : tK c m p ≠ 2) (hi : (i : Int) < fewN 0 l) : rdL c m l f i p d = (false, tA c m p, d) := by
  obtain ⟨f', rfl⟩ : ∃ f', f = f' + 1 := ⟨f - 1, by omega⟩
  rw [rdL_e (fun z => hk z.1), if_neg (fun z => by omega)]
/-- where a line may end -/
theorem MEn.e {g : zH} {l : Int} {f i p : Nat} (hf : m + 1 ≤ p + f) (hp : p ≤ m) (hA : RAt g c m p) (hR : RDr g 0 d) (hk : ¬ (tK c m p = 2 ∧ (i : Int) < mostN 0 l)) (hi : fewN 0 l ≤ (i : Int)) : MEn g 0 1 c m (rdL c m l f i p d) := by
  obtain ⟨f', rfl⟩ : ∃ f', f = f' + 1 := ⟨f - 1, by omega⟩
  rw [rdL_e hk]
  refine Or.inl ⟨rfl, p, d, hp, hA, hR, ?_⟩
  by_cases z : tK c m p = 3
  · rw [if_pos ⟨z, hi⟩]
    exact Or.inl ⟨z, rfl⟩
  · rw [if_neg (fun y => z y.1)]
    exact Or.inr ⟨z, rfl, rfl⟩
theorem mkF_n {k q : Int} (hf : rF d ≠ 0) : mkF d k q = d := if_neg hf
theorem mkF_z {k q : Int} (hf : rF d = 0) : mkF d k q = rflt d k q := if_pos hf
/-- one number of a row -/
theorem m_nm1 {l hi : Int} {o i p a px : Nat} (hl : (l = 1 ∧ hi = 99 ∧ o = 2) ∨ (l = 2 ∧ hi = 399 ∧ o = 1)) (hm : m ≤ 600) (hc : ∀ k, -128 ≤ c k ∧ c k ≤ 127) (hoi : o ≤ i) (hip : i ≤ p) (hp : p ≤ m) (hT : RTp h c m) (hA : RAt h c m p) (hk : tK c m p = 2) (hR : RDr h 0 d) (hw : wfQ d p) (ha : a ≤ 128) (hpx : px ≤ 9999 + i) (hx : rF d = 0 → (px : Int) = rP d + ((i : Int) - (o : Int)) ∧ (a : Int) = if l = 1 then 3 + 25 * rS d else 128) : ∃ h', Zx 155 8 [zR 202, zI (a : Int), zI hi, zI (px : Int)] [] (Z0 n) h = (if tK c m (tB c m p) = 2 then Zx 155 8 [zR 202, zI (a : Int), zI hi, zI ((px + 1 : Nat) : Int)] [] (Z0 n) h' else some (some (zI 1), Z0 n, h')) ∧ RAt h' c m (tB c m p) ∧ RDr h' 0 (tkP l i (tN c m p) ((tA c m p : Nat) : Int) d) ∧ frS h' h := by
  obtain ⟨t1, t2, t3, t4, t5⟩ := tB_in (c := c) hp
  have v := tN_in (c := c) hp hk
  obtain ⟨⟨w1, w2, w3, w4, w5⟩, w6, w7⟩ := hw
  -- the mark for a pixel too far
  have s1 : ∃ (g : zH) (d1 : dR), Zx 155 8 [zR 202, zI (a : Int), zI hi, zI (px : Int)] [] (Z0 n) h = Zx 155 20 [zR 202, zI (a : Int), zI hi, zI (px : Int)] [] (Z0 n) g ∧ RDr g 0 d1 ∧ (d1 = if px < 25 then d else mkF d 2 ((tA c m p : Nat) : Int)) ∧ ∀ x k, ¬ (x = 202 ∧ (k = 15 ∨ k = 16)) → g x k = h x k := by
    have b0 := b155_8 (n := n) (h := h) (l1 := (a : Int)) (l2 := hi) (l3 := (px : Int))
    rw [hA.1, if_neg (fun z => z ((rK3 tK_in).mpr hk)), zw_nat (n := px) (by omega)] at b0
    by_cases q : px < 25
    · rw [if_pos (by omega)] at b0
      exact ⟨h, d, b0, hR, by rw [if_pos q], fun _ _ _ => rfl⟩
    · obtain ⟨g, g1, g2, g3⟩ := m_lat (n := n) (k := 2) (q := ((tA c m p : Nat) : Int)) hR w6 ⟨by omega, by omega⟩ (fun z => by have := w7 z; omega) ⟨by omega, by omega⟩
      rw [if_neg (by omega), hA.2.1, b155_19 g1] at b0
      exact ⟨g, _, b0, g2, by rw [if_neg q], g3⟩
  obtain ⟨g, d1, g1, g2, g3, gf⟩ := s1
  have gS : frS g h := fun x k z1 z2 => gf x k (by omega)
  have gA : RAt g c m p := hA.cg (fun k z => gf _ _ (by omega))
  have d1f : (0 ≤ rF d1 ∧ rF d1 ≤ 4) ∧ (rF d1 ≠ 0 → 0 ≤ rQ d1 ∧ (rQ d1 < ((tA c m p : Nat) : Int) ∨ (rQ d1 = ((tA c m p : Nat) : Int) ∧ rF d1 ≤ 2))) := by
    rw [g3]
    by_cases q : px < 25
    · rw [if_pos q]
      exact ⟨w6, fun z => by have := w7 z; omega⟩
    · rw [if_neg q]
      by_cases f0 : rF d = 0
      · rw [mkF_z f0]
        exact ⟨⟨by show (0 : Int) ≤ 2; omega, by show (2 : Int) ≤ 4; omega⟩, fun _ => ⟨by show (0 : Int) ≤ ((tA c m p : Nat) : Int); omega, Or.inr ⟨rfl, by show (2 : Int) ≤ 2; omega⟩⟩⟩
      · rw [mkF_n f0]
        exact ⟨w6, fun z => by have := w7 z; omega⟩
  have hhi : zint hi := by rcases hl with z | z <;> exact ⟨by omega, by omega⟩
  obtain ⟨u, u1, u2, u3, u4, u5, u6, uf⟩ := m_tak (n := n) (d := d1) (lo := 0) (hi := hi) hm hc hp (hT.S gS) gA hk g2 d1f.1 d1f.2 ⟨by omega, by omega⟩ hhi
  have r19 := hR.2.2.1
  have u19 : u 202 19 = h 202 19 := by rw [u6, gf _ _ (by omega)]
  -- the row's cell
  have s2 : ∃ w : zH, Zx 155 20 [zR 202, zI (a : Int), zI hi, zI (px : Int)] [] (Z0 n) g = Zx 155 38 [zR 202, zI (a : Int), zI hi, zI (px : Int)] [] (Z0 n) w ∧ w = if px < 25 then zu u 210 (a + px) (tN c m p) else u := by
    have b0 := b155_23 (n := n) (l1 := (a : Int)) (l2 := hi) (l3 := (px : Int)) u1 (by intros; omega) (by intro _ z; rw [zw_nat (n := px) (by omega)] at z; omega)
    rw [if_pos (show ¬ zw 1 = 0 by decide), zw_nat (n := px) (by omega), u3, show ((a : Int) + (px : Int)).toNat = a + px by omega] at b0
    rw [b155_20]
    by_cases q : px < 25
    · rw [if_neg (by omega)] at b0
      exact ⟨_, b0, by rw [if_pos q]⟩
    · rw [if_pos (by omega)] at b0
      exact ⟨_, b0, by rw [if_neg q]⟩
  obtain ⟨w, y1, y2⟩ := s2
  have wf : ∀ x k, x ≠ 210 → w x k = u x k := fun x k z => by
    rw [y2]
    split
    · rw [zu_off (by omega)]
    · rfl
  have w19 : w 202 19 = h 202 19 := (wf _ _ (by omega)).trans u19
  have mx : -1 ≤ mxm (h 202 19) (px : Int) ∧ mxm (h 202 19) (px : Int) ≤ 20000 := by
    unfold mxm
    split <;> omega
  have st : Zx 155 8 [zR 202, zI (a : Int), zI hi, zI (px : Int)] [] (Z0 n) h = if tK c m (tB c m p) = 2 then Zx 155 8 [zR 202, zI (a : Int), zI hi, zI ((px + 1 : Nat) : Int)] [] (Z0 n) (zu w 202 19 (mxm (h 202 19) (px : Int))) else some (some (zI 1), Z0 n, zu w 202 19 (mxm (h 202 19) (px : Int))) := by
    have b38 : Zx 155 38 [zR 202, zI (a : Int), zI hi, zI (px : Int)] [] (Z0 n) w = Zx 155 47 [zR 202, zI (a : Int), zI hi, zI (px : Int)] [zI (mxm (h 202 19) (px : Int)), zR 202] (Z0 n) w := by
      rw [b155_38, w19, zw_nat (n := px) (by omega), zw_id (z := h 202 19) (by omega) (by omega)]
      unfold mxm
      by_cases q : h 202 19 < (px : Int)
      · rw [if_neg (by omega), if_pos q]
      · rw [if_pos (by omega), if_neg q]
    rw [g1, y1, b38, b155_47, zu_off (x := 202) (y := 202) (k := 19) (i := 11) (by omega), wf 202 11 (by omega), u2.1, show (px : Int) + 1 = ((px + 1 : Nat) : Int) by omega]
    by_cases q : tK c m (tB c m p) = 2
    · rw [if_pos ((rK3 tK_in).mpr q), if_pos q]
    · rw [if_neg (fun z => q ((rK3 tK_in).mp z)), if_neg q]
  have fin : frS (zu w 202 19 (mxm (h 202 19) (px : Int))) h := fun x k z1 z2 => by rw [zu_off (by omega), wf x k z1, uf x k z1 z2, gS x k z1 z2]
  refine ⟨_, st, u2.cg (fun k z => by rw [zu_off (by omega), wf _ _ (by omega)]), ?_, fin⟩
  by_cases f0 : rF d = 0
  case neg =>
    have e1 : d1 = d := by
      rw [g3, mkF_n f0]
      split <;> rfl
    have e2 : rgF d1 (tN c m p) 0 hi ((tA c m p : Nat) : Int) = d := by
      rw [e1]
      unfold rgF
      rw [mkF_n f0]
      split <;> rfl
    have e3 : tkP l i (tN c m p) ((tA c m p : Nat) : Int) d = d := if_neg f0
    rw [e2] at u4
    rw [e3]
    exact RDr.fl u4 f0 (by rw [zu_off (by omega), wf _ _ (by omega)]) (by rw [zu_off (by omega), wf _ _ (by omega)]) (by rw [zu_eq]; exact mx) (fun z => absurd z (by decide))
  obtain ⟨x1, x2⟩ := hx f0
  obtain ⟨i1, i2, i3⟩ := hR.2.2.2.2 f0
  have e0 : tkP l i (tN c m p) ((tA c m p : Nat) : Int) d = rkn l i (tN c m p) ((tA c m p : Nat) : Int) d := if_pos f0
  rw [e0]
  by_cases q : (0 ≤ tN c m p ∧ tN c m p ≤ hi) ∧ px < 25
  · have e1 : d1 = d := by rw [g3, if_pos q.2]
    have e2 : rgF d1 (tN c m p) 0 hi ((tA c m p : Nat) : Int) = d := by
      rw [e1]
      exact if_pos q.1
    rw [e2] at u4
    obtain ⟨j1, j2, j3⟩ := u4.2.2.2.2 f0
    have ex : mxm (h 202 19) (px : Int) = mxm (rM d) (px : Int) := by rw [i3]
    rw [y2, if_pos q.2]
    rcases hl with ⟨l1, l2, l3⟩ | ⟨l1, l2, l3⟩
    · have er : rkn l i (tN c m p) ((tA c m p : Nat) : Int) d = (sS (rD d) (rS d * 25 + (rP d + ((i : Int) - 2))).toNat (tN c m p), rT d, mxm (rM d) (rP d + ((i : Int) - 2)), rP d, rS d, rF d, rQ d) := by
        rw [l1]
        show rst i (tN c m p) ((tA c m p : Nat) : Int) d = _
        unfold rst
        rw [if_neg (by omega), if_neg (by omega), if_pos ⟨by omega, by omega⟩]
      rw [if_pos l1] at x2
      have ei : (px : Int) = rP d + ((i : Int) - 2) := by omega
      rw [er, ← ei]
      have ej : a + px = 3 + (rS d * 25 + (px : Int)).toNat := by omega
      rw [ej]
      exact RDr.ch u4 f0 (by rw [zu_off (by omega), zu_off (by omega)]) (((j1 rfl).sS (by omega)).far (fun k => by rw [zu_off (by omega)])) (by rw [zu_eq]; exact ex) (by rw [← ex]; exact mx)
    · have er : rkn l i (tN c m p) ((tA c m p : Nat) : Int) d = (sP (rD d) (rP d + ((i : Int) - 1)).toNat (tN c m p), rT d, mxm (rM d) (rP d + ((i : Int) - 1)), rP d, rS d, rF d, rQ d) := by
        rw [l1]
        show rph i (tN c m p) ((tA c m p : Nat) : Int) d = _
        unfold rph
        rw [if_neg (by omega), if_pos ⟨by omega, by omega⟩]
      rw [if_neg (by omega)] at x2
      have ei : (px : Int) = rP d + ((i : Int) - 1) := by omega
      rw [er, ← ei]
      have ej : a + px = 128 + ((px : Int)).toNat := by omega
      rw [ej]
      exact RDr.ch u4 f0 (by rw [zu_off (by omega), zu_off (by omega)]) (((j1 rfl).sP (by omega)).far (fun k => by rw [zu_off (by omega)])) (by rw [zu_eq]; exact ex) (by rw [← ex]; exact mx)
  · have er : rkn l i (tN c m p) ((tA c m p : Nat) : Int) d = rflt d 2 ((tA c m p : Nat) : Int) := by
      rcases hl with ⟨l1, l2, l3⟩ | ⟨l1, l2, l3⟩
      · rw [l1]
        show rst i (tN c m p) ((tA c m p : Nat) : Int) d = _
        unfold rst
        rw [if_neg (by omega), if_neg (by omega), if_neg (fun z => q ⟨by omega, by omega⟩)]
      · rw [l1]
        show rph i (tN c m p) ((tA c m p : Nat) : Int) d = _
        unfold rph
        rw [if_neg (by omega), if_neg (fun z => q ⟨by omega, by omega⟩)]
    have e2 : rgF d1 (tN c m p) 0 hi ((tA c m p : Nat) : Int) = rflt d 2 ((tA c m p : Nat) : Int) := by
      rw [g3]
      unfold rgF
      by_cases y : px < 25
      · rw [if_pos y, if_neg (fun z => q ⟨z, y⟩), mkF_z f0]
      · rw [if_neg y, mkF_z f0]
        have : mkF (rflt d 2 ((tA c m p : Nat) : Int)) 2 ((tA c m p : Nat) : Int) = rflt d 2 ((tA c m p : Nat) : Int) := mkF_n (by show ¬ (2 : Int) = 0; omega)
        rw [this]
        split <;> rfl
    rw [e2] at u4
    rw [er]
    exact RDr.fl u4 (by show ¬ (2 : Int) = 0; omega) (by rw [zu_off (by omega), wf _ _ (by omega)]) (by rw [zu_off (by omega), wf _ _ (by omega)]) (by rw [zu_eq]; exact mx) (fun z => absurd z (by decide))
/-- the row -/
theorem m_nmL {l hi : Int} {o a : Nat} (hl : (l = 1 ∧ hi = 99 ∧ o = 2) ∨ (l = 2 ∧ hi = 399 ∧ o = 1)) (hm : m ≤ 600) (hc : ∀ k, -128 ≤ c k ∧ c k ≤ 127) (ha : a ≤ 128) : ∀ f i p px (d : dR) (h : zH), m + 1 ≤ p + f → o ≤ i → i ≤ p → p ≤ m → RTp h c m → RAt h c m p → tK c m p = 2 → RDr h 0 d → wfQ d p → px ≤ 9999 + i → (rF d = 0 → (px : Int) = rP d + ((i : Int) - (o : Int)) ∧ (a : Int) = if l = 1 then 3 + 25 * rS d else 128) → ∃ h' r, Zx 155 8 [zR 202, zI (a : Int), zI hi, zI (px : Int)] [] (Z0 n) h = some (some (zI r), Z0 n, h') ∧ MEn h' 0 r c m (rdL c m l f i p d) ∧ frS h' h ∧ (r = 0 ∨ r = 1)
  | 0, i, p, px, d, h, hf, _, _, hp, _, _, _, _, _, _, _ => absurd hf (by omega)
  | f + 1, i, p, px, d, h, hf, hoi, hip, hp, hT, hA, hk, hR, hw, hpx, hx => by
    obtain ⟨t1, t2, t3, t4, t5⟩ := tB_in (c := c) hp
    have t6 := t4 (by rw [hk]; decide)
    obtain ⟨g, g1, g2, g3, g4⟩ := m_nm1 (n := n) (h := h) (d := d) hl hm hc hoi hip hp hT hA hk hR hw ha hpx hx
    have ml : mostN 0 l = 600 := by rcases hl with z | z <;> rw [z.1] <;> decide
    have fw : fewN 0 l ≤ ((i + 1 : Nat) : Int) := by
      rcases hl with z | z
      · have : fewN 0 l = 3 := by rw [z.1]; decide
        omega
      · have : fewN 0 l = 2 := by rw [z.1]; decide
        omega
    rw [rdL_n hk (by rw [ml]; omega)]
    by_cases q : tK c m (tB c m p) = 2
    · rw [if_pos q] at g1
      obtain ⟨u, r, u1, u2, u3, u4⟩ := m_nmL (l := l) (hi := hi) (o := o) (a := a) hl hm hc ha f (i + 1) (tB c m p) (px + 1) (tkP l i (tN c m p) ((tA c m p : Nat) : Int) d) g (by omega) (by omega) (by omega) t3 (hT.S g4) g2 q g3 (hw.tk t1 t6) (by omega) (fun z => by
        have f0 : rF d = 0 := by
          by_cases y : rF d = 0
          · exact y
          · have e : tkP l i (tN c m p) ((tA c m p : Nat) : Int) d = d := if_neg y
            rw [e] at z
            exact absurd z y
        have e : tkP l i (tN c m p) ((tA c m p : Nat) : Int) d = rkn l i (tN c m p) ((tA c m p : Nat) : Int) d := if_pos f0
        obtain ⟨x1, x2⟩ := hx f0
        rw [e] at z ⊢
        have pr : rP (rkn l i (tN c m p) ((tA c m p : Nat) : Int) d) = rP d ∧ rS (rkn l i (tN c m p) ((tA c m p : Nat) : Int) d) = rS d := by
          rcases hl with ⟨l1, l2, l3⟩ | ⟨l1, l2, l3⟩
          · rw [l1]
            show rP (rst i (tN c m p) ((tA c m p : Nat) : Int) d) = rP d ∧ rS (rst i (tN c m p) ((tA c m p : Nat) : Int) d) = rS d
            unfold rst
            rw [if_neg (by omega), if_neg (by omega)]
            split <;> exact ⟨rfl, rfl⟩
          · rw [l1]
            show rP (rph i (tN c m p) ((tA c m p : Nat) : Int) d) = rP d ∧ rS (rph i (tN c m p) ((tA c m p : Nat) : Int) d) = rS d
            unfold rph
            rw [if_neg (by omega)]
            split <;> exact ⟨rfl, rfl⟩
        rw [pr.1, pr.2]
        exact ⟨by omega, x2⟩)
      exact ⟨u, r, g1.trans u1, u2, u3.tr g4, u4⟩
    · rw [if_neg q] at g1
      exact ⟨g, 1, g1, MEn.e (by omega) t3 g2 g3 (fun z => q z.1) fw, g4, Or.inr rfl⟩
end RNM
