/-! READING: Reader.takeNumber, of a picture -/
section TKC
variable {n : Nat} {h : zH} {d : dR}
theorem CDr.ch {h' : zH} {D' : pD} {mx' p' s' : Int} (hC : CDr h d) (f0 : rF d = 0) (hP : PiD h' 106 D') (hM : MnC h' mx') (f11 : h' 104 11 = h 104 11) (f12 : h' 104 12 = h 104 12) (f : ∀ x k, 111 ≤ x → h' x k = h x k) : CDr h' (D', rT d, mx', p', s', rF d, rQ d) := by
  obtain ⟨a, b, c, e⟩ := hC
  obtain ⟨e1, e2, e3⟩ := e f0
  exact ⟨f11.trans a, f12.trans b, by rw [f _ _ (by omega)]; exact c, fun _ => ⟨hP, ⟨by rw [f _ _ (by omega)]; exact e2.1, fun k hk => by rw [f _ _ (by omega), f _ _ (by omega)]; exact e2.2 k hk⟩, hM⟩⟩
/-- in the midst of a line: what the class keeps of its first numbers -/
def LnC (h : zH) (l : Int) (i : Nat) (d : dR) : Prop := rF d = 0 → (l = 1 → (1 ≤ i → h 104 6 = rS d) ∧ (2 ≤ i → h 104 7 = rP d)) ∧ (l = 2 ∨ l = 4 → 1 ≤ i → h 104 7 = rP d)
theorem LnC.flt {l : Int} {i : Nat} {q : Int} : LnC h l i (rflt d 2 q) := fun z => absurd z (by show ¬ (2 : Int) = 0; omega)
theorem LnC.z {l : Int} : LnC h l 0 d := fun _ => ⟨fun _ => ⟨fun z => absurd z (by omega), fun z => absurd z (by omega)⟩, fun _ z => absurd z (by omega)⟩
/-- what a number may change of the class -/
def frK (h' h : zH) : Prop := ∀ x k, (x < 104 ∨ 110 < x ∨ (x = 104 ∧ k ≤ 5)) → h' x k = h x k
theorem frK.flt : frK (flt2 h) h := fun x k q => by
  show zu (zu h 104 11 2) 104 12 (h 104 3) x k = h x k
  rw [zu_off (by omega), zu_off (by omega)]
theorem frK.z {h' : zH} {a b : Nat} {v : Int} (f : frK h' h) (q : (a = 104 ∧ 6 ≤ b) ∨ (105 ≤ a ∧ a ≤ 110)) : frK (zu h' a b v) h := fun x k z => by
  rw [zu_off (by omega)]
  exact f x k z
theorem frK.rf : frK h h := fun _ _ _ => rfl
theorem c_rpx {v : Int} {q : Nat} (hC : CDr h d) (f0 : rF d = 0) (h3 : h 104 3 = (q : Int)) : CDr (if 0 ≤ v ∧ v ≤ 24 then zu (zu h 104 7 v) 105 v.toNat 1 else flt2 h) (rpx d v (q : Int)) ∧ frK (if 0 ≤ v ∧ v ≤ 24 then zu (zu h 104 7 v) 105 v.toNat 1 else flt2 h) h ∧ (rF (rpx d v (q : Int)) = 0 → (if 0 ≤ v ∧ v ≤ 24 then zu (zu h 104 7 v) 105 v.toNat 1 else flt2 h) 104 7 = rP (rpx d v (q : Int)) ∧ (if 0 ≤ v ∧ v ≤ 24 then zu (zu h 104 7 v) 105 v.toNat 1 else flt2 h) 104 6 = h 104 6 ∧ rS (rpx d v (q : Int)) = rS d) := by
  unfold rpx
  obtain ⟨e1, e2, e3⟩ := hC.2.2.2 f0
  by_cases z : 0 ≤ v ∧ v ≤ 24
  · rw [if_pos z, if_pos z]
    refine ⟨hC.ch f0 (e1.far (fun x k q1 q2 => by rw [zu_off (by omega), zu_off (by omega)])) (MnC.put (e3.cg (fun k => by rw [zu_off (by omega)])) (by omega)) (by rw [zu_off (by omega), zu_off (by omega)]) (by rw [zu_off (by omega), zu_off (by omega)]) (fun x k q1 => by rw [zu_off (by omega), zu_off (by omega)]), (frK.rf.z (Or.inl ⟨rfl, by omega⟩)).z (Or.inr (by omega)), fun _ => ⟨by rw [zu_off (by omega), zu_eq], by rw [zu_off (by omega), zu_off (by omega)], rfl⟩⟩
  · rw [if_neg z, if_neg z]
    exact ⟨CDr.flt h3 hC.2.2.1, frK.flt, fun y => absurd y (by show ¬ (2 : Int) = 0; omega)⟩
/-- Reader.takeNumber -/
theorem c_tkp {l v : Int} {i q : Nat} (hC : CDr h d) (hw : wfQ d q) (hN : LnC h l i d) (hl : 0 ≤ l ∧ l ≤ 5) (hi : i < 600) (h5 : h 104 5 = v) (h3 : h 104 3 = (q : Int)) (hv : 0 ≤ v ∧ v ≤ 9999) : ∃ h', Zx 56 0 [zR 104, zI 0, zI l, zI (i : Int)] [] (Z0 n) h = some (none, Z0 n, h') ∧ CDr h' (tkP l i v (q : Int) d) ∧ LnC h' l (i + 1) (tkP l i v (q : Int) d) ∧ frK h' h := by
  obtain ⟨⟨w1, w2, w3, w4, w5⟩, w6, w7⟩ := hw
  have vi : zint v := ⟨by omega, by omega⟩
  have b0 := b56_0 (n := n) (h := h) (l1 := 0) (l2 := l) (l3 := (i : Int)) (fun _ z => absurd (show ¬ zw 0 = 1 by decide) z) (fun _ z => absurd (show ¬ zw 0 = 1 by decide) z)
  rw [hC.1, zw_id (z := rF d) (by omega) (by omega)] at b0
  by_cases f0 : rF d = 0
  case neg =>
    rw [if_neg f0] at b0
    have et : tkP l i v (q : Int) d = d := if_neg f0
    exact ⟨h, b0, by rw [et]; exact hC, by rw [et]; exact fun z => absurd z f0, frK.rf⟩
  have h11 : h 104 11 = 0 := hC.1.trans f0
  obtain ⟨e1, e2, e3⟩ := hC.2.2.2 f0
  obtain ⟨n1, n2⟩ := hN f0
  have fl : CDr (flt2 h) (rflt d 2 (q : Int)) := CDr.flt h3 hC.2.2.1
  have et : tkP l i v (q : Int) d = rkn l i v (q : Int) d := if_pos f0
  rw [if_pos f0, if_pos (show ¬ zw 0 = 1 by decide), zw_id (z := l) (by omega) (by omega)] at b0
  rw [et]
  rcases (by omega : l = 0 ∨ l = 1 ∨ l = 2 ∨ l = 3 ∨ l = 4 ∨ l = 5) with e | e | e | e | e | e <;> subst e
  · have c := c_tsz (n := n) (h := h) (v := v) (i := (i : Int)) h5 h11 vi ⟨by omega, by omega⟩
    have go : Zx 56 (zfind 0 [(0, 31), (1, 35), (2, 39), (3, 43), (4, 54)] 58) [zR 104, zN, zI 0, zI (i : Int)] [] (Z0 n) h = some (none, Z0 n, if 2 ≤ v ∧ v ≤ 5 then (if (i : Int) = 0 then zu h 106 0 v else zu h 106 1 v) else flt2 h) := by
      show Zx 56 31 _ _ _ _ = _
      refine (Zx_nm (L' := [zR 104, zN, zN, zI (i : Int)]) rfl rfl).trans ?_
      rw [b56_31, b56_33 c, b56_68]
    refine ⟨_, b0.trans go, ?_⟩
    have no : ∀ g d', LnC g 0 (i + 1) d' := fun _ _ _ => ⟨fun z => absurd z (by decide), fun z => absurd z (by decide)⟩
    show CDr _ (rsz i v (q : Int) d) ∧ LnC _ 0 (i + 1) (rsz i v (q : Int) d) ∧ frK _ h
    unfold rsz
    by_cases z : 2 ≤ v ∧ v ≤ 5
    · rw [if_pos z, if_pos z]
      have vv : v = (v.toNat : Int) := by omega
      by_cases y : i = 0
      · rw [if_pos (by omega), if_pos y]
        have ep := e1.sW (v := v.toNat)
        rw [← vv] at ep
        exact ⟨hC.ch f0 ep (e3.cg (fun k => by rw [zu_off (by omega)])) (by rw [zu_off (by omega)]) (by rw [zu_off (by omega)]) (fun x k q1 => by rw [zu_off (by omega)]), no _ _, frK.rf.z (Or.inr (by omega))⟩
      · rw [if_neg (by omega), if_neg y]
        have ep := e1.sH (v := v.toNat)
        rw [← vv] at ep
        exact ⟨hC.ch f0 ep (e3.cg (fun k => by rw [zu_off (by omega)])) (by rw [zu_off (by omega)]) (by rw [zu_off (by omega)]) (fun x k q1 => by rw [zu_off (by omega)]), no _ _, frK.rf.z (Or.inr (by omega))⟩
    · rw [if_neg z, if_neg z]
      exact ⟨fl, no _ _, frK.flt⟩
  · have go : ∀ g, Zx 61 0 [zR 104, zI (i : Int), zN] [] (Z0 n) h = some (none, Z0 n, g) → Zx 56 (zfind 1 [(0, 31), (1, 35), (2, 39), (3, 43), (4, 54)] 58) [zR 104, zN, zI 1, zI (i : Int)] [] (Z0 n) h = some (none, Z0 n, g) := fun g c => by
      show Zx 56 35 _ _ _ _ = _
      refine (Zx_nm (L' := [zR 104, zN, zN, zI (i : Int)]) rfl rfl).trans ?_
      rw [b56_35, b56_37 c, b56_68]
    have mk : ∀ (g : zH) d', (rF d' = 0 → g 104 6 = rS d') → (rF d' = 0 → 1 ≤ i → g 104 7 = rP d') → LnC g 1 (i + 1) d' := fun g d' a b w => ⟨fun _ => ⟨fun _ => a w, fun y => b w (by omega)⟩, fun z => absurd z (by decide)⟩
    have er : rkn 1 i v (q : Int) d = rst i v (q : Int) d := rfl
    rw [er]
    unfold rst
    by_cases y : i = 0
    · have c' : Zx 61 0 [zR 104, zI (i : Int), zN] [] (Z0 n) h = some (none, Z0 n, if 0 ≤ v ∧ v ≤ 3 then zu h 104 6 v else flt2 h) := by
        rw [show (i : Int) = 0 by omega]
        exact c_tst0 h5 h11 vi
      rw [if_pos y]
      refine ⟨_, b0.trans (go _ c'), ?_⟩
      by_cases z : 0 ≤ v ∧ v ≤ 3
      · rw [if_pos z, if_pos z]
        exact ⟨hC.ch f0 (e1.far (fun x k q1 q2 => by rw [zu_off (by omega)])) (e3.cg (fun k => by rw [zu_off (by omega)])) (by rw [zu_off (by omega)]) (by rw [zu_off (by omega)]) (fun x k q1 => by rw [zu_off (by omega)]), mk _ _ (fun _ => zu_eq) (fun _ w => by omega), frK.rf.z (Or.inl ⟨rfl, by omega⟩)⟩
      · rw [if_neg z, if_neg z]
        exact ⟨fl, LnC.flt, frK.flt⟩
    rw [if_neg y]
    by_cases y1 : i = 1
    · have c' : Zx 61 0 [zR 104, zI (i : Int), zN] [] (Z0 n) h = some (none, Z0 n, if 0 ≤ v ∧ v ≤ 24 then zu (zu h 104 7 v) 105 v.toNat 1 else flt2 h) := by
        rw [show (i : Int) = 1 by omega]
        exact c_tst1 h5 h11 vi
      rw [if_pos y1]
      obtain ⟨r1, r2, r3⟩ := c_rpx (v := v) hC f0 h3
      exact ⟨_, b0.trans (go _ c'), r1, mk _ _ (fun w => by rw [(r3 w).2.1, (r3 w).2.2]; exact (n1 rfl).1 (by omega)) (fun w _ => (r3 w).1), r2⟩
    rw [if_neg y1]
    obtain ⟨m1, m2⟩ := n1 rfl
    have c' := c_tst (n := n) (h := h) (v := v) (p := rP d) (s := rS d) (i := (i : Int)) h5 h11 vi (m2 (by omega)) (m1 (by omega)) w5 w4 ⟨by omega, by omega⟩
    refine ⟨_, b0.trans (go _ c'), ?_⟩
    by_cases z : (0 ≤ v ∧ v ≤ 99) ∧ rP d + ((i : Int) - 2) < 25
    · rw [if_pos z, if_pos z]
      exact ⟨hC.ch f0 (PiD.sS (e1.far (fun x k q1 q2 => by rw [zu_off (by omega)]))) ((MnC.put e3 (by omega)).cg (fun k => by rw [zu_off (by omega)])) (by rw [zu_off (by omega), zu_off (by omega)]) (by rw [zu_off (by omega), zu_off (by omega)]) (fun x k q1 => by rw [zu_off (by omega), zu_off (by omega)]), mk _ _ (fun _ => by rw [zu_off (by omega), zu_off (by omega)]; exact m1 (by omega)) (fun _ _ => by rw [zu_off (by omega), zu_off (by omega)]; exact m2 (by omega)), (frK.rf.z (Or.inr (by omega))).z (Or.inr (by omega))⟩
    · rw [if_neg z, if_neg z]
      exact ⟨fl, LnC.flt, frK.flt⟩
  · have go : ∀ g, Zx 62 0 [zR 104, zI (i : Int), zN] [] (Z0 n) h = some (none, Z0 n, g) → Zx 56 (zfind 2 [(0, 31), (1, 35), (2, 39), (3, 43), (4, 54)] 58) [zR 104, zN, zI 2, zI (i : Int)] [] (Z0 n) h = some (none, Z0 n, g) := fun g c => by
      show Zx 56 39 _ _ _ _ = _
      refine (Zx_nm (L' := [zR 104, zN, zN, zI (i : Int)]) rfl rfl).trans ?_
      rw [b56_39, b56_41 c, b56_68]
    have mk : ∀ (g : zH) d', (rF d' = 0 → g 104 7 = rP d') → LnC g 2 (i + 1) d' := fun g d' b w => ⟨fun z => absurd z (by decide), fun _ _ => b w⟩
    have er : rkn 2 i v (q : Int) d = rph i v (q : Int) d := rfl
    rw [er]
    unfold rph
    by_cases y : i = 0
    · have c' : Zx 62 0 [zR 104, zI (i : Int), zN] [] (Z0 n) h = some (none, Z0 n, if 0 ≤ v ∧ v ≤ 24 then zu (zu h 104 7 v) 105 v.toNat 1 else flt2 h) := by
        rw [show (i : Int) = 0 by omega]
        exact c_tph0 h5 h11 vi
      rw [if_pos y]
      obtain ⟨r1, r2, r3⟩ := c_rpx (v := v) hC f0 h3
      exact ⟨_, b0.trans (go _ c'), r1, mk _ _ (fun w => (r3 w).1), r2⟩
    rw [if_neg y]
    have m2 := n2 (Or.inl rfl) (by omega)
    have c' := c_tph (n := n) (h := h) (v := v) (p := rP d) (i := (i : Int)) h5 h11 vi m2 w4 ⟨by omega, by omega⟩
    refine ⟨_, b0.trans (go _ c'), ?_⟩
    by_cases z : (0 ≤ v ∧ v ≤ 399) ∧ rP d + ((i : Int) - 1) < 25
    · rw [if_pos z, if_pos z]
      exact ⟨hC.ch f0 (PiD.sP (e1.far (fun x k q1 q2 => by rw [zu_off (by omega)]))) ((MnC.put e3 (by omega)).cg (fun k => by rw [zu_off (by omega)])) (by rw [zu_off (by omega), zu_off (by omega)]) (by rw [zu_off (by omega), zu_off (by omega)]) (fun x k q1 => by rw [zu_off (by omega), zu_off (by omega)]), mk _ _ (fun _ => by rw [zu_off (by omega), zu_off (by omega)]; exact m2), (frK.rf.z (Or.inr (by omega))).z (Or.inr (by omega))⟩
    · rw [if_neg z, if_neg z]
      exact ⟨fl, LnC.flt, frK.flt⟩
  · have c := c_tpx (n := n) (h := h) (v := v) h5 h11 vi
    have no : ∀ g d', LnC g 3 (i + 1) d' := fun _ _ _ => ⟨fun z => absurd z (by decide), fun z => absurd z (by decide)⟩
    have er : rkn 3 i v (q : Int) d = rho v (q : Int) d := rfl
    rw [er]
    unfold rho
    by_cases z : 0 ≤ v ∧ v ≤ 24
    · rw [if_pos z, if_pos z] at c
      rw [if_pos z]
      have w5' : zu (zu h 104 7 v) 105 v.toNat 1 104 5 = v := by rw [zu_off (by omega), zu_off (by omega)]; exact h5
      have go : Zx 56 (zfind 3 [(0, 31), (1, 35), (2, 39), (3, 43), (4, 54)] 58) [zR 104, zN, zI 3, zI (i : Int)] [] (Z0 n) h = some (none, Z0 n, zu (zu (zu h 104 7 v) 105 v.toNat 1) 110 v.toNat 1) := by
        show Zx 56 43 _ _ _ _ = _
        refine (Zx_nm (L' := [zR 104, zN, zN, zN]) rfl rfl).trans ?_
        rw [b56_43, b56_44 c (by rw [w5']; intros; omega) (by rw [w5']; intros; omega), if_neg (show ¬ zw 1 = 0 by decide), w5', b56_68]
      exact ⟨_, b0.trans go, hC.ch f0 (PiD.sO (e1.far (fun x k q1 q2 => by rw [zu_off (by omega), zu_off (by omega)]))) ((MnC.put (e3.cg (h' := zu h 104 7 v) (fun k => by rw [zu_off (by omega)])) (by omega)).cg (fun k => by rw [zu_off (by omega)])) (by rw [zu_off (by omega), zu_off (by omega), zu_off (by omega)]) (by rw [zu_off (by omega), zu_off (by omega), zu_off (by omega)]) (fun x k q1 => by rw [zu_off (by omega), zu_off (by omega), zu_off (by omega)]), no _ _, ((frK.rf.z (Or.inl ⟨rfl, by omega⟩)).z (Or.inr (by omega))).z (Or.inr (by omega))⟩
    · rw [if_neg z, if_neg z] at c
      rw [if_neg z]
      have go : Zx 56 (zfind 3 [(0, 31), (1, 35), (2, 39), (3, 43), (4, 54)] 58) [zR 104, zN, zI 3, zI (i : Int)] [] (Z0 n) h = some (none, Z0 n, flt2 h) := by
        show Zx 56 43 _ _ _ _ = _
        refine (Zx_nm (L' := [zR 104, zN, zN, zN]) rfl rfl).trans ?_
        rw [b56_43, b56_44 c (fun q => absurd zw0 q) (fun q => absurd zw0 q), if_pos zw0, b56_68]
      exact ⟨_, b0.trans go, fl, no _ _, frK.flt⟩
  · have go : ∀ g, Zx 63 0 [zR 104, zI (i : Int)] [] (Z0 n) h = some (none, Z0 n, g) → Zx 56 (zfind 4 [(0, 31), (1, 35), (2, 39), (3, 43), (4, 54)] 58) [zR 104, zN, zI 4, zI (i : Int)] [] (Z0 n) h = some (none, Z0 n, g) := fun g c => by
      show Zx 56 54 _ _ _ _ = _
      refine (Zx_nm (L' := [zR 104, zN, zN, zI (i : Int)]) rfl rfl).trans ?_
      rw [b56_54, b56_56 c, b56_68]
    have mk : ∀ (g : zH) d', (rF d' = 0 → g 104 7 = rP d') → LnC g 4 (i + 1) d' := fun g d' b w => ⟨fun z => absurd z (by decide), fun _ _ => b w⟩
    have er : rkn 4 i v (q : Int) d = rwt i v (q : Int) d := rfl
    rw [er]
    unfold rwt
    by_cases y : i = 0
    · have c' : Zx 63 0 [zR 104, zI (i : Int)] [] (Z0 n) h = some (none, Z0 n, if 0 ≤ v ∧ v ≤ 24 then zu (zu h 104 7 v) 105 v.toNat 1 else flt2 h) := by
        rw [show (i : Int) = 0 by omega]
        exact c_twt0 h5 h11 vi
      rw [if_pos y]
      obtain ⟨r1, r2, r3⟩ := c_rpx (v := v) hC f0 h3
      exact ⟨_, b0.trans (go _ c'), r1, mk _ _ (fun w => (r3 w).1), r2⟩
    rw [if_neg y]
    have m2 := n2 (Or.inr rfl) (by omega)
    have c' := c_twt (n := n) (h := h) (v := v) (p := rP d) (i := (i : Int)) h5 h11 vi m2 w4 ⟨by omega, by omega⟩
    refine ⟨_, b0.trans (go _ c'), ?_⟩
    by_cases z : 1 ≤ v ∧ v ≤ 9
    · rw [if_pos z, if_pos z]
      exact ⟨hC.ch f0 (PiD.sG e1) (e3.cg (fun k => by rw [zu_off (by omega)])) (by rw [zu_off (by omega)]) (by rw [zu_off (by omega)]) (fun x k q1 => by rw [zu_off (by omega)]), mk _ _ (fun _ => by rw [zu_off (by omega)]; exact m2), frK.rf.z (Or.inr (by omega))⟩
    · rw [if_neg z, if_neg z]
      exact ⟨fl, LnC.flt, frK.flt⟩
  · have c := c_isf (n := n) (h := h) (v := v) (lo := 1) (hi := 198) h5 h11 vi ⟨by omega, by omega⟩ ⟨by omega, by omega⟩
    have no : ∀ g d', LnC g 5 (i + 1) d' := fun _ _ _ => ⟨fun z => absurd z (by decide), fun z => absurd z (by decide)⟩
    have er : rkn 5 i v (q : Int) d = rle v (q : Int) d := rfl
    rw [er]
    unfold rle
    by_cases z : 1 ≤ v ∧ v ≤ 198
    · rw [if_pos z, if_pos z] at c
      rw [if_pos z]
      have go : Zx 56 (zfind 5 [(0, 31), (1, 35), (2, 39), (3, 43), (4, 54)] 58) [zR 104, zN, zI 5, zI (i : Int)] [] (Z0 n) h = some (none, Z0 n, zu h 106 2 v) := by
        show Zx 56 58 _ _ _ _ = _
        refine (Zx_nm (L' := [zR 104, zN, zN, zN]) rfl rfl).trans ?_
        rw [b56_58, b56_61 c, if_neg (show ¬ zw 1 = 0 by decide), h5, b56_68]
      exact ⟨_, b0.trans go, hC.ch f0 (PiD.sL e1) (e3.cg (fun k => by rw [zu_off (by omega)])) (by rw [zu_off (by omega)]) (by rw [zu_off (by omega)]) (fun x k q1 => by rw [zu_off (by omega)]), no _ _, frK.rf.z (Or.inr (by omega))⟩
    · rw [if_neg z, if_neg z] at c
      rw [if_neg z]
      have go : Zx 56 (zfind 5 [(0, 31), (1, 35), (2, 39), (3, 43), (4, 54)] 58) [zR 104, zN, zI 5, zI (i : Int)] [] (Z0 n) h = some (none, Z0 n, flt2 h) := by
        show Zx 56 58 _ _ _ _ = _
        refine (Zx_nm (L' := [zR 104, zN, zN, zN]) rfl rfl).trans ?_
        rw [b56_58, b56_61 c, if_pos zw0, b56_68]
        rfl
      exact ⟨_, b0.trans go, fl, no _ _, frK.flt⟩
end TKC
