/-! QUESTIONS: tough -/
section OPK
variable {n : Nat} {h : zH} {A : aS} {W H N : Nat} {T : Nat → Bool} {F F' G : Nat → Int}
theorem czo_eq (hw : wfS W H N T F G) (hw' : wfS W H N T F' G) (h1 : ∀ x, ∃ y, tco N W T F' G y = tco N W T F G x) (h2 : ∀ x, ∃ y, tco N W T F G y = tco N W T F' G x) : czo N W T F' G = czo N W T F G := by
  obtain ⟨⟨x, hx⟩, a⟩ := cz_C hw
  obtain ⟨⟨x', hx'⟩, a'⟩ := cz_C hw'
  obtain ⟨y, hy⟩ := h1 x
  obtain ⟨y', hy'⟩ := h2 x'
  have b := a' y
  have c := a y'
  omega
theorem pdif_anti {a b : Nat} {x y : Int} (hab : a ≠ b) : pdif b a y x = -(pdif a b x y) := by
  unfold pdif
  by_cases c : a < b
  · rw [if_pos c, if_neg (show ¬ b < a by omega)]
  · rw [if_neg c, if_pos (show b < a by omega)]; omega
theorem ofv_anti {a b : Nat} (hab : a ≠ b) : ofv F b a = -(ofv F a b) := by
  have e1 := ofv_e (F := F) (a := a) (b := b)
  have e2 := ofv_e (F := F) (a := b) (b := a)
  rw [pdif_anti hab, e1] at e2
  omega
theorem czo_off (hw : wfS W H N T F G) (hw' : wfS W H N T F' G) (e : ∀ j, j < scJ N W T → ofv F' (scf N W T j) (sct N W T j) = ofv F (scf N W T j) (sct N W T j)) : czo N W T F' G = czo N W T F G := by
  have t : ∀ x, tco N W T F' G x = tco N W T F G x := fun x => su_congr (fun j hj => by
    (try dsimp only)
    rw [e j hj])
  exact czo_eq hw hw' (fun x => ⟨x, t x⟩) (fun x => ⟨x, (t x).symm⟩)
theorem czo_sh (hw : wfS W H N T F G) (hw' : wfS W H N T F' G) {a : Nat} {c : Int} (e : ∀ j, j < scJ N W T → ofv F' (scf N W T j) (sct N W T j) = ofv F (scf N W T j) (sct N W T j) + (if scf N W T j = a then c else 0) - (if sct N W T j = a then c else 0)) : czo N W T F' G = czo N W T F G := by
  have t : ∀ (x : Nat → Int) (d : Int), d = c → tco N W T F' G (fun k => if k = a then x k + d else x k) = tco N W T F G x := fun x d hd => su_congr (fun j hj => by
    (try dsimp only)
    rw [e j hj]
    have : (if sct N W T j = a then x (sct N W T j) + d else x (sct N W T j)) - (if scf N W T j = a then x (scf N W T j) + d else x (scf N W T j)) + (ofv F (scf N W T j) (sct N W T j) + (if scf N W T j = a then c else 0) - (if sct N W T j = a then c else 0)) = x (sct N W T j) - x (scf N W T j) + ofv F (scf N W T j) (sct N W T j) := by
      split <;> split <;> omega
    rw [this])
  refine czo_eq hw hw' (fun x => ⟨_, t x c rfl⟩) (fun x => ⟨fun k => if k = a then x k - c else x k, ?_⟩)
  rw [← t _ c rfl]
  have : (fun k => if k = a then (if k = a then x k - c else x k) + c else (if k = a then x k - c else x k)) = x := by
    funext k
    by_cases q : k = a
    · rw [if_pos q, if_pos q]; omega
    · rw [if_neg q, if_neg q]
  (try dsimp only)
  rw [this]
theorem wrs_all {a : Nat} : ∀ s, wrs N W T F a s = false → ∀ t, t < s → bs W N a t ≠ -1 → T (bs W N a t).toNat = true → pdif a (bs W N a t).toNat (nxp (F a)) (F (bs W N a t).toNat) = pdif a (bs W N a t).toNat (F a) (F (bs W N a t).toNat) - 1
  | 0, _, t, ht, _, _ => absurd ht (Nat.not_lt_zero t)
  | s + 1, h, t, ht, h1, h2 => by
    unfold wrs at h
    rw [Bool.or_eq_false_iff] at h
    by_cases c : t = s
    · subst c
      have := h.2
      rw [decide_eq_false h1, h2] at this
      by_cases d : pdif a (bs W N a t).toNat (nxp (F a)) (F (bs W N a t).toNat) = pdif a (bs W N a t).toNat (F a) (F (bs W N a t).toNat) - 1
      · exact d
      · rw [decide_eq_false d] at this
        cases this
    · exact wrs_all s h.1 t (by omega) h1 h2
theorem nxp_in {x : Int} (h : 0 ≤ x ∧ x < 400) : 0 ≤ nxp x ∧ nxp x < 400 := by
  unfold nxp
  split <;> omega
theorem czo_wr (hw : wfS W H N T F G) {a : Nat} (ha : a < N) (ta : T a = true) (hs : wrs N W T F a 4 = false) : czo N W T (fu F a (nxp (F a))) G = czo N W T F G := by
  have fa := hw.f a ha ta
  have hw' := wfS_fu (a := a) hw (nxp_in fa)
  have near : ∀ b, b < N → T b = true → bsd W a b = true → ofv (fu F a (nxp (F a))) a b = ofv F a b + (if F a = 399 then 1 else 0) := fun b hb tb bb => by
    obtain ⟨s, s4, es⟩ := (bs_bsd hw.1 hw.2.2.1 ha).mp ⟨hb, bb⟩
    have k := wrs_all 4 hs s s4 (by rw [es]; omega) (by rw [es, Int.toNat_natCast]; exact tb)
    rw [es, Int.toNat_natCast] at k
    have ne : b ≠ a := fun z => by rw [z, bsd_ne] at bb; cases bb
    have e1 := ofv_e (F := F) (a := a) (b := b)
    have e2 := ofv_e (F := fu F a (nxp (F a))) (a := a) (b := b)
    rw [fu_same, fu_ne ne, k, e1] at e2
    have en : nxp (F a) = F a + 1 - 400 * (if F a = 399 then 1 else 0) := by
      unfold nxp
      split <;> omega
    split <;> rename_i q
    · rw [if_pos q] at en; omega
    · rw [if_neg q] at en; omega
  refine czo_sh (a := a) (c := if F a = 399 then 1 else 0) hw hw' (fun j hj => ?_)
  obtain ⟨a1, a2, a3, a4, a5⟩ := sc_at hw hj
  by_cases c1 : scf N W T j = a
  · rw [c1, if_pos rfl, if_neg (show ¬ sct N W T j = a by omega), near _ a2 a4 (by rw [← c1]; exact a5)]; omega
  · by_cases c2 : sct N W T j = a
    · rw [if_neg c1, c2, if_pos rfl, ofv_anti (F := fu F a (nxp (F a))) (show a ≠ scf N W T j from fun z => c1 z.symm), ofv_anti (F := F) (show a ≠ scf N W T j from fun z => c1 z.symm), near _ (by omega) a3 (by rw [bsd_sym, ← c2]; exact a5)]; omega
    · rw [if_neg c1, if_neg c2]
      unfold ofv
      rw [fu_ne c1, fu_ne c2]; omega
/-- the phases raised so often -/
def raF (F : Nat → Int) (a : Nat) : Nat → Nat → Int
  | 0 => F
  | i + 1 => fu (raF F a i) a (nxp (raF F a i a))
theorem raF_wf (hw : wfS W H N T F G) {a : Nat} (ha : a < N) (ta : T a = true) : ∀ i, wfS W H N T (raF F a i) G
  | 0 => hw
  | i + 1 => by
    have ih := raF_wf hw ha ta i
    exact wfS_fu ih (nxp_in (ih.f a ha ta))
noncomputable def tgR (N W : Nat) (T : Nat → Bool) (F G : Nat → Int) (a : Nat) : Nat → Nat → Int
  | 0, _ => -1
  | m + 1, i => if czo N W T (raF F a (i + 1)) G = czo N W T F G then tgR N W T F G a m (i + 1) else ((i + 1 : Nat) : Int)
theorem c_tgh (hw : wfS W H N T F G) {a : Nat} (ha : a < N) (ta : T a = true) : ∀ (m i : Nat) (u : zH), i + m = 399 → czo N W T (raF F a i) G = czo N W T F G → ScC u 174 W H N T (raF F a i) G → ∃ u', Zx 128 19 [zR 1, zN, zI (a : Int), zI (czo N W T F G), zR 174, zI ((i + 1 : Nat) : Int)] [] (Z0 n) u = some (some (zI (tgR N W T F G a m i)), Z0 n, u') ∧ ∀ x k, (x < 173 ∨ 191 < x) → u' x k = u x k
  | 0, i, u, hm, he, hS => by
    refine ⟨u, ?_, fun x k _ => rfl⟩
    rw [b128_19 (LX0_173 n).scene, zw_nat (by omega), if_pos (by omega)]
    rfl
  | m + 1, i, u, hm, he, hS => by
    have wi := raF_wf hw ha ta i
    have wi1 := raF_wf hw ha ta (i + 1)
    have r := s_rai (S := Z0 n) (LX0_173 n).scene hS wi ha ta
    have S1 : ScC (zu u 176 a (nxp (raF F a i a))) 174 W H N T (raF F a (i + 1)) G := by
      obtain ⟨a1, a2, a3, a4⟩ := hS
      refine ⟨by rw [zu_off (by omega)]; exact a1, by rw [zu_off (by omega)]; exact a2, by rw [zu_off (by omega)]; exact a3, fun k hk => ?_⟩
      obtain ⟨b1, b2, b3⟩ := a4 k hk
      refine ⟨by rw [zu_off (by omega)]; exact b1, ?_, by rw [zu_off (by omega)]; exact b3⟩
      show zu u 176 a (nxp (raF F a i a)) 176 k = fu (raF F a i) a (nxp (raF F a i a)) k
      by_cases q : k = a
      · rw [q, zu_eq, fu_same]
      · rw [zu_off (by omega), fu_ne q]; exact b2
    have zz := dZ_in (W := W) (H := H) hw
    have z1 := dZ_in (W := W) (H := H) wi1
    have et : tgR N W T F G a (m + 1) i = if czo N W T (raF F a (i + 1)) G = czo N W T F G then tgR N W T F G a m (i + 1) else ((i + 1 : Nat) : Int) := rfl
    rw [et, b128_19 (LX0_173 n).scene, zw_nat (by omega), if_neg (by omega), b128_24 (LX0_173 n).scene (LX0_173 n).scene r]
    cases c : wrs N W T (raF F a i) a 4
    · have same : czo N W T (raF F a (i + 1)) G = czo N W T F G := (czo_wr wi ha ta c).trans he
      obtain ⟨u', e, f⟩ := c_tgh hw ha ta m (i + 1) _ (by omega) same S1
      refine ⟨u', ?_, fun x k q => by rw [f x k q, zu_off (by omega)]⟩
      rw [if_pos (by decide), b128_33 (LX0_173 n).scene, if_pos same]
      exact e
    · obtain ⟨h2, e2, s2, -, f2⟩ := c_cost (n := n) S1 wi1
      rw [if_neg (by decide), b128_28 (LX0_173 n).scene (LX0_173 n) e2, zw_id (z := czo N W T (raF F a (i + 1)) G) (by omega) (by omega), zw_id (z := czo N W T F G) (by omega) (by omega)]
      by_cases d : czo N W T (raF F a (i + 1)) G = czo N W T F G
      · obtain ⟨u', e, f⟩ := c_tgh hw ha ta m (i + 1) _ (by omega) d s2
        refine ⟨u', ?_, fun x k q => by rw [f x k q, f2 x k q, zu_off (by omega)]⟩
        rw [if_pos d, b128_33 (LX0_173 n).scene, if_pos d]
        exact e
      · refine ⟨h2, ?_, fun x k q => by rw [f2 x k q, zu_off (by omega)]⟩
        rw [if_neg d, if_neg d]
theorem m_tgh (hw : wfS W H N T F G) {a : Nat} (ha : a < N) (ta : T a = true) : ∀ (m i : Nat) (u : zH), i + m = 399 → czo N W T (raF F a i) G = czo N W T F G → RfC u W H N T (raF F a i) G → (∀ j, j < scJ N W T → u 236 j = ofv (raF F a i) (scf N W T j) (sct N W T j)) → ∃ u', Zx 232 34 [zR 202, zN, zI (a : Int), zI (czo N W T F G), zI ((i + 1 : Nat) : Int), zN, zN] [] (Z0 n) u = some (some (zI (tgR N W T F G a m i)), Z0 n, u') ∧ frM u' u
  | 0, i, u, hm, he, hR, hO => by
    refine ⟨u, ?_, frM.rf⟩
    rw [b232_34, zw_nat (by omega), if_pos (by omega)]
    rfl
  | m + 1, i, u, hm, he, hR, hO => by
    have h25 := hw.2.2.2.1
    have wi := raF_wf hw ha ta i
    have wi1 := raF_wf hw ha ta (i + 1)
    have fi := wi.f a ha ta
    have j40 : scJ N W T ≤ 40 := jl_40 hw.1 hw.2.1 hw.2.2.1
    have en : Int.tmod (zw (raF F a i a + 1)) 400 = nxp (raF F a i a) := by
      rw [zw_id (by omega) (by omega)]
      unfold nxp
      by_cases q : raF F a i a = 399
      · rw [if_pos q, q]; rfl
      · rw [if_neg q]; exact Int.tmod_eq_of_lt (by omega) (by omega)
    have e1 : Zx 217 0 [zR 202, zI (a : Int), zI 1] [] (Z0 n) u = some (none, Z0 n, zu u 215 a (nxp (raF F a i a))) := by
      rw [b217_0 (by omega) (by omega) (by omega) (by omega), Int.toNat_natCast, (hR.2.2.2.1 a ha).2.1, en]
    have R1 : RfC (zu u 215 a (nxp (raF F a i a))) W H N T (raF F a (i + 1)) G := by
      obtain ⟨a1, a2, a3, a4, a5⟩ := hR
      refine ⟨by rw [zu_off (by omega)]; exact a1, by rw [zu_off (by omega)]; exact a2, by rw [zu_off (by omega)]; exact a3, fun k hk => ?_, fun k hk hk2 => by rw [zu_off (by omega)]; exact a5 k hk hk2⟩
      obtain ⟨b1, b2, b3⟩ := a4 k hk
      refine ⟨by rw [zu_off (by omega)]; exact b1, ?_, by rw [zu_off (by omega)]; exact b3⟩
      show zu u 215 a (nxp (raF F a i a)) 215 k = fu (raF F a i) a (nxp (raF F a i a)) k
      by_cases q : k = a
      · rw [q, zu_eq, fu_same]
      · rw [zu_off (by omega), fu_ne q]; exact b2
    obtain ⟨g2, e2, C2, f2⟩ := m_fcp (n := n) R1 wi1
    have O2 : ∀ j, j < scJ N W T → g2 236 j = ofv (raF F a i) (scf N W T j) (sct N W T j) := fun j hj => by
      rw [f2 _ _ (by omega) (by omega) (by omega) (by omega) (by omega), zu_off (by omega)]; exact hO j hj
    have R2 : RfC g2 W H N T (raF F a (i + 1)) G := R1.cg (fun x k q => f2 x k (by omega) (by omega) (by omega) (by omega) (by omega))
    obtain ⟨⟨g3, fl⟩, e3, i1, i2, i3⟩ := z_inv (N := scJ N W T) (X := fun c (s : zH × Int) => Zx 232 47 [zR 202, zN, zI (a : Int), zI (czo N W T F G), zI ((i + 1 : Nat) : Int), zI s.2, zI (c : Int)] [] (Z0 n) s.1) (I := fun c s => ((s.2 = 0 ∧ ∀ j, j < c → ofv (raF F a (i + 1)) (scf N W T j) (sct N W T j) = ofv (raF F a i) (scf N W T j) (sct N W T j)) ∨ s.2 = 1) ∧ (∀ j, j < scJ N W T → s.1 236 j = if j < c then ofv (raF F a (i + 1)) (scf N W T j) (sct N W T j) else ofv (raF F a i) (scf N W T j) (sct N W T j)) ∧ ∀ x k, x ≠ 236 → s.1 x k = g2 x k) (s := ((g2, 0) : zH × Int)) ⟨Or.inl ⟨rfl, fun j q => absurd q (Nat.not_lt_zero j)⟩, fun j hj => by rw [if_neg (Nat.not_lt_zero j)]; exact O2 j hj, fun x k _ => rfl⟩ (fun c s hc Is => by
      obtain ⟨g, fl⟩ := s
      obtain ⟨i1, i2, i3⟩ := Is
      (try dsimp only at i1 i2 i3 ⊢)
      have Cg : CpC g N W T (raF F a (i + 1)) G := C2.cg (fun x k q => i3 x k (by omega))
      obtain ⟨a1, a2, a3, a4, a5⟩ := sc_at wi hc
      have o1 := ofv_in wi (a := scf N W T c) (b := sct N W T c) (by omega) a2
      have o2 := ofv_in wi1 (a := scf N W T c) (b := sct N W T c) (by omega) a2
      have st := b232_47 (n := n) (h := g) (l2 := (a : Int)) (l3 := czo N W T F G) (l4 := ((i + 1 : Nat) : Int)) (l5 := fl) (l6 := (c : Int)) (by intros; omega) (by intros; omega) (by intros; omega) (by intros; omega)
      have c236 : g 236 c = ofv (raF F a i) (scf N W T c) (sct N W T c) := by
        rw [i2 c hc, if_neg (Nat.lt_irrefl c)]
      rw [Cg.1, zw_nat (n := scJ N W T) (by omega), zw_nat (n := c) (by omega), if_neg (by omega), Int.toNat_natCast, (Cg.2 c hc).2.2.1, c236, zw_id (z := ofv (raF F a (i + 1)) (scf N W T c) (sct N W T c)) (by omega) (by omega), zw_id (z := ofv (raF F a i) (scf N W T c) (sct N W T c)) (by omega) (by omega), b232_62, b232_65 (by intros; omega) (by intros; omega) (by intros; omega) (by intros; omega), b232_65 (by intros; omega) (by intros; omega) (by intros; omega) (by intros; omega), Int.toNat_natCast, (Cg.2 c hc).2.2.1] at st
      have put : ∀ j, j < scJ N W T → (zu g 236 c (ofv (raF F a (i + 1)) (scf N W T c) (sct N W T c))) 236 j = if j < c + 1 then ofv (raF F a (i + 1)) (scf N W T j) (sct N W T j) else ofv (raF F a i) (scf N W T j) (sct N W T j) := fun j hj => by
        by_cases q : j = c
        · rw [q, zu_eq, if_pos (by omega)]
        · rw [zu_off (by omega), i2 j hj]
          by_cases r : j < c
          · rw [if_pos r, if_pos (by omega)]
          · rw [if_neg r, if_neg (by omega)]
      rcases i1 with ⟨j1, j2⟩ | j1
      · subst j1
        rw [if_neg (fun q => q zw0)] at st
        by_cases d : ofv (raF F a (i + 1)) (scf N W T c) (sct N W T c) = ofv (raF F a i) (scf N W T c) (sct N W T c)
        · rw [if_pos d] at st
          refine ⟨(zu g 236 c (ofv (raF F a (i + 1)) (scf N W T c) (sct N W T c)), 0), st, Or.inl ⟨rfl, fun j hj => ?_⟩, put, fun x k q => (zu_off (Or.inl q)).trans (i3 x k q)⟩
          by_cases q : j = c
          · rw [q]; exact d
          · exact j2 j (by omega)
        · rw [if_neg d] at st
          exact ⟨(zu g 236 c (ofv (raF F a (i + 1)) (scf N W T c) (sct N W T c)), 1), st, Or.inr rfl, put, fun x k q => (zu_off (Or.inl q)).trans (i3 x k q)⟩
      · subst j1
        rw [if_pos (show ¬ zw 1 = 0 by decide)] at st
        exact ⟨(zu g 236 c (ofv (raF F a (i + 1)) (scf N W T c) (sct N W T c)), 1), st, Or.inr rfl, put, fun x k q => (zu_off (Or.inl q)).trans (i3 x k q)⟩)
    (try dsimp only at e3 i1 i2 i3)
    have C3 : CpC g3 N W T (raF F a (i + 1)) G := C2.cg (fun x k q => i3 x k (by omega))
    have R3 : RfC g3 W H N T (raF F a (i + 1)) G := R2.cg (fun x k q => i3 x k (by omega))
    have O3 : ∀ j, j < scJ N W T → g3 236 j = ofv (raF F a (i + 1)) (scf N W T j) (sct N W T j) := fun j hj => by rw [i2 j hj, if_pos hj]
    have fr3 : frM g3 u := fun x k q => by rw [i3 x k (by omega), f2 x k (by omega) (by omega) (by omega) (by omega) (by omega), zu_off (by omega)]
    have start : Zx 232 34 [zR 202, zN, zI (a : Int), zI (czo N W T F G), zI ((i + 1 : Nat) : Int), zN, zN] [] (Z0 n) u = if fl = 0 then Zx 232 34 [zR 202, zN, zI (a : Int), zI (czo N W T F G), zI ((i + 1 + 1 : Nat) : Int), zN, zN] [] (Z0 n) g3 else Zx 232 79 [zR 202, zN, zI (a : Int), zI (czo N W T F G), zI ((i + 1 : Nat) : Int), zN, zN] [zR 202] (Z0 n) g3 := by
      rw [b232_34, zw_nat (by omega), if_neg (by omega), b232_40 e1, b232_42 e2]
      refine Eq.trans e3 ?_
      show Zx 232 47 _ _ _ _ = _
      have fz : zw fl = fl := by
        rcases i1 with ⟨q, -⟩ | q <;> rw [q] <;> decide
      rw [b232_47 (by rw [C3.1]; intro q; exact absurd (Int.le_refl _) q) (by rw [C3.1]; intro q; exact absurd (Int.le_refl _) q) (by rw [C3.1]; intro q; exact absurd (Int.le_refl _) q) (by rw [C3.1]; intro q; exact absurd (Int.le_refl _) q), C3.1, if_pos (Int.le_refl _), fz, b232_86]
      rfl
    have zz := dZ_in (W := W) (H := H) hw
    have z1 := dZ_in (W := W) (H := H) wi1
    have et : tgR N W T F G a (m + 1) i = if czo N W T (raF F a (i + 1)) G = czo N W T F G then tgR N W T F G a m (i + 1) else ((i + 1 : Nat) : Int) := rfl
    rw [et, start]
    rcases i1 with ⟨q1, q2⟩ | q1
    · have same : czo N W T (raF F a (i + 1)) G = czo N W T F G := (czo_off wi wi1 q2).trans he
      obtain ⟨u', e, f⟩ := m_tgh hw ha ta m (i + 1) g3 (by omega) same R3 O3
      refine ⟨u', ?_, f.tr fr3⟩
      rw [if_pos q1, if_pos same]
      exact e
    · obtain ⟨g4, z, tl, tg, e4, V4, f4⟩ := m_ftu (n := n) R3 wi1
      have fr4 : frM g4 u := fun x k q => by rw [f4 x k (by omega) (by omega)]; exact fr3 x k q
      rw [if_neg (by omega), b232_79 e4, (V4.cn wi1).2.2.2.2.1, zw_id (z := czo N W T (raF F a (i + 1)) G) (by omega) (by omega), zw_id (z := czo N W T F G) (by omega) (by omega)]
      by_cases d : czo N W T (raF F a (i + 1)) G = czo N W T F G
      · obtain ⟨u', e, f⟩ := m_tgh hw ha ta m (i + 1) g4 (by omega) d V4.1 (fun j hj => by rw [f4 _ _ (by omega) (by omega)]; exact O3 j hj)
        refine ⟨u', ?_, f.tr fr4⟩
        rw [if_pos d, b232_86, if_pos d]
        exact e
      · refine ⟨g4, ?_, fr4⟩
        rw [if_neg d, if_neg d]
/-- tough -/
theorem op_tough (hA : wfA A) {p k : Int} (hp : zint p) (hk : zint k) : OpI n 128 232 [zR 1, zI p, zI k, zN, zN, zN] [zR 202, zI p, zI k, zN, zN, zN, zN] A := by
  by_cases cp : 0 ≤ p ∧ p < aNp A
  case neg =>
    refine ⟨-1, fun h hS => ⟨h, ?_, hS, frC.rf⟩, fun g hM => ⟨zu g 202 0 0, ?_, frM0⟩⟩
    · rw [b128_0, b128_3 (c_ith0 hS hA hp cp), if_neg (fun q => q zw0)]
    · rw [b232_0, b232_5 (m_lay0 (McT0 hM) hA hp cp), if_pos zw0, b232_11]
  obtain ⟨p, rfl, hp'⟩ := nat_of cp
  have np := hA.2.1
  have p3 : p < 3 := by omega
  have wD := hA.2.2.1 p hp'
  have hD := wfS_D wD
  have hN := dN25 wD
  by_cases ck : 0 ≤ k ∧ k < dN (aPic A p) ∧ dT (aPic A p) k.toNat = true
  case neg =>
    refine ⟨-1, fun h hS => ?_, fun g hM => ?_⟩
    · obtain ⟨h1, e1, S1, f1⟩ := c_ith (n := n) hS hA hp' hk
      rw [if_neg ck] at e1
      exact ⟨h1, by rw [b128_0, b128_3 e1, if_neg (fun q => q zw0)], S1, f1⟩
    · obtain ⟨g1, e1, H1, V1, n1, f1⟩ := m_layP (n := n) (McT0 (v := 0) (k := 0) hM) hA hp'
      refine ⟨g1, ?_, f1.tr frM0⟩
      rw [b232_0, b232_5 e1, if_neg (show ¬ zw 1 = 0 by decide), b232_9 (m_ith V1.1 hD hk), if_neg (fun q => q (zif_pos ck)), b232_11]
  have tk := ck.2.2
  have ck0 := ck
  obtain ⟨k, rfl, hk'⟩ := nat_of (m := dN (aPic A p)) ⟨ck.1, ck.2.1⟩
  rw [Int.toNat_natCast] at tk
  refine ⟨tgR (dN (aPic A p)) (dW (aPic A p)) (dT (aPic A p)) (dF (aPic A p)) (dG (aPic A p)) k 399 0, fun h hS => ?_, fun g hM => ?_⟩
  · obtain ⟨h1, e1, S1, f1⟩ := c_ith (n := n) hS hA hp' hk
    rw [if_pos ck0] at e1
    obtain ⟨h2, e2, S2, V2, f2⟩ := c_hts (n := n) S1 hA hp'
    obtain ⟨h3, e3, s3, f3⟩ := c_sup (n := n) S2 hA hp'
    obtain ⟨h4, e4, f4⟩ := c_tgh (n := n) hD hk' tk 399 0 h3 (by omega) rfl s3
    refine ⟨h4, ?_, S2.cg hA (fun x i q => by rw [f4 x i (by omega)]; exact f3 x i (by omega)), fun x i q => by rw [f4 x i (by omega), f3 x i (by omega), f2 x i (by omega)]; exact f1 x i q⟩
    rw [b128_0, b128_3 e1, if_pos (show ¬ zw 1 = 0 by decide), b128_9 (LX0_p p3) e2, V2.cost, b128_14 (LX0_173 n) e3]
    exact e4
  · obtain ⟨g1, e1, H1, V1, n1, f1⟩ := m_layP (n := n) (McT0 (v := 0) (k := 0) hM) hA hp'
    have j40 : scJ (dN (aPic A p)) (dW (aPic A p)) (dT (aPic A p)) ≤ 40 := jl_40 hD.1 hD.2.1 hD.2.2.1
    have e33 := V1.2.2.1.1
    obtain ⟨g2, e2, i1, i2⟩ := z_inv (N := scJ (dN (aPic A p)) (dW (aPic A p)) (dT (aPic A p))) (X := fun c (u : zH) => Zx 232 18 [zR 202, zN, zI (k : Int), zI (dZ (aPic A p)), zI (c : Int), zN, zN] [] (Z0 n) u) (I := fun c u => (∀ j, j < c → u 236 j = ofv (dF (aPic A p)) (scf (dN (aPic A p)) (dW (aPic A p)) (dT (aPic A p)) j) (sct (dN (aPic A p)) (dW (aPic A p)) (dT (aPic A p)) j)) ∧ ∀ x i, x ≠ 236 → u x i = g1 x i) (s := g1) ⟨fun j q => absurd q (Nat.not_lt_zero j), fun x i _ => rfl⟩ (fun c u hc Iu => by
      have c33 : u 202 33 = (scJ (dN (aPic A p)) (dW (aPic A p)) (dT (aPic A p)) : Int) := by rw [Iu.2 _ _ (by omega)]; exact e33
      refine ⟨zu u 236 c (ofv (dF (aPic A p)) (scf (dN (aPic A p)) (dW (aPic A p)) (dT (aPic A p)) c) (sct (dN (aPic A p)) (dW (aPic A p)) (dT (aPic A p)) c)), ?_, fun j hj => ?_, fun x i q => by rw [zu_off (by omega)]; exact Iu.2 x i q⟩
      · show Zx 232 18 _ _ _ _ = Zx 232 18 _ _ _ _
        rw [b232_18 (by intros; omega) (by intros; omega) (by intros; omega) (by intros; omega), c33, zw_nat (by omega), zw_nat (by omega), if_neg (by omega), Int.toNat_natCast, Iu.2 _ _ (by omega), (V1.2.2.1.2 c hc).2.2.1]
        rfl
      · by_cases q : j = c
        · rw [q, zu_eq]
        · rw [zu_off (by omega)]; exact Iu.1 j (by omega))
    have R2 : RfD g2 (aPic A p) := V1.1.cg (fun x i q => i2 x i (by omega))
    obtain ⟨g3, e3, f3⟩ := m_tgh (n := n) hD hk' tk 399 0 g2 (by omega) rfl R2 (fun j hj => i1 j hj)
    refine ⟨g3, ?_, fun x i q => by rw [f3 x i q, i2 x i (by omega), f1 x i q]; exact frM0 x i q⟩
    rw [b232_0, b232_5 e1, if_neg (show ¬ zw 1 = 0 by decide), b232_9 (m_ith V1.1 hD hk), if_pos (zif_neg ck0), V1.2.2.2.2.1]
    refine e2.trans ?_
    show Zx 232 18 _ _ _ _ = _
    have c33 : g2 202 33 = (scJ (dN (aPic A p)) (dW (aPic A p)) (dT (aPic A p)) : Int) := by rw [i2 _ _ (by omega)]; exact e33
    rw [b232_18 (by rw [c33]; intro q; exact absurd (Int.le_refl _) q) (by rw [c33]; intro q; exact absurd (Int.le_refl _) q) (by rw [c33]; intro q; exact absurd (Int.le_refl _) q) (by rw [c33]; intro q; exact absurd (Int.le_refl _) q), c33, if_pos (Int.le_refl _)]
    exact e3
end OPK
