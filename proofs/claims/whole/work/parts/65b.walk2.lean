/-! THE CLASS'S SCENE: the whole walk -/
section WK2
variable {S : zS} {h : zH} {o W H N : Nat} {T : Nat → Bool} {F G : Nat → Int} {P : Nat → Bool}
theorem wfr_in {k : Nat} : -1 ≤ wfr N W P k ∧ wfr N W P k < N := by
  unfold wfr
  rcases fst_cases (fun j => P j && bsd W j k) N with ⟨h1, -⟩ | ⟨j, h1, h2, -⟩
  · rw [h1]; omega
  · rw [h2]; omega
theorem wfr_none {k : Nat} : wfr N W P k = -1 ↔ ∀ j, j < N → ¬ (P j = true ∧ bsd W j k = true) := by
  unfold wfr
  rcases fst_cases (fun j => P j && bsd W j k) N with ⟨h1, h2⟩ | ⟨j, h1, h2, h3, h4⟩
  · refine ⟨fun _ j hj z => ?_, fun _ => h1⟩
    have := h2 j hj
    simp [z.1, z.2] at this
  · refine ⟨fun z => by rw [h2] at z; omega, fun z => ?_⟩
    rw [Bool.and_eq_true] at h3
    exact absurd h3 (z j h1)
theorem wfr_some {k : Nat} (h : wfr N W P k ≠ -1) : ∃ j, j < N ∧ wfr N W P k = (j : Int) ∧ P j = true ∧ bsd W j k = true := by
  unfold wfr at *
  rcases fst_cases (fun j => P j && bsd W j k) N with ⟨h1, h2⟩ | ⟨j, h1, h2, h3, h4⟩
  · exact absurd h1 h
  · rw [Bool.and_eq_true] at h3
    exact ⟨j, h1, h2, h3.1, h3.2⟩
theorem wnx_cases : (wnx N W T P = -1 ∧ ∀ k, k < N → T k = true → P k = true) ∨ ∃ k, k < N ∧ wnx N W T P = (k : Int) ∧ T k = true ∧ P k = false ∧ ((wfr N W P k ≠ -1 ∧ ∀ i, i < k → T i = true → P i = false → wfr N W P i = -1) ∨ ((∀ i, i < N → T i = true → P i = false → wfr N W P i = -1) ∧ ∀ i, i < k → T i = true → P i = true)) := by
  unfold wnx
  rcases fst_cases (fun k => T k && !P k && !decide (wfr N W P k = -1)) N with ⟨h1, h2⟩ | ⟨k, h1, h2, h3, h4⟩
  · rw [if_pos h1]
    have no : ∀ i, i < N → T i = true → P i = false → wfr N W P i = -1 := fun i hi a b => by
      have := h2 i hi
      simpa [a, b] using this
    rcases fst_cases (fun k => T k && !P k) N with ⟨g1, g2⟩ | ⟨k, g1, g2, g3, g4⟩
    · refine Or.inl ⟨g1, fun k hk a => ?_⟩
      have := g2 k hk
      simpa [a] using this
    · rw [Bool.and_eq_true, Bool.not_eq_true'] at g3
      refine Or.inr ⟨k, g1, g2, g3.1, g3.2, Or.inr ⟨no, fun i hi a => ?_⟩⟩
      have := g4 i hi
      simpa [a] using this
  · rw [h2, if_neg (by omega)]
    rw [Bool.and_eq_true, Bool.and_eq_true, Bool.not_eq_true', Bool.not_eq_true', decide_eq_false_iff_not] at h3
    refine Or.inr ⟨k, h1, rfl, h3.1.1, h3.1.2, Or.inl ⟨h3.2, fun i hi a b => ?_⟩⟩
    have := h4 i hi
    simpa [a, b] using this
theorem wst_stop {s : wS} {i : Nat} (h : wnx N W T (wst N W T F s i).1 = -1) : ∀ j, wst N W T F s (i + j) = wst N W T F s i
  | 0 => rfl
  | j + 1 => by
    show (if wnx N W T (wst N W T F s (i + j)).1 = -1 then wst N W T F s (i + j) else _) = _
    rw [wst_stop h j, if_pos h]
theorem near_go {k : Nat} {R : Nat → Int} (hW : 2 ≤ W ∧ W ≤ 5) (hN : N = W * H) (hk : k < N) (hR : bar N R (fun k => !decide (wfr N W P k = -1))) : bar N (mk4 W N k R 4) (fun j => !decide (wfr N W (fun j => P j || decide (j = k)) j = -1)) := by
  intro j hj
  show zb1 _ = if (!decide (wfr N W (fun j => P j || decide (j = k)) j = -1)) = true then 1 else 0
  rcases mk4_e (W := W) (N := N) (R := R) (k := k) (j := j) 4 with ⟨h1, h2⟩ | ⟨h1, t, h2, h3, h4⟩
  · rw [h1, hR j hj]
    have nb : bsd W k j = false := by
      cases q : bsd W k j
      · rfl
      · obtain ⟨t, t1, t2⟩ := (bs_bsd hW hN hk).mp ⟨hj, q⟩
        exact absurd t2 (h2 t t1)
    have e : wfr N W (fun j => P j || decide (j = k)) j = -1 ↔ wfr N W P j = -1 := by
      rw [wfr_none, wfr_none]
      constructor
      · intro g i hi z
        exact g i hi ⟨by rw [z.1]; rfl, z.2⟩
      · intro g i hi z
        have z1 := z.1
        rw [Bool.or_eq_true, decide_eq_true_eq] at z1
        rcases z1 with z1 | z1
        · exact g i hi ⟨z1, z.2⟩
        · rw [z1, nb] at z
          exact Bool.noConfusion z.2
    by_cases c : wfr N W P j = -1
    · simp [c, e.mpr c]
    · have c2 : ¬ wfr N W (fun j => P j || decide (j = k)) j = -1 := fun z => c (e.mp z)
      simp [c, c2]
  · rw [h1]
    have bi := bs_in (s := t) hW hN hk h2
    have b := ((bs_bsd hW hN hk).mpr ⟨t, h2, show bs W N k t = (j : Int) by have := bi.2.2 h3; omega⟩).2
    have c : ¬ wfr N W (fun j => P j || decide (j = k)) j = -1 := fun z => wfr_none.mp z k hk ⟨by simp, b⟩
    simp [c]
    decide
/-- Scene.walk -/
theorem s_wlk (hL : LX5 S o) (hS : ScC h o W H N T F G) (hw : wfS W H N T F G) : ∃ A R : Nat → Int, Zx 71 0 [zR o, zN, zN, zN] [] S h = some (none, S, hk o ((wst N W T F (fun _ => false, h (o + 4), 0, h (o + 5)) N).2.2.1 : Int) (wst N W T F (fun _ => false, h (o + 4), 0, h (o + 5)) N).2.1 (wst N W T F (fun _ => false, h (o + 4), 0, h (o + 5)) N).2.2.2 A R h) := by
  have hww := hw
  obtain ⟨w1, ⟨w3, w4⟩, w5, w6, wk⟩ := hww
  have hss := hS
  obtain ⟨s0, s1, s2, sk⟩ := hss
  have start : Zx 71 0 [zR o, zN, zN, zN] [] S h = Zx 71 11 [zR o, zI 0, zN, zN] [] S (hk o 0 (h (o + 4)) (h (o + 5)) (fun k => if k < 25 then 0 else h (o + 6) k) (fun k => if k < 25 then 0 else h (o + 7) k) h) := by
    rw [b71_0 hL, b71_5 hL hL.2.2.2.2.2.2.1 (by omega) (s_wipe hL.2.2.2.2.2.2.1 (by omega)), b71_8 hL hL.2.2.2.2.2.2.2 (by omega) (s_wipe hL.2.2.2.2.2.2.2 (by omega))]
    refine congrArg (fun H => Zx 71 11 [zR o, zI 0, zN, zN] [] S H) ?_
    funext x k
    show (if x = o + 7 ∧ k < 25 then 0 else (if x = o + 6 ∧ k < 25 then 0 else (if x = o ∧ k = 6 then 0 else h x k))) = _
    by_cases q2 : x = o + 7
    · subst q2
      rw [hk_7]
      show _ = if k < 25 then 0 else h (o + 7) k
      by_cases q3 : k < 25
      · rw [if_pos ⟨rfl, q3⟩, if_pos q3]
      · rw [if_neg (fun z => q3 z.2), if_neg (show ¬ (o + 7 = o + 6 ∧ k < 25) by omega), if_neg (show ¬ (o + 7 = o ∧ k = 6) by omega), if_neg q3]
    rw [if_neg (fun z => q2 z.1)]
    by_cases q3 : x = o + 6
    · subst q3
      rw [hk_6]
      show _ = if k < 25 then 0 else h (o + 6) k
      by_cases q4 : k < 25
      · rw [if_pos ⟨rfl, q4⟩, if_pos q4]
      · rw [if_neg (fun z => q4 z.2), if_neg (show ¬ (o + 6 = o ∧ k = 6) by omega), if_neg q4]
    rw [if_neg (fun z => q3 z.1)]
    unfold hk
    by_cases q1 : x = o ∧ k = 6
    · rw [if_pos q1, if_pos q1]
    rw [if_neg q1, if_neg q1]
    by_cases q4 : x = o + 4
    · rw [if_pos q4, q4]
    rw [if_neg q4]
    by_cases q5 : x = o + 5
    · rw [if_pos q5, q5]
    rw [if_neg q5, if_neg q3, if_neg q2]
  have key : ∀ n i (A R : Nat → Int), i + n = N → bar N A (wst N W T F (fun _ => false, h (o + 4), 0, h (o + 5)) i).1 → bar N R (fun k => !decide (wfr N W (wst N W T F (fun _ => false, h (o + 4), 0, h (o + 5)) i).1 k = -1)) → ∃ A' R' : Nat → Int, Zx 71 11 [zR o, zI (i : Int), zN, zN] [] S (hk o ((wst N W T F (fun _ => false, h (o + 4), 0, h (o + 5)) i).2.2.1 : Int) (wst N W T F (fun _ => false, h (o + 4), 0, h (o + 5)) i).2.1 (wst N W T F (fun _ => false, h (o + 4), 0, h (o + 5)) i).2.2.2 A R h) = some (none, S, hk o ((wst N W T F (fun _ => false, h (o + 4), 0, h (o + 5)) N).2.2.1 : Int) (wst N W T F (fun _ => false, h (o + 4), 0, h (o + 5)) N).2.1 (wst N W T F (fun _ => false, h (o + 4), 0, h (o + 5)) N).2.2.2 A' R' h) := by
    intro n
    induction n with
    | zero =>
      intro i A R hi _ _
      have : i = N := by omega
      subst this
      refine ⟨A, R, ?_⟩
      rw [b71_11 hL, hk_o (by omega), s2, if_pos (Int.le_refl _)]
    | succ n ih =>
      intro i A R hi hA hR
      have ih2 := ih (i + 1)
      have st : wst N W T F (fun _ => false, h (o + 4), 0, h (o + 5)) (i + 1) = if wnx N W T (wst N W T F (fun _ => false, h (o + 4), 0, h (o + 5)) i).1 = -1 then wst N W T F (fun _ => false, h (o + 4), 0, h (o + 5)) i else wgo N W F (wnx N W T (wst N W T F (fun _ => false, h (o + 4), 0, h (o + 5)) i).1).toNat (wst N W T F (fun _ => false, h (o + 4), 0, h (o + 5)) i) := rfl
      have sp := fun c => wst_stop (N := N) (W := W) (T := T) (F := F) (s := (fun _ => false, h (o + 4), 0, h (o + 5))) (i := i) c (n + 1)
      rw [hi] at sp
      generalize wst N W T F (fun _ => false, h (o + 4), 0, h (o + 5)) N = fin at *
      rw [st] at ih2
      generalize wst N W T F (fun _ => false, h (o + 4), 0, h (o + 5)) i = s at *
      obtain ⟨P, q, m, w⟩ := s
      dsimp only at *
      have nx := s_nxw (P := P) (h := hk o (m : Int) q w A R h) hL (ScC_hk hS) (W := W) w6 (by intro k hk; rw [hk_6]; exact hA k hk) (by intro k hk; rw [hk_7]; exact hR k hk)
      have row : Zx 71 11 [zR o, zI (i : Int), zN, zN] [] S (hk o (m : Int) q w A R h) = if ¬ zw (wnx N W T P) = -1 then Zx 71 24 [zR o, zI (i : Int), zI (wnx N W T P), zN] [zI (wnx N W T P), zR o] S (hk o (m : Int) q w A R h) else some (none, S, hk o (m : Int) q w A R h) := by
        rw [b71_11 hL, hk_o (by omega), s2, zw_nat (by omega), zw_nat (by omega), if_neg (by omega), b71_16 hL hL nx]
      rw [row]
      rcases wnx_cases (N := N) (W := W) (T := T) (P := P) with ⟨c1, -⟩ | ⟨k, c1, c2, c3, c4, -⟩
      · refine ⟨A, R, ?_⟩
        rw [c1, zwm1, if_neg (fun z => z rfl), sp c1]
      · rw [c2, zw_nat (by omega), if_pos (by omega)]
        rw [c2, if_neg (by omega), Int.toNat_natCast] at ih2
        have fr := s_lwb (P := P) (h := hk o (m : Int) q w A R h) hL (ScC_hk hS) hw (by intro k hk; rw [hk_6]; exact hA k hk) c1
        obtain ⟨fr1, fr2⟩ := wfr_in (N := N) (W := W) (P := P) (k := k)
        have barA : bar N (fu A k 1) (fun j => P j || decide (j = k)) := by
          intro j hj
          by_cases e : j = k
          · subst e
            rw [fu_same, if_pos (by simp)]
            rfl
          · rw [fu_ne e, hA j hj]
            simp [e]
        have tail : ∀ (m' : Int) (q' w' : Nat → Int), Zx 71 71 [zR o, zI (i : Int), zI (k : Int), zN] [] S (hk o m' q' w' A R h) = Zx 71 11 [zR o, zI ((i + 1 : Nat) : Int), zN, zN] [] S (hk o m' q' w' (fu A k 1) (mk4 W N k R 4) h) := by
          intro m' q' w'
          rw [b71_71 hL (by intros; omega) (by intros; omega), Int.toNat_natCast, zu_hk_6, b71_78 hL hL (s_mkn hL hS hw c1)]
          rfl
        have k0 : (0 : Int) ≤ (k : Int) := by omega
        have k25 : (k : Int) < 25 := by omega
        have zf := zw_id (z := wfr N W P k) (by omega) (by omega)
        by_cases d : wfr N W P k = -1
        · have g : wgo N W F k (P, q, m, w) = (fun j => P j || decide (j = k), fu q k (m : Int), m + 1, fu w k (F k)) := if_pos d
          rw [g] at ih2
          obtain ⟨A', R', e⟩ := ih2 (fu A k 1) (mk4 W N k R 4) (by omega) barA (near_go w1 w5 c1 hR)
          refine ⟨A', R', ?_⟩
          rw [← e, b71_24 hL hL fr (fun g => absurd (zf.trans d) g) (fun g => absurd (zf.trans d) g) (fun g => absurd (zf.trans d) g) (fun g => absurd (zf.trans d) g) (fun g => absurd (zf.trans d) g) (fun g => absurd (zf.trans d) g) (fun _ => k0) (fun _ => k25) (fun _ => k0) (fun _ => k25) (fun _ => k0) (fun _ => k25), zf, if_neg (fun z => z d), Int.toNat_natCast, hk_m, zu_hk_4, hk_m, zu_hk_m, zu_hk_5, hk_o (y := o + 2) (by omega), (sk k c1).2.1, tail]
          rfl
        · obtain ⟨a, a1, a2, a3, a4⟩ := wfr_some d
          have g : wgo N W F k (P, q, m, w) = (fun j => P j || decide (j = k), fu q k (q a), m, fu w k (w a + pdif a k (F a) (F k))) := by
            unfold wgo
            rw [if_neg d]
            simp only [a2, Int.toNat_natCast]
          rw [g] at ih2
          obtain ⟨A', R', e⟩ := ih2 (fu A k 1) (mk4 W N k R 4) (by omega) barA (near_go w1 w5 c1 hR)
          refine ⟨A', R', ?_⟩
          rw [a2] at fr zf d
          have a0 : (0 : Int) ≤ (a : Int) := by omega
          have a25 : (a : Int) < 25 := by omega
          rw [← e, b71_24 hL hL fr (fun _ => a0) (fun _ => a25) (fun _ => k0) (fun _ => k25) (fun _ => a0) (fun _ => a25) (fun _ => k0) (fun _ => k25) (fun _ => k0) (fun _ => k25) (fun _ => k0) (fun _ => k25), zf, if_pos (by omega), Int.toNat_natCast, Int.toNat_natCast, hk_4, zu_hk_4, hk_5]
          have sd := s_sdif (h := hk o (m : Int) (fu q k (q a)) w A R h) hL (a := a) (b := k) (by omega) (by omega) (by rw [hk_o (by omega), (sk a a1).2.1]; exact (wk a a1).1.1) (by rw [hk_o (by omega), (sk a a1).2.1]; exact (wk a a1).1.2) (by rw [hk_o (by omega), (sk k c1).2.1]; exact (wk k c1).1.1) (by rw [hk_o (by omega), (sk k c1).2.1]; exact (wk k c1).1.2)
          rw [hk_o (by omega), hk_o (by omega), (sk a a1).2.1, (sk k c1).2.1] at sd
          rw [b71_68 hL hL.2.2.2.2.2.1 (by omega) hL sd (by intros; omega) (by intros; omega), Int.toNat_natCast, zu_hk_5, tail]
  obtain ⟨A, R, e⟩ := key N 0 (fun k => if k < 25 then 0 else h (o + 6) k) (fun k => if k < 25 then 0 else h (o + 7) k) (by omega) (fun k hk => by
    show zb1 (if k < 25 then 0 else h (o + 6) k) = 0
    rw [if_pos (show k < 25 by omega)]; rfl) (fun k hk => by
    have e : wfr N W (fun _ => false) k = -1 := wfr_none.mpr (fun j _ z => Bool.noConfusion z.1)
    show zb1 (if k < 25 then 0 else h (o + 7) k) = if (!decide (wfr N W (fun _ => false) k = -1)) = true then 1 else 0
    rw [if_pos (show k < 25 by omega), e]
    rfl)
  exact ⟨A, R, start.trans e⟩
end WK2
