/-! THE CLASS'S HEIGHTS: pushing -/
/-- Math.min -/
theorem s_min {S : zS} {h : zH} {a b : Int} (ha : zint a) (hb : zint b) : Zx 241 0 [zI a, zI b] [] S h = some (some (zI (if b < a then b else a)), S, h) := by
  rw [b241_0, ha.e, hb.e]
  split <;> rw [b241_6]
/-- how much still goes, so many joints back -/
def pmu (fr to : Nat → Nat) (u f b : Nat → Int) (m0 : Int) (a : Nat) : Nat → Int
  | 0 => m0
  | i + 1 => if ares u f (b (pat (asrc fr to) b a i)).toNat < pmu fr to u f b m0 a i then ares u f (b (pat (asrc fr to) b a i)).toNat else pmu fr to u f b m0 a i
section PSH
variable {S : zS} {h : zH} {o N J : Nat} {fr to : Nat → Nat} {u c f s d b w0 : Nat → Int} {rk : Nat → Nat}
theorem pmu_le {m0 : Int} {a : Nat} : ∀ i, pmu fr to u f b m0 a i ≤ m0 ∧ ∀ k, k < i → pmu fr to u f b m0 a i ≤ ares u f (b (pat (asrc fr to) b a k)).toNat
  | 0 => ⟨Int.le_refl _, fun k hk => absurd hk (Nat.not_lt_zero k)⟩
  | i + 1 => by
    obtain ⟨h1, h2⟩ := pmu_le (m0 := m0) (a := a) i
    have e : pmu fr to u f b m0 a (i + 1) ≤ pmu fr to u f b m0 a i ∧ pmu fr to u f b m0 a (i + 1) ≤ ares u f (b (pat (asrc fr to) b a i)).toNat := by
      rw [pmu]
      split <;> omega
    refine ⟨by omega, fun k hk => ?_⟩
    by_cases q : k = i
    · subst q; exact e.2
    · have := h2 k (by omega); omega
theorem pmu_pos {m0 : Int} {a m : Nat} (h0 : 1 ≤ m0) (hr : ∀ i, i < m → 1 ≤ ares u f (b (pat (asrc fr to) b a i)).toNat) : ∀ i, i ≤ m → 1 ≤ pmu fr to u f b m0 a i
  | 0, _ => h0
  | i + 1, hi => by
    have a1 := pmu_pos h0 hr i (by omega)
    have a2 := hr i (by omega)
    rw [pmu]
    split <;> omega
/-- the joint before a pixel on the way -/
theorem pat_at {a i : Nat} (F : bfF N (2 * J) (asrc fr to) (asrc to fr) (aln c) (aop u f) w0 d b rk) (h1 : ∀ j, j < J → fr j < N) (h2 : ∀ j, j < J → to j < N) (ha : a < N) (hd : d a < 1000000) (hm : b (pat (asrc fr to) b a i) ≠ -1) : ∃ e, e < 2 * J ∧ b (pat (asrc fr to) b a i) = (e : Int) ∧ aop u f e = true ∧ pat (asrc fr to) b a (i + 1) = asrc fr to e := by
  have hp2 := bfF_pat (asrc_lt h1 h2) F ha hd i
  rcases (F.2.1 _ hp2.1).1 hp2.2 with ⟨q1, -⟩ | ⟨q1, e, k1, k2, k3, k4, k5, k6, k7⟩
  · exact absurd q1 hm
  · refine ⟨e, k1, k2, k3, ?_⟩
    show (if b (pat (asrc fr to) b a i) = -1 then _ else _) = _
    rw [if_neg hm, k2, Int.toNat_natCast]
theorem aop_res {e : Nat} (h : aop u f e = true) : 1 ≤ ares u f e := by
  unfold aop at h
  unfold ares
  split
  · rename_i z
    rw [if_pos z] at h
    have : f (e / 2) < u (e / 2) := by simpa using h
    omega
  · rename_i z
    rw [if_neg z] at h
    have : -(u (e / 2)) < f (e / 2) := by simpa using h
    omega
/-- Heights.push -/
theorem s_psh {a m : Nat} (hL : LX0 S o) (hJ : JoC h o N J fr to u c) (hb : ∀ j, j < J → -(u j) ≤ f j ∧ f j ≤ u j) (F : bfF N (2 * J) (asrc fr to) (asrc to fr) (aln c) (aop u f) w0 d b rk) (ha : a < N) (hd : d a < 1000000) (hs : ∀ v, v < N → -1000 ≤ s v ∧ s v ≤ 1000) (hneg : s a < 0) (hm : m < N) (he : b (pat (asrc fr to) b a m) = -1) (hne : ∀ i, i < m → b (pat (asrc fr to) b a i) ≠ -1) (hpos : 0 < s (pat (asrc fr to) b a m)) :
    ∃ y, 1 ≤ y ∧ y ≤ -(s a) ∧ y ≤ s (pat (asrc fr to) b a m) ∧ (∀ i, i < m → y ≤ ares u f (b (pat (asrc fr to) b a i)).toNat) ∧ Zx 8 0 [zR o, zI (a : Int), zN, zN, zN, zN, zN] [] S (hq o f s d b h) = some (some (zI 1), S, hq o (pfl fr to b f y a m) (fu (fu s (pat (asrc fr to) b a m) (s (pat (asrc fr to) b a m) - y)) a (fu s (pat (asrc fr to) b a m) (s (pat (asrc fr to) b a m) - y) a + y)) d b h) := by
  have h1 := JoC_fr hJ
  have h2 := JoC_to hJ
  have hu := JoC_u hJ
  have jj := hJ
  obtain ⟨j1, j2, j3, j4, j5⟩ := jj
  have pl : ∀ i, pat (asrc fr to) b a i < N := fun i => (bfF_pat (asrc_lt h1 h2) F ha hd i).1
  have at_ := fun i hi => pat_at (i := i) F h1 h2 ha hd (hne i hi)
  have hr : ∀ i, i < m → 1 ≤ ares u f (b (pat (asrc fr to) b a i)).toNat := by
    intro i hi
    obtain ⟨e, e1, e2, e3, e4⟩ := at_ i hi
    rw [e2, Int.toNat_natCast]
    exact aop_res e3
  have sa := hs a ha
  have sz := hs _ (pl m)
  have mp := pmu_pos (m0 := -(s a)) (by omega) hr
  have ml := fun i => pmu_le (fr := fr) (to := to) (u := u) (f := f) (b := b) (m0 := -(s a)) (a := a) i
  -- the first way back
  have one : Zx 8 0 [zR o, zI (a : Int), zN, zN, zN, zN, zN] [] S (hq o f s d b h) = Zx 8 10 [zR o, zI (a : Int), zI (pmu fr to u f b (-(s a)) a m), zI (pat (asrc fr to) b a m : Int), zI (m : Int), zN, zN] [] S (hq o f s d b h) := by
    rw [b8_0 hL (by intros; omega) (by intros; omega), Int.toNat_natCast, hq_16]
    refine z_chain (N := m) (X := fun i => Zx 8 10 [zR o, zI (a : Int), zI (pmu fr to u f b (-(s a)) a i), zI (pat (asrc fr to) b a i : Int), zI (i : Int), zN, zN] [] S (hq o f s d b h)) (fun i hi => ?_)
    obtain ⟨e, e1, e2, e3, e4⟩ := at_ i hi
    obtain ⟨k1, k2, k3, k4, k5, k6, k7, k8, k9⟩ := j5 (e / 2) (by omega)
    have bb := hb (e / 2) (by omega)
    have p1 := pl i
    have mpi := mp i (by omega)
    have mli := (ml i).1
    show Zx 8 10 _ _ _ _ = Zx 8 10 _ _ _ _
    rw [b8_10 hL (by intros; omega) (by intros; omega) (by intros; omega) (by intros; omega) (by intros; omega) (by intros; omega), hq_1, j1, zw_nat (by omega), zw_nat (by omega), if_neg (by omega), Int.toNat_natCast, hq_18, e2, zw_nat (by omega), if_neg (by omega), show Int.tdiv (e : Int) 2 = ((e / 2 : Nat) : Int) from (Int.ofNat_tdiv e 2).symm, show Int.tmod (e : Int) 2 = ((e % 2 : Nat) : Int) from (Int.ofNat_tmod e 2).symm, zw_nat (by omega)]
    have tail : ∀ x : Int, zint x → Zx 8 61 [zR o, zI (a : Int), zN, zN, zI (i : Int), zI ((e / 2 : Nat) : Int), zI (if e % 2 = 0 then 1 else 0)] [zI x, zI (pmu fr to u f b (-(s a)) a i)] S (hq o f s d b h) = Zx 8 10 [zR o, zI (a : Int), zI (if x < pmu fr to u f b (-(s a)) a i then x else pmu fr to u f b (-(s a)) a i), zI (asrc fr to e : Int), zI ((i + 1 : Nat) : Int), zN, zN] [] S (hq o f s d b h) := by
      intro x hx
      rw [b8_61 hL (s_min ⟨by omega, by omega⟩ hx) (by intros; omega) (by intros; omega) (by intros; omega) (by intros; omega), hq_12, hq_11, Int.toNat_natCast, k1, k2]
      by_cases q : e % 2 = 0
      · rw [if_pos q, if_neg (by decide), b8_74 hL, asrc_e q]
        rfl
      · rw [if_neg q, if_pos zw0, b8_74 hL, asrc_o q]
        rfl
    have er : pmu fr to u f b (-(s a)) a (i + 1) = if ares u f e < pmu fr to u f b (-(s a)) a i then ares u f e else pmu fr to u f b (-(s a)) a i := by
      rw [pmu, e2, Int.toNat_natCast]
    rw [er, e4]
    by_cases q : e % 2 = 0
    · have ea : ares u f e = u (e / 2) - f (e / 2) := if_pos q
      rw [if_neg (by omega), b8_38 hL (by intros; omega) (by intros; omega) (by intros; omega) (by intros; omega) (by intros; omega) (by intros; omega) (by intros; omega) (by intros; omega), if_neg (by decide), hq_14, hq_15, Int.toNat_natCast, k4, ea]
      have := tail (u (e / 2) - f (e / 2)) ⟨by omega, by omega⟩
      rw [if_pos q] at this
      exact this
    · have ea : ares u f e = u (e / 2) + f (e / 2) := if_neg q
      rw [if_pos (by omega), b8_38 hL (by intros; omega) (by intros; omega) (by intros; omega) (by intros; omega) (by intros; omega) (by intros; omega) (by intros; omega) (by intros; omega), if_pos zw0, hq_14, hq_15, Int.toNat_natCast, k4, ea]
      have := tail (u (e / 2) + f (e / 2)) ⟨by omega, by omega⟩
      rw [if_neg q] at this
      exact this
  have pm := mp m (Nat.le_refl _)
  have pml := (ml m).1
  have plm := pl m
  obtain ⟨y, hy⟩ : ∃ y, y = if s (pat (asrc fr to) b a m) < pmu fr to u f b (-(s a)) a m then s (pat (asrc fr to) b a m) else pmu fr to u f b (-(s a)) a m := ⟨_, rfl⟩
  have y1 : 1 ≤ y ∧ y ≤ -(s a) ∧ y ≤ s (pat (asrc fr to) b a m) ∧ y ≤ pmu fr to u f b (-(s a)) a m := by
    rw [hy]
    split <;> omega
  refine ⟨y, y1.1, y1.2.1, y1.2.2.1, fun i hi => by have := (ml m).2 i hi; omega, ?_⟩
  have two : Zx 8 10 [zR o, zI (a : Int), zI (pmu fr to u f b (-(s a)) a m), zI (pat (asrc fr to) b a m : Int), zI (m : Int), zN, zN] [] S (hq o f s d b h) = Zx 8 108 [zR o, zN, zI y, zI (a : Int), zI 0, zN, zN] [] S (hq o f (fu (fu s (pat (asrc fr to) b a m) (s (pat (asrc fr to) b a m) - y)) a (fu s (pat (asrc fr to) b a m) (s (pat (asrc fr to) b a m) - y) a + y)) d b h) := by
    rw [b8_10 hL (by intros; omega) (by intros; omega) (by intros; omega) (by intros; omega) (by intros; omega) (by intros; omega), hq_1, j1, zw_nat (by omega), zw_nat (by omega), if_neg (by omega), Int.toNat_natCast, hq_18, he, if_pos (by decide), b8_77 hL (by intros; omega) (by intros; omega), Int.toNat_natCast, hq_16, b8_82 hL (s_min ⟨by omega, by omega⟩ ⟨by omega, by omega⟩) (by intros; omega) (by intros; omega) (by intros; omega) (by intros; omega) (by intros; omega) (by intros; omega) (by intros; omega) (by intros; omega), ← hy, zw_id (by omega) (by omega), if_pos (by omega)]
    simp only [zu_hq_15, zu_hq_16, zu_hq_17, zu_hq_18, hq_00, hq_1, hq_2, hq_3, hq_5, hq_6, hq_9, hq_10, hq_11, hq_12, hq_13, hq_14, hq_15, hq_16, hq_17, hq_18, Int.toNat_natCast]
  rw [one, two]
  generalize (fu (fu s (pat (asrc fr to) b a m) (s (pat (asrc fr to) b a m) - y)) a (fu s (pat (asrc fr to) b a m) (s (pat (asrc fr to) b a m) - y) a + y)) = s'
  refine (z_chain (N := m) (X := fun i => Zx 8 108 [zR o, zN, zI y, zI (pat (asrc fr to) b a i : Int), zI (i : Int), zN, zN] [] S (hq o (pfl fr to b f y a i) s' d b h)) (fun i hi => ?_)).trans ?_
  · obtain ⟨e, e1, e2, e3, e4⟩ := at_ i hi
    obtain ⟨k1, k2, k3, k4, k5, k6, k7, k8, k9⟩ := j5 (e / 2) (by omega)
    have p1 := pl i
    show Zx 8 108 _ _ _ _ = Zx 8 108 _ _ _ _
    have ep : pfl fr to b f y a (i + 1) = fu (pfl fr to b f y a i) (e / 2) (pfl fr to b f y a i (e / 2) + (if e % 2 = 0 then y else -y)) := by
      rw [pfl, e2, Int.toNat_natCast]
    rw [b8_108 hL (by intros; omega) (by intros; omega) (by intros; omega) (by intros; omega) (by intros; omega) (by intros; omega), hq_1, j1, zw_nat (by omega), zw_nat (by omega), if_neg (by omega), Int.toNat_natCast, hq_18, e2, zw_nat (by omega), if_neg (by omega), show Int.tdiv (e : Int) 2 = ((e / 2 : Nat) : Int) from (Int.ofNat_tdiv e 2).symm, show Int.tmod (e : Int) 2 = ((e % 2 : Nat) : Int) from (Int.ofNat_tmod e 2).symm, zw_nat (by omega), ep, e4]
    by_cases q : e % 2 = 0
    · rw [if_neg (by omega), b8_136 hL (by intros; omega) (by intros; omega), if_neg (by decide), b8_148 hL hL.c15 (by omega) (by intros; omega) (by intros; omega) (by intros; omega) (by intros; omega) (by intros; omega) (by intros; omega), if_neg (by decide), b8_161 hL, if_pos q, asrc_e q]
      simp only [zu_hq_15, zu_hq_16, zu_hq_17, zu_hq_18, hq_00, hq_1, hq_2, hq_3, hq_5, hq_6, hq_9, hq_10, hq_11, hq_12, hq_13, hq_14, hq_15, hq_16, hq_17, hq_18, Int.toNat_natCast, k1]
      rfl
    · rw [if_pos (by omega), b8_136 hL (by intros; omega) (by intros; omega), if_pos zw0, b8_148 hL hL.c15 (by omega) (by intros; omega) (by intros; omega) (by intros; omega) (by intros; omega) (by intros; omega) (by intros; omega), if_pos zw0, b8_161 hL, if_neg q, asrc_o q]
      simp only [zu_hq_15, zu_hq_16, zu_hq_17, zu_hq_18, hq_00, hq_1, hq_2, hq_3, hq_5, hq_6, hq_9, hq_10, hq_11, hq_12, hq_13, hq_14, hq_15, hq_16, hq_17, hq_18, Int.toNat_natCast, k2]
      rfl
  · show Zx 8 108 _ _ _ _ = _
    rw [b8_108 hL (by intros; omega) (by intros; omega) (by intros; omega) (by intros; omega) (by intros; omega) (by intros; omega), hq_1, j1, zw_nat (by omega), zw_nat (by omega), if_neg (by omega), Int.toNat_natCast, hq_18, he, if_pos (by decide), b8_164]
end PSH
