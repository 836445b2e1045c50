/-! THE CLASS'S HEIGHTS: moving surplus; the whole flow -/
/-- whether there is too much somewhere -/
def hasS (s : Nat → Int) : Nat → Bool
  | 0 => false
  | n + 1 => hasS s n || decide (0 < s n)
theorem hasS_t {s : Nat → Int} : ∀ {n : Nat}, hasS s n = true → ∃ v, v < n ∧ 0 < s v
  | 0, h => Bool.noConfusion (show false = true from h)
  | n + 1, h => by
    rw [hasS, Bool.or_eq_true, decide_eq_true_eq] at h
    rcases h with h | h
    · obtain ⟨v, a, b⟩ := hasS_t h
      exact ⟨v, by omega, b⟩
    · exact ⟨n, by omega, h⟩
theorem hasS_f {s : Nat → Int} : ∀ {n : Nat}, hasS s n = false → ∀ v, v < n → ¬ 0 < s v
  | 0, _ => fun v hv => absurd hv (Nat.not_lt_zero v)
  | n + 1, h => fun v hv => by
    rw [hasS, Bool.or_eq_false_iff, decide_eq_false_iff_not] at h
    by_cases q : v = n
    · rw [q]; exact h.2
    · exact hasS_f h.1 v (by omega)
section MOV
variable {S : zS} {h : zH} {o N J : Nat} {fr to : Nat → Nat} {u c f s d b : Nat → Int}
theorem sp_in (hu : ∀ j, j < J → 1 ≤ u j ∧ u j ≤ 9) (hb : ∀ j, j < J → -(u j) ≤ f j ∧ f j ≤ u j) (hJ : J ≤ 40) (v : Nat) : -1000 ≤ sp J fr to f v ∧ sp J fr to f v ≤ 1000 := by
  have := su_bd (B := 18) (f := fun j => (if to j = v then f j else 0) - (if fr j = v then f j else 0)) J (fun j hj => by
    have a := hu j hj
    have e := hb j hj
    show -18 ≤ (if to j = v then f j else 0) - (if fr j = v then f j else 0) ∧ (if to j = v then f j else 0) - (if fr j = v then f j else 0) ≤ 18
    split <;> split <;> omega)
  unfold sp
  omega
theorem psu_le (h1 : ∀ j, j < J → fr j < N) (h2 : ∀ j, j < J → to j < N) : psu N J fr to f ≤ su (fun j => ab (f j)) J := by
  induction J with
  | zero =>
    show su (fun v => if 0 < sp 0 fr to f v then sp 0 fr to f v else 0) N ≤ 0
    rw [su_congr (g := fun _ => 0) (fun v _ => by show (if 0 < (0 : Int) then (0 : Int) else 0) = 0; split <;> rfl), su_zero]
    omega
  | succ J ih =>
    have i := ih (fun j hj => h1 j (by omega)) (fun j hj => h2 j (by omega))
    have a1 := h1 J (by omega)
    have a2 := h2 J (by omega)
    have e : psu N (J + 1) fr to f ≤ su (fun v => (if 0 < sp J fr to f v then sp J fr to f v else 0) + (if v = (if 0 ≤ f J then to J else fr J) then ab (f J) else 0)) N := su_le (fun v _ => by
      show (if 0 < sp (J + 1) fr to f v then sp (J + 1) fr to f v else 0) ≤ _
      have es : sp (J + 1) fr to f v = sp J fr to f v + ((if to J = v then f J else 0) - (if fr J = v then f J else 0)) := rfl
      rw [es]
      generalize sp J fr to f v = x
      have nn := ab_nn (f J)
      have ae : ab (f J) = if 0 ≤ f J then f J else -(f J) := rfl
      have d1 : ((if to J = v then f J else 0) - (if fr J = v then f J else 0)) ≤ (if v = (if 0 ≤ f J then to J else fr J) then ab (f J) else 0) := by
        by_cases q : 0 ≤ f J
        · rw [if_pos q] at ae ⊢
          by_cases t1 : to J = v
          · rw [if_pos t1, if_pos t1.symm, ae]; split <;> omega
          · rw [if_neg t1, if_neg (show ¬ v = to J from fun z => t1 z.symm)]; split <;> omega
        · rw [if_neg q] at ae ⊢
          by_cases t1 : fr J = v
          · rw [if_pos t1, if_pos t1.symm, ae]; split <;> omega
          · rw [if_neg t1, if_neg (show ¬ v = fr J from fun z => t1 z.symm)]; split <;> omega
      have d2 : 0 ≤ (if v = (if 0 ≤ f J then to J else fr J) then ab (f J) else 0) := by split <;> omega
      generalize ((if to J = v then f J else 0) - (if fr J = v then f J else 0)) = y at d1 ⊢
      generalize (if v = (if 0 ≤ f J then to J else fr J) then ab (f J) else 0) = z at d1 d2 ⊢
      split <;> split <;> omega)
    rw [su_add, su_one (by split <;> omega)] at e
    have e2 : su (fun v => if 0 < sp J fr to f v then sp J fr to f v else 0) N = psu N J fr to f := rfl
    rw [su]
    omega
/-- what the flow keeps -/
def flI (N J : Nat) (fr to : Nat → Nat) (u c f s : Nat → Int) : Prop := (∀ j, j < J → -(u j) ≤ f j ∧ f j ≤ u j) ∧ (∀ v, v < N → s v = sp J fr to f v) ∧ ∃ p, fe J fr to u c f p
/-- Heights.moveSurplus -/
theorem s_mov (hL : LX0 S o) (hJ : JoC h o N J fr to u c) (hI : flI N J fr to u c f s) : (∃ d' : Nat → Int, (∀ v, v < N → ¬ 0 < s v) ∧ Zx 6 0 [zR o, zN, zN, zN] [] S (hq o f s d b h) = some (some (zI 0), S, hq o f s d' b h)) ∨ (∃ f' s' d' b' : Nat → Int, flI N J fr to u c f' s' ∧ psu N J fr to f' + 1 ≤ psu N J fr to f ∧ Zx 6 0 [zR o, zN, zN, zN] [] S (hq o f s d b h) = some (some (zI 1), S, hq o f' s' d' b' h)) := by
  obtain ⟨hb, hs, p, hp⟩ := hI
  have h1 := JoC_fr hJ
  have h2 := JoC_to hJ
  have hu := JoC_u hJ
  have hc := JoC_c hJ
  have jj := hJ
  obtain ⟨j1, j2, j3, j4, j5⟩ := jj
  have sr : ∀ v, v < N → -1000 ≤ s v ∧ s v ≤ 1000 := fun v hv => by rw [hs v hv]; exact sp_in hu hb j4 v
  have lp1 : Zx 6 0 [zR o, zN, zN, zN] [] S (hq o f s d b h) = Zx 6 4 [zR o, zI (chI (hasS s N)), zI (N : Int), zN] [] S (hq o f s (fun k => if k < N then (if 0 < s k then 0 else 1000000) else d k) b h) := by
    rw [b6_0 hL, show hq o f s d b h = hq o f s (fun k => if k < 0 then (if 0 < s k then 0 else 1000000) else d k) b h from hq_cg (fun _ => rfl) (fun _ => rfl) (fun k => (if_neg (Nat.not_lt_zero k)).symm) (fun _ => rfl)]
    refine z_chain (N := N) (X := fun i => Zx 6 4 [zR o, zI (chI (hasS s i)), zI (i : Int), zN] [] S (hq o f s (fun k => if k < i then (if 0 < s k then 0 else 1000000) else d k) b h)) (fun i hi => ?_)
    have si := sr i hi
    show Zx 6 4 _ _ _ _ = Zx 6 4 _ _ _ _
    rw [b6_4 hL (by intros; omega) (by intros; omega), hq_1, j1, zw_nat (by omega), zw_nat (by omega), if_neg (by omega), Int.toNat_natCast, hq_16, zw_id (z := s i) (by omega) (by omega)]
    have fin : ∀ x : Int, x = (if 0 < s i then 0 else 1000000) → hq o f s (fu (fun k => if k < i then (if 0 < s k then 0 else 1000000) else d k) i x) b h = hq o f s (fun k => if k < i + 1 then (if 0 < s k then 0 else 1000000) else d k) b h := by
      intro x hx
      refine hq_cg (fun _ => rfl) (fun _ => rfl) (fun k => ?_) (fun _ => rfl)
      by_cases q : k = i
      · subst q
        rw [fu_same, if_pos (by omega), hx]
      · rw [fu_ne q]
        show (if k < i then (if 0 < s k then (0 : Int) else 1000000) else d k) = if k < i + 1 then (if 0 < s k then (0 : Int) else 1000000) else d k
        by_cases q2 : k < i
        · rw [if_pos q2, if_pos (show k < i + 1 by omega)]
        · rw [if_neg q2, if_neg (show ¬ k < i + 1 by omega)]
    by_cases q : 0 < s i
    · rw [if_neg (by omega), b6_17 hL, if_neg (by decide), b6_26 hL hL.c17 (by omega) (by intros; omega) (by intros; omega), Int.toNat_natCast, zu_hq_17, fin 0 (if_pos q).symm, hasS, decide_eq_true q, Bool.or_true]
      cases hasS s i
      · rw [if_neg (show ¬ ¬ zw (chI false) = 0 from fun z => z zw0), if_neg (show ¬ zw 1 = 0 by decide), b6_31 hL, b6_34 hL]; rfl
      · rw [if_pos (show ¬ zw (chI true) = 0 by decide), b6_31 hL, b6_34 hL]; rfl
    · rw [if_pos (by omega), b6_17 hL, if_pos zw0, b6_26 hL hL.c17 (by omega) (by intros; omega) (by intros; omega), Int.toNat_natCast, zu_hq_17, fin 1000000 (if_neg q).symm, hasS, decide_eq_false q, Bool.or_false]
      cases hasS s i
      · rw [if_neg (show ¬ ¬ zw (chI false) = 0 from fun z => z zw0), if_pos zw0, b6_34 hL]; rfl
      · rw [if_pos (show ¬ zw (chI true) = 0 by decide), b6_31 hL, b6_34 hL]; rfl
  have dr : ∀ v, v < N → (fun k => if k < N then (if 0 < s k then (0 : Int) else 1000000) else d k) v = if 0 < s v then 0 else 1000000 := fun v hv => if_pos hv
  generalize (fun k => if k < N then (if 0 < s k then (0 : Int) else 1000000) else d k) = d1 at lp1 dr
  have lp2 : Zx 6 0 [zR o, zN, zN, zN] [] S (hq o f s d b h) = if hasS s N = true then Zx 6 43 [zR o, zN, zN, zN] [zI 1, zR o] S (hq o f s d1 b h) else some (some (zI 0), S, hq o f s d1 b h) := by
    rw [lp1, b6_4 hL (by intros; omega) (by rw [hq_1, j1]; intro q; exact absurd (Int.le_refl _) q), hq_1, j1, if_pos (Int.le_refl _)]
    cases hasS s N
    · rw [if_neg (fun z => z zw0), if_neg (by decide)]
    · rw [if_pos (show ¬ zw (chI true) = 0 by decide), if_pos rfl]
  cases qs : hasS s N with
  | false =>
    refine Or.inl ⟨d1, hasS_f qs, ?_⟩
    rw [lp2, if_neg (by rw [qs]; decide)]
  | true =>
    refine Or.inr ?_
    obtain ⟨v0, hv0, hv1⟩ := hasS_t qs
    have w0e : hq o f s d1 b h (o + 17) = d1 := funext fun k => hq_17
    obtain ⟨d2, b2, rk, e7, F⟩ := s_spr (h := hq o f s d1 b h) (q := 1) hL (JoC_hq hJ) (f := f) (fun j hj => ⟨hq_15, hb j hj⟩) (Or.inl ⟨rfl, rfl, rfl⟩) (fun v hv => by
      rw [w0e, dr v hv]
      split
      · exact Or.inl rfl
      · exact Or.inr rfl) hp
    rw [hw_hq] at e7
    rw [w0e] at F
    have cL : ∀ j, j < J → -1000 ≤ c j ∧ c j ≤ 1000 := hc
    have hw : ∀ v, v < N → 0 < sp J fr to f v → d2 v < 1000000 := fun v hv q => by
      apply Classical.byContradiction
      intro z
      have this : d1 v = 1000000 := ((F.2.1 v hv).2 z).2.1
      rw [dr v hv, hs v hv, if_pos q] at this
      omega
    obtain ⟨a0, ga0, ga1, ga2⟩ := push_ex (L := 1000) h1 h2 (fun j hj => by have := hu j hj; omega) hb (by omega) cL (by omega) F hw ⟨v0, hv0, by rw [← hs v0 hv0]; exact hv1⟩
    have bd := F.bound (L := 1000) (asrc_lt h1 h2) (by omega) (aln_le cL)
    have d2r : ∀ v, v < N → -30000 ≤ d2 v ∧ d2 v ≤ 1000000 := fun v hv => by
      by_cases q : d2 v < 1000000
      · have := bd v hv q; omega
      · have := ((F.2.1 v hv).2 q).2.2; omega
    -- where it lacks
    have srch : ∀ i, i ≤ N → ∃ e : Int, ((e = -1 ∧ ∀ k, k < i → ¬ (s k < 0 ∧ d2 k < 1000000)) ∨ ∃ a : Nat, a < N ∧ e = (a : Int) ∧ s a < 0 ∧ d2 a < 1000000) ∧ Zx 6 48 [zR o, zN, zI (-1), zI 0] [] S (hq o f s d2 b2 h) = Zx 6 48 [zR o, zN, zI e, zI (i : Int)] [] S (hq o f s d2 b2 h) := by
      intro i
      induction i with
      | zero => intro _; exact ⟨-1, Or.inl ⟨rfl, fun k hk => absurd hk (Nat.not_lt_zero k)⟩, rfl⟩
      | succ i ih =>
        intro hi
        obtain ⟨e, he, ee⟩ := ih (by omega)
        have z1 := zwm1
        have si := sr i (by omega)
        have di := d2r i (by omega)
        have skip : ¬ (s i < 0 ∧ d2 i < 1000000) → Zx 6 78 [zR o, zN, zI e, zI (i : Int)] [] S (hq o f s d2 b2 h) = Zx 6 48 [zR o, zN, zI (-1), zI 0] [] S (hq o f s d2 b2 h) → ∃ e : Int, ((e = -1 ∧ ∀ k, k < i + 1 → ¬ (s k < 0 ∧ d2 k < 1000000)) ∨ ∃ a : Nat, a < N ∧ e = (a : Int) ∧ s a < 0 ∧ d2 a < 1000000) ∧ Zx 6 48 [zR o, zN, zI (-1), zI 0] [] S (hq o f s d2 b2 h) = Zx 6 48 [zR o, zN, zI e, zI ((i + 1 : Nat) : Int)] [] S (hq o f s d2 b2 h) := by
          intro hn hx
          refine ⟨e, ?_, by rw [← hx, b6_78 hL]; rfl⟩
          rcases he with ⟨g1, g2⟩ | g
          · refine Or.inl ⟨g1, fun k hk => ?_⟩
            by_cases q : k = i
            · rw [q]; exact hn
            · exact g2 k (by omega)
          · exact Or.inr g
        have take : s i < 0 → d2 i < 1000000 → Zx 6 76 [zR o, zN, zN, zI (i : Int)] [] S (hq o f s d2 b2 h) = Zx 6 48 [zR o, zN, zI (-1), zI 0] [] S (hq o f s d2 b2 h) → ∃ e : Int, ((e = -1 ∧ ∀ k, k < i + 1 → ¬ (s k < 0 ∧ d2 k < 1000000)) ∨ ∃ a : Nat, a < N ∧ e = (a : Int) ∧ s a < 0 ∧ d2 a < 1000000) ∧ Zx 6 48 [zR o, zN, zI (-1), zI 0] [] S (hq o f s d2 b2 h) = Zx 6 48 [zR o, zN, zI e, zI ((i + 1 : Nat) : Int)] [] S (hq o f s d2 b2 h) := by
          intro g1 g2 hx
          exact ⟨(i : Int), Or.inr ⟨i, by omega, rfl, g1, g2⟩, by rw [← hx, b6_76 hL, b6_78 hL]; rfl⟩
        have er : ¬ zw e = -1 → 0 ≤ e ∧ e < 25 := by
          intro g
          rcases he with ⟨g1, -⟩ | ⟨a, g1, g2, -⟩
          · rw [g1] at g; exact absurd z1 g
          · omega
        have row := b6_48 (S := S) (h := hq o f s d2 b2 h) (l0 := o) (l2 := e) (l3 := (i : Int)) hL (by intros; omega) (by intros; omega) (by intros; omega) (by intros; omega) (by intros; omega) (by intros; omega) (fun _ _ _ g => (er g).1) (fun _ _ _ g => (er g).2)
        rw [hq_1, j1, zw_nat (by omega), zw_nat (by omega), if_neg (by omega), Int.toNat_natCast, hq_16, hq_17, hq_17, zw_id (z := s i) (by omega) (by omega), zw_id (z := d2 i) (by omega) (by omega)] at row
        rw [row] at ee
        by_cases q1 : 0 ≤ s i
        · rw [if_pos q1] at ee
          exact skip (fun z => by omega) ee.symm
        rw [if_neg q1] at ee
        by_cases q2 : 1000000 ≤ d2 i
        · rw [if_pos q2] at ee
          exact skip (fun z => by omega) ee.symm
        rw [if_neg q2] at ee
        rcases he with ⟨g1, -⟩ | ⟨a, g2, g1, g3, g4⟩
        · rw [g1, zwm1, if_pos rfl] at ee
          exact take (by omega) (by omega) ee.symm
        · have da := d2r a g2
          rw [g1, zw_nat (by omega), if_neg (by omega), Int.toNat_natCast, zw_id (z := d2 a) (by omega) (by omega)] at ee
          by_cases q3 : d2 a ≤ d2 i
          · rw [if_pos q3] at ee
            exact ⟨(a : Int), Or.inr ⟨a, g2, rfl, g3, g4⟩, by rw [ee, b6_78 hL]; rfl⟩
          · rw [if_neg q3] at ee
            exact take (by omega) (by omega) ee.symm
    obtain ⟨e, he, ee⟩ := srch N (Nat.le_refl _)
    obtain ⟨a, ha, rfl, hneg, hd⟩ : ∃ a : Nat, a < N ∧ e = (a : Int) ∧ s a < 0 ∧ d2 a < 1000000 := by
      rcases he with ⟨-, g⟩ | g
      · exact absurd ⟨by rw [hs a0 ga0]; exact ga1, ga2⟩ (g a0 ga0)
      · exact g
    obtain ⟨m, hm, e1, e2, e3, e4⟩ := bfF_pat_ends (asrc_lt h1 h2) F ha hd
    have hp2 := fun i => bfF_pat (asrc_lt h1 h2) F ha hd i
    have e5 : 0 < s (pat (asrc fr to) b2 a m) := by
      apply Classical.byContradiction
      intro z
      rw [dr _ (hp2 m).1, if_neg z] at e2
      omega
    obtain ⟨y, y1, y2, y3, y4, e8⟩ := s_psh (s := s) hL hJ hb F ha hd sr hneg hm e1 e3 e5
    obtain ⟨g1, g2, g3, g4⟩ := pfl_ok (much := y) h1 h2 hb F ha hd e3 e4 (by omega) y4 m (Nat.le_refl _)
    obtain ⟨p', hp'⟩ := push_fe (g := pfl fr to b2 f y a m) (L := 1000) h1 h2 (by omega) cL (by omega) hp F (fun j hj q => (g1 j hj q).2)
    refine ⟨pfl fr to b2 f y a m, fu (fu s (pat (asrc fr to) b2 a m) (s (pat (asrc fr to) b2 a m) - y)) a (fu s (pat (asrc fr to) b2 a m) (s (pat (asrc fr to) b2 a m) - y) a + y), d2, b2, ⟨g2, fun v hv => ?_, p', hp'⟩, ?_, ?_⟩
    rotate_left 2
    · rw [lp2, if_pos qs, b6_43 hL hL e7, ee]
      have z1 := zwm1
      rw [b6_48 hL (by intros; omega) (by rw [hq_1, j1]; intro q; exact absurd (Int.le_refl _) q) (by intros; omega) (by rw [hq_1, j1]; intro q; exact absurd (Int.le_refl _) q) (by intros; omega) (by rw [hq_1, j1]; intro q; exact absurd (Int.le_refl _) q) (by intros; omega) (by intros; omega), hq_1, j1, if_pos (Int.le_refl _), zw_nat (by omega), if_neg (by omega), b6_85 hL e8, if_neg (by decide), b6_90 (Or.inr rfl)]
    · have e := fu_two (s := s) (a := pat (asrc fr to) b2 a m) (b := a) (v := v) (y := -y)
      rw [← Int.sub_eq_add_neg, Int.sub_neg] at e
      rw [e, g3 v, hs v hv]
      by_cases q1 : v = a
      · by_cases q2 : v = pat (asrc fr to) b2 a m
        · rw [if_pos q1, if_pos q2, if_pos q1.symm, if_pos q2.symm]; omega
        · have n2 : ¬ pat (asrc fr to) b2 a m = v := fun z => q2 z.symm
          rw [if_pos q1, if_neg q2, if_pos q1.symm, if_neg n2]; omega
      · have n1 : ¬ a = v := fun z => q1 z.symm
        by_cases q2 : v = pat (asrc fr to) b2 a m
        · rw [if_neg q1, if_pos q2, if_neg n1, if_pos q2.symm]; omega
        · have n2 : ¬ pat (asrc fr to) b2 a m = v := fun z => q2 z.symm
          rw [if_neg q1, if_neg q2, if_neg n1, if_neg n2]; omega
    · have a1 := hs a ha
      have a2 := hs _ (hp2 m).1
      have := psu_push (N := N) (g := pfl fr to b2 f y a m) (y := y) ha (hp2 m).1 (fun z => by rw [← z] at e5; omega) (by omega) (by omega) (by omega) (by omega) (fun v _ => g3 v)
      omega
/-- the flow of Heights.findCost, from the joints on -/
theorem s_flw (hL : LX0 S o) (hJ : JoC h o N J fr to u c) : ∃ f s d b : Nat → Int, flI N J fr to u c f s ∧ (∀ v, v < N → sp J fr to f v = 0) ∧ Zx 2 6 [zR o, zN, zN] [zR o] S h = Zx 2 21 [zR o, zN, zN] [] S (hq o f s d b h) := by
  have h1 := JoC_fr hJ
  have h2 := JoC_to hJ
  have hu := JoC_u hJ
  obtain ⟨f, s, e, ef, es⟩ := s_stf hL hJ
  have fb : ∀ j, j < J → -(u j) ≤ f j ∧ f j ≤ u j := fun j hj => by
    have := hu j hj
    rw [ef j hj]
    unfold f0
    split
    · omega
    · split <;> omega
  have spe : ∀ v, sp J fr to f v = sp J fr to (f0 u c) v := fun v => su_congr (fun j hj => by
    show (if to j = v then f j else 0) - (if fr j = v then f j else 0) = _
    rw [ef j hj])
  have I0 : flI N J fr to u c f s := ⟨fb, fun v hv => by rw [es v hv, spe], fun _ => 0, fun j hj => by
    rw [ef j hj]
    unfold f0
    show ((if 0 < c j then -(u j) else if c j < 0 then u j else 0) < u j → (0 : Int) ≤ 0 + c j) ∧ (-(u j) < (if 0 < c j then -(u j) else if c j < 0 then u j else 0) → (0 : Int) ≤ 0 - c j)
    split
    · omega
    · split <;> omega⟩
  have P0 : psu N J fr to f ≤ 360 := by
    have a := psu_le (f := f) h1 h2
    have b := su_bd (B := 9) (f := fun j => ab (f j)) J (fun j hj => by
      have x := hu j hj
      have y := fb j hj
      have z := ab_nn (f j)
      have w := ab_le (x := f j) (b := 9)
      show -9 ≤ ab (f j) ∧ ab (f j) ≤ 9
      have := w.mpr ⟨by omega, by omega⟩
      omega)
    have := hJ.2.2.2.1
    omega
  have key : ∀ (n i : Nat) (f s d b : Nat → Int), i + n = 360 → psu N J fr to f ≤ n → flI N J fr to u c f s → ∃ f' s' d' b' : Nat → Int, flI N J fr to u c f' s' ∧ (∀ v, v < N → sp J fr to f' v = 0) ∧ Zx 2 11 [zR o, zI 1, zI (i : Int)] [] S (hq o f s d b h) = Zx 2 21 [zR o, zN, zN] [] S (hq o f' s' d' b' h) := by
    intro n
    induction n with
    | zero =>
      intro i f s d b hi hps hI
      refine ⟨f, s, d, b, hI, psu_zero h1 h2 (fun v hv q => ?_), ?_⟩
      · have a := psu_nn (N := N) (J := J) (fr := fr) (to := to) (f := f)
        have b := su_nonneg_le (f := fun v => if 0 < sp J fr to f v then sp J fr to f v else 0) (n := N) (fun v _ => by split <;> omega) hv
        have e : (if 0 < sp J fr to f v then sp J fr to f v else 0) = sp J fr to f v := if_pos q
        rw [e] at b
        unfold psu at a hps
        omega
      · rw [b2_11 hL, if_neg (by decide), zw_nat (by omega), if_pos (by omega)]
    | succ n ih =>
      intro i f s d b hi hps hI
      rcases s_mov (d := d) (b := b) hL hJ hI with ⟨d', g1, g2⟩ | ⟨f', s', d', b', g1, g2, g3⟩
      · refine ⟨f, s, d', b, hI, psu_zero h1 h2 (fun v hv q => g1 v hv (by rw [hI.2.1 v hv]; exact q)), ?_⟩
        rw [b2_11 hL, if_neg (by decide), zw_nat (by omega), if_neg (by omega), b2_17 hL hL g2, b2_11 hL, if_pos zw0]
      · obtain ⟨f2, s2, d2, b2, k1, k2, k3⟩ := ih (i + 1) f' s' d' b' (by omega) (by omega) g1
        refine ⟨f2, s2, d2, b2, k1, k2, ?_⟩
        rw [← k3, b2_11 hL, if_neg (by decide), zw_nat (by omega), if_neg (by omega), b2_17 hL hL g3]
        rfl
  obtain ⟨f2, s2, d2, b2, k1, k2, k3⟩ := key 360 0 f s (h (o + 17)) (h (o + 18)) (by omega) P0 I0
  refine ⟨f2, s2, d2, b2, k1, k2, ?_⟩
  rw [b2_6 hL hL e]
  exact k3
end MOV
