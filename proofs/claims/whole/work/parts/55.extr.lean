/-! THERE IS A BEST FLOW; the greatest best labelling is the shortest ways from the roots -/
section EXT
variable {N J : Nat} {fr to : Nat → Nat} {u c f p : Nat → Int} {L : Int}
theorem asrc_lt (h1 : ∀ j, j < J → fr j < N) (h2 : ∀ j, j < J → to j < N) : ∀ e, e < 2 * J → asrc fr to e < N := fun e he => by
  unfold asrc
  split
  · exact h1 _ (by omega)
  · exact h2 _ (by omega)
theorem aln_le (hL : ∀ j, j < J → -L ≤ c j ∧ c j ≤ L) : ∀ e, e < 2 * J → -L ≤ aln c e ∧ aln c e ≤ L := fun e he => by
  have := hL (e / 2) (by omega)
  unfold aln
  split <;> omega
theorem fe_arc (hp : fe J fr to u c f p) : ∀ e, e < 2 * J → aop u f e = true → p (asrc to fr e) ≤ p (asrc fr to e) + aln c e := fun e he ho => by
  have h := hp (e / 2) (by omega)
  unfold aop at ho
  unfold asrc aln
  split
  · rename_i z
    rw [if_pos z] at ho
    exact h.1 (by simpa using ho)
  · rename_i z
    rw [if_neg z] at ho
    have := h.2 (by simpa using ho)
    omega
theorem arc_fe {d : Nat → Int} (hd : ∀ j, j < J → d (fr j) < 1000000 ∧ d (to j) < 1000000) (h : bfe (2 * J) (asrc fr to) (asrc to fr) (aln c) (aop u f) d) : fe J fr to u c f d := fun j hj => by
  have a := h (2 * j) (by omega)
  unfold asrc aln aop at a
  rw [if_pos (by omega), if_pos (by omega), if_pos (by omega), if_pos (by omega), show 2 * j / 2 = j by omega] at a
  have b := h (2 * j + 1) (by omega)
  unfold asrc aln aop at b
  rw [if_neg (by omega), if_neg (by omega), if_neg (by omega), if_neg (by omega), show (2 * j + 1) / 2 = j by omega] at b
  have q := hd j hj
  exact ⟨fun ho => a (by simpa using ho) q.1, fun ho => by have := b (by simpa using ho) q.2; omega⟩
theorem fun_below (p : Nat → Int) : ∀ n : Nat, ∃ B : Int, ∀ v, v < n → p v ≤ B
  | 0 => ⟨0, fun v h => by omega⟩
  | n + 1 => by
    obtain ⟨B, hB⟩ := fun_below p n
    by_cases q : p n ≤ B
    · exact ⟨B, fun v hv => by
        by_cases z : v = n
        · subst z; exact q
        · exact hB v (by omega)⟩
    · exact ⟨p n, fun v hv => by
        by_cases z : v = n
        · subst z; omega
        · have := hB v (by omega); omega⟩
/-- a search from anywhere holds what it should -/
theorem bfI_start {w0 b : Nat → Int} {ch : Bool} {A : Nat} {src dst : Nat → Nat} {ln : Nat → Int} {op : Nat → Bool} (p : Nat → Int) (hw : ∀ v, v < N → 0 ≤ w0 v) (hb : ∀ v, v < N → b v = -1) : ∃ K, bfI N A src dst ln op w0 p K (w0, b, ch) := by
  obtain ⟨K, hK⟩ := fun_below p N
  exact ⟨K, fun _ => 0, 0, fun v hv => ⟨Nat.le_refl _, fun _ => rfl, fun q => absurd (hb v hv) q, Int.le_refl _, by have := hw v hv; have := hK v hv; show p v - K ≤ w0 v; omega⟩⟩
theorem bfI_D {w0 b : Nat → Int} {K : Int} (h1 : ∀ j, j < J → fr j < N) (h2 : ∀ j, j < J → to j < N) (hp : fe J fr to u c f p) (hw : ∀ v, v < N → w0 v = 0 ∨ w0 v = 1000000) (I : bfI N (2 * J) (asrc fr to) (asrc to fr) (aln c) (aop u f) w0 p K (w0, b, false)) : ∃ (d b : Nat → Int) (rk : Nat → Nat), bfF N (2 * J) (asrc fr to) (asrc to fr) (aln c) (aop u f) w0 d b rk := by
  have q1 := asrc_lt h1 h2
  have q2 := asrc_lt h2 h1
  have q3 := fe_arc hp
  obtain ⟨n, hn⟩ := bf_stops q1 q2 q3 I
  obtain ⟨f1, -, -⟩ := rnd_fe hn
  obtain ⟨rk, F⟩ := bf_fin hw (bfI.rit q1 q2 q3 I n) f1
  exact ⟨_, _, rk, F⟩
/-- what there is too much, in all -/
def psu (N J : Nat) (fr to : Nat → Nat) (f : Nat → Int) : Int := su (fun v => if 0 < sp J fr to f v then sp J fr to f v else 0) N
theorem psu_nn : 0 ≤ psu N J fr to f := su_nonneg (fun v _ => by split <;> omega)
theorem psu_zero (h1 : ∀ j, j < J → fr j < N) (h2 : ∀ j, j < J → to j < N) (h : ∀ v, v < N → ¬ 0 < sp J fr to f v) : ∀ v, v < N → sp J fr to f v = 0 := by
  have s := fl_sum (f := f) h1 h2
  have e := su_eq_of_le (f := fun v => sp J fr to f v) (g := fun _ => 0) (n := N) (fun v hv => by have := h v hv; show sp J fr to f v ≤ 0; omega) (by rw [su_zero]; omega)
  exact e
theorem psu_push {a z : Nat} {g : Nat → Int} {y : Int} (ha : a < N) (hz : z < N) (hza : a ≠ z) (h1 : sp J fr to f a < 0) (hy1 : y ≤ -(sp J fr to f a)) (hy2 : y ≤ sp J fr to f z) (hy : 0 < y) (hg : ∀ v, v < N → sp J fr to g v = sp J fr to f v + (if v = a then y else 0) - (if v = z then y else 0)) : psu N J fr to g = psu N J fr to f - y := by
  unfold psu
  have e : su (fun v => if 0 < sp J fr to g v then sp J fr to g v else 0) N = su (fun v => (if 0 < sp J fr to f v then sp J fr to f v else 0) - (if v = z then y else 0)) N := su_congr (fun v hv => by
    rw [hg v hv]
    by_cases q1 : v = a
    · have q2 : ¬ v = z := fun w => hza (q1.symm.trans w)
      rw [if_pos q1, if_neg q2, q1, if_neg (by omega), if_neg (by omega)]; omega
    · by_cases q2 : v = z
      · rw [if_neg q1, if_pos q2, q2]
        rw [if_pos (show 0 < sp J fr to f z by omega)]
        split <;> omega
      · rw [if_neg q1, if_neg q2]; simp)
  rw [e, su_sub, su_one hz]
theorem fl_exists (h1 : ∀ j, j < J → fr j < N) (h2 : ∀ j, j < J → to j < N) (hu : ∀ j, j < J → 0 ≤ u j) (hL0 : 0 ≤ L) (hL : ∀ j, j < J → -L ≤ c j ∧ c j ≤ L) (hLN : L * N + L < 1000000) : ∃ f p : Nat → Int, (∀ j, j < J → -(u j) ≤ f j ∧ f j ≤ u j) ∧ (∀ v, v < N → sp J fr to f v = 0) ∧ fe J fr to u c f p := by
  have key : ∀ (m : Nat) (f p : Nat → Int), (psu N J fr to f).toNat ≤ m → (∀ j, j < J → -(u j) ≤ f j ∧ f j ≤ u j) → fe J fr to u c f p → ∃ f p : Nat → Int, (∀ j, j < J → -(u j) ≤ f j ∧ f j ≤ u j) ∧ (∀ v, v < N → sp J fr to f v = 0) ∧ fe J fr to u c f p := by
    intro m
    induction m with
    | zero =>
      intro f p hm hb hp
      refine ⟨f, p, hb, psu_zero h1 h2 (fun v hv q => ?_), hp⟩
      have a := psu_nn (N := N) (J := J) (fr := fr) (to := to) (f := f)
      have b := su_nonneg_le (f := fun v => if 0 < sp J fr to f v then sp J fr to f v else 0) (n := N) (fun v _ => by split <;> omega) hv
      have e : (if 0 < sp J fr to f v then sp J fr to f v else 0) = sp J fr to f v := if_pos q
      rw [e] at b
      unfold psu at a hm
      omega
    | succ m ih =>
      intro f p hm hb hp
      by_cases hsrc : ∃ v, v < N ∧ 0 < sp J fr to f v
      rotate_left
      · exact ⟨f, p, hb, psu_zero h1 h2 (fun v hv q => hsrc ⟨v, hv, q⟩), hp⟩
      obtain ⟨K, I⟩ := bfI_start (N := N) (w0 := fun v => if 0 < sp J fr to f v then 0 else 1000000) (b := fun _ => -1) (ch := false) (A := 2 * J) (src := asrc fr to) (dst := asrc to fr) (ln := aln c) (op := aop u f) p (fun v _ => by show 0 ≤ (if _ then (0 : Int) else 1000000); split <;> omega) (fun _ _ => rfl)
      obtain ⟨d, b, rk, F⟩ := bfI_D h1 h2 hp (fun v _ => by
        show (if _ then (0 : Int) else 1000000) = 0 ∨ (if _ then (0 : Int) else 1000000) = 1000000
        split
        · exact Or.inl rfl
        · exact Or.inr rfl) I
      have hw : ∀ v, v < N → 0 < sp J fr to f v → d v < 1000000 := fun v hv q => by
        apply Classical.byContradiction
        intro z
        have this : (if 0 < sp J fr to f v then (0 : Int) else 1000000) = 1000000 := ((F.2.1 v hv).2 z).2.1
        rw [if_pos q] at this
        omega
      obtain ⟨a, ha, hneg, hd⟩ := push_ex h1 h2 hu hb hL0 hL hLN F hw hsrc
      obtain ⟨k, hk, e1, e2, e3, e4⟩ := bfF_pat_ends (asrc_lt h1 h2) F ha hd
      have hp2 := fun i => bfF_pat (asrc_lt h1 h2) F ha hd i
      have e5 : 0 < sp J fr to f (pat (asrc fr to) b a k) := by
        apply Classical.byContradiction
        intro z
        have : (if 0 < sp J fr to f (pat (asrc fr to) b a k) then (0 : Int) else 1000000) = 1000000 := if_neg z
        rw [this] at e2
        omega
      have hres : ∀ i, i < k → 1 ≤ ares u f (b (pat (asrc fr to) b a i)).toNat := by
        intro i hi
        rcases (F.2.1 _ (hp2 i).1).1 (hp2 i).2 with ⟨q1, -⟩ | ⟨q1, e, k1, k2, k3, k4, k5, k6, k7⟩
        · exact absurd q1 (e3 i hi)
        · rw [k2, show ((e : Int)).toNat = e by omega]
          unfold aop at k3
          unfold ares
          split
          · rename_i z
            rw [if_pos z] at k3
            have : f (e / 2) < u (e / 2) := by simpa using k3
            omega
          · rename_i z
            rw [if_neg z] at k3
            have : -(u (e / 2)) < f (e / 2) := by simpa using k3
            omega
      obtain ⟨g1, g2, g3, g4⟩ := pfl_ok (much := 1) h1 h2 hb F ha hd e3 e4 (by omega) hres k (Nat.le_refl _)
      obtain ⟨p', hp'⟩ := push_fe (g := pfl fr to b f 1 a k) h1 h2 hL0 hL hLN hp F (fun j hj q => (g1 j hj q).2)
      refine ih _ p' ?_ g2 hp'
      have := psu_push (N := N) (g := pfl fr to b f 1 a k) ha (hp2 k).1 (fun z => by rw [z] at hneg; omega) hneg (by omega) (by omega) (by omega) (fun v _ => g3 v)
      omega
  refine key _ (fun j => if 0 < c j then -(u j) else if c j < 0 then u j else 0) (fun _ => 0) (Nat.le_refl _) (fun j hj => ?_) (fun j hj => ?_)
  · have := hu j hj
    show -(u j) ≤ (if 0 < c j then -(u j) else if c j < 0 then u j else 0) ∧ (if 0 < c j then -(u j) else if c j < 0 then u j else 0) ≤ u j
    split
    · omega
    · split <;> omega
  · show ((if 0 < c j then -(u j) else if c j < 0 then u j else 0) < u j → (0 : Int) ≤ 0 + c j) ∧ (-(u j) < (if 0 < c j then -(u j) else if c j < 0 then u j else 0) → (0 : Int) ≤ 0 - c j)
    split
    · omega
    · split <;> omega
/-- from a best flow, the greatest best labelling -/
theorem ext_ok {Z T : Nat → Prop} {w0 d b : Nat → Int} {rk : Nat → Nat} (h1 : ∀ j, j < J → fr j < N) (h2 : ∀ j, j < J → to j < N) (hu : ∀ j, j < J → 1 ≤ u j) (hb : ∀ j, j < J → -(u j) ≤ f j ∧ f j ≤ u j) (hs : ∀ v, v < N → sp J fr to f v = 0) (hL0 : 0 ≤ L) (hL : ∀ j, j < J → -L ≤ c j ∧ c j ≤ L) (hLN : L * N + L < 1000000)
    (hT : ∀ j, j < J → T (fr j) ∧ T (to j)) (hconn : ∀ R : Nat → Bool, (∀ j, j < J → R (fr j) = R (to j)) → (∀ v, v < N → Z v → R v = true) → ∀ v, v < N → T v → R v = true) {rt : Nat → Nat} (hrt : ∀ j, j < J → rt (fr j) = rt (to j)) (hrz : ∀ v, v < N → Z v → rt v = v) (hp : fe J fr to u c f p)
    (F : bfF N (2 * J) (asrc fr to) (asrc to fr) (aln c) (aop u f) w0 d b rk) (hw1 : ∀ v, v < N → Z v → w0 v = 0) (hw2 : ∀ v, v < N → w0 v = 0 → Z v) : (∀ v, v < N → T v → d v < 1000000) ∧ fe J fr to u c f d ∧ (∀ v, v < N → Z v → d v = 0) ∧ ∀ x : Nat → Int, fe J fr to u c f x → (∀ v, v < N → Z v → x v = 0) → ∀ v, v < N → T v → x v ≤ d v := by
  have bd := F.bound (asrc_lt h1 h2) hL0 (aln_le hL)
  have zr : ∀ v, v < N → Z v → d v < 1000000 := fun v hv hz => by
    apply Classical.byContradiction
    intro q
    have := ((F.2.1 v hv).2 q).2.1
    rw [hw1 v hv hz] at this
    omega
  have cut := fl_cut (f := f) (u := u) (R := fun v => decide (d v < 1000000)) h1 h2 (fun j hj => by
    have a := F.1 (2 * j) (by omega)
    unfold asrc aln aop at a
    rw [if_pos (by omega), if_pos (by omega), if_pos (by omega), if_pos (by omega), show 2 * j / 2 = j by omega] at a
    have b := F.1 (2 * j + 1) (by omega)
    unfold asrc aln aop at b
    rw [if_neg (by omega), if_neg (by omega), if_neg (by omega), if_neg (by omega), show (2 * j + 1) / 2 = j by omega] at b
    have b3 := hL j hj
    have b4 := hb j hj
    refine ⟨fun q1 q2 => ?_, fun q1 q2 => ?_⟩
    · simp only [decide_eq_true_eq, decide_eq_false_iff_not] at q1 q2
      apply Classical.byContradiction
      intro z
      have := a (by simp; omega) q1
      have := bd _ (h1 j hj) q1
      omega
    · simp only [decide_eq_true_eq, decide_eq_false_iff_not] at q1 q2
      apply Classical.byContradiction
      intro z
      have := b (by simp; omega) q1
      have := bd _ (h2 j hj) q1
      omega)
  have z0 : su (fun v => if decide (d v < 1000000) = true then sp J fr to f v else 0) N = 0 := by
    have e : su (fun v => if decide (d v < 1000000) = true then sp J fr to f v else 0) N = su (fun _ => 0) N := su_congr (fun v hv => by rw [hs v hv]; split <;> rfl)
    rw [e, su_zero]
  have cut : su (fun v => if decide (d v < 1000000) = true then sp J fr to f v else 0) N = -(su (fun j => if decide (d (fr j) < 1000000) = decide (d (to j) < 1000000) then 0 else u j) J) := cut
  rw [z0] at cut
  have same : ∀ j, j < J → decide (d (fr j) < 1000000) = decide (d (to j) < 1000000) := fun j hj => by
    apply Classical.byContradiction
    intro q
    have := su_nonneg_le (f := fun j => if decide (d (fr j) < 1000000) = decide (d (to j) < 1000000) then 0 else u j) (n := J) (fun j hj => by
      have := hu j hj
      split <;> omega) hj
    have e : (if decide (d (fr j) < 1000000) = decide (d (to j) < 1000000) then 0 else u j) = u j := if_neg q
    rw [e] at this
    have := hu j hj
    omega
  have reach : ∀ v, v < N → T v → d v < 1000000 := fun v hv hTv => by
    have := hconn (fun v => decide (d v < 1000000)) same (fun v hv hz => by simpa using zr v hv hz) v hv hTv
    simpa using this
  have great : ∀ x : Nat → Int, fe J fr to u c f x → (∀ v, v < N → Z v → x v = 0) → ∀ v, v < N → d v < 1000000 → x v ≤ d v := by
    intro x hx hxz
    have key : ∀ (m v : Nat), rk v ≤ m → v < N → d v < 1000000 → x v ≤ d v := by
      intro m
      induction m with
      | zero =>
        intro v hm hv hd
        rcases (F.2.1 v hv).1 hd with ⟨q1, q2, q3⟩ | ⟨q1, e, g1, g2, g3, g4, g5, g6, g7⟩
        · rw [hxz v hv (hw2 v hv q2)]; omega
        · omega
      | succ m ih =>
        intro v hm hv hd
        rcases (F.2.1 v hv).1 hd with ⟨q1, q2, q3⟩ | ⟨q1, e, g1, g2, g3, g4, g5, g6, g7⟩
        · rw [hxz v hv (hw2 v hv q2)]; omega
        · have a := ih (asrc fr to e) (by omega) (asrc_lt h1 h2 e g1) g5
          have b := fe_arc hx e g1 g3
          rw [g4] at b
          omega
    exact fun v hv hd => key (rk v) v (Nat.le_refl _) hv hd
  refine ⟨reach, arc_fe (fun j hj => ⟨reach _ (h1 j hj) (hT j hj).1, reach _ (h2 j hj) (hT j hj).2⟩) F.1, fun v hv hz => ?_, fun x hx hxz v hv hTv => great x hx hxz v hv (reach v hv hTv)⟩
  have g := great (fun v => p v - p (rt v)) (fun j hj => by
    have := hp j hj
    have e := hrt j hj
    refine ⟨fun q => ?_, fun q => ?_⟩
    · have := this.1 q
      show p (to j) - p (rt (to j)) ≤ p (fr j) - p (rt (fr j)) + c j
      rw [e]; omega
    · have := this.2 q
      show p (fr j) - p (rt (fr j)) ≤ p (to j) - p (rt (to j)) - c j
      rw [e]; omega) (fun v hv hz => by show p v - p (rt v) = 0; rw [hrz v hv hz]; omega) v hv (zr v hv hz)
  have g2 : p v - p (rt v) = 0 := by rw [hrz v hv hz]; omega
  have g3 : p v - p (rt v) ≤ d v := g
  have g4 := F.2.2 v hv
  rw [hw1 v hv hz] at g4
  omega
end EXT
