/-! TURNS BY STEPS: what no step betters is best, the ends are the greatest and the least -/
section LBE
variable {N W H : Nat} {T : Nat → Bool} {F G : Nat → Int}
theorem sc_1 (hw : wfS W H N T F G) : ∀ j, j < scJ N W T → scf N W T j < N := fun j hj => by have := sc_at hw hj; omega
theorem sc_2 (hw : wfS W H N T F G) : ∀ j, j < scJ N W T → sct N W T j < N := fun j hj => (sc_at hw hj).2.1
theorem sc_flow (hw : wfS W H N T F G) : ∃ f p : Nat → Int, (∀ j, j < scJ N W T → -(scu N W T G j) ≤ f j ∧ f j ≤ scu N W T G j) ∧ (∀ v, v < N → sp (scJ N W T) (scf N W T) (sct N W T) f v = 0) ∧ fe (scJ N W T) (scf N W T) (sct N W T) (scu N W T G) (scc N W T F) f p := by
  have hN := hw.2.2.2.1
  exact fl_exists (L := 1000) (sc_1 hw) (sc_2 hw) (fun j hj => by have := (scu_in hw hj).1; omega) (by omega) (fun j hj => (scc_e hw hj).2) (by omega)
theorem stp_tw {x : Nat → Int} {A : Nat → Bool} {d : Int} : (fun k => stp x A d k - tw N W T F k) = stp (fun k => x k - tw N W T F k) A d := by
  funext k
  show (if A k = true then x k + d else x k) - tw N W T F k = (if A k = true then x k - tw N W T F k + d else x k - tw N W T F k)
  split <;> omega
theorem loc_best {x : Nat → Int} (hw : wfS W H N T F G) (hr : ∀ v, isR N W T v → x v = 0) (hup : ∀ A : Nat → Bool, (∀ v, isR N W T v → A v = false) → tco N W T F G x ≤ tco N W T F G (stp x A 1)) (hdn : ∀ A : Nat → Bool, (∀ v, isR N W T v → A v = false) → tco N W T F G x ≤ tco N W T F G (stp x A (-1))) : isB N W T F G x := by
  obtain ⟨f, p, hb, hs, hp⟩ := sc_flow hw
  obtain ⟨-, c2⟩ := isC_flow hw hb hs hp
  obtain ⟨rt, r1, r2⟩ := sc_rt hw
  have hq := (c2 (fun k => p k - p (rt k) + tw N W T F k)).mpr (fun j hj => by
    obtain ⟨a, b⟩ := hp j hj
    have r := r1 j hj
    refine ⟨fun q => ?_, fun q => ?_⟩
    · have := a q
      show p (sct N W T j) - p (rt (sct N W T j)) + tw N W T F (sct N W T j) - tw N W T F (sct N W T j) ≤ p (scf N W T j) - p (rt (scf N W T j)) + tw N W T F (scf N W T j) - tw N W T F (scf N W T j) + scc N W T F j
      rw [r]; omega
    · have := b q
      show p (scf N W T j) - p (rt (scf N W T j)) + tw N W T F (scf N W T j) - tw N W T F (scf N W T j) ≤ p (sct N W T j) - p (rt (sct N W T j)) + tw N W T F (sct N W T j) - tw N W T F (sct N W T j) - scc N W T F j
      rw [r]; omega)
  have key := co_best (N := N) (x := fun k => x k - tw N W T F k) (Z := isR N W T) (sc_1 hw) (sc_2 hw) (c := scc N W T F) (u := scu N W T G) (fun j hj => by have := (scu_in hw hj).1; omega) (fun A hA => by
      rw [← stp_tw, ← tco_co hw, ← tco_co hw]
      exact hup A (fun v hv => hA v hv.1 hv)) (fun A hA => by
      rw [← stp_tw, ← tco_co hw, ← tco_co hw]
      exact hdn A (fun v hv => hA v hv.1 hv)) _ (fun k => p k - p (rt k) + tw N W T F k - tw N W T F k) (Nat.le_refl _) (fun v hv hz => by
      show p v - p (rt v) + tw N W T F v - tw N W T F v = x v - tw N W T F v
      rw [r2 v hv hz, hr v hz, tw_root hw hz]; omega)
  rw [← tco_co hw, ← tco_co hw (x := fun k => p k - p (rt k) + tw N W T F k)] at key
  exact ⟨fun y => Int.le_trans key (hq y), hr⟩
theorem ex_G (hw : wfS W H N T F G) : ∃ tg : Nat → Int, isG N W T F G tg ∧ ∀ v, v < N → T v = true → tg v ≤ 1000030 := by
  classical
  obtain ⟨f, p, hb, hs, hp⟩ := sc_flow hw
  obtain ⟨K, I⟩ := bfI_start (N := N) (w0 := fun v => if isR N W T v then 0 else 1000000) (b := fun _ => -1) (ch := false) (A := 2 * scJ N W T) (src := asrc (scf N W T) (sct N W T)) (dst := asrc (sct N W T) (scf N W T)) (ln := aln (scc N W T F)) (op := aop (scu N W T G) f) p (fun v _ => by (try dsimp only); split <;> omega) (fun v _ => rfl)
  obtain ⟨d, b, rk, FF⟩ := bfI_D (sc_1 hw) (sc_2 hw) hp (fun v _ => by (try dsimp only); split <;> omega) I
  obtain ⟨e1, e2⟩ := best_up hw hb hs hp FF (fun v _ hv => if_pos hv) (fun v _ hv => by
    (try dsimp only at hv)
    by_cases c : isR N W T v
    · exact c
    · rw [if_neg c] at hv; omega)
  refine ⟨_, e1, fun v hv tv => ?_⟩
  have a := e2 v hv tv
  have t := (tw_e hw hv tv).2.2
  (try dsimp only)
  omega
theorem ex_L (hw : wfS W H N T F G) : ∃ tl : Nat → Int, isL N W T F G tl ∧ ∀ v, v < N → T v = true → -1000030 ≤ tl v := by
  classical
  obtain ⟨f, p, hb, hs, hp⟩ := sc_flow hw
  have hp' : fe (scJ N W T) (sct N W T) (scf N W T) (scu N W T G) (scc N W T F) f (fun k => -(p k)) := fe_rev.mpr (by
    have : (fun k => -((fun k => -(p k)) k)) = p := by funext k; show -(-(p k)) = p k; omega
    rw [this]
    exact hp)
  obtain ⟨K, I⟩ := bfI_start (N := N) (w0 := fun v => if isR N W T v then 0 else 1000000) (b := fun _ => -1) (ch := false) (A := 2 * scJ N W T) (src := asrc (sct N W T) (scf N W T)) (dst := asrc (scf N W T) (sct N W T)) (ln := aln (scc N W T F)) (op := aop (scu N W T G) f) (fun k => -(p k)) (fun v _ => by (try dsimp only); split <;> omega) (fun v _ => rfl)
  obtain ⟨d, b, rk, FF⟩ := bfI_D (sc_2 hw) (sc_1 hw) hp' (fun v _ => by (try dsimp only); split <;> omega) I
  obtain ⟨e1, e2⟩ := best_dn hw hb hs hp FF (fun v _ hv => if_pos hv) (fun v _ hv => by
    (try dsimp only at hv)
    by_cases c : isR N W T v
    · exact c
    · rw [if_neg c] at hv; omega)
  refine ⟨_, e1, fun v hv tv => ?_⟩
  have a := e2 v hv tv
  have t := (tw_e hw hv tv).2.1
  (try dsimp only)
  omega
theorem stp_no {x : Nat → Int} {d : Int} : stp x (fun _ => false) d = x := by
  funext v
  show (if false = true then x v + d else x v) = x v
  rw [if_neg (by decide)]
/-- the set of a step: none of the first pixels, best among all, and the largest such -/
def stB (N W : Nat) (T : Nat → Bool) (F G x : Nat → Int) (d : Int) (A : Nat → Bool) : Prop := (∀ v, isR N W T v → A v = false) ∧ (∀ v, A v = true → v < N ∧ T v = true) ∧ (∀ A' : Nat → Bool, (∀ v, isR N W T v → A' v = false) → tco N W T F G (stp x A d) ≤ tco N W T F G (stp x A' d)) ∧ ∀ A' : Nat → Bool, (∀ v, isR N W T v → A' v = false) → tco N W T F G (stp x A' d) ≤ tco N W T F G (stp x A d) → ∀ v, v < N → T v = true → A' v = true → A v = true
theorem st_le {x : Nat → Int} {d : Int} {A : Nat → Bool} (h : stB N W T F G x d A) : tco N W T F G (stp x A d) ≤ tco N W T F G x := by
  have := h.2.2.1 (fun _ => false) (fun _ _ => rfl)
  rw [stp_no] at this
  exact this
theorem st_isB {x : Nat → Int} {d : Int} {A : Nat → Bool} (hx : isB N W T F G x) (h : stB N W T F G x d A) : isB N W T F G (stp x A d) := ⟨fun y => Int.le_trans (st_le h) (hx.1 y), fun v hv => by
  show (if A v = true then x v + d else x v) = 0
  rw [h.1 v hv, if_neg (by decide)]
  exact hx.2 v hv⟩
theorem st_isG {x : Nat → Int} {A : Nat → Bool} (hw : wfS W H N T F G) (hx : isB N W T F G x) (h : stB N W T F G x 1 A) (hA : ∀ v, A v = false) : isG N W T F G x := by
  refine ⟨hx, fun y hy v hv tv => ?_⟩
  have hu : ∀ j, j < scJ N W T → 0 ≤ scu N W T G j := fun j hj => by have := (scu_in hw hj).1; omega
  have key := co_best_up (fr := scf N W T) (to := sct N W T) (c := scc N W T F) (x := fun k => x k - tw N W T F k) (y := fun k => y k - tw N W T F k) (C := tco N W T F G x) hu (by rw [← tco_co hw]) (by rw [← tco_co hw]; exact Int.le_antisymm (hy.1 _) (hx.1 _)) (by rw [← stp_tw, ← tco_co hw]; exact hx.1 _)
  rw [← stp_tw, ← tco_co hw] at key
  have ex : stp x A 1 = x := by
    have : A = fun _ => false := funext hA
    rw [this, stp_no]
  have := h.2.2.2 (fun v => decide (x v - tw N W T F v < y v - tw N W T F v)) (fun v hv => by
    (try dsimp only)
    rw [hx.2 v hv, hy.2 v hv]
    exact decide_eq_false (by omega)) (by rw [ex]; exact key) v hv tv
  by_cases c : y v ≤ x v
  · exact c
  · have := this (decide_eq_true (by omega))
    rw [hA v] at this
    cases this
theorem st_isL {x : Nat → Int} {A : Nat → Bool} (hw : wfS W H N T F G) (hx : isB N W T F G x) (h : stB N W T F G x (-1) A) (hA : ∀ v, A v = false) : isL N W T F G x := by
  refine ⟨hx, fun y hy v hv tv => ?_⟩
  have hu : ∀ j, j < scJ N W T → 0 ≤ scu N W T G j := fun j hj => by have := (scu_in hw hj).1; omega
  have key := co_best_dn (fr := scf N W T) (to := sct N W T) (c := scc N W T F) (x := fun k => x k - tw N W T F k) (y := fun k => y k - tw N W T F k) (C := tco N W T F G x) hu (by rw [← tco_co hw]) (by rw [← tco_co hw]; exact Int.le_antisymm (hy.1 _) (hx.1 _)) (by rw [← stp_tw, ← tco_co hw]; exact hx.1 _)
  rw [← stp_tw, ← tco_co hw] at key
  have ex : stp x A (-1) = x := by
    have : A = fun _ => false := funext hA
    rw [this, stp_no]
  have := h.2.2.2 (fun v => decide (y v - tw N W T F v < x v - tw N W T F v)) (fun v hv => by
    (try dsimp only)
    rw [hx.2 v hv, hy.2 v hv]
    exact decide_eq_false (by omega)) (by rw [ex]; exact key) v hv tv
  by_cases c : x v ≤ y v
  · exact c
  · have := this (decide_eq_true (by omega))
    rw [hA v] at this
    cases this
end LBE
