/-! STEPS: labellings changed by one on a set -/
def stp (x : Nat → Int) (A : Nat → Bool) (y : Int) : Nat → Int := fun v => if A v = true then x v + y else x v
section STEP
variable {N J : Nat} {fr to : Nat → Nat} {u c x y : Nat → Int}
theorem ab_dn1 {a b : Int} (h : b < a) : ab (a - 1 - b) < ab (a - b) := by
  unfold ab
  split <;> split <;> omega
theorem ab_up1 {a b : Int} (h : a < b) : ab (a + 1 - b) < ab (a - b) := by
  unfold ab
  split <;> split <;> omega
theorem ab_ex {p q d : Int} (h : (d = 1 ∧ p + 1 ≤ q) ∨ (d = -1 ∧ q + 1 ≤ p) ∨ d = 0) : ab (p + d) + ab (q - d) ≤ ab p + ab q := by
  unfold ab
  rcases h with ⟨rfl, h⟩ | ⟨rfl, h⟩ | rfl
  · split <;> split <;> split <;> split <;> omega
  · split <;> split <;> split <;> split <;> omega
  · split <;> split <;> split <;> split <;> omega
theorem co_congr (h1 : ∀ j, j < J → fr j < N) (h2 : ∀ j, j < J → to j < N) (h : ∀ v, v < N → x v = y v) : co J fr to u c x = co J fr to u c y := su_congr (fun j hj => by
  show _ * ab (x (to j) - x (fr j) - c j) = _ * ab (y (to j) - y (fr j) - c j)
  rw [h _ (h1 j hj), h _ (h2 j hj)])
/-- nodes where y is above x brought one nearer in both -/
theorem co_up (hu : ∀ j, j < J → 0 ≤ u j) : co J fr to u c (stp x (fun v => decide (x v < y v)) 1) + co J fr to u c (stp y (fun v => decide (x v < y v)) (-1)) ≤ co J fr to u c x + co J fr to u c y := by
  unfold co
  rw [← su_add, ← su_add]
  refine su_le (fun j hj => ?_)
  show u j * ab (stp x _ 1 (to j) - stp x _ 1 (fr j) - c j) + u j * ab (stp y _ (-1) (to j) - stp y _ (-1) (fr j) - c j) ≤ u j * ab _ + u j * ab _
  rw [← Int.mul_add, ← Int.mul_add]
  refine Int.mul_le_mul_of_nonneg_left ?_ (hu j hj)
  unfold stp
  simp only [decide_eq_true_eq]
  by_cases q1 : x (to j) < y (to j) <;> by_cases q2 : x (fr j) < y (fr j)
  · rw [if_pos q1, if_pos q2, if_pos q1, if_pos q2]
    have := ab_ex (p := x (to j) - x (fr j) - c j) (q := y (to j) - y (fr j) - c j) (d := 0) (by omega)
    rw [show x (to j) + 1 - (x (fr j) + 1) - c j = x (to j) - x (fr j) - c j + 0 by omega, show y (to j) + -1 - (y (fr j) + -1) - c j = y (to j) - y (fr j) - c j - 0 by omega]
    exact this
  · rw [if_pos q1, if_neg q2, if_pos q1, if_neg q2]
    have := ab_ex (p := x (to j) - x (fr j) - c j) (q := y (to j) - y (fr j) - c j) (d := 1) (by omega)
    rw [show x (to j) + 1 - x (fr j) - c j = x (to j) - x (fr j) - c j + 1 by omega, show y (to j) + -1 - y (fr j) - c j = y (to j) - y (fr j) - c j - 1 by omega]
    exact this
  · rw [if_neg q1, if_pos q2, if_neg q1, if_pos q2]
    have := ab_ex (p := x (to j) - x (fr j) - c j) (q := y (to j) - y (fr j) - c j) (d := -1) (by omega)
    rw [show x (to j) - (x (fr j) + 1) - c j = x (to j) - x (fr j) - c j + -1 by omega, show y (to j) - (y (fr j) + -1) - c j = y (to j) - y (fr j) - c j - -1 by omega]
    exact this
  · rw [if_neg q1, if_neg q2, if_neg q1, if_neg q2]
    exact Int.le_refl _
theorem co_neg : co J fr to u c x = co J fr to u (fun j => -(c j)) (fun v => -(x v)) := su_congr (fun j _ => by
  show u j * ab (x (to j) - x (fr j) - c j) = u j * ab (-(x (to j)) - -(x (fr j)) - -(c j))
  congr 1
  unfold ab
  split <;> split <;> omega)
theorem stp_neg {A : Nat → Bool} {d : Int} : (fun v => -(stp x A d v)) = stp (fun v => -(x v)) A (-d) := by
  funext v
  show -(if A v = true then x v + d else x v) = (if A v = true then -(x v) + -d else -(x v))
  split <;> omega
theorem co_dn (hu : ∀ j, j < J → 0 ≤ u j) : co J fr to u c (stp x (fun v => decide (y v < x v)) (-1)) + co J fr to u c (stp y (fun v => decide (y v < x v)) 1) ≤ co J fr to u c x + co J fr to u c y := by
  have h := co_up (fr := fr) (to := to) (c := fun j => -(c j)) (x := fun v => -(x v)) (y := fun v => -(y v)) hu
  have e : (fun v => decide ((fun v => -(x v)) v < (fun v => -(y v)) v)) = (fun v => decide (y v < x v)) := by
    funext v
    by_cases q : y v < x v
    · have : -(x v) < -(y v) := by omega
      simp [q]
    · have : ¬ -(x v) < -(y v) := by omega
      simp [q]
  rw [e] at h
  rw [co_neg (x := stp x _ (-1)), co_neg (x := stp y _ 1), co_neg (x := x), co_neg (x := y), stp_neg, stp_neg]
  exact h
/-- how far apart -/
def far (N : Nat) (x y : Nat → Int) : Int := su (fun v => ab (y v - x v)) N
/-- what no step betters is best -/
theorem co_best (h1 : ∀ j, j < J → fr j < N) (h2 : ∀ j, j < J → to j < N) (hu : ∀ j, j < J → 0 ≤ u j) {Z : Nat → Prop} (hup : ∀ A : Nat → Bool, (∀ v, v < N → Z v → A v = false) → co J fr to u c x ≤ co J fr to u c (stp x A 1)) (hdn : ∀ A : Nat → Bool, (∀ v, v < N → Z v → A v = false) → co J fr to u c x ≤ co J fr to u c (stp x A (-1))) : ∀ (m : Nat) (y : Nat → Int), (far N x y).toNat ≤ m → (∀ v, v < N → Z v → y v = x v) → co J fr to u c x ≤ co J fr to u c y := by
  have fn : ∀ y, 0 ≤ far N x y := fun y => su_nonneg (fun v _ => ab_nn _)
  have near : ∀ (y z : Nat → Int) (v : Nat), v < N → ab (z v - x v) < ab (y v - x v) → (∀ w, w < N → ab (z w - x w) ≤ ab (y w - x w)) → far N x z < far N x y := by
    intro y z v hv hlt hle
    unfold far
    have a := su_split (f := fun v => ab (z v - x v)) hv
    have b := su_split (f := fun v => ab (y v - x v)) hv
    have c : su (fun k => if k = v then 0 else ab (z k - x k)) N ≤ su (fun k => if k = v then 0 else ab (y k - x k)) N := su_le (fun k hk => by
      have := hle k hk
      split <;> omega)
    omega
  intro m
  induction m with
  | zero =>
    intro y hm hy
    have e : ∀ v, v < N → x v = y v := by
      intro v hv
      have h0 : far N x y = 0 := by have := fn y; omega
      have := su_nonneg_le (f := fun v => ab (y v - x v)) (fun v _ => ab_nn _) hv
      unfold far at h0
      have h3 := ab_le (x := y v - x v) (b := 0)
      have h4 := h3.mp (by omega)
      omega
    rw [co_congr h1 h2 e]; exact Int.le_refl _
  | succ m ih =>
    intro y hm hy
    by_cases qA : ∃ v, v < N ∧ x v < y v
    · obtain ⟨v, hv, hlt⟩ := qA
      have a := co_up (fr := fr) (to := to) (c := c) (x := x) (y := y) hu
      have b := hup (fun v => decide (x v < y v)) (fun w hw hz => by
        have := hy w hw hz
        simp; omega)
      have sy : ∀ w, stp y (fun v => decide (x v < y v)) (-1) w = if x w < y w then y w - 1 else y w := fun w => by
        unfold stp
        simp only [decide_eq_true_eq]
        rfl
      have g := ih (stp y (fun v => decide (x v < y v)) (-1)) (by
        have := near y (stp y (fun v => decide (x v < y v)) (-1)) v hv (by
          rw [sy, if_pos hlt]
          exact ab_dn1 hlt) (fun w hw => by
          rw [sy]
          by_cases q : x w < y w
          · rw [if_pos q]; exact Int.le_of_lt (ab_dn1 q)
          · rw [if_neg q]; exact Int.le_refl _)
        have := fn (stp y (fun v => decide (x v < y v)) (-1))
        omega) (fun w hw hz => by
        have := hy w hw hz
        rw [sy, if_neg (by omega)]; exact this)
      omega
    · by_cases qB : ∃ v, v < N ∧ y v < x v
      · obtain ⟨v, hv, hlt⟩ := qB
        have a := co_dn (fr := fr) (to := to) (c := c) (x := x) (y := y) hu
        have b := hdn (fun v => decide (y v < x v)) (fun w hw hz => by
          have := hy w hw hz
          simp; omega)
        have sy : ∀ w, stp y (fun v => decide (y v < x v)) 1 w = if y w < x w then y w + 1 else y w := fun w => by
          unfold stp
          simp only [decide_eq_true_eq]
        have g := ih (stp y (fun v => decide (y v < x v)) 1) (by
          have := near y (stp y (fun v => decide (y v < x v)) 1) v hv (by
            rw [sy, if_pos hlt]
            exact ab_up1 hlt) (fun w hw => by
            rw [sy]
            by_cases q : y w < x w
            · rw [if_pos q]; exact Int.le_of_lt (ab_up1 q)
            · rw [if_neg q]; exact Int.le_refl _)
          have := fn (stp y (fun v => decide (y v < x v)) 1)
          omega) (fun w hw hz => by
          have := hy w hw hz
          rw [sy, if_neg (by omega)]; exact this)
        omega
      · have e : ∀ v, v < N → x v = y v := fun v hv => by
          have a : ¬ x v < y v := fun z => qA ⟨v, hv, z⟩
          have b : ¬ y v < x v := fun z => qB ⟨v, hv, z⟩
          omega
        rw [co_congr h1 h2 e]; exact Int.le_refl _
/-- between two best ones, a step up from the lower is best too -/
theorem co_best_up (hu : ∀ j, j < J → 0 ≤ u j) {C : Int} (hx : co J fr to u c x = C) (hy : co J fr to u c y = C) (hl : C ≤ co J fr to u c (stp y (fun v => decide (x v < y v)) (-1))) : co J fr to u c (stp x (fun v => decide (x v < y v)) 1) ≤ C := by
  have a := co_up (fr := fr) (to := to) (c := c) (x := x) (y := y) hu
  omega
theorem co_best_dn (hu : ∀ j, j < J → 0 ≤ u j) {C : Int} (hx : co J fr to u c x = C) (hy : co J fr to u c y = C) (hl : C ≤ co J fr to u c (stp y (fun v => decide (y v < x v)) 1)) : co J fr to u c (stp x (fun v => decide (y v < x v)) (-1)) ≤ C := by
  have a := co_dn (fr := fr) (to := to) (c := c) (x := x) (y := y) hu
  omega
end STEP
