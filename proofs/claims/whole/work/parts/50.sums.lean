/-! SUMS over the first n numbers -/
theorem lt_ge (a b : Int) : a < b ∨ b ≤ a := by omega
def su (f : Nat → Int) : Nat → Int
  | 0 => 0
  | n + 1 => su f n + f n
theorem su_congr {f g : Nat → Int} : ∀ {n : Nat}, (∀ k, k < n → f k = g k) → su f n = su g n
  | 0, _ => rfl
  | n + 1, h => by rw [su, su, su_congr (fun k hk => h k (by omega)), h n (by omega)]
theorem su_add {f g : Nat → Int} : ∀ {n : Nat}, su (fun k => f k + g k) n = su f n + su g n
  | 0 => rfl
  | n + 1 => by rw [su, su, su, su_add]; omega
theorem su_neg {f : Nat → Int} : ∀ {n : Nat}, su (fun k => - f k) n = - su f n
  | 0 => rfl
  | n + 1 => by rw [su, su, su_neg]; omega
theorem su_sub {f g : Nat → Int} {n : Nat} : su (fun k => f k - g k) n = su f n - su g n := by
  have := su_add (f := f) (g := fun k => - g k) (n := n)
  rw [su_neg] at this
  rw [← Int.sub_eq_add_neg] at this
  rw [← this]
  exact su_congr (fun k _ => Int.sub_eq_add_neg)
theorem su_mul {f : Nat → Int} {c : Int} : ∀ {n : Nat}, su (fun k => c * f k) n = c * su f n
  | 0 => by simp [su]
  | n + 1 => by rw [su, su, su_mul, Int.mul_add]
theorem su_zero : ∀ {n : Nat}, su (fun _ => 0) n = 0
  | 0 => rfl
  | n + 1 => by rw [su, su_zero]; rfl
theorem su_le {f g : Nat → Int} : ∀ {n : Nat}, (∀ k, k < n → f k ≤ g k) → su f n ≤ su g n
  | 0, _ => Int.le_refl _
  | n + 1, h => by
    rw [su, su]
    have h1 := su_le (n := n) (fun k hk => h k (by omega))
    have h2 := h n (by omega)
    omega
theorem su_nonneg {f : Nat → Int} {n : Nat} (h : ∀ k, k < n → 0 ≤ f k) : 0 ≤ su f n := by
  have := su_le (f := fun _ => 0) (g := f) (n := n) h
  rwa [su_zero] at this
/-- of two sums, term by term, that are the same, every term is -/
theorem su_eq_of_le {f g : Nat → Int} : ∀ {n : Nat}, (∀ k, k < n → f k ≤ g k) → su g n ≤ su f n → ∀ k, k < n → f k = g k
  | 0, _, _, k, hk => by omega
  | n + 1, h, he, k, hk => by
    rw [su, su] at he
    have h1 := su_le (n := n) (fun k hk => h k (by omega))
    have h2 := h n (by omega)
    by_cases hkn : k = n
    · subst hkn; omega
    · exact su_eq_of_le (n := n) (fun k hk => h k (by omega)) (by omega) k (by omega)
theorem su_swap {f : Nat → Nat → Int} {m : Nat} : ∀ {n : Nat}, su (fun a => su (fun b => f a b) m) n = su (fun b => su (fun a => f a b) n) m
  | 0 => by
    have : su (fun b => su (fun a => f a b) 0) m = su (fun _ => 0) m := su_congr (fun _ _ => rfl)
    rw [this, su_zero]; rfl
  | n + 1 => by
    rw [su, su_swap]
    have : su (fun b => su (fun a => f a b) (n + 1)) m = su (fun b => su (fun a => f a b) n + f n b) m := su_congr (fun _ _ => rfl)
    rw [this, su_add]
/-- one term alone -/
theorem su_one {a : Nat} {x : Int} : ∀ {n : Nat}, a < n → su (fun k => if k = a then x else 0) n = x
  | 0, h => by omega
  | n + 1, h => by
    rw [su]
    by_cases ha : a = n
    · subst ha
      have : su (fun k => if k = a then x else 0) a = su (fun _ => 0) a := su_congr (fun k hk => if_neg (by omega))
      rw [this, su_zero, if_pos rfl]; omega
    · rw [su_one (by omega), if_neg (by omega)]; omega
/-- a sum with one term put apart -/
theorem su_split {f : Nat → Int} {a n : Nat} (h : a < n) : su f n = su (fun k => if k = a then 0 else f k) n + f a := by
  have e : su f n = su (fun k => (if k = a then 0 else f k) + (if k = a then f a else 0)) n := su_congr (fun k _ => by
    by_cases hk : k = a
    · subst hk; simp
    · simp [hk])
  rw [e, su_add, su_one h]
theorem su_set {f : Nat → Int} {a n : Nat} {x : Int} (h : a < n) : su (fun k => if k = a then x else f k) n = su f n - f a + x := by
  have h1 := su_split (f := fun k => if k = a then x else f k) h
  have h2 := su_split (f := f) h
  have h3 : su (fun k => if k = a then 0 else (if k = a then x else f k)) n = su (fun k => if k = a then 0 else f k) n := su_congr (fun k _ => by
    by_cases hk : k = a
    · simp [hk]
    · simp [hk])
  rw [h3] at h1
  have h4 : (if a = a then x else f a) = x := if_pos rfl
  rw [h4] at h1
  omega
theorem su_nonneg_le {f : Nat → Int} {a n : Nat} (h : ∀ k, k < n → 0 ≤ f k) (ha : a < n) : f a ≤ su f n := by
  have h1 := su_split (f := f) ha
  have h2 := su_nonneg (f := fun k => if k = a then 0 else f k) (n := n) (fun k hk => by
    show 0 ≤ (if k = a then 0 else f k)
    split
    · exact Int.le_refl _
    · exact h k hk)
  omega
theorem su_pos {f : Nat → Int} {n : Nat} (h : ∀ k, k < n → 0 ≤ f k) (hs : 0 < su f n) : ∃ k, k < n ∧ 0 < f k := by
  apply Classical.byContradiction
  intro q
  have : su f n = su (fun _ => 0) n := su_congr (fun k hk => by
    have h1 := h k hk
    rcases lt_ge 0 (f k) with h2 | h2
    · exact absurd ⟨k, hk, h2⟩ q
    · omega)
  rw [this, su_zero] at hs
  omega
/-- how many -/
def cn (p : Nat → Prop) [DecidablePred p] (n : Nat) : Int := su (fun k => if p k then 1 else 0) n
/-- absolute values, kept from the machine's -/
def ab (x : Int) : Int := if 0 ≤ x then x else -x
theorem ab_nn (x : Int) : 0 ≤ ab x := by unfold ab; split <;> omega
theorem ab_le {x b : Int} : ab x ≤ b ↔ -b ≤ x ∧ x ≤ b := by unfold ab; split <;> omega
/-- f d below u |d| -/
theorem mul_ab {f u d : Int} (h1 : -u ≤ f) (h2 : f ≤ u) : f * d ≤ u * ab d := by
  unfold ab
  split
  · rename_i h
    exact Int.mul_le_mul_of_nonneg_right h2 h
  · rename_i h
    have h3 : (-f) * (-d) ≤ u * (-d) := Int.mul_le_mul_of_nonneg_right (by omega) (by omega)
    rw [Int.neg_mul_neg] at h3
    exact h3
theorem mul_ab_eq {f u d : Int} (h1 : -u ≤ f) (h2 : f ≤ u) : f * d = u * ab d ↔ (f < u → d ≤ 0) ∧ (-u < f → 0 ≤ d) := by
  have key : ∀ {a b : Int}, 0 < a → 0 < b → 0 < a * b := fun ha hb => Int.mul_pos ha hb
  unfold ab
  constructor
  · intro e
    split at e
    · rename_i h
      refine ⟨fun hf => ?_, fun _ => h⟩
      rcases lt_ge 0 d with q | q
      · have := key (show 0 < u - f by omega) q
        rw [Int.sub_mul] at this
        omega
      · exact q
    · rename_i h
      refine ⟨fun _ => by omega, fun hf => ?_⟩
      have := key (show 0 < u + f by omega) (show 0 < -d by omega)
      rw [Int.add_mul, Int.mul_neg, Int.mul_neg] at this
      rw [Int.mul_neg] at e
      omega
  · intro ⟨g1, g2⟩
    split
    · rename_i h
      rcases lt_ge f u with q | q
      · have : d = 0 := by have := g1 q; omega
        rw [this]; simp
      · have : f = u := by omega
        rw [this]
    · rename_i h
      rcases lt_ge (-u) f with q | q
      · have := g2 q; omega
      · have : f = -u := by omega
        rw [this, Int.neg_mul, Int.mul_neg]
