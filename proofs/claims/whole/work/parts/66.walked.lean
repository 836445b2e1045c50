/-! THE WALK: heights; nothing of what was there before counts -/
section WKD
variable {N W : Nat} {T : Nat → Bool} {F : Nat → Int}
theorem wst_ind {q0 w0 q1 w1 : Nat → Int} : ∀ i, (wst N W T F (fun _ => false, q0, 0, w0) i).1 = (wst N W T F (fun _ => false, q1, 0, w1) i).1 ∧ ∀ k, (wst N W T F (fun _ => false, q0, 0, w0) i).1 k = true → (wst N W T F (fun _ => false, q0, 0, w0) i).2.2.2 k = (wst N W T F (fun _ => false, q1, 0, w1) i).2.2.2 k
  | 0 => ⟨rfl, fun k h => Bool.noConfusion h⟩
  | i + 1 => by
    obtain ⟨h1, h2⟩ := wst_ind (q0 := q0) (w0 := w0) (q1 := q1) (w1 := w1) i
    have s1 : wst N W T F (fun _ => false, q0, 0, w0) (i + 1) = if wnx N W T (wst N W T F (fun _ => false, q0, 0, w0) i).1 = -1 then wst N W T F (fun _ => false, q0, 0, w0) i else wgo N W F (wnx N W T (wst N W T F (fun _ => false, q0, 0, w0) i).1).toNat (wst N W T F (fun _ => false, q0, 0, w0) i) := rfl
    have s2 : wst N W T F (fun _ => false, q1, 0, w1) (i + 1) = if wnx N W T (wst N W T F (fun _ => false, q1, 0, w1) i).1 = -1 then wst N W T F (fun _ => false, q1, 0, w1) i else wgo N W F (wnx N W T (wst N W T F (fun _ => false, q1, 0, w1) i).1).toNat (wst N W T F (fun _ => false, q1, 0, w1) i) := rfl
    rw [s1, s2]
    generalize wst N W T F (fun _ => false, q0, 0, w0) i = s at *
    generalize wst N W T F (fun _ => false, q1, 0, w1) i = t at *
    obtain ⟨P, q, m, w⟩ := s
    obtain ⟨P', q', m', w'⟩ := t
    dsimp only at *
    subst h1
    by_cases d : wnx N W T P = -1
    · rw [if_pos d, if_pos d]
      exact ⟨rfl, h2⟩
    rw [if_neg d, if_neg d]
    generalize (wnx N W T P).toNat = k
    by_cases e : wfr N W P k = -1
    · have g : ∀ q m w, wgo N W F k (P, q, m, w) = (fun j => P j || decide (j = k), fu q k (m : Int), m + 1, fu w k (F k)) := fun q m w => if_pos e
      rw [g, g]
      refine ⟨rfl, fun j hj => ?_⟩
      show fu w k (F k) j = fu w' k (F k) j
      by_cases c : j = k
      · subst c; rw [fu_same, fu_same]
      · rw [fu_ne c, fu_ne c]
        rw [Bool.or_eq_true, decide_eq_true_eq] at hj
        rcases hj with z | z
        · exact h2 j z
        · exact absurd z c
    · obtain ⟨a, a1, a2, a3, a4⟩ := wfr_some e
      have g : ∀ q m w, wgo N W F k (P, q, m, w) = (fun j => P j || decide (j = k), fu q k (q a), m, fu w k (w a + pdif a k (F a) (F k))) := fun q m w => by
        unfold wgo
        rw [if_neg e]
        simp only [a2, Int.toNat_natCast]
      rw [g, g]
      refine ⟨rfl, fun j hj => ?_⟩
      show fu w k _ j = fu w' k _ j
      by_cases c : j = k
      · subst c; rw [fu_same, fu_same, h2 a a3]
      · rw [fu_ne c, fu_ne c]
        rw [Bool.or_eq_true, decide_eq_true_eq] at hj
        rcases hj with z | z
        · exact h2 j z
        · exact absurd z c
/-- part, parts, walked height -/
def pP (N W : Nat) (T : Nat → Bool) (k : Nat) : Int := (wst N W T (fun _ => 0) (fun _ => false, fun _ => 0, 0, fun _ => 0) N).2.1 k
def pM (N W : Nat) (T : Nat → Bool) : Nat := (wst N W T (fun _ => 0) (fun _ => false, fun _ => 0, 0, fun _ => 0) N).2.2.1
def pW (N W : Nat) (T : Nat → Bool) (F : Nat → Int) (k : Nat) : Int := (wst N W T F (fun _ => false, fun _ => 0, 0, fun _ => 0) N).2.2.2 k
theorem pP_isP : ∃ ρ, isP N W T (pP N W T) (pM N W T) ρ := wst_isP
theorem wst_p {q0 w0 : Nat → Int} : (wst N W T F (fun _ => false, q0, 0, w0) N).2.2.1 = pM N W T ∧ ∀ k, k < N → T k = true → (wst N W T F (fun _ => false, q0, 0, w0) N).2.1 k = pP N W T k ∧ (wst N W T F (fun _ => false, q0, 0, w0) N).2.2.2 k = pW N W T F k := by
  obtain ⟨ρ, h⟩ := wst_isP (N := N) (W := W) (T := T) (F := F) (q0 := q0) (w0 := w0)
  obtain ⟨ρ', h'⟩ := pP_isP (N := N) (W := W) (T := T)
  obtain ⟨u1, -, u3⟩ := h.uniq h'
  exact ⟨u1, fun k hk tk => ⟨u3 k hk tk, (wst_ind (q0 := q0) (w0 := w0) N).2 k (wst_all hk tk)⟩⟩
/-- differences and phases -/
theorem pdif_mod {a b : Nat} {x y : Int} : ∃ t, pdif a b x y = y - x + 400 * t := by
  unfold pdif
  split
  · split
    · exact ⟨1, by omega⟩
    · split
      · exact ⟨-1, by omega⟩
      · exact ⟨0, by omega⟩
  · split
    · exact ⟨-1, by omega⟩
    · split
      · exact ⟨1, by omega⟩
      · exact ⟨0, by omega⟩
theorem pdif_200 {a b : Nat} {x y : Int} (h1 : 0 ≤ x ∧ x < 400) (h2 : 0 ≤ y ∧ y < 400) : -200 ≤ pdif a b x y ∧ pdif a b x y ≤ 200 := by
  unfold pdif
  split <;> split <;> (try split) <;> omega
theorem wst_w {q0 w0 : Nat → Int} (hF : ∀ k, k < N → T k = true → 0 ≤ F k ∧ F k < 400) : ∀ i k, (wst N W T F (fun _ => false, q0, 0, w0) i).1 k = true → k < N ∧ T k = true ∧ (∃ t, (wst N W T F (fun _ => false, q0, 0, w0) i).2.2.2 k = F k + 400 * t) ∧ -(400 + 400 * (i : Int)) ≤ (wst N W T F (fun _ => false, q0, 0, w0) i).2.2.2 k ∧ (wst N W T F (fun _ => false, q0, 0, w0) i).2.2.2 k ≤ 400 + 400 * i
  | 0, k, h => Bool.noConfusion h
  | i + 1, k, h => by
    have ih := wst_w (q0 := q0) (w0 := w0) hF i
    have s1 : wst N W T F (fun _ => false, q0, 0, w0) (i + 1) = if wnx N W T (wst N W T F (fun _ => false, q0, 0, w0) i).1 = -1 then wst N W T F (fun _ => false, q0, 0, w0) i else wgo N W F (wnx N W T (wst N W T F (fun _ => false, q0, 0, w0) i).1).toNat (wst N W T F (fun _ => false, q0, 0, w0) i) := rfl
    rw [s1] at h ⊢
    generalize wst N W T F (fun _ => false, q0, 0, w0) i = s at *
    obtain ⟨P, q, m, w⟩ := s
    dsimp only at *
    rcases wnx_cases (N := N) (W := W) (T := T) (P := P) with ⟨c1, -⟩ | ⟨k', c1, c2, c3, c4, -⟩
    · rw [if_pos c1] at h ⊢
      obtain ⟨a1, a2, a3, a4⟩ := ih k h
      exact ⟨a1, a2, a3, by dsimp only; omega⟩
    rw [if_neg (by omega), c2, Int.toNat_natCast] at h ⊢
    have f := hF k' c1 c3
    by_cases e : wfr N W P k' = -1
    · have g : wgo N W F k' (P, q, m, w) = (fun j => P j || decide (j = k'), fu q k' (m : Int), m + 1, fu w k' (F k')) := if_pos e
      rw [g] at h ⊢
      dsimp only at h ⊢
      rw [Bool.or_eq_true, decide_eq_true_eq] at h
      by_cases c : k = k'
      · subst c
        rw [fu_same]
        exact ⟨c1, c3, ⟨0, by omega⟩, by omega⟩
      · rw [fu_ne c]
        obtain ⟨a1, a2, a3, a4⟩ := ih k (by rcases h with z | z; exact z; exact absurd z c)
        exact ⟨a1, a2, a3, by omega⟩
    · obtain ⟨a, a1, a2, a3, a4⟩ := wfr_some e
      have g : wgo N W F k' (P, q, m, w) = (fun j => P j || decide (j = k'), fu q k' (q a), m, fu w k' (w a + pdif a k' (F a) (F k'))) := by
        unfold wgo
        rw [if_neg e]
        simp only [a2, Int.toNat_natCast]
      rw [g] at h ⊢
      dsimp only at h ⊢
      rw [Bool.or_eq_true, decide_eq_true_eq] at h
      by_cases c : k = k'
      · subst c
        rw [fu_same]
        obtain ⟨b1, b2, ⟨t, b3⟩, b4⟩ := ih a a3
        obtain ⟨t', p1⟩ := pdif_mod (a := a) (b := k) (x := F a) (y := F k)
        have p2 := pdif_200 (a := a) (b := k) (hF a b1 b2) f
        exact ⟨c1, c3, ⟨t + t', by omega⟩, by omega⟩
      · rw [fu_ne c]
        obtain ⟨a1, a2, a3, a4⟩ := ih k (by rcases h with z | z; exact z; exact absurd z c)
        exact ⟨a1, a2, a3, by omega⟩
theorem pW_in (hN : N ≤ 25) (hF : ∀ k, k < N → T k = true → 0 ≤ F k ∧ F k < 400) {k : Nat} (hk : k < N) (tk : T k = true) : (∃ t, pW N W T F k = F k + 400 * t) ∧ -10400 ≤ pW N W T F k ∧ pW N W T F k ≤ 10400 := by
  obtain ⟨-, -, a, b⟩ := wst_w (q0 := fun _ => 0) (w0 := fun _ => 0) (W := W) hF N k (wst_all hk tk)
  exact ⟨a, by unfold pW; omega⟩
/-- the first pixel of a part stands at its phase -/
theorem wst_r {q0 w0 : Nat → Int} : ∀ i k, (wst N W T F (fun _ => false, q0, 0, w0) i).1 k = true → (∀ j, (wst N W T F (fun _ => false, q0, 0, w0) i).1 j = true → (wst N W T F (fun _ => false, q0, 0, w0) i).2.1 j = (wst N W T F (fun _ => false, q0, 0, w0) i).2.1 k → k ≤ j) → (wst N W T F (fun _ => false, q0, 0, w0) i).2.2.2 k = F k
  | 0, k, h, _ => Bool.noConfusion h
  | i + 1, k, h, hl => by
    have ih := wst_r (q0 := q0) (w0 := w0) i
    obtain ⟨ρ, I⟩ := WI.st (N := N) (W := W) (T := T) (F := F) (q0 := q0) (w0 := w0) i
    have s1 : wst N W T F (fun _ => false, q0, 0, w0) (i + 1) = if wnx N W T (wst N W T F (fun _ => false, q0, 0, w0) i).1 = -1 then wst N W T F (fun _ => false, q0, 0, w0) i else wgo N W F (wnx N W T (wst N W T F (fun _ => false, q0, 0, w0) i).1).toNat (wst N W T F (fun _ => false, q0, 0, w0) i) := rfl
    rw [s1] at h hl ⊢
    generalize wst N W T F (fun _ => false, q0, 0, w0) i = s at *
    obtain ⟨P, q, m, w⟩ := s
    obtain ⟨i1, i2, i3, i4, i5, i6, i7⟩ := I
    dsimp only at *
    rcases wnx_cases (N := N) (W := W) (T := T) (P := P) with ⟨c1, -⟩ | ⟨k', c1, c2, c3, c4, -⟩
    · rw [if_pos c1] at h hl ⊢
      exact ih k h hl
    rw [if_neg (by omega), c2, Int.toNat_natCast] at h hl ⊢
    have nek : ∀ j, P j = true → j ≠ k' := fun j hj z => by rw [z, c4] at hj; cases hj
    by_cases e : wfr N W P k' = -1
    · have g : wgo N W F k' (P, q, m, w) = (fun j => P j || decide (j = k'), fu q k' (m : Int), m + 1, fu w k' (F k')) := if_pos e
      rw [g] at h hl ⊢
      dsimp only at h hl ⊢
      rw [Bool.or_eq_true, decide_eq_true_eq] at h
      by_cases c : k = k'
      · subst c
        rw [fu_same]
      · rw [fu_ne c]
        have pk : P k = true := by rcases h with z | z; exact z; exact absurd z c
        refine ih k pk (fun j hj hq => hl j (by rw [hj]; rfl) ?_)
        rw [fu_ne (nek j hj), fu_ne c, hq]
    · obtain ⟨a, a1, a2, a3, a4⟩ := wfr_some e
      have g : wgo N W F k' (P, q, m, w) = (fun j => P j || decide (j = k'), fu q k' (q a), m, fu w k' (w a + pdif a k' (F a) (F k'))) := by
        unfold wgo
        rw [if_neg e]
        simp only [a2, Int.toNat_natCast]
      rw [g] at h hl ⊢
      dsimp only at h hl ⊢
      rw [Bool.or_eq_true, decide_eq_true_eq] at h
      by_cases c : k = k'
      · subst c
        exfalso
        obtain ⟨p, p1, p2, p3, -⟩ := i4 a a3
        have r := i2 p p1
        have := hl (ρ p) (by rw [r.1]; rfl) (by rw [fu_ne (nek _ r.1), fu_same, r.2, p2])
        have := i7 k c1 c3 c4 p p1
        omega
      · rw [fu_ne c]
        have pk : P k = true := by rcases h with z | z; exact z; exact absurd z c
        refine ih k pk (fun j hj hq => hl j (by rw [hj]; rfl) ?_)
        rw [fu_ne (nek j hj), fu_ne c, hq]
end WKD
