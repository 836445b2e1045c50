/-! PARTS: what numbering of parts there is, and only one -/
def clo (N W : Nat) (T R : Nat → Bool) : Prop := ∀ a b, a < N → b < N → T a = true → T b = true → bsd W a b = true → R a = R b
def isP (N W : Nat) (T : Nat → Bool) (q : Nat → Int) (m : Nat) (ρ : Nat → Nat) : Prop :=
  (∀ a b, a < N → b < N → T a = true → T b = true → bsd W a b = true → q a = q b) ∧ (∀ p, p < m → ρ p < N ∧ T (ρ p) = true ∧ q (ρ p) = (p : Int)) ∧ (∀ p p', p < p' → p' < m → ρ p < ρ p') ∧ ∀ k, k < N → T k = true → ∃ p : Nat, p < m ∧ q k = (p : Int) ∧ ρ p ≤ k ∧ ∀ R : Nat → Bool, clo N W T R → R (ρ p) = true → R k = true
section PRT
variable {N W : Nat} {T : Nat → Bool} {F : Nat → Int} {q q' : Nat → Int} {m m' : Nat} {ρ ρ' : Nat → Nat}
theorem isP.inj (h : isP N W T q m ρ) {p p' : Nat} (h1 : p < m) (h2 : p' < m) (e : ρ p = ρ p') : p = p' := by
  have a := (h.2.1 p h1).2.2
  have b := (h.2.1 p' h2).2.2
  rw [e, b] at a
  omega
theorem isP.same (h : isP N W T q m ρ) (h' : isP N W T q' m' ρ') {a b : Nat} (ha : a < N) (hb : b < N) (ta : T a = true) (tb : T b = true) (e : q a = q b) : q' a = q' b := by
  obtain ⟨p, p1, p2, -, p3⟩ := h.2.2.2 a ha ta
  obtain ⟨r, r1, r2, -, r3⟩ := h.2.2.2 b hb tb
  have : p = r := by omega
  subst this
  have cl : clo N W T (fun x => decide (q' x = q' (ρ p))) := fun x y hx hy tx ty hb => by
    show decide (q' x = q' (ρ p)) = decide (q' y = q' (ρ p))
    rw [h'.1 x y hx hy tx ty hb]
  have e1 := p3 _ cl (decide_eq_true rfl)
  have e2 := r3 _ cl (decide_eq_true rfl)
  rw [decide_eq_true_eq] at e1 e2
  rw [e1, e2]
theorem isP.root (h : isP N W T q m ρ) (h' : isP N W T q' m' ρ') {p : Nat} (hp : p < m) : ∃ p' : Nat, p' < m' ∧ ρ' p' = ρ p ∧ q' (ρ p) = (p' : Int) := by
  obtain ⟨a1, a2, a3⟩ := h.2.1 p hp
  obtain ⟨p', b1, b2, b3, -⟩ := h'.2.2.2 _ a1 a2
  obtain ⟨c1, c2, c3⟩ := h'.2.1 p' b1
  refine ⟨p', b1, ?_, b2⟩
  have e := h'.same h c1 a1 c2 a2 (by rw [c3, b2])
  obtain ⟨r, d1, d2, d3, -⟩ := h.2.2.2 _ c1 c2
  have : r = p := by omega
  subst this
  omega
theorem isP.roots (h : isP N W T q m ρ) (h' : isP N W T q' m' ρ') : ∀ n p, p ≤ n → p < m → p < m' ∧ ρ p = ρ' p := by
  intro n
  induction n with
  | zero =>
    intro p hpn hp
    have p0 : p = 0 := by omega
    subst p0
    obtain ⟨p', a1, a2, -⟩ := h.root h' hp
    have m0 : 0 < m' := by omega
    refine ⟨m0, ?_⟩
    by_cases c : p' = 0
    · rw [← a2, c]
    · have lt := h'.2.2.1 0 p' (by omega) a1
      obtain ⟨x, b1, b2, -⟩ := h'.root h m0
      by_cases d : x = 0
      · rw [← b2, d]
      · have := h.2.2.1 0 x (by omega) b1
        omega
  | succ n ih =>
    intro p hpn hp
    by_cases hpp : p ≤ n
    · exact ih p hpp hp
    have pn : p = n + 1 := by omega
    obtain ⟨p', a1, a2, -⟩ := h.root h' hp
    have ge : p ≤ p' := by
      apply Classical.byContradiction
      intro z
      have i := ih p' (by omega) (by omega)
      have := h.inj (p := p') (p' := p) (by omega) hp (by rw [i.2, a2])
      omega
    have pm : p < m' := by omega
    refine ⟨pm, ?_⟩
    by_cases c : p' = p
    · rw [← a2, c]
    · have lt := h'.2.2.1 p p' (by omega) a1
      obtain ⟨x, b1, b2, -⟩ := h'.root h pm
      have xl : x < p := by
        apply Classical.byContradiction
        intro z
        by_cases d : x = p
        · subst d; omega
        · have := h.2.2.1 p x (by omega) b1; omega
      have i := ih x (by omega) b1
      have := h'.inj (p := x) (p' := p) i.1 pm (by rw [← i.2, b2])
      omega
/-- there is but one numbering -/
theorem isP.uniq (h : isP N W T q m ρ) (h' : isP N W T q' m' ρ') : m = m' ∧ (∀ p, p < m → ρ p = ρ' p) ∧ ∀ k, k < N → T k = true → q k = q' k := by
  have r := fun p hp => h.roots h' p p (Nat.le_refl _) hp
  have r' := fun p hp => h'.roots h p p (Nat.le_refl _) hp
  have e : m = m' := by
    by_cases c : m < m'
    · have := (r' m c).1; omega
    · by_cases d : m' < m
      · have := (r m' d).1; omega
      · omega
  refine ⟨e, fun p hp => (r p hp).2, fun k hk tk => ?_⟩
  obtain ⟨p, a1, a2, -, -⟩ := h.2.2.2 k hk tk
  obtain ⟨b1, b2, b3⟩ := h.2.1 p a1
  have s := h.same h' hk b1 tk b2 (by rw [a2, b3])
  obtain ⟨c1, c2, c3⟩ := h'.2.1 p (r p a1).1
  rw [a2, s, (r p a1).2, c3]
/-- what the walk keeps -/
def WI (N W : Nat) (T : Nat → Bool) (s : wS) (ρ : Nat → Nat) : Prop :=
  (∀ k, s.1 k = true → k < N ∧ T k = true) ∧ (∀ p, p < s.2.2.1 → s.1 (ρ p) = true ∧ s.2.1 (ρ p) = (p : Int)) ∧ (∀ p p', p < p' → p' < s.2.2.1 → ρ p < ρ p') ∧ (∀ k, s.1 k = true → ∃ p : Nat, p < s.2.2.1 ∧ s.2.1 k = (p : Int) ∧ ρ p ≤ k ∧ ∀ R : Nat → Bool, clo N W T R → R (ρ p) = true → R k = true) ∧ (∀ a b, s.1 a = true → s.1 b = true → bsd W a b = true → s.2.1 a = s.2.1 b) ∧ (∀ j k, s.1 j = true → k < N → T k = true → s.1 k = false → bsd W j k = true → s.2.1 j = (s.2.2.1 : Int) - 1) ∧ ∀ k, k < N → T k = true → s.1 k = false → ∀ p, p < s.2.2.1 → ρ p < k
theorem WI.go {s : wS} {k : Nat} (I : WI N W T s ρ) (hw : wnx N W T s.1 = (k : Int)) : ∃ ρ', WI N W T (wgo N W F k s) ρ' := by
  obtain ⟨P, q, m, w⟩ := s
  obtain ⟨i1, i2, i3, i4, i5, i6, i7⟩ := I
  dsimp only at i1 i2 i3 i4 i5 i6 i7 hw
  rcases wnx_cases (N := N) (W := W) (T := T) (P := P) with ⟨c1, -⟩ | ⟨k', c1, c2, c3, c4, c5⟩
  · omega
  have : k' = k := by omega
  subst this
  have orr : ∀ j, (P j || decide (j = k')) = true ↔ (P j = true ∨ j = k') := fun j => by rw [Bool.or_eq_true, decide_eq_true_eq]
  have orf : ∀ j, (P j || decide (j = k')) = false ↔ (P j = false ∧ j ≠ k') := fun j => by rw [Bool.or_eq_false_iff, decide_eq_false_iff_not]
  have nek : ∀ j, P j = true → j ≠ k' := fun j hj z => by rw [z, c4] at hj; cases hj
  by_cases d : wfr N W P k' = -1
  · have g : wgo N W F k' (P, q, m, w) = (fun j => P j || decide (j = k'), fu q k' (m : Int), m + 1, fu w k' (F k')) := if_pos d
    rw [g]
    have no : (∀ i, i < N → T i = true → P i = false → wfr N W P i = -1) ∧ ∀ i, i < k' → T i = true → P i = true := by
      rcases c5 with ⟨z, -⟩ | z
      · exact absurd d z
      · exact z
    have old : ∀ p, p < m → (fun p => if p = m then k' else ρ p) p = ρ p := fun p hp => if_neg (by omega)
    have new : (fun p => if p = m then k' else ρ p) m = k' := if_pos rfl
    refine ⟨fun p => if p = m then k' else ρ p, ?_, ?_, ?_, ?_, ?_, ?_, ?_⟩
    · intro j hj
      rcases (orr j).mp hj with z | z
      · exact i1 j z
      · rw [z]; exact ⟨c1, c3⟩
    · intro p hp
      by_cases e : p = m
      · subst e
        rw [new]
        exact ⟨(orr _).mpr (Or.inr rfl), fu_same⟩
      · have pm : p < m := by have : p < m + 1 := hp; omega
        rw [old p pm]
        obtain ⟨a, b⟩ := i2 p pm
        exact ⟨(orr _).mpr (Or.inl a), (fu_ne (nek _ a)).trans b⟩
    · intro p p' h1 h2
      have h3 : p' < m + 1 := h2
      rw [old p (by omega)]
      by_cases e : p' = m
      · subst e
        rw [new]
        exact i7 k' c1 c3 c4 p (by omega)
      · rw [old p' (by omega)]
        exact i3 p p' h1 (by omega)
    · intro j hj
      rcases (orr j).mp hj with z | z
      · obtain ⟨p, p1, p2, p3, p4⟩ := i4 j z
        refine ⟨p, Nat.lt_succ_of_lt p1, (fu_ne (nek _ z)).trans p2, ?_, ?_⟩
        · rw [old p p1]; exact p3
        · rw [old p p1]; exact p4
      · subst z
        refine ⟨m, Nat.lt_succ_self m, fu_same, ?_, ?_⟩
        · rw [new]; exact Nat.le_refl _
        · rw [new]; exact fun R _ h => h
    · intro a b ha hb hab
      show fu q k' m a = fu q k' m b
      rcases (orr a).mp ha with za | za <;> rcases (orr b).mp hb with zb | zb
      · rw [fu_ne (nek _ za), fu_ne (nek _ zb)]
        exact i5 a b za zb hab
      · subst zb
        exact absurd ⟨za, hab⟩ (wfr_none.mp d a (i1 a za).1)
      · subst za
        exact absurd ⟨zb, by rw [bsd_sym]; exact hab⟩ (wfr_none.mp d b (i1 b zb).1)
      · rw [za, zb]
    · intro j x hj hx tx hpx hb
      obtain ⟨px, nx⟩ := (orf x).mp hpx
      rcases (orr j).mp hj with z | z
      · exact absurd ⟨z, hb⟩ (wfr_none.mp (no.1 x hx tx px) j (i1 j z).1)
      · subst z
        show fu q j m j = ((m + 1 : Nat) : Int) - 1
        rw [fu_same]; omega
    · intro x hx tx hpx p hp
      obtain ⟨px, nx⟩ := (orf x).mp hpx
      by_cases e : p = m
      · subst e
        rw [new]
        by_cases lt : x < k'
        · rw [no.2 x lt tx] at px; cases px
        · omega
      · rw [old p (by have : p < m + 1 := hp; omega)]
        exact i7 x hx tx px p (by have : p < m + 1 := hp; omega)
  · obtain ⟨a, a1, a2, a3, a4⟩ := wfr_some d
    have g : wgo N W F k' (P, q, m, w) = (fun j => P j || decide (j = k'), fu q k' (q a), m, fu w k' (w a + pdif a k' (F a) (F k'))) := by
      unfold wgo
      rw [if_neg d]
      simp only [a2, Int.toNat_natCast]
    rw [g]
    have qa := i6 a k' a3 c1 c3 c4 a4
    refine ⟨ρ, ?_, ?_, i3, ?_, ?_, ?_, ?_⟩
    · intro j hj
      rcases (orr j).mp hj with z | z
      · exact i1 j z
      · rw [z]; exact ⟨c1, c3⟩
    · intro p hp
      obtain ⟨x, y⟩ := i2 p hp
      exact ⟨(orr _).mpr (Or.inl x), (fu_ne (nek _ x)).trans y⟩
    · intro j hj
      rcases (orr j).mp hj with z | z
      · obtain ⟨p, p1, p2, p3, p4⟩ := i4 j z
        exact ⟨p, p1, (fu_ne (nek _ z)).trans p2, p3, p4⟩
      · subst z
        obtain ⟨p, p1, p2, p3, p4⟩ := i4 a a3
        refine ⟨p, p1, fu_same.trans p2, Nat.le_of_lt (i7 j c1 c3 c4 p p1), fun R hR h => ?_⟩
        rw [← hR a j a1 c1 (i1 a a3).2 c3 a4]
        exact p4 R hR h
    · intro x y hx hy hxy
      show fu q k' (q a) x = fu q k' (q a) y
      rcases (orr x).mp hx with zx | zx <;> rcases (orr y).mp hy with zy | zy
      · rw [fu_ne (nek _ zx), fu_ne (nek _ zy)]
        exact i5 x y zx zy hxy
      · subst zy
        rw [fu_ne (nek _ zx), fu_same, qa]
        exact i6 x y zx c1 c3 c4 hxy
      · subst zx
        rw [fu_ne (nek _ zy), fu_same, qa]
        exact (i6 y x zy c1 c3 c4 (by rw [bsd_sym]; exact hxy)).symm
      · rw [zx, zy]
    · intro j x hj hx tx hpx hb
      obtain ⟨px, nx⟩ := (orf x).mp hpx
      rcases (orr j).mp hj with z | z
      · exact (fu_ne (nek _ z)).trans (i6 j x z hx tx px hb)
      · subst z
        exact fu_same.trans qa
    · intro x hx tx hpx p hp
      exact i7 x hx tx ((orf x).mp hpx).1 p hp
theorem WI.st {q0 w0 : Nat → Int} : ∀ i, ∃ ρ, WI N W T (wst N W T F (fun _ => false, q0, 0, w0) i) ρ
  | 0 => ⟨fun _ => 0, fun k h => Bool.noConfusion h, fun p h => absurd h (Nat.not_lt_zero p), fun p p' _ h => absurd h (Nat.not_lt_zero p'), fun k h => Bool.noConfusion h, fun a b h => Bool.noConfusion h, fun j k h => Bool.noConfusion h, fun k _ _ _ p h => absurd h (Nat.not_lt_zero p)⟩
  | i + 1 => by
    obtain ⟨ρ, I⟩ := WI.st (q0 := q0) (w0 := w0) i
    show ∃ ρ, WI N W T (if wnx N W T (wst N W T F (fun _ => false, q0, 0, w0) i).1 = -1 then wst N W T F (fun _ => false, q0, 0, w0) i else wgo N W F (wnx N W T (wst N W T F (fun _ => false, q0, 0, w0) i).1).toNat (wst N W T F (fun _ => false, q0, 0, w0) i)) ρ
    split
    · exact ⟨ρ, I⟩
    · rename_i d
      rcases wnx_cases (N := N) (W := W) (T := T) (P := (wst N W T F (fun _ => false, q0, 0, w0) i).1) with ⟨c1, -⟩ | ⟨k, c1, c2, -⟩
      · exact absurd c1 d
      · refine I.go ?_
        rw [c2, Int.toNat_natCast]
/-- each step walks one more -/
theorem wst_count {q0 w0 : Nat → Int} : ∀ i, wnx N W T (wst N W T F (fun _ => false, q0, 0, w0) i).1 = -1 ∨ su (fun k => if (wst N W T F (fun _ => false, q0, 0, w0) i).1 k = true then 1 else 0) N = i
  | 0 => Or.inr (su_zero)
  | i + 1 => by
    by_cases d : wnx N W T (wst N W T F (fun _ => false, q0, 0, w0) i).1 = -1
    · left
      rw [wst_stop d 1]
      exact d
    · right
      have ih := wst_count (q0 := q0) (w0 := w0) i
      have ih2 : su (fun k => if (wst N W T F (fun _ => false, q0, 0, w0) i).1 k = true then 1 else 0) N = i := by
        rcases ih with z | z
        · exact absurd z d
        · exact z
      have st : wst N W T F (fun _ => false, q0, 0, w0) (i + 1) = wgo N W F (wnx N W T (wst N W T F (fun _ => false, q0, 0, w0) i).1).toNat (wst N W T F (fun _ => false, q0, 0, w0) i) := if_neg d
      rw [st]
      generalize wst N W T F (fun _ => false, q0, 0, w0) i = s at *
      rcases wnx_cases (N := N) (W := W) (T := T) (P := s.1) with ⟨c1, -⟩ | ⟨k, c1, c2, c3, c4, -⟩
      · exact absurd c1 d
      rw [c2, Int.toNat_natCast]
      have e : (wgo N W F k s).1 = fun j => s.1 j || decide (j = k) := by
        unfold wgo
        split <;> rfl
      rw [e]
      have e2 : su (fun j => if (s.1 j || decide (j = k)) = true then (1 : Int) else 0) N = su (fun j => if j = k then 1 else if s.1 j = true then 1 else 0) N := su_congr (fun j _ => by
        by_cases z : j = k
        · simp [z]
        · simp [z])
      refine Eq.trans e2 ?_
      rw [su_set c1, ih2, c4]
      simp
theorem wst_all {q0 w0 : Nat → Int} {k : Nat} (hk : k < N) (tk : T k = true) : (wst N W T F (fun _ => false, q0, 0, w0) N).1 k = true := by
  rcases wst_count (N := N) (W := W) (T := T) (F := F) (q0 := q0) (w0 := w0) N with h | h
  · rcases wnx_cases (N := N) (W := W) (T := T) (P := (wst N W T F (fun _ => false, q0, 0, w0) N).1) with ⟨-, c⟩ | ⟨k', c1, c2, -⟩
    · exact c k hk tk
    · omega
  · have e := su_eq_of_le (f := fun k => if (wst N W T F (fun _ => false, q0, 0, w0) N).1 k = true then (1 : Int) else 0) (g := fun _ => 1) (n := N) (fun v _ => by
      show (if _ then (1 : Int) else 0) ≤ 1
      split <;> omega) (by rw [h, su_const1]; exact Int.le_refl _) k hk
    have e' : (if (wst N W T F (fun _ => false, q0, 0, w0) N).1 k = true then (1 : Int) else 0) = 1 := e
    apply Classical.byContradiction
    intro z
    rw [if_neg z] at e'
    omega
/-- the walk numbers the parts -/
theorem wst_isP {q0 w0 : Nat → Int} : ∃ ρ, isP N W T (wst N W T F (fun _ => false, q0, 0, w0) N).2.1 (wst N W T F (fun _ => false, q0, 0, w0) N).2.2.1 ρ := by
  obtain ⟨ρ, i1, i2, i3, i4, i5, i6, i7⟩ := WI.st (N := N) (W := W) (T := T) (F := F) (q0 := q0) (w0 := w0) N
  refine ⟨ρ, fun a b ha hb ta tb h => i5 a b (wst_all ha ta) (wst_all hb tb) h, fun p hp => ?_, i3, fun k hk tk => i4 k (wst_all hk tk)⟩
  obtain ⟨a, b⟩ := i2 p hp
  exact ⟨(i1 _ a).1, (i1 _ a).2, b⟩
end PRT
