/-! THE SMALL MACHINE: the value of a run, and its equations -/
/-- what a run comes to: some answer, objects and numbers, if it comes to an end at all -/
noncomputable def Zx (k i : Nat) (L st : List zV) (S : zS) (h : zH) : Option (Option zV × zS × zH) :=
  haveI := Classical.propDecidable
  if q : ∃ (f : Nat) (r : Option zV × zS × zH), zex ztb znl f k i L st S h = some r then some q.choose_spec.choose else none
theorem zex_mono : ∀ (f : Nat) {k i : Nat} {L st : List zV} {S : zS} {h : zH} {r : Option zV × zS × zH}, zex ztb znl f k i L st S h = some r → zex ztb znl (f + 1) k i L st S h = some r := by
  intro f
  induction f with
  | zero =>
    intro k i L st S h r hx
    cases hx
  | succ f ih =>
    intro k i L st S h r hx
    rw [zex] at hx ⊢
    cases he : ztb k i with
    | none => rw [he] at hx; cases hx
    | some en =>
      rw [he] at hx
      dsimp only at hx ⊢
      cases hs : zstp en i (zkill en.2.2.2.2.2.2.2 L) st S h with
      | none => rw [hs] at hx; cases hx
      | some o =>
        rw [hs] at hx
        rcases o with ⟨j, L1, st1, S1, h1⟩ | w | ⟨m', L1, as, st1⟩
        · exact ih hx
        · exact hx
        · dsimp only at hx ⊢
          split at hx
          · cases hx
          rename_i hz
          rw [if_neg hz]
          cases hr : zex ztb znl f m' 0 (zent (znl m') as.reverse) [] S h with
          | none => rw [hr] at hx; cases hx
          | some o =>
            rw [hr] at hx
            rw [ih hr]
            obtain ⟨v1, S1, h1⟩ := o
            dsimp only at hx ⊢
            split at hx
            · rename_i hv
              rw [if_pos hv]
              exact ih hx
            · cases hx
theorem zex_le {f g : Nat} (hfg : f ≤ g) {k i : Nat} {L st : List zV} {S : zS} {h : zH} {r : Option zV × zS × zH} (hx : zex ztb znl f k i L st S h = some r) : zex ztb znl g k i L st S h = some r := by
  induction g with
  | zero =>
    have : f = 0 := by omega
    subst this; exact hx
  | succ g ih =>
    rcases Nat.lt_or_ge g f with q | q
    · have : f = g + 1 := by omega
      subst this; exact hx
    · exact zex_mono g (ih q)
theorem Zx_of {f k i : Nat} {L st : List zV} {S : zS} {h : zH} {r : Option zV × zS × zH} (hx : zex ztb znl f k i L st S h = some r) : Zx k i L st S h = some r := by
  have q : ∃ (f : Nat) (r : Option zV × zS × zH), zex ztb znl f k i L st S h = some r := ⟨f, r, hx⟩
  unfold Zx
  rw [dif_pos q]
  have h1 := q.choose_spec.choose_spec
  have h2 := zex_le (Nat.le_max_left f q.choose) hx
  have h3 := zex_le (Nat.le_max_right f q.choose) h1
  rw [h2] at h3
  exact h3.symm
theorem Zx_to {k i : Nat} {L st : List zV} {S : zS} {h : zH} {r : Option zV × zS × zH} (hx : Zx k i L st S h = some r) : ∃ f, zex ztb znl f k i L st S h = some r := by
  unfold Zx at hx
  split at hx
  · rename_i q
    refine ⟨q.choose, ?_⟩
    rw [q.choose_spec.choose_spec]
    exact hx
  · cases hx
theorem Zx_none {k i : Nat} {L st : List zV} {S : zS} {h : zH} (hn : ∀ f, zex ztb znl f k i L st S h = none) : Zx k i L st S h = none := by
  cases hx : Zx k i L st S h with
  | none => rfl
  | some r =>
    obtain ⟨f, hf⟩ := Zx_to hx
    rw [hn f] at hf
    cases hf
/-- two runs are worth the same, if each is of the other -/
theorem Zx_eq {k i : Nat} {L st : List zV} {S : zS} {h : zH} {k2 i2 : Nat} {L2 st2 : List zV} {S2 : zS} {h2 : zH} (h1 : ∀ f r, zex ztb znl f k i L st S h = some r → ∃ g, zex ztb znl g k2 i2 L2 st2 S2 h2 = some r) (h2' : ∀ f r, zex ztb znl f k2 i2 L2 st2 S2 h2 = some r → ∃ g, zex ztb znl g k i L st S h = some r) : Zx k i L st S h = Zx k2 i2 L2 st2 S2 h2 := by
  cases ha : Zx k i L st S h with
  | some r =>
    obtain ⟨f, hf⟩ := Zx_to ha
    obtain ⟨g, hg⟩ := h1 f r hf
    exact (Zx_of hg).symm
  | none =>
    cases hb : Zx k2 i2 L2 st2 S2 h2 with
    | none => rfl
    | some r =>
      obtain ⟨f, hf⟩ := Zx_to hb
      obtain ⟨g, hg⟩ := h2' f r hf
      rw [Zx_of hg] at ha
      cases ha
/-- a step on -/
theorem Zx_next {k i : Nat} {en : zE} {L st : List zV} {S : zS} {h : zH} {j : Nat} {L' st' : List zV} {S' : zS} {h' : zH} (he : ztb k i = some en) (hs : zstp en i (zkill en.2.2.2.2.2.2.2 L) st S h = some (.inl (j, L', st', S', h'))) : Zx k i L st S h = Zx k j L' st' S' h' := by
  refine Zx_eq (fun f r hf => ?_) (fun f r hf => ⟨f + 1, ?_⟩)
  · cases f with
    | zero => cases hf
    | succ f =>
      rw [zex, he] at hf
      dsimp only at hf
      rw [hs] at hf
      exact ⟨f, hf⟩
  · rw [zex, he]
    dsimp only
    rw [hs]
    exact hf
/-- back -/
theorem Zx_ret {k i : Nat} {en : zE} {L st : List zV} {S : zS} {h : zH} {v : Option zV} (he : ztb k i = some en) (hs : zstp en i (zkill en.2.2.2.2.2.2.2 L) st S h = some (.inr (.inl v))) : Zx k i L st S h = some (v, S, h) := by
  refine Zx_of (f := 1) ?_
  rw [zex, he]
  dsimp only
  rw [hs]
/-- a call, that ends -/
theorem Zx_call {k i : Nat} {en : zE} {L st : List zV} {S : zS} {h : zH} {m' : Nat} {L' as st' : List zV} {v : Option zV} {S1 : zS} {h1 : zH} (he : ztb k i = some en) (hs : zstp en i (zkill en.2.2.2.2.2.2.2 L) st S h = some (.inr (.inr (m', L', as, st')))) (hz : zwds as ≤ znl m') (hr : Zx m' 0 (zent (znl m') as.reverse) [] S h = some (v, S1, h1)) (hv : S1.length = S.length ∨ (L'.all (zvalid S.length) && st'.all (zvalid S.length)) = true) : Zx k i L st S h = Zx k (i + 1) L' (v.toList ++ st') S1 h1 := by
  obtain ⟨g, hg⟩ := Zx_to hr
  refine Zx_eq (fun f r hf => ?_) (fun f r hf => ⟨max f g + 1, ?_⟩)
  · cases f with
    | zero => cases hf
    | succ f =>
      rw [zex, he] at hf
      dsimp only at hf
      rw [hs] at hf
      dsimp only at hf
      rw [if_neg (by omega)] at hf
      cases hq : zex ztb znl f m' 0 (zent (znl m') as.reverse) [] S h with
      | none => rw [hq] at hf; cases hf
      | some o =>
        have := Zx_of hq
        rw [hr] at this
        cases this
        rw [hq] at hf
        dsimp only at hf
        rw [if_pos hv] at hf
        exact ⟨f, hf⟩
  · rw [zex, he]
    dsimp only
    rw [hs]
    dsimp only
    rw [if_neg (by omega), zex_le (Nat.le_max_right f g) hg]
    dsimp only
    rw [if_pos hv]
    exact zex_le (Nat.le_max_left f g) hf
/-- dead locals don't matter -/
theorem Zx_kill {k i : Nat} {en : zE} {L L2 st : List zV} {S : zS} {h : zH} (he : ztb k i = some en) (hk : zkill en.2.2.2.2.2.2.2 L = zkill en.2.2.2.2.2.2.2 L2) : Zx k i L st S h = Zx k i L2 st S h := by
  refine Zx_eq (fun f r hf => ⟨f, ?_⟩) (fun f r hf => ⟨f, ?_⟩)
  · cases f with
    | zero => cases hf
    | succ f =>
      rw [zex, he] at hf ⊢
      dsimp only at hf ⊢
      rw [← hk]; exact hf
  · cases f with
    | zero => cases hf
    | succ f =>
      rw [zex, he] at hf ⊢
      dsimp only at hf ⊢
      rw [hk]; exact hf
