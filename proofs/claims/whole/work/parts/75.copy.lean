/-! THE CLASS'S PICTURES AND TRIALS: copies -/
theorem zcpy_in {h : zH} {a b n k : Nat} (hk : k < n) : zcpy h a 0 b 0 n b k = h a k := by
  unfold zcpy
  rw [if_pos ⟨rfl, Nat.zero_le _, by omega⟩]
  congr 1
  omega
theorem zcpy_off {h : zH} {a b n x k : Nat} (hx : x ≠ b) : zcpy h a 0 b 0 n x k = h x k := by
  unfold zcpy
  rw [if_neg (fun z => hx z.1)]
section CPY
variable {S : zS} {h : zH} {o p W H : Nat} {le : Int} {st wt ph : Nat → Int} {ho : Nat → Bool}
/-- Picture.copy -/
theorem s_cpy (hL : LX2 S o) (hLp : LX2 S p) (hd : o + 4 < p ∨ p + 4 < o) (hP : PiC h p W H le st wt ph ho) : ∃ h', Zx 29 0 [zR o, zR p, zN] [] S h = some (none, S, h') ∧ PiC h' o W H le st wt ph ho ∧ ∀ x k, (x < o ∨ o + 4 < x) → h' x k = h x k := by
  obtain ⟨a1, a2, a3, a4, a5⟩ := hP
  have start : ∃ h0, Zx 29 0 [zR o, zR p, zN] [] S h = Zx 29 44 [zR o, zR p, zI ((0 : Nat) : Int)] [] S h0 ∧ (h0 o 0 = W ∧ h0 o 1 = H ∧ h0 o 2 = le) ∧ (∀ k, k < 100 → h0 (o + 1) k = st k) ∧ (∀ k, k < 25 → h0 (o + 2) k = wt k ∧ h0 (o + 3) k = ph k) ∧ ∀ x k, (x < o ∨ o + 4 < x) → h0 x k = h x k := by
    refine ⟨_, b29_0 hL hLp, ⟨?_, ?_, ?_⟩, fun k hk => ?_, fun k hk => ⟨?_, ?_⟩, fun x k hx => ?_⟩
    · rw [zcpy_off (by omega), zcpy_off (by omega), zcpy_off (by omega), zu_off (Or.inr (by decide)), zu_off (Or.inr (by decide)), zu_eq, a1]
    · rw [zcpy_off (by omega), zcpy_off (by omega), zcpy_off (by omega), zu_off (Or.inr (by decide)), zu_eq, zu_off (Or.inl (by omega)), a2]
    · rw [zcpy_off (by omega), zcpy_off (by omega), zcpy_off (by omega), zu_eq, zu_off (Or.inl (by omega)), zu_off (Or.inl (by omega)), a3]
    · rw [zcpy_off (by omega), zcpy_off (by omega), zcpy_in hk, zu_off (Or.inl (by omega)), zu_off (Or.inl (by omega)), zu_off (Or.inl (by omega)), a4 k hk]
    · rw [zcpy_off (by omega), zcpy_in hk, zcpy_off (by omega), zu_off (Or.inl (by omega)), zu_off (Or.inl (by omega)), zu_off (Or.inl (by omega)), (a5 k hk).1]
    · rw [zcpy_in hk, zcpy_off (by omega), zcpy_off (by omega), zu_off (Or.inl (by omega)), zu_off (Or.inl (by omega)), zu_off (Or.inl (by omega)), (a5 k hk).2.1]
    · rw [zcpy_off (by omega), zcpy_off (by omega), zcpy_off (by omega), zu_off (Or.inl (by omega)), zu_off (Or.inl (by omega)), zu_off (Or.inl (by omega))]
  obtain ⟨h0, e0, f0, g1, g2, g3⟩ := start
  have all : ∀ i : Nat, i ≤ 25 → ∃ h', Zx 29 0 [zR o, zR p, zN] [] S h = Zx 29 44 [zR o, zR p, zI (i : Int)] [] S h' ∧ (∀ k, k < i → zb1 (h' (o + 4) k) = if ho k = true then 1 else 0) ∧ ∀ x k, x ≠ o + 4 → h' x k = h0 x k := by
    intro i
    induction i with
    | zero => intro _; exact ⟨h0, e0, fun k hk => absurd hk (Nat.not_lt_zero k), fun x k _ => rfl⟩
    | succ i ih =>
      intro hi
      obtain ⟨h1, e1, m1, n1⟩ := ih (by omega)
      refine ⟨zu h1 (o + 4) i (zb1 (h1 (p + 4) i)), ?_, fun k hk => ?_, fun x k hx => by rw [zu_off (Or.inl hx)]; exact n1 x k hx⟩
      · rw [e1, b29_44 hL hLp (by intros; omega) (by intros; omega) (by intros; omega) (by intros; omega), zw_nat (by omega), if_neg (by omega), Int.toNat_natCast]
        rfl
      · by_cases q : k = i
        · rw [q, zu_eq, n1 (p + 4) i (by omega), g3 (p + 4) i (by omega), (a5 i (by omega)).2.2]
          split <;> rfl
        · rw [zu_off (Or.inr q)]
          exact m1 k (by omega)
  obtain ⟨h', e, m, n⟩ := all 25 (Nat.le_refl _)
  refine ⟨h', ?_, ⟨?_, ?_, ?_, fun k hk => ?_, fun k hk => ⟨?_, ?_, m k hk⟩⟩, fun x k hx => ?_⟩
  · rw [e, b29_44 hL hLp (by intro g; exact absurd (by decide) g) (by intro g; exact absurd (by decide) g) (by intro g; exact absurd (by decide) g) (by intro g; exact absurd (by decide) g), if_pos (by decide)]
  · rw [n _ _ (by omega)]; exact f0.1
  · rw [n _ _ (by omega)]; exact f0.2.1
  · rw [n _ _ (by omega)]; exact f0.2.2
  · rw [n _ _ (by omega)]; exact g1 k hk
  · rw [n _ _ (by omega)]; exact (g2 k hk).1
  · rw [n _ _ (by omega)]; exact (g2 k hk).2
  · rw [n _ _ (by omega)]; exact g3 x k hx
/-- Trial.copy -/
theorem s_cpt {t r : Nat} (hL : LX8 S t) (hLr : LX8 S r) (hd : t + 2 < r ∨ r + 2 < t) : ∃ h', Zx 93 0 [zR t, zR r] [] S h = some (none, S, h') ∧ h' t 0 = h r 0 ∧ (∀ k, k < 8 → h' (t + 1) k = h (r + 1) k ∧ h' (t + 2) k = h (r + 2) k) ∧ ∀ x k, (x < t ∨ t + 2 < x) → h' x k = h x k := by
  refine ⟨_, b93_0 hL hLr, ?_, fun k hk => ⟨?_, ?_⟩, fun x k hx => ?_⟩
  · rw [zcpy_off (by omega), zcpy_off (by omega), zu_eq]
  · rw [zcpy_off (by omega), zcpy_in hk, zu_off (Or.inl (by omega))]
  · rw [zcpy_in hk, zcpy_off (by omega), zu_off (Or.inl (by omega))]
  · rw [zcpy_off (by omega), zcpy_off (by omega), zu_off (Or.inl (by omega))]
end CPY
