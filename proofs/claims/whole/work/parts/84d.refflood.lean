/-! THE REFERENCE: flood -/
abbrev fS : Type := zH × Nat × (Nat → Nat) × (Nat → Nat)
def FlI (h0 : zH) (k to : Nat) (s : fS) : Prop := (∀ x j, x ≠ 225 → x ≠ 226 → s.1 x j = h0 x j) ∧ (∀ j, j < s.2.1 → s.1 226 j = (s.2.2.1 j : Int) ∧ s.2.2.1 j < 27 ∧ s.1 225 (s.2.2.1 j) ≠ -1 ∧ s.2.2.2 (s.2.2.1 j) = j) ∧ (∀ v, v < 27 → s.1 225 v ≠ -1 → s.2.2.2 v < s.2.1 ∧ s.2.2.1 (s.2.2.2 v) = v ∧ (v = 25 ∨ ∃ i, i < s.2.2.2 v ∧ s.1 225 v = (s.2.2.1 i : Int) ∧ 0 < rm h0 (s.2.2.1 i) v)) ∧ (0 < s.2.1 ∧ s.2.2.1 0 = 25 ∧ s.1 225 25 = 25) ∧ su (fun v => if s.1 225 v = -1 then 0 else 1) 27 = (s.2.1 : Int) ∧ ∀ i b, i < s.2.1 → b < 27 → (i < k ∨ (i = k ∧ b < to)) → 0 < rm h0 (s.2.2.1 i) b → s.1 225 b ≠ -1
section FLO
variable {n : Nat} {h0 : zH}
theorem FlI.zw {k to : Nat} {s : fS} (I : FlI h0 k to s) {v : Nat} (hv : v < 27) : zw (s.1 225 v) = s.1 225 v := by
  by_cases c : s.1 225 v = -1
  · rw [c, zwm1]
  · obtain ⟨a, b, d⟩ := I.2.2.1 v hv c
    rcases d with d | ⟨i, i1, i2, -⟩
    · rw [d, I.2.2.2.1.2.2]; decide
    · have := (I.2.1 i (by omega)).2.1
      rw [i2, zw_nat (by omega)]
theorem FlI.le {k to : Nat} {s : fS} (I : FlI h0 k to s) : s.2.1 ≤ 27 ∧ ∀ v, v < 27 → s.1 225 v = -1 → s.2.1 < 27 := by
  have a := su_le (f := fun v => if s.1 225 v = -1 then 0 else 1) (g := fun _ => 1) (n := 27) (fun v _ => by (try dsimp only); split <;> omega)
  rw [I.2.2.2.2.1, su_const1] at a
  refine ⟨by omega, fun v hv c => ?_⟩
  have b := su_le (f := fun v => if s.1 225 v = -1 then 0 else 1) (g := fun i => if i = v then (0 : Int) else 1) (n := 27) (fun i _ => by
    (try dsimp only)
    by_cases d : i = v
    · rw [d, if_pos c, if_pos rfl]; exact Int.le_refl _
    · rw [if_neg d]; split <;> omega)
  have e := su_split (f := fun _ => (1 : Int)) (n := 27) hv
  rw [su_const1] at e
  rw [I.2.2.2.2.1] at b
  have e' : su (fun k => if k = v then (0 : Int) else 1) 27 = 26 := by omega
  rw [e'] at b
  omega
theorem fl_step {k to : Nat} {s : fS} (hz : ∀ a b, a < 27 → b < 27 → zint (rm h0 a b)) (I : FlI h0 k to s) (hk : k < s.2.1) (ht : to < 27) : ∃ s' : fS, Zx 178 31 [zR 202, zI (s.2.1 : Int), zI (k : Int), zI (to : Int)] [] (Z0 n) s.1 = Zx 178 31 [zR 202, zI (s'.2.1 : Int), zI (k : Int), zI ((to + 1 : Nat) : Int)] [] (Z0 n) s'.1 ∧ FlI h0 k (to + 1) s' ∧ s.2.1 ≤ s'.2.1 := by
  have hle := I.le
  have hzv := I.zw ht
  have keep : (0 < rm h0 (s.2.2.1 k) to → s.1 225 to ≠ -1) → FlI h0 k (to + 1) s := fun q => by
    obtain ⟨i1, i2, i3, i4, i5, i6⟩ := I
    refine ⟨i1, i2, i3, i4, i5, fun i b hi hb c r => ?_⟩
    by_cases d : i = k ∧ b = to
    · obtain ⟨rfl, rfl⟩ := d
      exact q r
    · exact i6 i b hi hb (by omega) r
  obtain ⟨i1, i2, i3, ⟨i4, i4b, i4c⟩, i5, i6⟩ := id I
  obtain ⟨j1, j2, j3, j4⟩ := i2 k hk
  have hg : s.1 225 to = -1 → s.2.1 < 27 := hle.2 to ht
  have en : ((to : Int)).toNat = to := Int.toNat_natCast _
  have ek : s.1 226 ((k : Int)).toNat = (s.2.2.1 k : Int) := j1
  have c224 : s.1 224 (27 * s.2.2.1 k + to) = rm h0 (s.2.2.1 k) to := i1 _ _ (by omega) (by omega)
  have st := b178_31 (n := n) (h := s.1) (l1 := (s.2.1 : Int)) (l2 := (k : Int)) (l3 := (to : Int)) (by intros; omega) (by intros; omega) (by intros; omega) (by intros; omega) (by rw [ek]; intros; omega) (by rw [ek]; intros; omega) (by intros; omega) (by intros; omega) (by intros; omega) (by intros; omega) (by intros; omega) (by
    intro q1 q2 q3
    rw [en, hzv] at q2
    have := hg (by omega)
    omega)
  rw [zw_nat (n := to) (by omega), if_neg (by omega), en, hzv, ek, show ((27 : Int) * (s.2.2.1 k : Int) + (to : Int)).toNat = 27 * s.2.2.1 k + to by omega, c224, (hz _ _ j2 ht).e, Int.toNat_natCast] at st
  by_cases c1 : s.1 225 to = -1
  case neg =>
    rw [if_pos c1, b178_66] at st
    exact ⟨s, st, keep (fun _ => c1), Nat.le_refl _⟩
  rw [if_neg (fun z => z c1)] at st
  by_cases c2 : rm h0 (s.2.2.1 k) to ≤ 0
  · rw [if_pos c2, b178_66] at st
    exact ⟨s, st, keep (fun q => by omega), Nat.le_refl _⟩
  rw [if_neg c2, b178_66] at st
  have g27 := hg c1
  obtain ⟨g, got, ln, rk⟩ := s
  (try dsimp only at *)
  have nln : ∀ j, j < got → ln j ≠ to := fun j hj z => by
    have := (i2 j hj).2.2.1
    rw [z] at this
    exact this c1
  have g225 : ∀ v, zu (zu g 225 to (ln k : Int)) 226 got (to : Int) 225 v = if v = to then (ln k : Int) else g 225 v := fun v => by
    rw [zu_off (by omega)]
    by_cases c : v = to
    · rw [c, zu_eq, if_pos rfl]
    · rw [zu_off (by omega), if_neg c]
  have g226 : ∀ v, zu (zu g 225 to (ln k : Int)) 226 got (to : Int) 226 v = if v = got then (to : Int) else g 226 v := fun v => by
    by_cases c : v = got
    · rw [c, zu_eq, if_pos rfl]
    · rw [zu_off (by omega), zu_off (by omega), if_neg c]
  refine ⟨(zu (zu g 225 to (ln k : Int)) 226 got (to : Int), got + 1, fun j => if j = got then to else ln j, fun v => if v = to then got else rk v), ?_, ⟨fun x j q1 q2 => ?_, fun j hj => ?_, fun v hv q => ?_, ⟨?_, ?_, ?_⟩, ?_, fun i b hi hb c r => ?_⟩, ?_⟩
  · exact st
  · (try dsimp only)
    rw [zu_off (by omega), zu_off (by omega)]
    exact i1 x j q1 q2
  · (try dsimp only at hj ⊢)
    rw [g226, g225]
    by_cases c : j = got
    · rw [if_pos c, if_pos c, if_pos rfl, if_pos rfl]
      exact ⟨rfl, ht, by omega, c.symm⟩
    · have hj' : j < got := by omega
      rw [if_neg c, if_neg c, if_neg (nln j hj'), if_neg (nln j hj')]
      exact i2 j hj'
  · (try dsimp only at q ⊢)
    rw [g225] at q ⊢
    by_cases c : v = to
    · subst c
      rw [if_pos rfl, if_pos rfl, if_pos rfl]
      refine ⟨by omega, rfl, Or.inr ⟨k, hk, ?_, ?_⟩⟩
      · rw [if_neg (by omega)]
      · rw [if_neg (by omega)]; omega
    · rw [if_neg c] at q
      obtain ⟨a, b, d⟩ := i3 v hv q
      rw [if_neg c, if_neg c, if_neg (by omega)]
      refine ⟨by omega, b, ?_⟩
      rcases d with d | ⟨i, d1, d2, d3⟩
      · exact Or.inl d
      · exact Or.inr ⟨i, d1, by rw [if_neg (by omega)]; exact d2, by rw [if_neg (by omega)]; exact d3⟩
  · (try dsimp only); omega
  · (try dsimp only)
    rw [if_neg (by omega)]; exact i4b
  · (try dsimp only)
    rw [g225, if_neg (fun z => by rw [← z, i4c] at c1; omega)]
    exact i4c
  · (try dsimp only)
    have s1 := su_set (f := fun v => if g 225 v = -1 then (0 : Int) else 1) (n := 27) (a := to) (x := 1) ht
    (try dsimp only at s1)
    rw [if_pos c1, i5] at s1
    have s2 : su (fun v => if zu (zu g 225 to (ln k : Int)) 226 got (to : Int) 225 v = -1 then (0 : Int) else 1) 27 = su (fun v => if v = to then 1 else if g 225 v = -1 then (0 : Int) else 1) 27 := su_congr (fun v _ => by
      (try dsimp only)
      rw [g225]
      by_cases c : v = to
      · rw [if_pos c, if_pos c, if_neg (by omega)]
      · rw [if_neg c, if_neg c])
    rw [s2, s1]
    omega
  · (try dsimp only at hi r ⊢)
    rw [g225]
    by_cases d : b = to
    · rw [if_pos d]; omega
    · rw [if_neg d]
      have hi' : i ≠ got := by omega
      rw [if_neg hi'] at r
      exact i6 i b (by omega) hb (by omega) r
  · (try dsimp only); omega
theorem fl_outer (hz : ∀ a b, a < 27 → b < 27 → zint (rm h0 a b)) : ∀ (m k : Nat) (s : fS), 27 ≤ k + m → FlI h0 k 0 s → k ≤ s.2.1 → ∃ s' : fS, Zx 178 26 [zR 202, zI (s.2.1 : Int), zI (k : Int), zN] [] (Z0 n) s.1 = some (none, Z0 n, s'.1) ∧ FlI h0 s'.2.1 0 s'
  | m, k, s, hm, I, hk => by
    have l := I.le.1
    by_cases c : s.2.1 ≤ k
    · have e : k = s.2.1 := by omega
      refine ⟨s, ?_, by rw [← e]; exact I⟩
      rw [b178_26, zw_nat (by omega), zw_nat (by omega), if_pos (by omega)]
    · cases m with
      | zero => omega
      | succ m =>
        obtain ⟨s', e, I', hs⟩ := z_inv (N := 27) (X := fun t (s : fS) => Zx 178 31 [zR 202, zI (s.2.1 : Int), zI (k : Int), zI (t : Int)] [] (Z0 n) s.1) (I := fun t u => FlI h0 k t u ∧ s.2.1 ≤ u.2.1) (s := s) ⟨I, Nat.le_refl _⟩ (fun t u ht Iu => by
          obtain ⟨u', e, I', hu⟩ := fl_step (n := n) hz Iu.1 (by omega) ht
          exact ⟨u', e, I', by omega⟩)
        have I2 : FlI h0 (k + 1) 0 s' := by
          obtain ⟨i1, i2, i3, i4, i5, i6⟩ := I'
          exact ⟨i1, i2, i3, i4, i5, fun i b hi hb c r => i6 i b hi hb (by omega) r⟩
        obtain ⟨s2, e2, J⟩ := fl_outer hz m (k + 1) s' (by omega) I2 (by omega)
        refine ⟨s2, ?_, J⟩
        rw [b178_26, zw_nat (by omega), zw_nat (by omega), if_neg (by omega)]
        refine e.trans ?_
        show Zx 178 31 _ _ _ _ = _
        rw [b178_31 (fun q => absurd (by decide) q) (fun q => absurd (by decide) q) (fun q => absurd (by decide) q) (fun q => absurd (by decide) q) (fun q => absurd (by decide) q) (fun q => absurd (by decide) q) (fun q => absurd (by decide) q) (fun q => absurd (by decide) q) (fun q => absurd (by decide) q) (fun q => absurd (by decide) q) (fun q => absurd (by decide) q) (fun q => absurd (by decide) q), if_pos (by decide)]
        exact e2
/-- FringeBenchModel.flood -/
theorem m_flo {h : zH} (hz : ∀ a b, a < 27 → b < 27 → zint (rm h a b)) : ∃ (g : zH) (V : Nat → Bool) (fm rk : Nat → Nat), Zx 178 0 [zR 202, zN, zN, zN] [] (Z0 n) h = some (none, Z0 n, g) ∧ flF 27 25 (rm h) V fm rk ∧ (∀ v, v < 27 → g 225 v = if V v = true then (fm v : Int) else -1) ∧ (∀ v, v < 27 → V v = true → fm v < 27) ∧ ∀ x k, x ≠ 225 → x ≠ 226 → g x k = h x k := by
  obtain ⟨g1, e1, a1, a2⟩ := z_inv (N := 27) (X := fun i (g : zH) => Zx 178 2 [zR 202, zI (i : Int), zN, zN] [] (Z0 n) g) (I := fun i g => (∀ k, k < i → g 225 k = -1) ∧ ∀ x k, x ≠ 225 → g x k = h x k) (s := h) ⟨fun k q => absurd q (Nat.not_lt_zero k), fun x k _ => rfl⟩ (fun i g hi Ig => by
    refine ⟨zu g 225 i (-1), ?_, fun k hk => ?_, fun x k q => ?_⟩
    · show Zx 178 2 _ _ _ _ = Zx 178 2 _ _ _ _
      rw [b178_2 (by intros; omega) (by intros; omega), zw_nat (by omega), if_neg (by omega), Int.toNat_natCast]
      rfl
    · by_cases c : k = i
      · rw [c, zu_eq]
      · rw [zu_off (by omega)]; exact Ig.1 k (by omega)
    · rw [zu_off (by omega)]; exact Ig.2 x k q)
  have c25 : ∀ v, v < 27 → zu (zu g1 225 25 25) 226 0 25 225 v = if v = 25 then 25 else -1 := fun v hv => by
    rw [zu_off (by omega)]
    by_cases c : v = 25
    · rw [c, zu_eq, if_pos rfl]
    · rw [zu_off (by omega), if_neg c]; exact a1 v hv
  have I0 : FlI h 0 0 ((zu (zu g1 225 25 25) 226 0 25, 1, fun _ => 25, fun _ => 0) : fS) := by
    refine ⟨fun x j q1 q2 => ?_, fun j hj => ?_, fun v hv q => ?_, ⟨by (try dsimp only); omega, rfl, c25 25 (by omega)⟩, ?_, fun i b hi hb c r => by omega⟩
    · (try dsimp only)
      rw [zu_off (by omega), zu_off (by omega)]; exact a2 x j q1
    · (try dsimp only at hj ⊢)
      have : j = 0 := by omega
      subst this
      rw [c25 25 (by omega), zu_eq]
      exact ⟨rfl, by omega, by decide, rfl⟩
    · (try dsimp only at q ⊢)
      rw [c25 v hv] at q
      by_cases c : v = 25
      · exact ⟨by omega, c.symm, Or.inl c⟩
      · rw [if_neg c] at q; exact absurd rfl q
    · (try dsimp only)
      have : su (fun v => if zu (zu g1 225 25 25) 226 0 25 225 v = -1 then (0 : Int) else 1) 27 = su (fun v => if v = 25 then 1 else 0) 27 := su_congr (fun v hv => by
        (try dsimp only)
        rw [c25 v hv]
        by_cases c : v = 25
        · rw [if_pos c, if_pos c, if_neg (by decide)]
        · rw [if_neg c, if_neg c, if_pos rfl])
      rw [this, su_one (by omega)]
      rfl
  obtain ⟨⟨g, got, ln, rk⟩, e2, I⟩ := fl_outer (n := n) hz 27 0 _ (by omega) I0 (Nat.zero_le _)
  obtain ⟨i1, i2, i3, ⟨i4, i4b, i4c⟩, i5, i6⟩ := I
  (try dsimp only at i1 i2 i3 i4 i4b i4c i5 i6 e2)
  refine ⟨g, fun v => decide (v < 27) && !decide (g 225 v = -1), fun v => (g 225 v).toNat, rk, ?_, ⟨?_, fun a b ha hb va r => ?_, fun v hv vv q => ?_⟩, fun v hv => ?_, fun v hv vv => ?_, i1⟩
  · rw [b178_0]
    refine e1.trans ?_
    show Zx 178 2 _ _ _ _ = _
    rw [b178_2 (fun q => absurd (by decide) q) (fun q => absurd (by decide) q), if_pos (by decide)]
    exact e2
  · (try dsimp only)
    rw [i4c]; decide
  · (try dsimp only at va ⊢)
    rw [decide_eq_true ha, Bool.true_and] at va
    have va' : g 225 a ≠ -1 := by intro z; rw [decide_eq_true z] at va; cases va
    obtain ⟨b1, b2, -⟩ := i3 a ha va'
    have := i6 (rk a) b b1 hb (Or.inl b1) (by rw [b2]; exact r)
    rw [decide_eq_true hb, decide_eq_false this]; rfl
  · (try dsimp only at vv ⊢)
    rw [decide_eq_true hv, Bool.true_and] at vv
    have vv' : g 225 v ≠ -1 := by intro z; rw [decide_eq_true z] at vv; cases vv
    obtain ⟨b1, b2, b3⟩ := i3 v hv vv'
    rcases b3 with b3 | ⟨i, d1, d2, d3⟩
    · exact absurd b3 q
    · obtain ⟨f1, f2, f3, f4⟩ := i2 i (by omega)
      rw [d2, Int.toNat_natCast]
      refine ⟨f2, ?_, d3, by rw [f4]; exact d1⟩
      rw [decide_eq_true f2, decide_eq_false f3]; rfl
  · by_cases c : g 225 v = -1
    · rw [if_neg (show ¬ (decide (v < 27) && !decide (g 225 v = -1)) = true by rw [decide_eq_true c, decide_eq_true hv]; decide)]; exact c
    · rw [if_pos (show (decide (v < 27) && !decide (g 225 v = -1)) = true by rw [decide_eq_false c, decide_eq_true hv]; rfl)]
      obtain ⟨b1, b2, b3⟩ := i3 v hv c
      rcases b3 with b3 | ⟨i, d1, d2, d3⟩
      · subst b3
        show g 225 25 = ((g 225 25).toNat : Int)
        omega
      · show g 225 v = ((g 225 v).toNat : Int)
        omega
  · (try dsimp only at vv ⊢)
    rw [decide_eq_true hv, Bool.true_and] at vv
    have vv' : g 225 v ≠ -1 := by intro z; rw [decide_eq_true z] at vv; cases vv
    obtain ⟨b1, b2, b3⟩ := i3 v hv vv'
    rcases b3 with b3 | ⟨i, d1, d2, d3⟩
    · rw [b3, i4c]; decide
    · rw [d2, Int.toNat_natCast]
      exact (i2 i (by omega)).2.1
end FLO
