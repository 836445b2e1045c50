/-! LEAST CUTS -/
section CUT
variable {n s t : Nat} {K r : Nat → Nat → Int}
/-- what a cut costs; what is left of a net's room; what flows out of a node -/
def cutc (n : Nat) (K : Nat → Nat → Int) (R : Nat → Bool) : Int := su (fun a => su (fun b => if R a = true ∧ R b = false then K a b else 0) n) n
def ex (n : Nat) (K r : Nat → Nat → Int) (v : Nat) : Int := su (fun b => K v b - r v b) n
def rI (n s t : Nat) (K r : Nat → Nat → Int) : Prop := (∀ a b, a < n → b < n → 0 ≤ r a b) ∧ (∀ a b, a < n → b < n → r a b + r b a = K a b + K b a) ∧ ∀ v, v < n → v ≠ s → v ≠ t → ex n K r v = 0
theorem su_anti {g : Nat → Nat → Int} (h : ∀ a b, a < n → b < n → g a b = -(g b a)) : su (fun a => su (fun b => g a b) n) n = 0 := by
  have e : su (fun a => su (fun b => g a b) n) n = -(su (fun a => su (fun b => g b a) n) n) := by
    rw [← su_neg]
    refine su_congr (fun a ha => ?_)
    rw [← su_neg]
    exact su_congr (fun b hb => h a b ha hb)
  have e2 := su_swap (f := fun a b => g b a) (m := n) (n := n)
  rw [e2] at e
  have e3 : su (fun b => su (fun a => g b a) n) n = su (fun a => su (fun b => g a b) n) n := rfl
  rw [e3] at e
  omega
theorem cut_net {R : Nat → Bool} (hs : s < n) (I : rI n s t K r) (h1 : R s = true) (h2 : R t = false) : ex n K r s = su (fun a => su (fun b => if R a = true ∧ R b = false then K a b - r a b else 0) n) n := by
  have e1 : su (fun a => if R a = true then ex n K r a else 0) n = ex n K r s := by
    have h := su_split (f := fun a => if R a = true then ex n K r a else 0) hs
    have z : su (fun k => if k = s then 0 else (if R k = true then ex n K r k else 0)) n = su (fun _ => 0) n := su_congr (fun k hk => by
      by_cases q : k = s
      · rw [if_pos q]
      · rw [if_neg q]
        by_cases q2 : R k = true
        · rw [if_pos q2]
          exact I.2.2 k hk q (fun z => by rw [z, h2] at q2; cases q2)
        · rw [if_neg q2])
    have w : (if R s = true then ex n K r s else 0) = ex n K r s := if_pos h1
    rw [z, su_zero, w] at h
    rw [h]; omega
  have e2 : su (fun a => if R a = true then ex n K r a else 0) n = su (fun a => su (fun b => (if R a = true ∧ R b = false then K a b - r a b else 0) + (if R a = true ∧ R b = true then K a b - r a b else 0)) n) n := su_congr (fun a ha => by
    by_cases q : R a = true
    · rw [if_pos q]
      refine su_congr (fun b hb => ?_)
      cases q2 : R b <;> simp [q]
    · rw [if_neg q]
      have : su (fun b => (if R a = true ∧ R b = false then K a b - r a b else 0) + (if R a = true ∧ R b = true then K a b - r a b else 0)) n = su (fun _ => 0) n := su_congr (fun b hb => by simp [q])
      rw [this, su_zero])
  have e3 : su (fun a => su (fun b => (if R a = true ∧ R b = false then K a b - r a b else 0) + (if R a = true ∧ R b = true then K a b - r a b else 0)) n) n = su (fun a => su (fun b => if R a = true ∧ R b = false then K a b - r a b else 0) n) n + su (fun a => su (fun b => if R a = true ∧ R b = true then K a b - r a b else 0) n) n := by
    rw [← su_add]
    exact su_congr (fun a _ => su_add)
  have e4 : su (fun a => su (fun b => if R a = true ∧ R b = true then K a b - r a b else 0) n) n = 0 := su_anti (fun a b ha hb => by
    have := I.2.1 a b ha hb
    by_cases q : R a = true ∧ R b = true
    · rw [if_pos q, if_pos ⟨q.2, q.1⟩]; omega
    · rw [if_neg q, if_neg (fun z => q ⟨z.2, z.1⟩)]; rfl)
  rw [← e1, e2, e3, e4]; omega
theorem cut_ge {R : Nat → Bool} (hs : s < n) (I : rI n s t K r) (h1 : R s = true) (h2 : R t = false) : ex n K r s ≤ cutc n K R := by
  rw [cut_net hs I h1 h2]
  refine su_le (fun a ha => su_le (fun b hb => ?_))
  have := I.1 a b ha hb
  split <;> omega
theorem cut_full {R : Nat → Bool} (hs : s < n) (I : rI n s t K r) (h1 : R s = true) (h2 : R t = false) (hc : ∀ a b, a < n → b < n → R a = true → R b = false → r a b = 0) : cutc n K R = ex n K r s := by
  rw [cut_net hs I h1 h2]
  refine su_congr (fun a ha => su_congr (fun b hb => ?_))
  by_cases q : R a = true ∧ R b = false
  · rw [if_pos q, if_pos q, hc a b ha hb q.1 q.2]; omega
  · rw [if_neg q, if_neg q]
theorem cut_tight {R : Nat → Bool} (hs : s < n) (I : rI n s t K r) (h1 : R s = true) (h2 : R t = false) (he : cutc n K R ≤ ex n K r s) : ∀ a b, a < n → b < n → R a = true → R b = false → r a b = 0 := by
  rw [cut_net hs I h1 h2] at he
  intro a b ha hb q1 q2
  have le : ∀ a, a < n → su (fun b => if R a = true ∧ R b = false then K a b - r a b else 0) n ≤ su (fun b => if R a = true ∧ R b = false then K a b else 0) n := fun a ha => su_le (fun b hb => by
    have := I.1 a b ha hb
    split <;> omega)
  have g1 := su_eq_of_le le he a ha
  have g2 := su_eq_of_le (f := fun b => if R a = true ∧ R b = false then K a b - r a b else 0) (g := fun b => if R a = true ∧ R b = false then K a b else 0) (n := n) (fun b hb => by
    have := I.1 a b ha hb
    show (if R a = true ∧ R b = false then K a b - r a b else 0) ≤ (if R a = true ∧ R b = false then K a b else 0)
    split <;> omega) (by omega) b hb
  have g3 : (if R a = true ∧ R b = false then K a b - r a b else 0) = (if R a = true ∧ R b = false then K a b else 0) := g2
  rw [if_pos ⟨q1, q2⟩, if_pos ⟨q1, q2⟩] at g3
  omega
/-- room moved from a to b -/
def mv (r : Nat → Nat → Int) (a b : Nat) (y : Int) : Nat → Nat → Int := fun i j => if i = b ∧ j = a then r i j + y else if i = a ∧ j = b then r i j - y else r i j
theorem mv_ex {a b v : Nat} {y : Int} (ha : a < n) (hb : b < n) (hab : a ≠ b) : ex n K (mv r a b y) v = ex n K r v + (if v = a then y else 0) - (if v = b then y else 0) := by
  unfold ex
  by_cases q1 : v = a
  · subst q1
    rw [if_pos rfl, if_neg hab]
    have e : su (fun k => K v k - mv r v b y v k) n = su (fun k => (K v k - r v k) + (if k = b then y else 0)) n := su_congr (fun k _ => by
      unfold mv
      rw [if_neg (fun z => hab z.1)]
      by_cases q : k = b
      · rw [if_pos ⟨rfl, q⟩, if_pos q]; omega
      · rw [if_neg (fun z => q z.2), if_neg q]; omega)
    rw [e, su_add, su_one hb]; omega
  · rw [if_neg q1]
    by_cases q2 : v = b
    · subst q2
      rw [if_pos rfl]
      have e : su (fun k => K v k - mv r a v y v k) n = su (fun k => (K v k - r v k) - (if k = a then y else 0)) n := su_congr (fun k _ => by
        unfold mv
        by_cases q : k = a
        · rw [if_pos ⟨rfl, q⟩, if_pos q]; omega
        · rw [if_neg (fun z => q z.2), if_neg (fun z => q1 z.1), if_neg q]; omega)
      rw [e, su_sub, su_one ha]; omega
    · rw [if_neg q2]
      have e : su (fun k => K v k - mv r a b y v k) n = su (fun k => K v k - r v k) n := su_congr (fun k _ => by
        unfold mv
        rw [if_neg (fun z => q2 z.1), if_neg (fun z => q1 z.1)])
      rw [e]; omega
/-- the way back from the sink by the nodes' forerunners -/
def fpt (fm : Nat → Nat) (t : Nat) : Nat → Nat
  | 0 => t
  | i + 1 => fm (fpt fm t i)
/-- the room when so many steps of it have been moved -/
def fmw (fm : Nat → Nat) (t : Nat) (y : Int) (r : Nat → Nat → Int) : Nat → Nat → Nat → Int
  | 0 => r
  | i + 1 => mv (fmw fm t y r i) (fpt fm t (i + 1)) (fpt fm t i) y
theorem fmw_ok {fm rk : Nat → Nat} {y : Int} {m : Nat} (I : rI n s t K r) (hst : s ≠ t) (hn : ∀ i, i ≤ m → fpt fm t i < n) (hm : fpt fm t m = s) (hrk : ∀ i k, i < k → k ≤ m → rk (fpt fm t k) < rk (fpt fm t i)) (hy : 0 ≤ y) (hres : ∀ i, i < m → y ≤ r (fpt fm t (i + 1)) (fpt fm t i)) : rI n s t K (fmw fm t y r m) ∧ ex n K (fmw fm t y r m) s = ex n K r s + y := by
  have key : ∀ i, i ≤ m → (∀ a b, a < n → b < n → 0 ≤ fmw fm t y r i a b) ∧ (∀ a b, a < n → b < n → fmw fm t y r i a b + fmw fm t y r i b a = K a b + K b a) ∧ (∀ v, ex n K (fmw fm t y r i) v = ex n K r v + (if v = fpt fm t i then y else 0) - (if v = t then y else 0)) ∧ (∀ k, i ≤ k → k < m → r (fpt fm t (k + 1)) (fpt fm t k) ≤ fmw fm t y r i (fpt fm t (k + 1)) (fpt fm t k)) := by
    intro i
    induction i with
    | zero =>
      intro _
      refine ⟨I.1, I.2.1, fun v => ?_, fun k _ _ => Int.le_refl _⟩
      show ex n K r v = ex n K r v + (if v = t then y else 0) - (if v = t then y else 0)
      omega
    | succ i ih =>
      intro hi
      obtain ⟨g1, g2, g3, g4⟩ := ih (by omega)
      have r3 := hrk i (i + 1) (by omega) hi
      have ne : fpt fm t (i + 1) ≠ fpt fm t i := by
        intro z; rw [z] at r3; omega
      have hr := hres i (by omega)
      have h4 := g4 i (Nat.le_refl _) (by omega)
      refine ⟨fun a b ha hb => ?_, fun a b ha hb => ?_, fun v => ?_, fun k hk hkm => ?_⟩
      · show 0 ≤ mv (fmw fm t y r i) _ _ y a b
        unfold mv
        have := g1 a b ha hb
        split
        · omega
        · split
          · rename_i q
            rw [q.1, q.2]; omega
          · exact this
      · show mv (fmw fm t y r i) _ _ y a b + mv (fmw fm t y r i) _ _ y b a = _
        have := g2 a b ha hb
        unfold mv
        by_cases q1 : a = fpt fm t i ∧ b = fpt fm t (i + 1)
        · rw [if_pos q1, if_neg (fun z => ne (q1.2.symm.trans z.1)), if_pos ⟨q1.2, q1.1⟩]; omega
        · rw [if_neg q1]
          by_cases q2 : a = fpt fm t (i + 1) ∧ b = fpt fm t i
          · rw [if_pos q2, if_pos ⟨q2.2, q2.1⟩]; omega
          · rw [if_neg q2, if_neg (fun z => q2 ⟨z.2, z.1⟩), if_neg (fun z => q1 ⟨z.2, z.1⟩)]; exact this
      · show ex n K (mv (fmw fm t y r i) _ _ y) v = _
        rw [mv_ex (hn (i + 1) hi) (hn i (by omega)) ne, g3 v]
        by_cases q1 : v = fpt fm t (i + 1)
        · have q2 : ¬ v = fpt fm t i := by rw [q1]; exact ne
          rw [if_pos q1, if_neg q2]; omega
        · rw [if_neg q1]
          by_cases q2 : v = fpt fm t i
          · rw [if_pos q2]; omega
          · rw [if_neg q2]; omega
      · show _ ≤ mv (fmw fm t y r i) _ _ y _ _
        have := g4 k (by omega) hkm
        unfold mv
        have r1 := hrk i (k + 1) (by omega) (by omega)
        have r2 : k ≠ i → rk (fpt fm t k) < rk (fpt fm t i) := fun z => hrk i k (by omega) (by omega)
        rw [if_neg (fun z => by rw [z.1] at r1; omega)]
        by_cases q2 : fpt fm t (k + 1) = fpt fm t (i + 1) ∧ fpt fm t k = fpt fm t i
        · have := r2 (by omega)
          rw [q2.2] at this
          omega
        · rw [if_neg q2]; exact this
  obtain ⟨g1, g2, g3, -⟩ := key m (Nat.le_refl _)
  refine ⟨⟨g1, g2, fun v hv h1 h2 => ?_⟩, ?_⟩
  · rw [g3 v, hm, if_neg h1, if_neg h2, I.2.2 v hv h1 h2]; rfl
  · rw [g3 s, hm, if_pos rfl, if_neg hst]; omega
/-- what a search from the source reaches -/
def flF (n s : Nat) (r : Nat → Nat → Int) (V : Nat → Bool) (fm rk : Nat → Nat) : Prop := V s = true ∧ (∀ a b, a < n → b < n → V a = true → 0 < r a b → V b = true) ∧ ∀ v, v < n → V v = true → v ≠ s → fm v < n ∧ V (fm v) = true ∧ 0 < r (fm v) v ∧ rk (fm v) < rk v
/-- the reached set is within any that nothing leads out of -/
theorem flF.within {V R : Nat → Bool} {fm rk : Nat → Nat} (F : flF n s r V fm rk) (h1 : R s = true) (hc : ∀ a b, a < n → b < n → R a = true → R b = false → r a b = 0) : ∀ v, v < n → V v = true → R v = true := by
  have key : ∀ (m v : Nat), rk v ≤ m → v < n → V v = true → R v = true := by
    intro m
    induction m with
    | zero =>
      intro v hm hv hV
      by_cases q : v = s
      · rw [q]; exact h1
      · have := F.2.2 v hv hV q
        omega
    | succ m ih =>
      intro v hm hv hV
      by_cases q : v = s
      · rw [q]; exact h1
      · obtain ⟨g1, g2, g3, g4⟩ := F.2.2 v hv hV q
        have g5 := ih (fm v) (by omega) g1 g2
        cases z : R v with
        | true => rfl
        | false => have := hc _ v g1 hv g5 z; omega
  exact fun v hv hV => key (rk v) v (Nat.le_refl _) hv hV
/-- the way back ends at the source -/
theorem flF.way {V : Nat → Bool} {fm rk : Nat → Nat} (F : flF n s r V fm rk) (ht : t < n) (hV : V t = true) : ∃ m, m < n ∧ fpt fm t m = s ∧ (∀ i, i < m → fpt fm t i ≠ s) ∧ (∀ i, i ≤ m → fpt fm t i < n) ∧ (∀ i k, i < k → k ≤ m → rk (fpt fm t k) < rk (fpt fm t i)) ∧ ∀ i, i < m → 0 < r (fpt fm t (i + 1)) (fpt fm t i) := by
  have base : ∀ i, (∀ k, k < i → fpt fm t k ≠ s) → fpt fm t i < n ∧ V (fpt fm t i) = true ∧ rc n rk (fpt fm t i) + i ≤ rc n rk t := by
    intro i
    induction i with
    | zero => intro _; exact ⟨ht, hV, by show rc n rk t + 0 ≤ _; omega⟩
    | succ i ih =>
      intro h
      obtain ⟨g1, g2, g3⟩ := ih (fun k hk => h k (by omega))
      obtain ⟨k1, k2, k3, k4⟩ := F.2.2 _ g1 g2 (h i (by omega))
      have := rc_lt (N := n) k1 k4
      refine ⟨k1, k2, ?_⟩
      show rc n rk (fm (fpt fm t i)) + ((i + 1 : Nat) : Int) ≤ _
      omega
  have ex0 : ∃ m, m < n ∧ fpt fm t m = s := by
    apply Classical.byContradiction
    intro q
    obtain ⟨g1, g2, g3⟩ := base n (fun k hk => fun z => q ⟨k, hk, z⟩)
    have g4 := (rc_le (R := rk) g1).1
    have g5 := (rc_le (R := rk) ht).2
    omega
  obtain ⟨m0, h0, h0'⟩ := ex0
  have least : ∀ m, m < n → fpt fm t m = s → ∃ m, m < n ∧ fpt fm t m = s ∧ ∀ i, i < m → fpt fm t i ≠ s := by
    intro m
    induction m using Nat.strongRecOn with
    | _ m ih =>
      intro h1 h2
      by_cases q : ∃ i, i < m ∧ fpt fm t i = s
      · obtain ⟨i, hi, hbi⟩ := q
        exact ih i hi (by omega) hbi
      · exact ⟨m, h1, h2, fun i hi z => q ⟨i, hi, z⟩⟩
  obtain ⟨m, hm, hb, hl⟩ := least m0 h0 h0'
  have step : ∀ i, i < m → fpt fm t i < n ∧ rk (fpt fm t (i + 1)) < rk (fpt fm t i) ∧ 0 < r (fpt fm t (i + 1)) (fpt fm t i) := by
    intro i hi
    obtain ⟨g1, g2, -⟩ := base i (fun k hk => hl k (by omega))
    obtain ⟨k1, k2, k3, k4⟩ := F.2.2 _ g1 g2 (hl i hi)
    exact ⟨g1, k4, k3⟩
  refine ⟨m, hm, hb, hl, fun i hi => (base i (fun k hk => hl k (by omega))).1, fun i k hik hk => ?_, fun i hi => (step i hi).2.2⟩
  induction k with
  | zero => omega
  | succ k ih =>
    have s1 := (step k (by omega)).2.1
    by_cases q : i = k
    · subst q; exact s1
    · have := ih (by omega) (by omega)
      omega
end CUT
