/-! PAIRS: the least cost over all pairings, whichever kind is put into sets -/
section PAR
def mn (x y : Int) : Int := if y ≤ x then y else x
theorem mn_l (x y : Int) : mn x y ≤ x := by unfold mn; split <;> omega
theorem mn_r (x y : Int) : mn x y ≤ y := by unfold mn; split <;> omega
theorem mn_or (x y : Int) : mn x y = x ∨ mn x y = y := by unfold mn; split <;> simp
def dpm (d : Nat → Int) (P : Nat → Int) (S : Nat) (a : Int) : Nat → Int
  | 0 => a
  | b + 1 => if S.testBit b = true then mn (dpm d P S a b) (P (S ^^^ 2 ^ b) + d b) else dpm d P S a b
def dpv (n : Nat) (e : Nat → Int) (d : Nat → Nat → Int) : Nat → Nat → Int
  | 0, S => if S = 0 then 0 else 1000000
  | j + 1, S => dpm (d j) (dpv n e d j) S (dpv n e d j S + e j) n
def dpf (n : Nat) (P : Nat → Int) (f : Nat → Int) : Nat → Int
  | 0 => 1000000
  | S + 1 => mn (dpf n P f S) (P S + su (fun b => if S.testBit b = true then 0 else f b) n)
/-- the least cost: J of the many, n of the few -/
def par (n J : Nat) (e f : Nat → Int) (d : Nat → Nat → Int) : Int := dpf n (dpv n e d J) f (2 ^ n)
def Mt (n J S : Nat) (g : Nat → Nat) : Prop := (∀ i, i < J → g i < n → S.testBit (g i) = true) ∧ (∀ i i', i < J → i' < J → g i < n → g i = g i' → i = i') ∧ ∀ b, b < n → S.testBit b = true → ∃ i, i < J ∧ g i = b
def mc (n : Nat) (e : Nat → Int) (d : Nat → Nat → Int) (g : Nat → Nat) (J : Nat) : Int := su (fun i => if g i < n then d i (g i) else e i) J
variable {n : Nat} {e f : Nat → Int} {d : Nat → Nat → Int}
theorem dpm_a {d P : Nat → Int} {S : Nat} {a : Int} : ∀ m, dpm d P S a m ≤ a
  | 0 => Int.le_refl _
  | m + 1 => by
    have := dpm_a (d := d) (P := P) (S := S) (a := a) m
    unfold dpm
    split
    · exact Int.le_trans (mn_l _ _) this
    · exact this
theorem dpm_b {d P : Nat → Int} {S : Nat} {a : Int} {b : Nat} (hb : S.testBit b = true) : ∀ m, b < m → dpm d P S a m ≤ P (S ^^^ 2 ^ b) + d b
  | 0, h => absurd h (Nat.not_lt_zero _)
  | m + 1, h => by
    unfold dpm
    by_cases c : b = m
    · subst c
      rw [if_pos hb]
      exact mn_r _ _
    · have := dpm_b (d := d) (P := P) (S := S) (a := a) hb m (by omega)
      split
      · exact Int.le_trans (mn_l _ _) this
      · exact this
theorem dpm_or {d P : Nat → Int} {S : Nat} {a : Int} : ∀ m, dpm d P S a m = a ∨ ∃ b, b < m ∧ S.testBit b = true ∧ dpm d P S a m = P (S ^^^ 2 ^ b) + d b
  | 0 => Or.inl rfl
  | m + 1 => by
    have ih := dpm_or (d := d) (P := P) (S := S) (a := a) m
    have lift : dpm d P S a m = a ∨ ∃ b, b < m + 1 ∧ S.testBit b = true ∧ dpm d P S a m = P (S ^^^ 2 ^ b) + d b := by
      rcases ih with q | ⟨b, b1, b2, b3⟩
      · exact Or.inl q
      · exact Or.inr ⟨b, by omega, b2, b3⟩
    unfold dpm
    by_cases c : S.testBit m = true
    · rw [if_pos c]
      rcases mn_or (dpm d P S a m) (P (S ^^^ 2 ^ m) + d m) with q | q
      · rw [q]; exact lift
      · rw [q]; exact Or.inr ⟨m, by omega, c, rfl⟩
    · rw [if_neg c]; exact lift
theorem bit_x {S b c : Nat} : (S ^^^ 2 ^ b).testBit c = (S.testBit c ^^ decide (b = c)) := by
  rw [Nat.testBit_xor, Nat.testBit_two_pow]
theorem no_bits {S : Nat} (hS : S < 2 ^ n) (h : ∀ b, b < n → S.testBit b = false) : S = 0 := by
  refine Nat.eq_of_testBit_eq (fun i => ?_)
  rw [Nat.zero_testBit]
  by_cases c : i < n
  · exact h i c
  · exact Nat.testBit_lt_two_pow (Nat.lt_of_lt_of_le hS (Nat.pow_le_pow_right (by omega) (by omega)))
theorem x_lt {S b : Nat} (hS : S < 2 ^ n) (hb : b < n) : S ^^^ 2 ^ b < 2 ^ n := Nat.xor_lt_two_pow hS (Nat.pow_lt_pow_right (by omega) hb)
theorem dp_le : ∀ J S g, S < 2 ^ n → Mt n J S g → dpv n e d J S ≤ mc n e d g J
  | 0, S, g, hS, hM => by
    have : S = 0 := no_bits hS (fun b hb => by
      cases q : S.testBit b
      · rfl
      · obtain ⟨i, hi, -⟩ := hM.2.2 b hb q
        exact absurd hi (Nat.not_lt_zero i))
    subst this
    show (if (0 : Nat) = 0 then (0 : Int) else 1000000) ≤ 0
    rw [if_pos rfl]; omega
  | J + 1, S, g, hS, hM => by
    obtain ⟨m1, m2, m3⟩ := hM
    show dpm (d J) (dpv n e d J) S (dpv n e d J S + e J) n ≤ mc n e d g J + (if g J < n then d J (g J) else e J)
    by_cases c : g J < n
    · rw [if_pos c]
      have hb := m1 J (by omega) c
      have q := dp_le J (S ^^^ 2 ^ g J) g (x_lt hS c) ⟨fun i hi hg => by
        rw [bit_x, m1 i (by omega) hg, decide_eq_false (fun z => by have := m2 J i (by omega) (by omega) c z; omega)]; rfl, fun i i' hi hi' => m2 i i' (by omega) (by omega), fun b hb' hx => by
        rw [bit_x] at hx
        by_cases z : g J = b
        · rw [← z, hb, decide_eq_true rfl] at hx
          cases hx
        · rw [decide_eq_false z, Bool.xor_false] at hx
          obtain ⟨i, hi, gi⟩ := m3 b hb' hx
          refine ⟨i, ?_, gi⟩
          by_cases y : i = J
          · rw [y] at gi; exact absurd gi z
          · omega⟩
      have r := dpm_b (d := d J) (P := dpv n e d J) (a := dpv n e d J S + e J) hb n c
      omega
    · rw [if_neg c]
      have q := dp_le J S g hS ⟨fun i hi => m1 i (by omega), fun i i' hi hi' => m2 i i' (by omega) (by omega), fun b hb hx => by
        obtain ⟨i, hi, gi⟩ := m3 b hb hx
        refine ⟨i, ?_, gi⟩
        by_cases y : i = J
        · rw [y] at gi; omega
        · omega⟩
      have r := dpm_a (d := d J) (P := dpv n e d J) (S := S) (a := dpv n e d J S + e J) n
      omega
theorem mc_cg {g g' : Nat → Nat} {J : Nat} (h : ∀ i, i < J → g i = g' i) : mc n e d g J = mc n e d g' J := su_congr (fun i hi => by rw [h i hi])
theorem dp_ex (he : ∀ i, 0 ≤ e i) (hd : ∀ i b, 0 ≤ d i b) : ∀ J S, S < 2 ^ n → dpv n e d J S < 1000000 → ∃ g, Mt n J S g ∧ mc n e d g J = dpv n e d J S
  | 0, S, hS, h => by
    have h' : (if S = 0 then (0 : Int) else 1000000) < 1000000 := h
    by_cases c : S = 0
    · subst c
      refine ⟨fun _ => 0, ⟨fun i hi => absurd hi (Nat.not_lt_zero i), fun i i' hi => absurd hi (Nat.not_lt_zero i), fun b _ q => by rw [Nat.zero_testBit] at q; cases q⟩, ?_⟩
      show (0 : Int) = if (0 : Nat) = 0 then 0 else 1000000
      rw [if_pos rfl]
    · rw [if_neg c] at h'; omega
  | J + 1, S, hS, h => by
    have ev : dpv n e d (J + 1) S = dpm (d J) (dpv n e d J) S (dpv n e d J S + e J) n := rfl
    rcases dpm_or (d := d J) (P := dpv n e d J) (S := S) (a := dpv n e d J S + e J) n with q | ⟨b, b1, b2, b3⟩
    · have := he J
      obtain ⟨g, ⟨m1, m2, m3⟩, gc⟩ := dp_ex he hd J S hS (by omega)
      refine ⟨fun i => if i = J then n else g i, ⟨fun i hi hg => ?_, fun i i' hi hi' hg hx => ?_, fun c hc hx => ?_⟩, ?_⟩
      · by_cases c : i = J
        · simp only [if_pos c] at hg; omega
        · simp only [if_neg c] at hg ⊢
          exact m1 i (by omega) hg
      · by_cases c : i = J
        · simp only [if_pos c] at hg; omega
        · simp only [if_neg c] at hg hx
          by_cases c' : i' = J
          · rw [if_pos c'] at hx; omega
          · rw [if_neg c'] at hx; exact m2 i i' (by omega) (by omega) hg hx
      · obtain ⟨i, hi, gi⟩ := m3 c hc hx
        exact ⟨i, by omega, by simp only [if_neg (show ¬ i = J by omega)]; exact gi⟩
      · show mc n e d _ J + (if (if J = J then n else g J) < n then d J (if J = J then n else g J) else e J) = _
        rw [if_pos rfl, if_neg (Nat.lt_irrefl n), ev, q, ← gc]
        rw [mc_cg (g' := g) (fun i hi => if_neg (by omega))]
    · have := hd J b
      obtain ⟨g, ⟨m1, m2, m3⟩, gc⟩ := dp_ex he hd J (S ^^^ 2 ^ b) (x_lt hS b1) (by omega)
      have nb : ∀ i, i < J → g i < n → g i ≠ b := fun i hi hg z => by
        have := m1 i hi hg
        rw [z, bit_x, b2, decide_eq_true rfl] at this
        cases this
      refine ⟨fun i => if i = J then b else g i, ⟨fun i hi hg => ?_, fun i i' hi hi' hg hx => ?_, fun c hc hx => ?_⟩, ?_⟩
      · by_cases c : i = J
        · simp only [if_pos c]; exact b2
        · simp only [if_neg c] at hg ⊢
          have := m1 i (by omega) hg
          rw [bit_x, decide_eq_false (fun z => nb i (by omega) hg z.symm), Bool.xor_false] at this
          exact this
      · by_cases c : i = J
        · simp only [if_pos c] at hg hx
          by_cases c' : i' = J
          · omega
          · rw [if_neg c'] at hx
            exact absurd hx.symm (nb i' (by omega) (by omega))
        · simp only [if_neg c] at hg hx
          by_cases c' : i' = J
          · rw [if_pos c'] at hx
            exact absurd hx (nb i (by omega) hg)
          · rw [if_neg c'] at hx; exact m2 i i' (by omega) (by omega) hg hx
      · by_cases z : b = c
        · exact ⟨J, by omega, by simp only [if_pos]; exact z⟩
        · obtain ⟨i, hi, gi⟩ := m3 c hc (by rw [bit_x, decide_eq_false z, Bool.xor_false]; exact hx)
          exact ⟨i, by omega, by simp only [if_neg (show ¬ i = J by omega)]; exact gi⟩
      · show mc n e d _ J + (if (if J = J then b else g J) < n then d J (if J = J then b else g J) else e J) = _
        rw [if_pos rfl, if_pos b1, ev, b3, ← gc]
        rw [mc_cg (g' := g) (fun i hi => if_neg (by omega))]
theorem dpf_le {P : Nat → Int} {S : Nat} : ∀ m, S < m → dpf n P f m ≤ P S + su (fun b => if S.testBit b = true then 0 else f b) n
  | 0, h => absurd h (Nat.not_lt_zero _)
  | m + 1, h => by
    unfold dpf
    by_cases c : S = m
    · subst c; exact mn_r _ _
    · exact Int.le_trans (mn_l _ _) (dpf_le m (by omega))
theorem dpf_or {P : Nat → Int} : ∀ m, dpf n P f m = 1000000 ∨ ∃ S, S < m ∧ dpf n P f m = P S + su (fun b => if S.testBit b = true then 0 else f b) n
  | 0 => Or.inl rfl
  | m + 1 => by
    unfold dpf
    rcases mn_or (dpf n P f m) (P m + su (fun b => if m.testBit b = true then 0 else f b) n) with q | q
    · rw [q]
      rcases dpf_or (P := P) m with z | ⟨S, s1, s2⟩
      · exact Or.inl z
      · exact Or.inr ⟨S, by omega, s2⟩
    · rw [q]; exact Or.inr ⟨m, by omega, rfl⟩
/-- a set with given bits -/
theorem mk_set (p : Nat → Bool) : ∀ J, ∃ T, T < 2 ^ J ∧ ∀ i, i < J → T.testBit i = p i
  | 0 => ⟨0, by decide, fun i hi => absurd hi (Nat.not_lt_zero i)⟩
  | J + 1 => by
    obtain ⟨T, t1, t2⟩ := mk_set p J
    have tJ : T.testBit J = false := Nat.testBit_lt_two_pow t1
    have l1 : (2 : Nat) ^ J < 2 ^ (J + 1) := Nat.pow_lt_pow_right (by omega) (by omega)
    by_cases c : p J = true
    · refine ⟨T ^^^ 2 ^ J, Nat.xor_lt_two_pow (by omega) l1, fun i hi => ?_⟩
      rw [bit_x]
      by_cases z : J = i
      · rw [← z, tJ, decide_eq_true rfl, c]; rfl
      · rw [decide_eq_false z, Bool.xor_false]; exact t2 i (by omega)
    · refine ⟨T, by omega, fun i hi => ?_⟩
      by_cases z : J = i
      · rw [← z, tJ]; cases q : p J
        · rfl
        · exact absurd q c
      · exact t2 i (by omega)
/-- the other way round -/
theorem mt_sw {J S : Nat} {g : Nat → Nat} (hM : Mt n J S g) : ∃ T g', T < 2 ^ J ∧ Mt J n T g' ∧ mc J f (fun b i => d i b) g' n + su (fun i => if T.testBit i = true then 0 else e i) J = mc n e d g J + su (fun b => if S.testBit b = true then 0 else f b) n := by
  obtain ⟨m1, m2, m3⟩ := hM
  obtain ⟨T, t1, t2⟩ := mk_set (fun i => decide (g i < n)) J
  have ex : ∃ g' : Nat → Nat, ∀ b, b < n → (S.testBit b = true → g' b < J ∧ g (g' b) = b) ∧ (S.testBit b = false → g' b = J) := by
    have : ∀ b, ∃ i, b < n → (S.testBit b = true → i < J ∧ g i = b) ∧ (S.testBit b = false → i = J) := fun b => by
      by_cases hb : b < n
      · cases q : S.testBit b
        · exact ⟨J, fun _ => ⟨fun z => absurd z (by decide), fun _ => rfl⟩⟩
        · obtain ⟨i, hi, gi⟩ := m3 b hb q
          exact ⟨i, fun _ => ⟨fun _ => ⟨hi, gi⟩, fun z => absurd z (by decide)⟩⟩
      · exact ⟨0, fun z => absurd z hb⟩
    exact ⟨fun b => Classical.choose (this b), fun b => Classical.choose_spec (this b)⟩
  obtain ⟨g', hg'⟩ := ex
  have lt_bit : ∀ b, b < n → g' b < J → S.testBit b = true := fun b hb h => by
    cases q : S.testBit b
    · have := (hg' b hb).2 q; omega
    · rfl
  refine ⟨T, g', t1, ⟨fun b hb h => ?_, fun b b' hb hb' h hx => ?_, fun i hi h => ?_⟩, ?_⟩
  · rw [t2 _ h]
    have := ((hg' b hb).1 (lt_bit b hb h)).2
    exact decide_eq_true (by omega)
  · have a := ((hg' b hb).1 (lt_bit b hb h)).2
    have c := ((hg' b' hb').1 (lt_bit b' hb' (by omega))).2
    rw [← a, hx, c]
  · rw [t2 i hi] at h
    have gi := of_decide_eq_true h
    have q := (hg' (g i) gi).1 (m1 i hi gi)
    exact ⟨g i, gi, (m2 i (g' (g i)) hi q.1 gi q.2.symm).symm⟩
  · have s1 : mc n e d g J = su (fun i => su (fun b => if b = g i then d i b else 0) n) J + su (fun i => if T.testBit i = true then 0 else e i) J := by
      unfold mc
      rw [← su_add]
      refine su_congr (fun i hi => ?_)
      rw [t2 i hi]
      by_cases c : g i < n
      · rw [if_pos c, if_pos (decide_eq_true c), Int.add_zero]
        have : su (fun b => if b = g i then d i b else 0) n = su (fun b => if b = g i then d i (g i) else 0) n := su_congr (fun b _ => by
          by_cases z : b = g i
          · rw [if_pos z, if_pos z, z]
          · rw [if_neg z, if_neg z])
        rw [this, su_one c]
      · rw [if_neg c, if_neg (fun z => c (of_decide_eq_true z))]
        have : su (fun b => if b = g i then d i b else 0) n = su (fun _ => 0) n := su_congr (fun b hb => if_neg (by omega))
        rw [this, su_zero, Int.zero_add]
    have s2 : mc J f (fun b i => d i b) g' n = su (fun b => su (fun i => if b = g i then d i b else 0) J) n + su (fun b => if S.testBit b = true then 0 else f b) n := by
      unfold mc
      rw [← su_add]
      refine su_congr (fun b hb => ?_)
      by_cases c : S.testBit b = true
      · obtain ⟨q1, q2⟩ := (hg' b hb).1 c
        rw [if_pos q1, if_pos c, Int.add_zero]
        have : su (fun i => if b = g i then d i b else 0) J = su (fun i => if i = g' b then d (g' b) b else 0) J := su_congr (fun i hi => by
          by_cases z : b = g i
          · have y : i = g' b := m2 i (g' b) hi q1 (by omega) (by omega)
            rw [if_pos z, if_pos y, y]
          · rw [if_neg z, if_neg (fun y => z (by rw [y, q2]))])
        rw [this, su_one q1]
      · have q := (hg' b hb).2 (by cases w : S.testBit b; rfl; exact absurd w c)
        rw [if_neg (by omega), if_neg c]
        have : su (fun i => if b = g i then d i b else 0) J = su (fun _ => 0) J := su_congr (fun i hi => if_neg (fun z => c (by rw [z]; exact m1 i hi (by omega))))
        rw [this, su_zero, Int.zero_add]
    rw [s1, s2, su_swap]
    omega
theorem par_le {J S : Nat} {g : Nat → Nat} (hS : S < 2 ^ n) (hM : Mt n J S g) : par n J e f d ≤ mc n e d g J + su (fun b => if S.testBit b = true then 0 else f b) n := by
  have a := dp_le (e := e) (d := d) J S g hS hM
  have b := dpf_le (n := n) (f := f) (P := dpv n e d J) (2 ^ n) hS
  unfold par
  omega
theorem par_hi {J : Nat} (hb : su e J + su f n < 1000000) : par n J e f d < 1000000 := by
  have := par_le (n := n) (e := e) (f := f) (d := d) (J := J) (S := 0) (g := fun _ => n) (Nat.pow_pos (by omega)) ⟨fun i _ h => absurd h (Nat.lt_irrefl n), fun i i' _ _ h => absurd h (Nat.lt_irrefl n), fun b _ q => by rw [Nat.zero_testBit] at q; cases q⟩
  have s1 : mc n e d (fun _ => n) J = su e J := su_congr (fun i _ => if_neg (Nat.lt_irrefl n))
  have s2 : su (fun b => if (0 : Nat).testBit b = true then 0 else f b) n = su f n := su_congr (fun b _ => by rw [Nat.zero_testBit, if_neg (by decide)])
  omega
theorem par_ex {J : Nat} (he : ∀ i, 0 ≤ e i) (hf : ∀ i, 0 ≤ f i) (hd : ∀ i b, 0 ≤ d i b) (hb : su e J + su f n < 1000000) : ∃ S g, S < 2 ^ n ∧ Mt n J S g ∧ par n J e f d = mc n e d g J + su (fun b => if S.testBit b = true then 0 else f b) n := by
  have hi := par_hi (d := d) hb
  rcases dpf_or (n := n) (f := f) (P := dpv n e d J) (2 ^ n) with q | ⟨S, s1, s2⟩
  · have : par n J e f d = 1000000 := q
    omega
  · have e1 : par n J e f d = dpv n e d J S + su (fun b => if S.testBit b = true then 0 else f b) n := s2
    have nn : 0 ≤ su (fun b => if S.testBit b = true then 0 else f b) n := su_nonneg (fun b _ => by
      by_cases c : S.testBit b = true
      · rw [if_pos c]; omega
      · rw [if_neg c]; exact hf b)
    obtain ⟨g, hM, gc⟩ := dp_ex he hd J S s1 (by omega)
    exact ⟨S, g, s1, hM, by rw [e1, gc]⟩
/-- whichever kind is put into sets -/
theorem par_sw {J : Nat} (he : ∀ i, 0 ≤ e i) (hf : ∀ i, 0 ≤ f i) (hd : ∀ i b, 0 ≤ d i b) (hb : su e J + su f n < 1000000) : par n J e f d = par J n f e (fun b i => d i b) := by
  obtain ⟨S, g, s1, s2, s3⟩ := par_ex (d := d) he hf hd hb
  obtain ⟨S', g', s1', s2', s3'⟩ := par_ex (n := J) (J := n) (d := fun b i => d i b) hf he (fun b i => hd i b) (by omega)
  obtain ⟨T, k, t1, t2, t3⟩ := mt_sw (e := e) (f := f) (d := d) s2
  obtain ⟨T', k', t1', t2', t3'⟩ := mt_sw (e := f) (f := e) (d := fun b i => d i b) s2'
  have a := par_le (e := f) (f := e) (d := fun b i => d i b) t1 t2
  have b := par_le (e := e) (f := f) (d := d) t1' t2'
  have t4 : mc n e d k' J + su (fun b => if T'.testBit b = true then 0 else f b) n = mc J f (fun b i => d i b) g' n + su (fun b => if S'.testBit b = true then 0 else e b) J := t3'
  omega
end PAR
