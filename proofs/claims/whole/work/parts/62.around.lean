/-! SCENES: mirrored pixels, frames, rounds, fours -/
theorem pix_lt {W H x y : Nat} (hx : x < W) (hy : y < H) : y * W + x < W * H := by
  have h1 : (y + 1) * W ≤ H * W := Nat.mul_le_mul_right W hy
  rw [Nat.succ_mul] at h1
  rw [Nat.mul_comm W H]
  omega
/-- a frame's corner and sides -/
abbrev frm (W H : Nat) (x y w v : Int) : Prop := 0 ≤ x ∧ x < W ∧ 0 ≤ y ∧ y < H ∧ 1 ≤ w ∧ w ≤ W - 1 - x ∧ 1 ≤ v ∧ v ≤ H - 1 - y
/-- place i round a frame -/
def pA (W x y w v i : Nat) : Nat := if i ≤ w then y * W + x + i else if i ≤ w + v then (y + (i - w)) * W + x + w else if i ≤ 2 * w + v then (y + v) * W + x + (2 * w + v - i) else (y + (2 * w + 2 * v - i)) * W + x
def sA (W w v i : Nat) : Int := if i < w then 1 else if i < w + v then W else if i < 2 * w + v then -1 else -(W : Int)
theorem pA_step {W x y w v i : Nat} (hi : i < 2 * (w + v)) : ((pA W x y w v (i + 1) : Nat) : Int) = (pA W x y w v i : Nat) + sA W w v i := by
  unfold pA sA
  by_cases q1 : i < w
  · rw [if_pos (by omega), if_pos (by omega), if_pos q1]; omega
  rw [if_neg q1, if_neg (by omega)]
  by_cases q2 : i < w + v
  · rw [if_pos (by omega), if_pos q2]
    by_cases q3 : i ≤ w
    · rw [if_pos q3, show i + 1 - w = 1 by omega, Nat.add_mul, Nat.one_mul]; omega
    · rw [if_neg q3, if_pos (by omega), show y + (i + 1 - w) = (y + (i - w)) + 1 by omega, Nat.add_mul (y + (i - w)) 1, Nat.one_mul]; omega
  rw [if_neg q2, if_neg (by omega)]
  by_cases q3 : i < 2 * w + v
  · rw [if_pos (by omega), if_pos q3]
    by_cases q4 : i ≤ w
    · rw [if_pos q4, show v = 0 by omega, Nat.add_zero]; omega
    · rw [if_neg q4]
      by_cases q5 : i ≤ w + v
      · rw [if_pos q5, show i - w = v by omega]; omega
      · rw [if_neg q5, if_pos (by omega)]; omega
  rw [if_neg q3, if_neg (by omega)]
  obtain ⟨m, hm⟩ : ∃ m, m = y + (2 * w + 2 * v - (i + 1)) := ⟨_, rfl⟩
  have em : (m + 1) * W = m * W + W := Nat.succ_mul m W
  by_cases q4 : i ≤ w
  · exact absurd hi (by omega)
  rw [if_neg q4, ← hm]
  by_cases q5 : i ≤ w + v
  · rw [if_pos q5, show y + (i - w) = m + 1 by omega, em]; omega
  rw [if_neg q5]
  by_cases q6 : i ≤ 2 * w + v
  · rw [if_pos q6, show y + v = m + 1 by omega, em]; omega
  · rw [if_neg q6, show y + (2 * w + 2 * v - i) = m + 1 by omega, em]; omega
theorem pA_lt {W H x y w v i : Nat} (hx : x + w < W) (hy : y + v < H) (hi : i ≤ 2 * (w + v)) : pA W x y w v i < W * H := by
  unfold pA
  split
  · exact Nat.lt_of_le_of_lt (by omega) (pix_lt (x := x + i) (y := y) (by omega) (by omega))
  · split
    · exact Nat.lt_of_le_of_lt (by omega) (pix_lt (x := x + w) (y := y + (i - w)) (by omega) (by omega))
    · split
      · exact Nat.lt_of_le_of_lt (by omega) (pix_lt (x := x + (2 * w + v - i)) (y := y + v) (by omega) (by omega))
      · exact pix_lt (by omega) (by omega)
/-- the sum round a frame, in turns -/
def arn (W H : Nat) (T : Nat → Bool) (F : Nat → Int) (x y w v : Int) : Int :=
  if frm W H x y w v ∧ ∀ i, i < 2 * (w.toNat + v.toNat) → T (pA W x.toNat y.toNat w.toNat v.toNat i) = true ∧ T (pA W x.toNat y.toNat w.toNat v.toNat (i + 1)) = true then Int.tdiv (su (fun i => pdif (pA W x.toNat y.toNat w.toNat v.toNat i) (pA W x.toNat y.toNat w.toNat v.toNat (i + 1)) (F (pA W x.toNat y.toNat w.toNat v.toNat i)) (F (pA W x.toNat y.toNat w.toNat v.toNat (i + 1)))) (2 * (w.toNat + v.toNat))) 400 else -100
/-- an int of the machine -/
def zint (x : Int) : Prop := -2147483648 ≤ x ∧ x < 2147483648
theorem zint.e {x : Int} (h : zint x) : zw x = x := zw_id h.1 h.2
theorem pdif_in {a b : Nat} {x y : Int} (h1 : -1 ≤ x ∧ x < 400) (h2 : -1 ≤ y ∧ y < 400) : -400 ≤ pdif a b x y ∧ pdif a b x y ≤ 400 := by
  unfold pdif
  split <;> split <;> (try split) <;> omega
section ARN
variable {S : zS} {h : zH} {o W H N : Nat} {T : Nat → Bool} {F G : Nat → Int}
/-- Scene.hasMirrored -/
theorem s_mir (hL : LX5 S o) (hS : ScC h o W H N T F G) (hw : wfS W H N T F G) {x y : Int} (hx : zint x) (hy : zint y) : Zx 77 0 [zR o, zI x, zI y] [] S h = some (some (zI (if 0 ≤ x ∧ x < W ∧ 0 ≤ y ∧ y < H ∧ T (y.toNat * W + x.toNat) = true ∧ T (y.toNat * W + (W - 1 - x.toNat)) = true then 1 else 0)), S, h) := by
  have hh := hS
  obtain ⟨s0, s1, s2, -⟩ := hh
  obtain ⟨⟨w1, w2⟩, ⟨w3, w4⟩, w5, w6, -⟩ := hw
  have ex := hx.e
  have ey := hy.e
  have no : ∀ {P : Prop} [Decidable P], ¬ P → Zx 77 39 [zN, zN, zN] [] S h = some (some (zI (if P then 1 else 0)), S, h) := by
    intro P _ hP
    rw [b77_39, b77_40 (Or.inl rfl), if_neg hP]
  by_cases q1 : x < 0
  · rw [b77_0 hL (by rw [s0, s1, ex, ey]; intros; omega) (by rw [s0, s1, ex, ey]; intros; omega) (by rw [s0, s1, ex, ey]; intros; omega) (by rw [s0, s1, ex, ey]; intros; omega), ex, if_pos q1]
    exact no (fun z => by omega)
  by_cases q2 : (W : Int) ≤ x
  · rw [b77_0 hL (by rw [s0, s1, ex, ey, zw_nat (by omega), zw_nat (by omega)]; intros; omega) (by rw [s0, s1, ex, ey, zw_nat (by omega), zw_nat (by omega)]; intros; omega) (by rw [s0, s1, ex, ey, zw_nat (by omega), zw_nat (by omega)]; intros; omega) (by rw [s0, s1, ex, ey, zw_nat (by omega), zw_nat (by omega)]; intros; omega), ex, s0, zw_nat (by omega), if_neg q1, if_pos q2]
    exact no (fun z => by omega)
  by_cases q3 : y < 0
  · rw [b77_0 hL (by rw [s0, s1, ex, ey, zw_nat (by omega), zw_nat (by omega)]; intros; omega) (by rw [s0, s1, ex, ey, zw_nat (by omega), zw_nat (by omega)]; intros; omega) (by rw [s0, s1, ex, ey, zw_nat (by omega), zw_nat (by omega)]; intros; omega) (by rw [s0, s1, ex, ey, zw_nat (by omega), zw_nat (by omega)]; intros; omega), ex, ey, s0, zw_nat (by omega), if_neg q1, if_neg q2, if_pos q3]
    exact no (fun z => by omega)
  by_cases q4 : (H : Int) ≤ y
  · rw [b77_0 hL (by rw [s0, s1, ex, ey, zw_nat (by omega), zw_nat (by omega)]; intros; omega) (by rw [s0, s1, ex, ey, zw_nat (by omega), zw_nat (by omega)]; intros; omega) (by rw [s0, s1, ex, ey, zw_nat (by omega), zw_nat (by omega)]; intros; omega) (by rw [s0, s1, ex, ey, zw_nat (by omega), zw_nat (by omega)]; intros; omega), ex, ey, s0, s1, zw_nat (by omega), zw_nat (by omega), if_neg q1, if_neg q2, if_neg q3, if_pos q4]
    exact no (fun z => by omega)
  obtain ⟨a, rfl⟩ : ∃ a : Nat, x = a := ⟨x.toNat, by omega⟩
  obtain ⟨b, rfl⟩ : ∃ b : Nat, y = b := ⟨y.toNat, by omega⟩
  have p1 := pix_lt (W := W) (H := H) (x := a) (y := b) (by omega) (by omega)
  have p2 := pix_lt (W := W) (H := H) (x := W - 1 - a) (y := b) (by omega) (by omega)
  have i1 : (b : Int) * (W : Int) + (a : Int) = ((b * W + a : Nat) : Int) := by rw [Int.natCast_add, Int.natCast_mul]
  have i2 : (b : Int) * (W : Int) + (W : Int) - 1 - (a : Int) = ((b * W + (W - 1 - a) : Nat) : Int) := by rw [Int.natCast_add, Int.natCast_mul]; omega
  have t1 := hS.th (k := b * W + a) (by omega)
  have t2 := hS.th (k := b * W + (W - 1 - a)) (by omega)
  rw [b77_0 hL (by rw [s0, i1]; intros; omega) (by rw [s0, i1]; intros; omega) (by rw [s0, i2]; intros; omega) (by rw [s0, i2]; intros; omega), ex, ey, s0, s1, zw_nat (by omega), zw_nat (by omega), i1, i2, if_neg q1, if_neg q2, if_neg q3, if_neg q4, Int.toNat_natCast, Int.toNat_natCast, Int.toNat_natCast, Int.toNat_natCast]
  by_cases q5 : T (b * W + a) = true
  · rw [if_neg (fun z => by rw [t1.mp z] at q5; cases q5)]
    by_cases q6 : T (b * W + (W - 1 - a)) = true
    · rw [if_neg (fun z => by rw [t2.mp z] at q6; cases q6), b77_40 (Or.inr rfl), if_pos ⟨by omega, by omega, by omega, by omega, q5, q6⟩]
    · rw [if_pos (t2.mpr (by cases z : T (b * W + (W - 1 - a)) <;> simp_all))]
      exact no (fun z => q6 z.2.2.2.2.2)
  · rw [if_pos (t1.mpr (by cases z : T (b * W + a) <;> simp_all))]
    exact no (fun z => q5 z.2.2.2.2.1)
/-- Scene.hasFrame -/
theorem s_frm (hL : LX5 S o) (hS : ScC h o W H N T F G) (hw : wfS W H N T F G) {x y w v : Int} (hx : zint x) (hy : zint y) (hw2 : zint w) (hv : zint v) : Zx 78 0 [zR o, zI x, zI y, zI w, zI v] [] S h = some (some (zI (if frm W H x y w v then 1 else 0)), S, h) := by
  obtain ⟨s0, s1, s2, -⟩ := hS
  obtain ⟨⟨w1, w2⟩, ⟨w3, w4⟩, w5, w6, -⟩ := hw
  have no : ¬ frm W H x y w v → Zx 78 36 [zN, zN, zN, zN, zN] [] S h = some (some (zI (if frm W H x y w v then 1 else 0)), S, h) := by
    intro hP
    rw [b78_36, b78_37 (Or.inl rfl), if_neg hP]
  rw [b78_0 hL, s0, s1, hx.e, hy.e, hw2.e, hv.e, zw_nat (by omega), zw_nat (by omega)]
  by_cases q1 : x < 0
  · rw [if_pos q1]; exact no (fun z => by unfold frm at z; omega)
  rw [if_neg q1]
  by_cases q2 : (W : Int) ≤ x
  · rw [if_pos q2]; exact no (fun z => by unfold frm at z; omega)
  rw [if_neg q2]
  by_cases q3 : y < 0
  · rw [if_pos q3]; exact no (fun z => by unfold frm at z; omega)
  rw [if_neg q3]
  by_cases q4 : (H : Int) ≤ y
  · rw [if_pos q4]; exact no (fun z => by unfold frm at z; omega)
  rw [if_neg q4]
  by_cases q5 : w < 1
  · rw [if_pos q5]; exact no (fun z => by unfold frm at z; omega)
  rw [if_neg q5, zw_id (z := (W : Int) - 1 - x) (by omega) (by omega)]
  by_cases q6 : (W : Int) - 1 - x < w
  · rw [if_pos q6]; exact no (fun z => by unfold frm at z; omega)
  rw [if_neg q6]
  by_cases q7 : v < 1
  · rw [if_pos q7]; exact no (fun z => by unfold frm at z; omega)
  rw [if_neg q7, zw_id (z := (H : Int) - 1 - y) (by omega) (by omega)]
  by_cases q8 : (H : Int) - 1 - y < v
  · rw [if_pos q8]; exact no (fun z => by unfold frm at z; omega)
  rw [if_neg q8, b78_37 (Or.inr rfl), if_pos ⟨by omega, by omega, by omega, by omega, by omega, by omega, by omega, by omega⟩]
/-- Scene.stepAround -/
theorem s_sta (hL : LX5 S o) (h0 : h o 0 = W) {i w v : Nat} (hi : i < 1000) (hw : w < 1000) (hv : v < 1000) : Zx 80 0 [zR o, zI (i : Int), zI (w : Int), zI (v : Int)] [] S h = some (some (zI (sA W w v i)), S, h) := by
  rw [b80_0 hL, h0, zw_nat (by omega), zw_nat (by omega), zw_id (z := (w : Int) + v) (by omega) (by omega), zw_id (z := 2 * (w : Int) + v) (by omega) (by omega)]
  unfold sA
  by_cases q1 : i < w
  · rw [if_neg (by omega), if_pos q1]
  rw [if_pos (by omega), if_neg q1]
  by_cases q2 : i < w + v
  · rw [if_neg (by omega), if_pos q2]
  rw [if_pos (by omega), if_neg q2]
  by_cases q3 : i < 2 * w + v
  · rw [if_neg (by omega), if_pos q3, b80_25]
  · rw [if_pos (by omega), if_neg q3, b80_25]
/-- Scene.around -/
theorem s_arn (hL : LX5 S o) (hS : ScC h o W H N T F G) (hw : wfS W H N T F G) {x y w v : Int} (hx : zint x) (hy : zint y) (hw2 : zint w) (hv : zint v) : Zx 79 0 [zR o, zI x, zI y, zI w, zI v, zN, zN, zN, zN] [] S h = some (some (zI (arn W H T F x y w v)), S, h) := by
  rw [b79_0 hL, b79_5 hL hL (s_frm hL hS hw hx hy hw2 hv)]
  by_cases q : frm W H x y w v
  case neg =>
    rw [if_neg q, if_neg (fun z => z zw0)]
    unfold arn
    rw [if_neg (fun z => q z.1)]
  rw [if_pos q, if_pos (show ¬ zw 1 = 0 by decide)]
  have hh := hS
  obtain ⟨s0, s1, s2, sk⟩ := hh
  have hww := hw
  obtain ⟨⟨w1, w2⟩, ⟨w3, w4⟩, w5, w6, wk⟩ := hww
  have qq := q
  obtain ⟨f1, f2, f3, f4, f5, f6, f7, f8⟩ := qq
  obtain ⟨x, rfl⟩ : ∃ a : Nat, x = a := ⟨x.toNat, by omega⟩
  obtain ⟨y, rfl⟩ : ∃ a : Nat, y = a := ⟨y.toNat, by omega⟩
  obtain ⟨w, rfl⟩ : ∃ a : Nat, w = a := ⟨w.toNat, by omega⟩
  obtain ⟨v, rfl⟩ : ∃ a : Nat, v = a := ⟨v.toNat, by omega⟩
  have lt : ∀ i, i ≤ 2 * (w + v) → pA W x y w v i < N := fun i hi => by rw [w5]; exact pA_lt (by omega) (by omega) hi
  have lo : ∀ i, i ≤ 2 * (w + v) → -400 * (i : Int) ≤ su (fun i => pdif (pA W x y w v i) (pA W x y w v (i + 1)) (F (pA W x y w v i)) (F (pA W x y w v (i + 1)))) i ∧ su (fun i => pdif (pA W x y w v i) (pA W x y w v (i + 1)) (F (pA W x y w v i)) (F (pA W x y w v (i + 1)))) i ≤ 400 * (i : Int) := by
    intro i
    induction i with
    | zero => intro _; exact ⟨by show _ ≤ (0 : Int); omega, by show (0 : Int) ≤ _; omega⟩
    | succ i ih =>
      intro hi
      have a := ih (by omega)
      have b := pdif_in (a := pA W x y w v i) (b := pA W x y w v (i + 1)) (wk _ (lt i (by omega))).1 (wk _ (lt (i + 1) hi)).1
      rw [su]
      omega
  have step : ∀ i, i < 2 * (w + v) → Zx 79 20 [zR o, zN, zN, zI (w : Int), zI (v : Int), zI (pA W x y w v i : Int), zI (su (fun i => pdif (pA W x y w v i) (pA W x y w v (i + 1)) (F (pA W x y w v i)) (F (pA W x y w v (i + 1)))) i), zI (i : Int), zN] [] S h = if T (pA W x y w v i) = true ∧ T (pA W x y w v (i + 1)) = true then Zx 79 20 [zR o, zN, zN, zI (w : Int), zI (v : Int), zI (pA W x y w v (i + 1) : Int), zI (su (fun i => pdif (pA W x y w v i) (pA W x y w v (i + 1)) (F (pA W x y w v i)) (F (pA W x y w v (i + 1)))) (i + 1)), zI ((i + 1 : Nat) : Int), zN] [] S h else some (some (zI (-100)), S, h) := by
    intro i hi
    have l1 := lt i (by omega)
    have l2 := lt (i + 1) (by omega)
    have e := pA_step (W := W) (x := x) (y := y) (w := w) (v := v) hi
    have t1 := hS.th l1
    have t2 := hS.th l2
    rw [b79_20 hL, zw_id (z := 2 * ((w : Int) + v)) (by omega) (by omega), zw_nat (by omega), if_neg (by omega), b79_32 hL hL (s_sta hL s0 (by omega) (by omega) (by omega)) (by intros; omega) (by intros; omega) (by rw [← e]; intros; omega) (by rw [← e]; intros; omega), ← e, Int.toNat_natCast, Int.toNat_natCast]
    by_cases q1 : T (pA W x y w v i) = true
    · rw [if_neg (fun z => by rw [t1.mp z] at q1; cases q1)]
      by_cases q2 : T (pA W x y w v (i + 1)) = true
      · rw [if_pos (fun z => by rw [t2.mp z] at q2; cases q2), if_pos ⟨q1, q2⟩]
        have d := s_sdif (h := h) hL (a := pA W x y w v i) (b := pA W x y w v (i + 1)) (by omega) (by omega) (by rw [(sk _ l1).2.1]; exact (wk _ l1).1.1) (by rw [(sk _ l1).2.1]; exact (wk _ l1).1.2) (by rw [(sk _ l2).2.1]; exact (wk _ l2).1.1) (by rw [(sk _ l2).2.1]; exact (wk _ l2).1.2)
        rw [(sk _ l1).2.1, (sk _ l2).2.1] at d
        rw [b79_51 hL hL d]
        rfl
      · rw [if_neg (fun z => z (t2.mpr (by cases z : T (pA W x y w v (i + 1)) <;> simp_all))), b79_45, if_neg (fun z => q2 z.2)]
    · rw [if_pos (t1.mpr (by cases z : T (pA W x y w v i) <;> simp_all)), b79_45, if_neg (fun z => q1 z.1)]
  have start : (h o 0) = W := s0
  have i1 : (y : Int) * (W : Int) + (x : Int) = ((pA W x y w v 0 : Nat) : Int) := by
    unfold pA
    rw [if_pos (Nat.zero_le _), Int.natCast_add, Int.natCast_add, Int.natCast_mul]; omega
  rw [s0, i1]
  unfold arn
  rw [Int.toNat_natCast, Int.toNat_natCast, Int.toNat_natCast, Int.toNat_natCast]
  have ch : ∀ m, m ≤ 2 * (w + v) → (∀ i, i < m → T (pA W x y w v i) = true ∧ T (pA W x y w v (i + 1)) = true) → Zx 79 20 [zR o, zN, zN, zI (w : Int), zI (v : Int), zI (pA W x y w v 0 : Int), zI 0, zI 0, zN] [] S h = Zx 79 20 [zR o, zN, zN, zI (w : Int), zI (v : Int), zI (pA W x y w v m : Int), zI (su (fun i => pdif (pA W x y w v i) (pA W x y w v (i + 1)) (F (pA W x y w v i)) (F (pA W x y w v (i + 1)))) m), zI (m : Int), zN] [] S h := fun m hm hk =>
    z_chain (N := m) (X := fun i => Zx 79 20 [zR o, zN, zN, zI (w : Int), zI (v : Int), zI (pA W x y w v i : Int), zI (su (fun i => pdif (pA W x y w v i) (pA W x y w v (i + 1)) (F (pA W x y w v i)) (F (pA W x y w v (i + 1)))) i), zI (i : Int), zN] [] S h) (fun i hi => by
      have := step i (by omega)
      rw [if_pos (hk i hi)] at this
      exact this)
  by_cases all : ∀ i, i < 2 * (w + v) → T (pA W x y w v i) = true ∧ T (pA W x y w v (i + 1)) = true
  · rw [ch _ (Nat.le_refl _) all, if_pos ⟨q, all⟩]
    have := lo _ (Nat.le_refl _)
    rw [b79_20 hL, zw_id (z := 2 * ((w : Int) + v)) (by omega) (by omega), zw_nat (by omega), if_pos (by omega), zw_id (by omega) (by omega)]
  · rw [if_neg (fun z => all z.2)]
    rcases fst_cases (fun i => !(T (pA W x y w v i) && T (pA W x y w v (i + 1)))) (2 * (w + v)) with ⟨-, g⟩ | ⟨k, g2, -, g3, g4⟩
    · exact absurd (fun i hi => by have := g i hi; simp at this; exact this) all
    · rw [ch k (by omega) (fun i hi => by have := g4 i hi; simp at this; exact this), step k g2, if_neg (fun z => by simp [z.1, z.2] at g3)]
/-- Scene.countFours -/
def cf (W H : Nat) (T : Nat → Bool) (F : Nat → Int) (kind : Int) : Int := su (fun y => su (fun x => if arn W H T F (x : Int) (y : Int) 1 1 = kind then 1 else 0) (W - 1)) (H - 1)
theorem su_bd {f : Nat → Int} {B : Int} : ∀ n : Nat, (∀ i, i < n → -B ≤ f i ∧ f i ≤ B) → -(B * n) ≤ su f n ∧ su f n ≤ B * n
  | 0, _ => ⟨by show _ ≤ (0 : Int); simp, by show (0 : Int) ≤ _; simp⟩
  | n + 1, h => by
    have a := su_bd n (fun i hi => h i (by omega))
    have b := h n (by omega)
    rw [su, Int.natCast_succ, Int.mul_add, Int.mul_one]
    omega
theorem arn_in (hw : wfS W H N T F G) {x y w v : Int} : -100 ≤ arn W H T F x y w v ∧ arn W H T F x y w v ≤ 100 := by
  obtain ⟨⟨w1, w2⟩, ⟨w3, w4⟩, w5, w6, wk⟩ := hw
  unfold arn
  by_cases q : frm W H x y w v ∧ ∀ i, i < 2 * (w.toNat + v.toNat) → T (pA W x.toNat y.toNat w.toNat v.toNat i) = true ∧ T (pA W x.toNat y.toNat w.toNat v.toNat (i + 1)) = true
  · rw [if_pos q]
    obtain ⟨⟨f1, f2, f3, f4, f5, f6, f7, f8⟩, -⟩ := q
    have b := su_bd (B := 400) (f := fun i => pdif (pA W x.toNat y.toNat w.toNat v.toNat i) (pA W x.toNat y.toNat w.toNat v.toNat (i + 1)) (F (pA W x.toNat y.toNat w.toNat v.toNat i)) (F (pA W x.toNat y.toNat w.toNat v.toNat (i + 1)))) (2 * (w.toNat + v.toNat)) (fun i hi => by
      have l1 := pA_lt (W := W) (H := H) (x := x.toNat) (y := y.toNat) (w := w.toNat) (v := v.toNat) (i := i) (by omega) (by omega) (by omega)
      have l2 := pA_lt (W := W) (H := H) (x := x.toNat) (y := y.toNat) (w := w.toNat) (v := v.toNat) (i := i + 1) (by omega) (by omega) (by omega)
      exact pdif_in (wk _ (by omega)).1 (wk _ (by omega)).1)
    have c := Int.natAbs_tdiv (su (fun i => pdif (pA W x.toNat y.toNat w.toNat v.toNat i) (pA W x.toNat y.toNat w.toNat v.toNat (i + 1)) (F (pA W x.toNat y.toNat w.toNat v.toNat i)) (F (pA W x.toNat y.toNat w.toNat v.toNat (i + 1)))) (2 * (w.toNat + v.toNat))) 400
    have d : ∀ n : Nat, Nat.div n (Int.natAbs 400) = n / 400 := fun n => rfl
    rw [d] at c
    omega
  · rw [if_neg q]; omega
theorem s_cf (hL : LX5 S o) (hS : ScC h o W H N T F G) (hw : wfS W H N T F G) {kind : Int} (hk : zint kind) : Zx 81 0 [zR o, zI kind, zN, zN, zN] [] S h = some (some (zI (cf W H T F kind)), S, h) := by
  have hh := hS
  obtain ⟨s0, s1, s2, sk⟩ := hh
  have hww := hw
  obtain ⟨⟨w1, w2⟩, ⟨w3, w4⟩, w5, w6, wk⟩ := hww
  rw [b81_0 hL]
  refine (z_chain (N := H - 1) (X := fun j => Zx 81 4 [zR o, zI kind, zI (su (fun y => su (fun x => if arn W H T F (x : Int) (y : Int) 1 1 = kind then 1 else 0) (W - 1)) j), zI (j : Int), zN] [] S h) (fun j hj => ?_)).trans ?_
  · show Zx 81 4 _ _ _ _ = Zx 81 4 _ _ _ _
    rw [b81_4 hL, s1, zw_id (by omega) (by omega), zw_nat (by omega), if_neg (by omega)]
    have e := z_chain (N := W - 1) (X := fun i => Zx 81 12 [zR o, zI kind, zI (su (fun y => su (fun x => if arn W H T F (x : Int) (y : Int) 1 1 = kind then 1 else 0) (W - 1)) j + su (fun x => if arn W H T F (x : Int) (j : Int) 1 1 = kind then 1 else 0) i), zI (j : Int), zI (i : Int)] [] S h) (fun i hi => by
      have ar := arn_in hw (x := (i : Int)) (y := (j : Int)) (w := 1) (v := 1)
      show Zx 81 12 _ _ _ _ = Zx 81 12 _ _ _ _
      rw [b81_12 hL, s0, zw_id (by omega) (by omega), zw_nat (by omega), if_neg (by omega), b81_23 hL hL (s_arn hL hS hw (x := (i : Int)) (y := (j : Int)) (w := 1) (v := 1) ⟨by omega, by omega⟩ ⟨by omega, by omega⟩ ⟨by omega, by omega⟩ ⟨by omega, by omega⟩), zw_id (z := arn W H T F (i : Int) (j : Int) 1 1) (by omega) (by omega), hk.e, b81_27 hL, b81_27 hL]
      by_cases q : arn W H T F (i : Int) (j : Int) 1 1 = kind
      · rw [if_neg (fun z => z q), su, if_pos q, ← Int.add_assoc]; rfl
      · rw [if_pos q, su, if_neg q, Int.add_zero]; rfl)
    have e0 : su (fun y => su (fun x => if arn W H T F (x : Int) (y : Int) 1 1 = kind then 1 else 0) (W - 1)) j + su (fun x => if arn W H T F (x : Int) (j : Int) 1 1 = kind then (1 : Int) else 0) 0 = su (fun y => su (fun x => if arn W H T F (x : Int) (y : Int) 1 1 = kind then 1 else 0) (W - 1)) j := Int.add_zero _
    rw [e0] at e
    refine Eq.trans e ?_
    rw [b81_12 hL, s0, zw_id (by omega) (by omega), zw_nat (by omega), if_pos (by omega)]
    rfl
  · show Zx 81 4 _ _ _ _ = _
    rw [b81_4 hL, s1, zw_id (by omega) (by omega), zw_nat (by omega), if_pos (by omega)]
    rfl
end ARN
