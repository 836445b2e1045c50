/-! PAIRS: bits, the list of the fours, how far they are from the edge and from each other -/
section FOL
theorem zbit : ∀ S : Nat, S < 256 → ∀ b : Nat, b < 8 → zw (zband (zshr (S : Int) (b : Int)) 1) = if S.testBit b = true then 1 else 0 := by decide +kernel
theorem zbxr : ∀ S : Nat, S < 256 → ∀ b : Nat, b < 8 → zbxor (S : Int) (zshl 1 (b : Int)) = ((S ^^^ 2 ^ b : Nat) : Int) := by decide +kernel
theorem zbsb : ∀ S : Nat, S < 256 → ∀ b : Nat, b < 8 → S.testBit b = true → (S : Int) - zshl 1 (b : Int) = ((S ^^^ 2 ^ b : Nat) : Int) := by decide +kernel
theorem zbsm : ∀ S : Nat, S < 256 → ∀ b : Nat, b < 8 → S.testBit b = true → S ^^^ 2 ^ b < S := by decide +kernel
theorem zsh2 : ∀ n : Nat, n < 9 → zshl 1 (n : Int) = ((2 ^ n : Nat) : Int) := by decide +kernel
variable {W H N : Nat} {T : Nat → Bool} {F G : Nat → Int} {κ : Int}
def fq (W H : Nat) (T : Nat → Bool) (F : Nat → Int) (κ : Int) (k : Nat) : Bool := decide (four1 W H T F ((k % W : Nat) : Int) ((k / W : Nat) : Int) = κ)
def fl (W H : Nat) (T : Nat → Bool) (F : Nat → Int) (κ : Int) : Nat → List Nat
  | 0 => []
  | k + 1 => if fq W H T F κ k = true then fl W H T F κ k ++ [k] else fl W H T F κ k
theorem fl_lt : ∀ m x, x ∈ fl W H T F κ m → x < m
  | 0, x, h => absurd h (List.not_mem_nil)
  | m + 1, x, h => by
    unfold fl at h
    by_cases c : fq W H T F κ m = true
    · rw [if_pos c, List.mem_append] at h
      rcases h with q | q
      · have := fl_lt m x q; omega
      · have : x = m := List.mem_singleton.mp q
        omega
    · rw [if_neg c] at h
      have := fl_lt m x h; omega
theorem fl_get : ∀ m j, (fl W H T F κ m).getD j 0 < m ∨ (fl W H T F κ m).getD j 0 = 0 := fun m j => by
  by_cases c : j < (fl W H T F κ m).length
  · left
    rw [List.getD_eq_getElem?_getD, List.getElem?_eq_getElem c]
    exact fl_lt m _ (List.getElem_mem c)
  · right
    rw [List.getD_eq_getElem?_getD, List.getElem?_eq_none (by omega)]
    rfl
theorem fl_no (hw : wfS W H N T F G) (hk : κ ≠ -9) {k : Nat} (h : k % W = W - 1 ∨ H - 1 ≤ k / W) : fq W H T F κ k = false := by
  obtain ⟨⟨w1, w2⟩, ⟨w3, w4⟩, -⟩ := id hw
  unfold fq
  rw [four1_e hw, if_neg (by omega)]
  exact decide_eq_false (fun z => hk z.symm)
theorem fl_s {m : Nat} (h : fq W H T F κ m = true) : fl W H T F κ (m + 1) = fl W H T F κ m ++ [m] := if_pos h
theorem fl_n {m : Nat} (h : fq W H T F κ m = false) : fl W H T F κ (m + 1) = fl W H T F κ m := if_neg (by rw [h]; decide)
/-- a row's last pixel is none -/
theorem fl_row (hw : wfS W H N T F G) (hk : κ ≠ -9) {y : Nat} : fl W H T F κ ((y + 1) * W) = fl W H T F κ (y * W + (W - 1)) := by
  obtain ⟨⟨w1, w2⟩, -⟩ := id hw
  have e : (y + 1) * W = y * W + (W - 1) + 1 := by rw [Nat.succ_mul]; omega
  rw [e]
  refine fl_n (fl_no hw hk (Or.inl ?_))
  rw [Nat.mul_comm, Nat.mul_add_mod]
  exact Nat.mod_eq_of_lt (by omega)
/-- nor are those of the last row -/
theorem fl_end (hw : wfS W H N T F G) (hk : κ ≠ -9) : fl W H T F κ N = fl W H T F κ ((H - 1) * W) := by
  obtain ⟨⟨w1, w2⟩, ⟨w3, w4⟩, w5, w6, -⟩ := id hw
  have e : N = (H - 1) * W + W := by rw [w5, Nat.mul_comm, ← Nat.succ_mul, show (H - 1).succ = H by omega]
  have all : ∀ j, fl W H T F κ ((H - 1) * W + j) = fl W H T F κ ((H - 1) * W) := by
    intro j
    induction j with
    | zero => rfl
    | succ j ih =>
      rw [← Nat.add_assoc, fl_n (fl_no hw hk (Or.inr ?_)), ih]
      rw [Nat.mul_comm, Nat.mul_add_div (by omega)]
      exact Nat.le_add_right _ _
  rw [e]
  exact all W
theorem fl_cnt (hw : wfS W H N T F G) (hk : κ ≠ -9) : ∀ y, y ≤ H - 1 → ∀ x, x ≤ W - 1 → ((fl W H T F κ (y * W + x)).length : Int) = su (fun y => su (fun x => if four1 W H T F (x : Int) (y : Int) = κ then 1 else 0) (W - 1)) y + su (fun x => if four1 W H T F (x : Int) (y : Int) = κ then 1 else 0) x := by
  obtain ⟨⟨w1, w2⟩, ⟨w3, w4⟩, -⟩ := id hw
  intro y
  induction y with
  | zero =>
    intro _ x
    induction x with
    | zero => intro _; rw [Nat.zero_mul]; rfl
    | succ x ih =>
      intro hx
      have i := ih (by omega)
      rw [show su (fun x => if four1 W H T F (x : Int) ((0 : Nat) : Int) = κ then (1 : Int) else 0) (x + 1) = su (fun x => if four1 W H T F (x : Int) ((0 : Nat) : Int) = κ then 1 else 0) x + (if four1 W H T F (x : Int) ((0 : Nat) : Int) = κ then 1 else 0) from rfl, ← Int.add_assoc, ← i]
      have m1 : (0 * W + x) % W = x := by rw [Nat.zero_mul, Nat.zero_add]; exact Nat.mod_eq_of_lt (by omega)
      have m2 : (0 * W + x) / W = 0 := by rw [Nat.zero_mul, Nat.zero_add]; exact Nat.div_eq_of_lt (by omega)
      have q : fq W H T F κ (0 * W + x) = decide (four1 W H T F (x : Int) ((0 : Nat) : Int) = κ) := by unfold fq; rw [m1, m2]
      rw [← Nat.add_assoc]
      by_cases c : four1 W H T F (x : Int) ((0 : Nat) : Int) = κ
      · rw [fl_s (by rw [q]; exact decide_eq_true c), if_pos c, List.length_append]; rfl
      · rw [fl_n (by rw [q]; exact decide_eq_false c), if_neg c, Int.add_zero]
  | succ y ihy =>
    intro hy x
    have base := ihy (by omega) (W - 1) (Nat.le_refl _)
    induction x with
    | zero =>
      intro _
      rw [Nat.add_zero, fl_row hw hk, base]
      show _ = _ + (0 : Int)
      rw [Int.add_zero]; rfl
    | succ x ih =>
      intro hx
      have i := ih (by omega)
      rw [show su (fun x => if four1 W H T F (x : Int) ((y + 1 : Nat) : Int) = κ then (1 : Int) else 0) (x + 1) = su (fun x => if four1 W H T F (x : Int) ((y + 1 : Nat) : Int) = κ then 1 else 0) x + (if four1 W H T F (x : Int) ((y + 1 : Nat) : Int) = κ then 1 else 0) from rfl, ← Int.add_assoc, ← i]
      have m1 : ((y + 1) * W + x) % W = x := by rw [Nat.mul_comm, Nat.mul_add_mod]; exact Nat.mod_eq_of_lt (by omega)
      have m2 : ((y + 1) * W + x) / W = y + 1 := by rw [Nat.mul_comm, Nat.mul_add_div (by omega), Nat.div_eq_of_lt (by omega), Nat.add_zero]
      have q : fq W H T F κ ((y + 1) * W + x) = decide (four1 W H T F (x : Int) ((y + 1 : Nat) : Int) = κ) := by unfold fq; rw [m1, m2]
      rw [← Nat.add_assoc]
      by_cases c : four1 W H T F (x : Int) ((y + 1 : Nat) : Int) = κ
      · rw [fl_s (by rw [q]; exact decide_eq_true c), if_pos c, List.length_append]; rfl
      · rw [fl_n (by rw [q]; exact decide_eq_false c), if_neg c, Int.add_zero]
theorem fl_cf (hw : wfS W H N T F G) (hk : κ ≠ -9 ∧ κ ≠ -100) : ((fl W H T F κ N).length : Int) = cf W H T F κ := by
  rw [← four1_cf hk, fl_end hw hk.1]
  have := fl_cnt hw hk.1 (H - 1) (Nat.le_refl _) 0 (by omega)
  rw [Nat.add_zero] at this
  rw [this]
  exact Int.add_zero _
/-- no more than sixteen, of both kinds -/
theorem fl_16 (hw : wfS W H N T F G) : (fl W H T F 1 N).length + (fl W H T F (-1) N).length ≤ 16 := by
  obtain ⟨⟨w1, w2⟩, ⟨w3, w4⟩, -⟩ := id hw
  have a := fl_cf (κ := 1) hw ⟨by omega, by omega⟩
  have b := fl_cf (κ := -1) hw ⟨by omega, by omega⟩
  rw [← four1_cf ⟨by omega, by omega⟩] at a b
  have c : su (fun y => su (fun x => if four1 W H T F (x : Int) (y : Int) = 1 then 1 else 0) (W - 1)) (H - 1) + su (fun y => su (fun x => if four1 W H T F (x : Int) (y : Int) = -1 then 1 else 0) (W - 1)) (H - 1) ≤ 16 := by
    rw [← su_add]
    have q := su_bd (B := 4) (f := fun y : Nat => su (fun x => if four1 W H T F (x : Int) (y : Int) = 1 then 1 else 0) (W - 1) + su (fun x => if four1 W H T F (x : Int) (y : Int) = -1 then 1 else 0) (W - 1)) (H - 1) (fun y _ => by
      rw [← su_add]
      have r := su_bd (B := 1) (f := fun x : Nat => (if four1 W H T F (x : Int) (y : Int) = 1 then 1 else 0) + (if four1 W H T F (x : Int) (y : Int) = -1 then 1 else 0)) (W - 1) (fun x _ => by
        by_cases c1 : four1 W H T F (x : Int) (y : Int) = 1
        · rw [if_pos c1, if_neg (by omega)]; omega
        · rw [if_neg c1]; split <;> omega)
      omega)
    omega
  omega
/-- from the edge; from each other -/
def ed (W H k : Nat) : Int := mn (mn (((k % W : Nat) : Int) + 1) (((k / W : Nat) : Int) + 1)) (mn ((W : Int) - 1 - ((k % W : Nat) : Int)) ((H : Int) - 1 - ((k / W : Nat) : Int)))
def apr (W k l : Nat) : Int := ab (((k % W : Nat) : Int) - ((l % W : Nat) : Int)) + ab (((k / W : Nat) : Int) - ((l / W : Nat) : Int))
theorem ed_in (hw : wfS W H N T F G) {k : Nat} (hk : k < N) : 0 ≤ ed W H k ∧ ed W H k ≤ 5 := by
  obtain ⟨⟨w1, w2⟩, ⟨w3, w4⟩, w5, w6, -⟩ := id hw
  have a : k % W < W := Nat.mod_lt _ (by omega)
  have b : k / W < H := Nat.div_lt_of_lt_mul (by omega)
  have z1 : (0 : Int) ≤ ((k / W : Nat) : Int) := Int.natCast_nonneg _
  have z2 : (0 : Int) ≤ ((k % W : Nat) : Int) := Int.natCast_nonneg _
  unfold ed mn
  split <;> split <;> split <;> omega
theorem apr_in (hw : wfS W H N T F G) {k l : Nat} (hk : k < N) (hl : l < N) : 0 ≤ apr W k l ∧ apr W k l ≤ 10 := by
  obtain ⟨⟨w1, w2⟩, ⟨w3, w4⟩, w5, w6, -⟩ := id hw
  have a : k % W < W := Nat.mod_lt _ (by omega)
  have b : k / W < H := Nat.div_lt_of_lt_mul (by omega)
  have a' : l % W < W := Nat.mod_lt _ (by omega)
  have b' : l / W < H := Nat.div_lt_of_lt_mul (by omega)
  have z1 : (0 : Int) ≤ ((k / W : Nat) : Int) := Int.natCast_nonneg _
  have z2 : (0 : Int) ≤ ((k % W : Nat) : Int) := Int.natCast_nonneg _
  have z3 : (0 : Int) ≤ ((l / W : Nat) : Int) := Int.natCast_nonneg _
  have z4 : (0 : Int) ≤ ((l % W : Nat) : Int) := Int.natCast_nonneg _
  unfold apr ab
  split <;> split <;> omega
theorem apr_c {k l : Nat} : apr W k l = apr W l k := by
  unfold apr ab
  split <;> split <;> split <;> split <;> omega
/-- the least cost of all fours, those of one kind put into sets -/
def prd (W H N : Nat) (T : Nat → Bool) (F : Nat → Int) (r : Int) : Int := par (fl W H T F r N).length (fl W H T F (-r) N).length (fun i => ed W H ((fl W H T F (-r) N).getD i 0)) (fun b => ed W H ((fl W H T F r N).getD b 0)) (fun i b => apr W ((fl W H T F (-r) N).getD i 0) ((fl W H T F r N).getD b 0))
theorem fl_N (hw : wfS W H N T F G) {j : Nat} : (fl W H T F κ N).getD j 0 < N := by
  obtain ⟨⟨w1, w2⟩, ⟨w3, w4⟩, w5, w6, -⟩ := id hw
  have : 0 < N := by rw [w5]; exact Nat.mul_pos (by omega) (by omega)
  rcases fl_get (W := W) (H := H) (T := T) (F := F) (κ := κ) N j with q | q <;> omega
theorem prd_sum (hw : wfS W H N T F G) {r : Int} (hr : r = 1 ∨ r = -1) : su (fun i => ed W H ((fl W H T F (-r) N).getD i 0)) (fl W H T F (-r) N).length + su (fun b => ed W H ((fl W H T F r N).getD b 0)) (fl W H T F r N).length ≤ 80 := by
  have l16 : (fl W H T F r N).length + (fl W H T F (-r) N).length ≤ 16 := by
    have := fl_16 hw
    rcases hr with e | e <;> subst e
    · exact this
    · rw [Int.neg_neg]; omega
  have b : ∀ (κ : Int) (m : Nat), su (fun i => ed W H ((fl W H T F κ N).getD i 0)) m ≤ 5 * m := fun κ m => by
    have := su_bd (B := 5) (f := fun i => ed W H ((fl W H T F κ N).getD i 0)) m (fun i _ => by
      have := ed_in hw (fl_N hw (κ := κ) (j := i)); omega)
    exact this.2
  have b1 := b (-r) (fl W H T F (-r) N).length
  have b2 := b r (fl W H T F r N).length
  omega
theorem prd_sw (hw : wfS W H N T F G) : prd W H N T F 1 = prd W H N T F (-1) := by
  have s := prd_sum hw (r := 1) (Or.inl rfl)
  have q := par_sw (n := (fl W H T F 1 N).length) (J := (fl W H T F (-1) N).length) (e := fun i => ed W H ((fl W H T F (-1) N).getD i 0)) (f := fun b => ed W H ((fl W H T F 1 N).getD b 0)) (d := fun i b => apr W ((fl W H T F (-1) N).getD i 0) ((fl W H T F 1 N).getD b 0)) (fun i => (ed_in hw (fl_N hw)).1) (fun i => (ed_in hw (fl_N hw)).1) (fun i b => (apr_in hw (fl_N hw) (fl_N hw)).1) (by omega)
  unfold prd
  rw [Int.neg_neg]
  refine q.trans ?_
  congr 1
  funext b i
  exact apr_c
end FOL
