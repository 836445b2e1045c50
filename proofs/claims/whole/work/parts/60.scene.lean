/-! SCENES: what is beside what, and what the class's Scene does -/
theorem z_chain {α : Type} {X : Nat → α} : ∀ {N : Nat}, (∀ i, i < N → X i = X (i + 1)) → X 0 = X N
  | 0, _ => rfl
  | N + 1, h => (z_chain (N := N) (fun i hi => h i (by omega))).trans (h N (by omega))
theorem zw0 : zw 0 = 0 := by decide
theorem zw1 : zw 1 = 1 := by decide
theorem zwm1 : zw (-1) = -1 := by decide
/-- the pixel above, left, right, below: -1 for none -/
def bs (W N a s : Nat) : Int := if s = 0 then (if W ≤ a then (a : Int) - W else -1) else if s = 1 then (if 0 < a % W then (a : Int) - 1 else -1) else if s = 2 then (if a % W + 1 < W then (a : Int) + 1 else -1) else (if a + W < N then (a : Int) + W else -1)
/-- beside one another -/
def bsd (W a b : Nat) : Bool := decide ((a / W = b / W ∧ (a % W + 1 = b % W ∨ b % W + 1 = a % W)) ∨ (a % W = b % W ∧ (a / W + 1 = b / W ∨ b / W + 1 = a / W)))
/-- what a class's scene holds -/
def ScC (h : zH) (o W H N : Nat) (T : Nat → Bool) (F G : Nat → Int) : Prop := h o 0 = W ∧ h o 1 = H ∧ h o 2 = N ∧ ∀ k, k < N → zb1 (h (o + 1) k) = (if T k = true then 1 else 0) ∧ h (o + 2) k = F k ∧ h (o + 3) k = G k
/-- what a scene is like -/
def wfS (W H N : Nat) (T : Nat → Bool) (F G : Nat → Int) : Prop := (2 ≤ W ∧ W ≤ 5) ∧ (2 ≤ H ∧ H ≤ 5) ∧ N = W * H ∧ N ≤ 25 ∧ ∀ k, k < N → (-1 ≤ F k ∧ F k < 400) ∧ (T k = true → 0 ≤ F k) ∧ 1 ≤ G k ∧ G k ≤ 9
section SCN
variable {S : zS} {h : zH} {o W H N : Nat} {T : Nat → Bool} {F G : Nat → Int}
theorem ScC.th (hS : ScC h o W H N T F G) {k : Nat} (hk : k < N) : zw (zb1 (h (o + 1) k)) = 0 ↔ T k = false := by
  rw [(hS.2.2.2 k hk).1]
  cases T k
  · simp [zw0]
  · simp [zw1]
theorem s_bes (hL : LX5 S o) (hS : ScC h o W H N T F G) (hw : wfS W H N T F G) {a s : Nat} (ha : a < N) (hs : s < 4) : Zx 66 0 [zR o, zI (a : Int), zI (s : Int), zN] [] S h = some (some (zI (bs W N a s)), S, h) := by
  obtain ⟨s0, s1, s2, -⟩ := hS
  obtain ⟨⟨w1, w2⟩, ⟨w3, w4⟩, w5, w6, -⟩ := hw
  have eW := zw_nat (n := W) (by omega)
  have ea := zw_nat (n := a) (by omega)
  have em : Int.tmod (a : Int) (W : Int) = ((a % W : Nat) : Int) := (Int.ofNat_tmod a W).symm
  have hm : a % W < W := Nat.mod_lt _ (by omega)
  rw [b66_0 hL (fun _ => by rw [s0, eW]; omega), s0, eW, if_pos (by omega), ea, em]
  rcases (show s = 0 ∨ s = 1 ∨ s = 2 ∨ s = 3 by omega) with rfl | rfl | rfl | rfl
  · rw [show zfind (zw ((0 : Nat) : Int)) [(0, 13), (1, 24), (2, 32)] 44 = 13 from rfl, Zx_nm (L' := [zR o, zI (a : Int), zN, zN]) rfl rfl, b66_13 hL, s0, ea, eW]
    unfold bs
    by_cases q : (a : Int) < W
    · rw [if_pos q, b66_23, if_pos rfl, if_neg (by omega)]
    · rw [if_neg q, b66_23, if_pos rfl, if_pos (by omega)]
  · rw [show zfind (zw ((1 : Nat) : Int)) [(0, 13), (1, 24), (2, 32)] 44 = 24 from rfl, Zx_nm (L' := [zN, zI (a : Int), zN, zI ((a % W : Nat) : Int)]) rfl rfl, b66_24, zw_nat (by omega)]
    unfold bs
    by_cases q : ((a % W : Nat) : Int) ≤ 0
    · rw [if_pos q, b66_31, if_neg (by decide), if_pos rfl, if_neg (by omega)]
    · rw [if_neg q, b66_31, if_neg (by decide), if_pos rfl, if_pos (by omega)]
  · rw [show zfind (zw ((2 : Nat) : Int)) [(0, 13), (1, 24), (2, 32)] 44 = 32 from rfl, Zx_nm (L' := [zR o, zI (a : Int), zN, zI ((a % W : Nat) : Int)]) rfl rfl, b66_32 hL, s0, zw_nat (by omega), zw_id (by omega) (by omega)]
    unfold bs
    by_cases q : (W : Int) - 1 ≤ ((a % W : Nat) : Int)
    · rw [if_pos q, b66_43, if_neg (by decide), if_neg (by decide), if_pos rfl, if_neg (by omega)]
    · rw [if_neg q, b66_43, if_neg (by decide), if_neg (by decide), if_pos rfl, if_pos (by omega)]
  · rw [show zfind (zw ((3 : Nat) : Int)) [(0, 13), (1, 24), (2, 32)] 44 = 44 from rfl, Zx_nm (L' := [zR o, zI (a : Int), zN, zN]) rfl rfl, b66_44 hL, s0, s2, zw_nat (by omega), zw_id (by omega) (by omega)]
    unfold bs
    by_cases q : (N : Int) ≤ (a : Int) + W
    · rw [if_pos q, b66_57, if_neg (by decide), if_neg (by decide), if_neg (by decide), if_neg (by omega)]
    · rw [if_neg q, b66_57, if_neg (by decide), if_neg (by decide), if_neg (by decide), if_pos (by omega)]
/-- Scene.countThere -/
theorem s_cth (hL : LX5 S o) (hS : ScC h o W H N T F G) (hN : N ≤ 25) : Zx 69 0 [zR o, zN, zN] [] S h = some (some (zI (su (fun k => if T k = true then 1 else 0) N)), S, h) := by
  have s2 := hS.2.2.1
  rw [b69_0 hL]
  refine (z_chain (N := N) (X := fun i => Zx 69 4 [zR o, zI (su (fun k => if T k = true then 1 else 0) i), zI (i : Int)] [] S h) (fun i hi => ?_)).trans ?_
  · have ht := hS.th hi
    show Zx 69 4 _ _ _ _ = Zx 69 4 _ _ _ _
    rw [b69_4 hL (by intros; omega) (by intros; omega), s2, zw_nat (by omega), zw_nat (by omega), if_neg (by omega), Int.toNat_natCast, b69_14 hL, b69_14 hL, su]
    cases q : T i
    · rw [if_pos (ht.mpr q)]; simp
    · rw [if_neg (fun z => by rw [ht.mp z] at q; cases q)]; simp
  · show Zx 69 4 _ _ _ _ = _
    rw [b69_4 hL (by intros; omega) (by rw [s2]; intro q; exact absurd (Int.le_refl _) q), s2, if_pos (Int.le_refl _)]
end SCN
