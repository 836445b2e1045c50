/-! THE SMALL MACHINE IS SOUND: its objects as cells of the heap -/
def zTt : Nat → FieldType := fun t => match t with
  | 0 => .int | 1 => .byte | 2 => .boolean | 3 => .long | 4 => .object RX7 | 5 => .object RX2 | 6 => .object RX8 | _ => .object RX0
def zTl (ca : Nat → ClassId) : List (ClassId × FieldType) := (List.range 8).map fun t => (ca t, zTt t)
theorem zTl_get (ca : Nat → ClassId) {t : Nat} (h : t < 8) : (zTl ca)[t]? = some (ca t, zTt t) := by
  simp [zTl, h]
def zRn : Nat → String := fun ci => match ci with
  | 0 => RX0 | 1 => RX1 | 2 => RX2 | 3 => RX3 | 4 => RX4 | 5 => RX5 | 6 => RX6 | 7 => RX7 | 8 => RX8 | 9 => RX9 | _ => RX10
def zTn : Nat → u_T := fun ci => match ci with
  | 0 => TX0 | 1 => TX1 | 2 => TX2 | 3 => TX3 | 4 => TX4 | 5 => TX5 | 6 => TX6 | 7 => TX7 | 8 => TX8 | 9 => TX9 | _ => TX10
theorem z_11 {P : Nat → Prop} (h0 : P 0) (h1 : P 1) (h2 : P 2) (h3 : P 3) (h4 : P 4) (h5 : P 5) (h6 : P 6) (h7 : P 7) (h8 : P 8) (h9 : P 9) (h10 : P 10) {ci : Nat} (h : ci < 11) : P ci := by
  rcases (show ci = 0 ∨ ci = 1 ∨ ci = 2 ∨ ci = 3 ∨ ci = 4 ∨ ci = 5 ∨ ci = 6 ∨ ci = 7 ∨ ci = 8 ∨ ci = 9 ∨ ci = 10 by omega) with rfl | rfl | rfl | rfl | rfl | rfl | rfl | rfl | rfl | rfl | rfl <;> assumption
theorem zCl_get {ci : Nat} (h : ci < 11) : vwCl[ci]? = some (zRn ci, zTn ci, zNf ci) :=
  z_11 (P := fun ci => vwCl[ci]? = some (zRn ci, zTn ci, zNf ci)) rfl rfl rfl rfl rfl rfl rfl rfl rfl rfl rfl h
theorem zIn {ci : Nat} (h : ci < 11) : ∀ w ∈ u_ws (zRn ci) (zTn ci) (zNf ci), w ∈ zGw :=
  z_11 (P := fun ci => ∀ w ∈ u_ws (zRn ci) (zTn ci) (zNf ci), w ∈ zGw) inX0 inX1 inX2 inX3 inX4 inX5 inX6 inX7 inX8 inX9 inX10 h
theorem zTy_ok {ci : Nat} (h : ci < 11) : ∀ k, k < zNf ci → parseFieldDescriptor (zTn ci k).2.2.1 = some (zTys ci k) :=
  z_11 (P := fun ci => ∀ k, k < zNf ci → parseFieldDescriptor (zTn ci k).2.2.1 = some (zTys ci k)) tyX0_ok tyX1_ok tyX2_ok tyX3_ok tyX4_ok tyX5_ok tyX6_ok tyX7_ok tyX8_ok tyX9_ok tyX10_ok h
theorem zNm_ok {ci : Nat} (h : ci < 11) : ∀ a, a < zNf ci → ∀ b, b < zNf ci → a ≠ b → (zTn ci a).2.1 ≠ (zTn ci b).2.1 :=
  z_11 (P := fun ci => ∀ a, a < zNf ci → ∀ b, b < zNf ci → a ≠ b → (zTn ci a).2.1 ≠ (zTn ci b).2.1) nmX0 nmX1 nmX2 nmX3 nmX4 nmX5 nmX6 nmX7 nmX8 nmX9 nmX10 h
def zFv (ad : Nat → Nat) (t : Nat) (z : Int) (r : Option Nat) : Value := match t with
  | 0 => .int (Int32.ofInt z)
  | 1 => .long (Int64.ofInt z)
  | 2 => .int (Int32.ofInt (zb1 z))
  | _ => match r with
    | some q => .ref (ad q)
    | none => .null
def zAc (ad : Nat → Nat) (kd : Nat) (f : Nat → Int) (rs : List (Option Nat)) : (Nat → Int32) ⊕ (Nat → Int64) ⊕ (Nat → UInt32) ⊕ (Nat → UInt64) ⊕ (Nat → Option Nat) := match kd with
  | 100 => .inl fun j => Int32.ofInt (f j)
  | 101 => .inl fun j => Int32.ofInt (zb8 (f j))
  | 102 => .inl fun j => Int32.ofInt (zb1 (f j))
  | 103 => .inr (.inl fun j => Int64.ofInt (f j))
  | _ => .inr (.inr (.inr (.inr fun j => (rs.getD j none).map ad)))
def zEc0 (ad : Nat → Nat) (ca : Nat → ClassId) (c : Nat × Nat × List (Option Nat)) (f : Nat → Int) : va_E :=
  if c.1 < 11 then .inr (c.1, (List.range c.2.1).map fun k => zFv ad (zty (zTys c.1 k)) (f k) (c.2.2.getD k none))
  else .inl (ca (c.1 - 100), c.2.1, zAc ad c.1 f c.2.2)
def zEc (ad : Nat → Nat) (ca : Nat → ClassId) (S : zS) (h : zH) (o : Nat) : va_E := zEc0 ad ca (zC S o) (h o)
def zWl (ad : Nat → Nat) (ca : Nat → ClassId) (S : zS) (h : zH) : va_W := (List.range (S.length - 1)).map fun k => (ad (k + 1), zEc ad ca S h (k + 1))
theorem zWl_len {ad : Nat → Nat} {ca : Nat → ClassId} {S : zS} {h : zH} : (zWl ad ca S h).length = S.length - 1 := by simp [zWl]
theorem zWl_get {ad : Nat → Nat} {ca : Nat → ClassId} {S : zS} {h : zH} {o : Nat} (h1 : 1 ≤ o) (h2 : o < S.length) : (zWl ad ca S h)[o - 1]? = some (ad o, zEc ad ca S h o) := by
  have h3 : o - 1 < S.length - 1 := by omega
  simp only [zWl, List.getElem?_map, List.getElem?_range h3, Option.map_some]
  rw [show o - 1 + 1 = o by omega]
/-- what the list is like -/
def zOk (S : zS) : Prop := (1 ≤ S.length ∧ S.length ≤ 1000000) ∧ (zC S 0).1 = 108 ∧ (zC S 0).2.1 < 2147483648 ∧ ∀ o, 1 ≤ o → o < S.length → ((zC S o).1 < 11 ∧ (zC S o).2.1 = zNf (zC S o).1 ∧ (zC S o).2.2.length = zNf (zC S o).1) ∨ (100 ≤ (zC S o).1 ∧ (zC S o).1 < 104 ∧ (zC S o).2.1 < 2147483648) ∨ (104 ≤ (zC S o).1 ∧ (zC S o).1 < 108 ∧ (zC S o).2.1 < 2147483648 ∧ (zC S o).2.2.length = (zC S o).2.1)
theorem zC_lt {S : zS} {o : Nat} (h : (zC S o).1 ≠ 999) : o < S.length := by
  apply Classical.byContradiction
  intro q
  apply h
  unfold zC
  rw [List.getD_eq_getElem?_getD, List.getElem?_eq_none (by omega)]; rfl
theorem zOk.at {S : zS} {o : Nat} (h : zOk S) (hk : (zC S o).1 ≠ 999) (h108 : (zC S o).1 ≠ 108) : 1 ≤ o ∧ o < S.length := by
  refine ⟨?_, zC_lt hk⟩
  rcases Nat.eq_zero_or_pos o with q | q
  · subst q; exact absurd h.2.1 h108
  · exact q
/-- the calls of private members of nest mates -/
def zNws : List Cond := [Cond.methodLinkNest RX0 11 yX5_init RX9, Cond.methodLinkNest RX2 44 yX9_wipe RX9, Cond.methodLinkNest RX4 24 yX8_init RX9, Cond.methodLinkNest RX4 58 yX9_wipe RX9, Cond.methodLinkNest RX5 70 yX9_wipe RX9, Cond.methodLinkNest RX7 24 yX8_init RX9, Cond.methodLinkNest RX9 9 yX7_init RX9, Cond.methodLinkNest RX9 39 yX0_init RX9, Cond.methodLinkNest RX9 53 yX1_init RX9, Cond.methodLinkNest RX9 60 yX3_init RX9, Cond.methodLinkNest RX9 67 yX6_init RX9]
theorem zNws_form : ∀ w ∈ zNws, ∃ a i x h, w = Cond.methodLinkNest a i x h := List.forall_mem_cons.mpr ⟨⟨_, _, _, _, rfl⟩, List.forall_mem_cons.mpr ⟨⟨_, _, _, _, rfl⟩, List.forall_mem_cons.mpr ⟨⟨_, _, _, _, rfl⟩, List.forall_mem_cons.mpr ⟨⟨_, _, _, _, rfl⟩, List.forall_mem_cons.mpr ⟨⟨_, _, _, _, rfl⟩, List.forall_mem_cons.mpr ⟨⟨_, _, _, _, rfl⟩, List.forall_mem_cons.mpr ⟨⟨_, _, _, _, rfl⟩, List.forall_mem_cons.mpr ⟨⟨_, _, _, _, rfl⟩, List.forall_mem_cons.mpr ⟨⟨_, _, _, _, rfl⟩, List.forall_mem_cons.mpr ⟨⟨_, _, _, _, rfl⟩, List.forall_mem_cons.mpr ⟨⟨_, _, _, _, rfl⟩, fun _ h => absurd h List.not_mem_nil⟩⟩⟩⟩⟩⟩⟩⟩⟩⟩⟩
theorem zNw_warm {s U : State} (hW : s.WarmedH U.vm) : ∀ w ∈ zNws, va_Nw w s → va_Nw w U := by
  intro w hw h
  obtain ⟨a, i, x, b, rfl⟩ := zNws_form w hw
  exact va_Nw.warmM hW h
theorem zNw_same {s U : State} (hv : s.vm = U.vm) : ∀ w ∈ zNws, va_Nw w s → va_Nw w U := by
  intro w hw h
  obtain ⟨a, i, x, b, rfl⟩ := zNws_form w hw
  exact va_Nw.same rfl hv h
def zAO (s : State) : Prop := va_AO RX7 s ∧ va_AO RX2 s ∧ va_AO RX8 s ∧ va_AO RX0 s ∧ ∀ w ∈ zNws, va_Nw w s
/-- the script, above the world; what is known of arrays of objects -/
def zX (s : State) (H0 : Heap) (A : Nat → Prop) (ad : Nat → Nat) (S : zS) (h : zH) : Prop := (∃ xs : Nat → Int32, va_X (ad 0) (zC S 0).2.1 xs s H0 ∧ ad 0 < H0.size ∧ ¬ A (ad 0) ∧ ∀ j, xs j = Int32.ofInt (h 0 j)) ∧ zAO s ∧ zStr s H0 A ad
/-- the heap is as the small machine's -/
def zI_ (D : va_G) (ca : Nat → ClassId) (A : Nat → Prop) (H0 : Heap) (s : State) (ad : Nat → Nat) (S : zS) (h : zH) (H : Heap) (locs : List Loc) : Prop :=
  va_P D vwCl (zWl ad ca S h) H ∧ va_D A (zWl ad ca S h) ∧ va_K D vwCl (zTl ca) s ∧ va_S A H0 H locs ∧ (∀ q, H0.size ≤ q → A q) ∧ zOk S ∧ zX s H0 A ad S h
theorem z_rset {α : Type} (F : Nat → α) (n k : Nat) (v : α) : ((List.range n).map F).set k v = (List.range n).map (fun j => if j = k then v else F j) := by
  apply List.ext_getElem?
  intro i
  rw [List.getElem?_set]
  simp only [List.length_map, List.length_range, List.getElem?_map]
  by_cases hi : k = i
  · subst hi
    by_cases hn : k < n
    · simp [hn]
    · simp [hn]
  · rw [if_neg hi]
    by_cases hn : i < n
    · simp [hn, Ne.symm hi]
    · simp [hn]
theorem zWl_set {ad : Nat → Nat} {ca : Nat → ClassId} {S S' : zS} {h h' : zH} {o : Nat} {x : va_E} (h1 : 1 ≤ o) (hl : S'.length = S.length) (hx : x = zEc ad ca S' h' o) (hne : ∀ o', o' ≠ o → zEc ad ca S' h' o' = zEc ad ca S h o') : (zWl ad ca S h).set (o - 1) (ad o, x) = zWl ad ca S' h' := by
  unfold zWl
  rw [z_rset, hl]
  apply List.map_congr_left
  intro k _
  by_cases hk : k = o - 1
  · rw [if_pos hk, hk, show o - 1 + 1 = o by omega, hx]
  · rw [if_neg hk, hne (k + 1) (by omega)]
theorem zu_ne {h : zH} {o k : Nat} {z : Int} {o' : Nat} (hn : o' ≠ o) : zu h o k z o' = h o' := by
  funext j
  simp [zu, hn]
theorem zu_same {h : zH} {o k : Nat} {z : Int} : zu h o k z o k = z := by simp [zu]
theorem zu_other {h : zH} {o k : Nat} {z : Int} {j : Nat} (hn : j ≠ k) : zu h o k z o j = h o j := by simp [zu, hn]
theorem zEc_ne {ad : Nat → Nat} {ca : Nat → ClassId} {S : zS} {h : zH} {o k : Nat} {z : Int} {o' : Nat} (hn : o' ≠ o) : zEc ad ca S (zu h o k z) o' = zEc ad ca S h o' := by
  unfold zEc; rw [zu_ne hn]
theorem zrset_len {S : zS} {o k : Nat} {v : Option Nat} : (zrset S o k v).length = S.length := by simp [zrset]
theorem zrset_ne {S : zS} {o k : Nat} {v : Option Nat} {o' : Nat} (hn : o' ≠ o) : zC (zrset S o k v) o' = zC S o' := by
  unfold zC zrset
  rw [List.getD_eq_getElem?_getD, List.getElem?_set_ne (Ne.symm hn), ← List.getD_eq_getElem?_getD]
theorem zrset_same {S : zS} {o k : Nat} {v : Option Nat} (ho : o < S.length) : zC (zrset S o k v) o = ((zC S o).1, (zC S o).2.1, (zC S o).2.2.set k v) := by
  conv => lhs; unfold zC zrset
  rw [List.getD_eq_getElem?_getD, List.getElem?_set_self ho]; rfl
theorem zOk.rset {S : zS} {o k : Nat} {v : Option Nat} (h : zOk S) (h1 : 1 ≤ o) (ho : o < S.length) : zOk (zrset S o k v) := by
  obtain ⟨a, b, b2, c⟩ := h
  refine ⟨by rw [zrset_len]; exact a, by rw [zrset_ne (by omega)]; exact b, by rw [zrset_ne (by omega)]; exact b2, fun o' h2 h3 => ?_⟩
  rw [zrset_len] at h3
  by_cases hn : o' = o
  · subst hn
    rw [zrset_same ho]
    have := c o' h2 h3
    simpa using this
  · rw [zrset_ne hn]
    exact c o' h2 h3
theorem zX.keep {s : State} {H0 : Heap} {A : Nat → Prop} {ad : Nat → Nat} {S S' : zS} {h h' : zH} (X : zX s H0 A ad S h) (e1 : zC S' 0 = zC S 0) (e2 : h' 0 = h 0) : zX s H0 A ad S' h' := by
  obtain ⟨⟨xs, a, b, c, d⟩, ao⟩ := X
  exact ⟨⟨xs, by rw [e1]; exact a, b, c, fun j => by rw [e2]; exact d j⟩, ao⟩
