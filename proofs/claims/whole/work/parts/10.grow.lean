/-! THE SMALL MACHINE IS SOUND: things made -/
section ZHG
variable {p : Program} {l : Launch} {e : Env} {R : Room} {s : State} {m : MethodId} {args : Array Value} {below : List Frame} {meth : Method} {c : Code} {H : Heap} {locs : List Loc} {cells slots : Nat} {Q : State → Prop}
variable {cc : ByteArray} {pc : Nat} {ls : Array Slot} {ad : Nat → Nat} {rest : List Value} {D : va_G} {ca : Nat → ClassId} {A : Nat → Prop} {H0 : Heap} {S : zS} {h : zH}
def zad (ad : Nat → Nat) (n q : Nat) : Nat → Nat := fun k => if k = n then q else ad k
def zhn (h : zH) (n : Nat) : zH := fun o k => if o = n then 0 else h o k
theorem zvalid_eq {n q : Nat} {v : zV} (h : zvalid n v = true) : zt (zad ad n q) v = zt ad v := by
  rcases v with z | z | _ | o
  · rfl
  · rfl
  · rfl
  · have ho : o < n := by simpa [zvalid] using h
    show Value.ref (zad ad n q o) = Value.ref (ad o)
    rw [zad, if_neg (by omega)]
theorem zvalid_map {n q : Nat} {st : List zV} (h : st.all (zvalid n) = true) : st.map (zt (zad ad n q)) = st.map (zt ad) := by
  apply List.map_congr_left
  intro v hv
  exact zvalid_eq (List.all_eq_true.mp h v hv)
theorem zLs.grow {n q : Nat} {L : List zV} {ls : Array Slot} (hl : zLs ad L ls) (h : L.all (zvalid n) = true) : zLs (zad ad n q) L ls := by
  refine ⟨hl.1, hl.2.1, fun k v hk hn => ?_⟩
  rw [zvalid_eq (List.all_eq_true.mp h v (List.mem_of_getElem? hk))]
  exact hl.2.2 k v hk hn
theorem zvalidS_at {o j q : Nat} (hv : zvalidS S = true) (hq : (zC S o).2.2.getD j none = some q) : q < S.length := by
  by_cases ho : o < S.length
  · have hm : zC S o ∈ S := by
      unfold zC
      rw [List.getD_eq_getElem?_getD, List.getElem?_eq_getElem ho]
      exact List.getElem_mem ho
    have h1 := List.all_eq_true.mp hv _ hm
    have h2 : (some q : Option Nat) ∈ (zC S o).2.2 := by
      rw [List.getD_eq_getElem?_getD] at hq
      cases hg : (zC S o).2.2[j]? with
      | none => rw [hg] at hq; cases hq
      | some r =>
        rw [hg] at hq
        have : r = some q := hq
        subst this
        exact List.mem_of_getElem? hg
    have h3 := List.all_eq_true.mp h1 _ h2
    simpa using h3
  · unfold zC at hq
    rw [List.getD_eq_getElem?_getD (l := S), List.getElem?_eq_none (by omega)] at hq
    simp at hq
theorem zEc0_congr {ad ad' : Nat → Nat} {c : Nat × Nat × List (Option Nat)} {f : Nat → Int} (hr : ∀ j q, c.2.2.getD j none = some q → ad' q = ad q) : zEc0 ad' ca c f = zEc0 ad ca c f := by
  have hm : ∀ j, (c.2.2.getD j none).map ad' = (c.2.2.getD j none).map ad := by
    intro j
    cases hj : c.2.2.getD j none with
    | none => rfl
    | some q => simp [hr j q hj]
  have hf : ∀ t z j, zFv ad' t z (c.2.2.getD j none) = zFv ad t z (c.2.2.getD j none) := by
    intro t z j
    unfold zFv
    split
    · rfl
    · rfl
    · rfl
    · cases hj : c.2.2.getD j none with
      | none => rfl
      | some q => simp [hr j q hj]
  unfold zEc0
  simp only [hf]
  have hA : zAc ad' c.1 f c.2.2 = zAc ad c.1 f c.2.2 := by
    unfold zAc
    split
    · rfl
    · rfl
    · rfl
    · rfl
    · simp only [hm]
  rw [hA]
theorem zC_app {S : zS} {c : Nat × Nat × List (Option Nat)} {o : Nat} (ho : o < S.length) : zC (S ++ [c]) o = zC S o := by
  unfold zC
  rw [List.getD_eq_getElem?_getD, List.getD_eq_getElem?_getD, List.getElem?_append_left ho]
theorem zC_last {S : zS} {c : Nat × Nat × List (Option Nat)} : zC (S ++ [c]) S.length = c := by
  unfold zC
  rw [List.getD_eq_getElem?_getD, List.getElem?_append_right (Nat.le_refl _)]
  simp
theorem zWl_grow {q : Nat} {x : va_E} {c : Nat × Nat × List (Option Nat)} (h1 : 1 ≤ S.length) (hv : zvalidS S = true) (hx : x = zEc (zad ad S.length q) ca (S ++ [c]) (zhn h S.length) S.length) : zWl ad ca S h ++ [(q, x)] = zWl (zad ad S.length q) ca (S ++ [c]) (zhn h S.length) := by
  unfold zWl
  rw [show (S ++ [c]).length - 1 = (S.length - 1) + 1 by simp; omega, List.range_succ, List.map_append]
  congr 1
  · apply List.map_congr_left
    intro k hk
    have hk2 : k + 1 < S.length := by
      have := List.mem_range.mp hk
      omega
    have e1 : zad ad S.length q (k + 1) = ad (k + 1) := by rw [zad, if_neg (by omega)]
    have e2 : zhn h S.length (k + 1) = h (k + 1) := by
      funext j
      simp only [zhn]
      rw [if_neg (by omega)]
    rw [e1]
    congr 1
    unfold zEc
    rw [zC_app hk2, e2]
    exact (zEc0_congr fun j r hr => by rw [zad, if_neg (by have := zvalidS_at hv hr; omega)]).symm
  · simp only [List.map_cons, List.map_nil]
    rw [show S.length - 1 + 1 = S.length by omega, ← hx]
    congr 2
    rw [zad, if_pos rfl]
theorem zOk.grow {c : Nat × Nat × List (Option Nat)} (hO : zOk S) (hn : S.length < 1000000) (hc : (c.1 < 11 ∧ c.2.1 = zNf c.1 ∧ c.2.2.length = zNf c.1) ∨ (100 ≤ c.1 ∧ c.1 < 104 ∧ c.2.1 < 2147483648) ∨ (104 ≤ c.1 ∧ c.1 < 108 ∧ c.2.1 < 2147483648 ∧ c.2.2.length = c.2.1)) : zOk (S ++ [c]) := by
  obtain ⟨a, b, b2, d⟩ := hO
  refine ⟨⟨by simp, by simp; omega⟩, by rw [zC_app (by omega)]; exact b, by rw [zC_app (by omega)]; exact b2, fun o h1 h2 => ?_⟩
  by_cases ho : o < S.length
  · rw [zC_app ho]; exact d o h1 ho
  · have : o = S.length := by simp at h2; omega
    subst this
    rw [zC_last]; exact hc
theorem zI_.grow {q : Nat} {x : va_E} {c : Nat × Nat × List (Option Nat)} {H1 : Heap} (I : zI_ D ca A H0 s ad S h H locs) (hv : zvalidS S = true) (hx : x = zEc (zad ad S.length q) ca (S ++ [c]) (zhn h S.length) S.length) (hok : zOk (S ++ [c])) (hP : va_P D vwCl (zWl ad ca S h ++ [(q, x)]) H1) (hD : va_D A (zWl ad ca S h ++ [(q, x)])) (hS : va_S A H0 H1 locs) : zI_ D ca A H0 s (zad ad S.length q) (S ++ [c]) (zhn h S.length) H1 locs := by
  obtain ⟨iP, iD, iK, iS, iA, iO, ⟨xs, X1, X2, X3, X4⟩, ao, hstr⟩ := I
  have h1 := iO.1.1
  have h9 : S.length < 1000000 := by have := hok.1.2; simp at this; omega
  rw [zWl_grow h1 hv hx] at hP hD
  have e0 : zad ad S.length q 0 = ad 0 := by rw [zad, if_neg (by omega)]
  refine ⟨hP, hD, iK, hS, iA, hok, ⟨xs, by rw [e0, zC_app (by omega)]; exact X1, by rw [e0]; exact X2, by rw [e0]; exact X3, fun j => ?_⟩, ao, hstr.agree (fun o ho => by rw [zad, if_neg (by omega)])⟩
  rw [X4]
  simp only [zhn]
  rw [if_neg (by omega)]
theorem zty_9 {ci : Nat} (h : ci < 11) : ∀ k, k < zNf ci → zty (zTys ci k) ≠ 9 :=
  z_11 (P := fun ci => ∀ k, k < zNf ci → zty (zTys ci k) ≠ 9) (by decide +kernel) (by decide +kernel) (by decide +kernel) (by decide +kernel) (by decide +kernel) (by decide +kernel) (by decide +kernel) (by decide +kernel) (by decide +kernel) (by decide +kernel) (by decide +kernel) h
theorem zFv_def (ad : Nat → Nat) (t : FieldType) (h : zty t ≠ 9) : defaultValue t = zFv ad (zty t) 0 none := by
  cases t <;> first | rfl | exact absurd rfl h
theorem zh_new {own : String} {ci ix : Nat} (hx : p.tables.exec = Jvm.exec) (hb : c.code = cc) (hts : ∀ w ∈ zGw, w.before args s = true) (hown : s.vm.findClass own = some m.cls) (I : zI_ D ca A H0 s ad S h H locs) (hci : ci < 11) (hl : Cond.classLink own ix (zRn ci) ∈ zGw) (hi : Cond.instantiable (zRn ci) (zNf ci) ∈ zGw) (hn : Cond.initialized (zRn ci) ∈ zGw) (hv : zvalidS S = true) (hn9 : S.length < 1000000) (hcells : cells + 1 ≤ R.cells) (hslots : slots + zNf ci ≤ R.slots) (hdg : decode cc pc = .ok (.new ix, 3))
    (kk : ∀ (q : Nat) (H1 : Heap), zI_ D ca A H0 s (zad ad S.length q) (S ++ [(ci, zNf ci, List.replicate (zNf ci) none)]) (zhn h S.length) H1 locs → W p l e R s m args below meth c H1 locs (cells + 1) (slots + zNf ci) Q (F0 m (pc + 3) ls (.ref q :: rest))) : W p l e R s m args below meth c H locs cells slots Q (F0 m pc ls rest) := by
  have I0 := I
  obtain ⟨iP, iD, iK, iS, iA, iO, iX⟩ := I
  refine va_new (C := zRn ci) (T := zTn ci) (N := zNf ci) (ci := ci) (fs := (List.range (zNf ci)).map fun k => zFv ad (zty (zTys ci k)) 0 none) hx hb hts (zIn hci) (zTys ci) (zTy_ok hci) hown (hts _ hl) (hts _ hi) (hts _ hn) iK iP iD iS iA (zCl_get hci) (fun j hj => ?_) hcells hslots hdg (fun q H1 hP hD hS => kk q H1 (I0.grow hv ?_ (iO.grow hn9 (Or.inl ⟨hci, rfl, by simp⟩)) hP hD hS))
  · rw [zFv_def ad _ (zty_9 hci j hj)]
    simp [vp_V, hj]
  · rw [zEc_obj hci (by rw [zC_last]) (by rw [zC_last])]
    congr 2
    apply List.map_congr_left
    intro k hk
    rw [zC_last]
    have e1 : zhn h S.length S.length k = 0 := by simp [zhn]
    have e2 : (List.replicate (zNf ci) (none : Option Nat)).getD k none = none := by
      rw [List.getD_eq_getElem?_getD]
      cases hg : (List.replicate (zNf ci) (none : Option Nat))[k]? with
      | none => rfl
      | some r =>
        have := List.mem_of_getElem? hg
        rw [(List.mem_replicate.mp this).2]; rfl
    rw [e1, e2]
    unfold zFv
    split <;> rfl
theorem va_RA.one {U : State} {a b : ClassId} {ty : FieldType} (h1 : va_RA U a ty) (h2 : va_RA U b ty) : a = b := by
  cases ty with
  | object C =>
    obtain ⟨_, _, _, _, _, h1⟩ := h1
    obtain ⟨_, _, _, _, _, h2⟩ := h2
    exact Option.some.inj (h1.symm.trans h2)
  | _ => exact Option.some.inj (h1.symm.trans h2)
theorem zK_same {t : Nat} {cA : ClassId} {ty : FieldType} (h : va_K D vwCl (zTl ca ++ [(cA, ty)]) s) (ht : t < 8) (hty : zTt t = ty) : cA = ca t := by
  have h1 := (h.2 8 (cA, ty) (by rw [List.getElem?_append_right (by simp [zTl])]; simp [zTl])).2
  have h2 := (h.2 t (ca t, ty) (by rw [List.getElem?_append_left (by simp [zTl]; exact ht), zTl_get ca ht, hty])).2
  exact h1.one h2
theorem zb8_0 : zb8 0 = 0 := by decide
theorem zh_newa {kd n : Nat} {x : Int} {at_ : Jvm.ClassFile.ArrayType} (hx : p.tables.exec = Jvm.exec) (hb : c.code = cc) (hts : ∀ w ∈ zGw, w.before args s = true) (I : zI_ D ca A H0 s ad S h H locs) (hk : 100 ≤ kd ∧ kd < 104) (hty : newarray.typeOf at_ = zTt (kd - 100)) (hw : Cond.arrayClass (zTt (kd - 100)) ∈ zGw) (hv : zvalidS S = true) (hn9 : S.length < 1000000) (hj : zidx x 100000 = some n) (hcells : cells + 1 ≤ R.cells) (hslots : slots + n ≤ R.slots) (hdg : decode cc pc = .ok (.newarray at_, 2))
    (kk : ∀ (q : Nat) (H1 : Heap), zI_ D ca A H0 s (zad ad S.length q) (S ++ [(kd, n, List.replicate 0 none)]) (zhn h S.length) H1 locs → W p l e R s m args below meth c H1 locs (cells + 1) (slots + n) Q (F0 m (pc + 2) ls (.ref q :: rest))) : W p l e R s m args below meth c H locs cells slots Q (F0 m pc ls (.int (Int32.ofInt x) :: rest)) := by
  have I0 := I
  obtain ⟨iP, iD, iK, iS, iA, iO, iX⟩ := I
  obtain ⟨g1, g2, g3⟩ := zidx_in hj
  have hn : ¬ Int32.ofInt x < 0 := fun q => g1 (Or.inl q)
  have hsz : n * componentBytes (zTt (kd - 100)) ≤ 536870912 := by
    rcases (show kd = 100 ∨ kd = 101 ∨ kd = 102 ∨ kd = 103 by omega) with rfl | rfl | rfl | rfl <;> simp [zTt, componentBytes] <;> omega
  refine va_newa (a0 := (n, zAc (zad ad S.length 0) kd (fun _ => 0) [])) hx hb (by rw [hty]; exact hts _ hw) hty iK iP iD iS iA (fun cA => ?_) hn g2 hsz hcells hslots hdg (fun q cA H1 hK hP hD hS => ?_)
  · rcases (show kd = 100 ∨ kd = 101 ∨ kd = 102 ∨ kd = 103 by omega) with rfl | rfl | rfl | rfl <;> rfl
  · have hca := zK_same hK (t := kd - 100) (by omega) rfl
    subst hca
    refine kk q H1 (I0.grow hv ?_ (iO.grow hn9 (Or.inr (Or.inl ⟨hk.1, hk.2, by show n < _; omega⟩))) hP hD hS)
    rw [zEc_arr (kd := kd) (by omega) (by rw [zC_last]), zC_last]
    have e1 : zhn h S.length S.length = fun _ => 0 := by
      funext k; simp [zhn]
    rw [e1]
    rcases (show kd = 100 ∨ kd = 101 ∨ kd = 102 ∨ kd = 103 by omega) with rfl | rfl | rfl | rfl <;> rfl
theorem zAO.at {s : State} (h : zAO s) {kd : Nat} (hk : 104 ≤ kd ∧ kd < 108) {C : String} (hC : zTt (kd - 100) = .object C) : va_AO C s := by
  rcases (show kd = 104 ∨ kd = 105 ∨ kd = 106 ∨ kd = 107 by omega) with rfl | rfl | rfl | rfl <;> cases hC
  · exact h.1
  · exact h.2.1
  · exact h.2.2.1
  · exact h.2.2.2.1
theorem zh_newq {own C : String} {kd n ix : Nat} {x : Int} (hx : p.tables.exec = Jvm.exec) (hb : c.code = cc) (hts : ∀ w ∈ zGw, w.before args s = true) (hown : s.vm.findClass own = some m.cls) (I : zI_ D ca A H0 s ad S h H locs) (hk : 104 ≤ kd ∧ kd < 108) (hC : zTt (kd - 100) = .object C) (hl : Cond.classLink own ix C ∈ zGw) (hv : zvalidS S = true) (hn9 : S.length < 1000000) (hj : zidx x 100000 = some n) (hcells : cells + 1 ≤ R.cells) (hslots : slots + n ≤ R.slots) (hdg : decode cc pc = .ok (.anewarray ix, 3))
    (kk : ∀ (q : Nat) (H1 : Heap), zI_ D ca A H0 s (zad ad S.length q) (S ++ [(kd, n, List.replicate n none)]) (zhn h S.length) H1 locs → W p l e R s m args below meth c H1 locs (cells + 1) (slots + n) Q (F0 m (pc + 3) ls (.ref q :: rest))) : W p l e R s m args below meth c H locs cells slots Q (F0 m pc ls (.int (Int32.ofInt x) :: rest)) := by
  have I0 := I
  obtain ⟨iP, iD, iK, iS, iA, iO, iX⟩ := I
  obtain ⟨g1, g2, g3⟩ := zidx_in hj
  have hn : ¬ Int32.ofInt x < 0 := fun q => g1 (Or.inl q)
  refine va_newq hx hb hown (hts _ hl) (iX.2.1.at hk hC) iK iP iD iS iA hn g2 (by omega) hcells hslots hdg (fun q cA H1 hK hP hD hS => ?_)
  have hca := zK_same hK (t := kd - 100) (by omega) hC
  subst hca
  refine kk q H1 (I0.grow hv ?_ (iO.grow hn9 (Or.inr (Or.inr ⟨hk.1, hk.2, by show n < _; omega, by simp⟩))) hP hD hS)
  rw [zEc_arr (kd := kd) (by omega) (by rw [zC_last]), zC_last]
  have hz : zAc (zad ad S.length q) kd (zhn h S.length S.length) (List.replicate n none) = .inr (.inr (.inr (.inr fun i => ((List.replicate n (none : Option Nat)).getD i none).map (zad ad S.length q)))) := by
    rcases (show kd = 104 ∨ kd = 105 ∨ kd = 106 ∨ kd = 107 by omega) with rfl | rfl | rfl | rfl <;> rfl
  show _ = (Sum.inl (_, _, zAc (zad ad S.length q) kd (zhn h S.length S.length) (List.replicate n none)) : va_E)
  rw [hz]
  congr 7
  funext i
  have e2 : (List.replicate n (none : Option Nat)).getD i none = none := by
    rw [List.getD_eq_getElem?_getD]
    cases hg : (List.replicate n (none : Option Nat))[i]? with
    | none => rfl
    | some r =>
      have := List.mem_of_getElem? hg
      rw [(List.mem_replicate.mp this).2]; rfl
  rw [e2]; rfl
end ZHG
