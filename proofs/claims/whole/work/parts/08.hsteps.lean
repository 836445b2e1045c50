/-! THE SMALL MACHINE IS SOUND: steps that read and write the heap -/
section ZHS
variable {p : Program} {l : Launch} {e : Env} {R : Room} {s : State} {m : MethodId} {args : Array Value} {below : List Frame} {meth : Method} {c : Code} {H : Heap} {locs : List Loc} {cells slots : Nat} {Q : State → Prop}
variable {cc : ByteArray} {pc : Nat} {ls : Array Slot} {ad : Nat → Nat} {rest : List Value} {D : va_G} {ca : Nat → ClassId} {A : Nat → Prop} {H0 : Heap} {S : zS} {h : zH}
theorem zEc_obj {ad : Nat → Nat} {ca : Nat → ClassId} {S : zS} {h : zH} {o ci : Nat} (hci : ci < 11) (hk : (zC S o).1 = ci) (hn : (zC S o).2.1 = zNf ci) : zEc ad ca S h o = .inr (ci, (List.range (zNf ci)).map fun k => zFv ad (zty (zTys ci k)) (h o k) ((zC S o).2.2.getD k none)) := by
  unfold zEc zEc0
  rw [hk, hn, if_pos hci]
theorem zOk.obj {S : zS} {o ci : Nat} (hO : zOk S) (hci : ci < 11) (hk : (zC S o).1 = ci) : 1 ≤ o ∧ o < S.length ∧ (zC S o).2.1 = zNf ci ∧ (zC S o).2.2.length = zNf ci := by
  obtain ⟨h1, h2⟩ := hO.at (o := o) (by omega) (by omega)
  refine ⟨h1, h2, ?_⟩
  rcases hO.2.2.2 o h1 h2 with q | q | q
  · rw [hk] at q; exact q.2
  · omega
  · omega
theorem zh_get {own : String} {ci k ix o : Nat} (hx : p.tables.exec = Jvm.exec) (hb : c.code = cc) (hts : ∀ w ∈ zGw, w.before args s = true) (hown : s.vm.findClass own = some m.cls) (I : zI_ D ca A H0 s ad S h H locs) (hci : ci < 11) (hk : k < zNf ci) (hl : Cond.fieldLink own ix (zTn ci k).1 (zTn ci k).2.1 (zTn ci k).2.2.1 ∈ zGw) (hc : (zC S o).1 = ci) (hdg : decode cc pc = .ok (.getfield ix, 3))
    (kk : W p l e R s m args below meth c H locs cells slots Q (F0 m (pc + 3) ls (zFv ad (zty (zTys ci k)) (h o k) ((zC S o).2.2.getD k none) :: rest))) : W p l e R s m args below meth c H locs cells slots Q (F0 m pc ls (.ref (ad o) :: rest)) := by
  obtain ⟨iP, iD, iK, iS, iA, iO, iX⟩ := I
  obtain ⟨h1, h2, h3, h4⟩ := iO.obj hci hc
  refine va_get (C := zRn ci) (T := zTn ci) (N := zNf ci) (ci := ci) hx hb hts (zIn hci) hown iK iP (o - 1) (by rw [zWl_get h1 h2, zEc_obj hci hc h3]) (zCl_get hci) k hk (hts _ hl) (fun _ q => q) (by simp [hk]) hdg kk
theorem zI_.write {o : Nat} {x : va_E} {S' : zS} {h' : zH} {H1 : Heap} {locs1 : List Loc} (I : zI_ D ca A H0 s ad S h H locs) (h1 : 1 ≤ o) (hlen : S'.length = S.length) (hok : zOk S') (hx : x = zEc ad ca S' h' o) (hne : ∀ o', o' ≠ o → zEc ad ca S' h' o' = zEc ad ca S h o') (e1 : zC S' 0 = zC S 0) (e2 : h' 0 = h 0)
    (hP : va_P D vwCl ((zWl ad ca S h).set (o - 1) (ad o, x)) H1) (hD : va_D A ((zWl ad ca S h).set (o - 1) (ad o, x))) (hS : va_S A H0 H1 locs1) : zI_ D ca A H0 s ad S' h' H1 locs1 := by
  obtain ⟨iP, iD, iK, iS, iA, iO, iX⟩ := I
  rw [zWl_set h1 hlen hx hne] at hP hD
  exact ⟨hP, hD, iK, hS, iA, hok, iX.keep e1 e2⟩
theorem zh_put0 {own : String} {ci k ix o : Nat} {v : Value} {S' : zS} {h' : zH} (hx : p.tables.exec = Jvm.exec) (hb : c.code = cc) (hts : ∀ w ∈ zGw, w.before args s = true) (hown : s.vm.findClass own = some m.cls) (I : zI_ D ca A H0 s ad S h H locs) (hci : ci < 11) (hk : k < zNf ci) (hl : Cond.fieldLink own ix (zTn ci k).1 (zTn ci k).2.1 (zTn ci k).2.2.1 ∈ zGw) (hfin : (zTn ci k).2.2.2 = true → meth.name = "<init>" ∧ (zTn ci k).1 = own) (hc : (zC S o).1 = ci) (hdg : decode cc pc = .ok (.putfield ix, 3))
    (hn : narrow (zTys ci k) v = v) (hfit : fits (zTys ci k) v = true)
    (hlen : S'.length = S.length) (hok : zOk S') (hx2 : ((Sum.inr (ci, ((List.range (zNf ci)).map fun k => zFv ad (zty (zTys ci k)) (h o k) ((zC S o).2.2.getD k none)).set k v) : va_E)) = zEc ad ca S' h' o) (hne : ∀ o', o' ≠ o → zEc ad ca S' h' o' = zEc ad ca S h o') (e1 : zC S' 0 = zC S 0) (e2 : h' 0 = h 0)
    (kk : ∀ (H1 : Heap) (locs1 : List Loc), zI_ D ca A H0 s ad S' h' H1 locs1 → W p l e R s m args below meth c H1 locs1 cells slots Q (F0 m (pc + 3) ls rest)) : W p l e R s m args below meth c H locs cells slots Q (F0 m pc ls (v :: .ref (ad o) :: rest)) := by
  have I0 := I
  obtain ⟨iP, iD, iK, iS, iA, iO, iX⟩ := I
  obtain ⟨h1, h2, h3, h4⟩ := iO.obj hci hc
  have he : (zWl ad ca S h)[o - 1]? = some (ad o, .inr (ci, (List.range (zNf ci)).map fun k => zFv ad (zty (zTys ci k)) (h o k) ((zC S o).2.2.getD k none))) := by rw [zWl_get h1 h2, zEc_obj hci hc h3]
  by_cases hf : (zTn ci k).2.2.2 = true
  · exact va_putF (C := zRn ci) (T := zTn ci) (N := zNf ci) (ci := ci) hx hb hts (zIn hci) (zTys ci) (zTy_ok hci) (zNm_ok hci) hown iK iP iD iS (o - 1) he (zCl_get hci) k hk (hts _ hl) (fun _ q => q) hf (hfin hf).1 (hfin hf).2 (zTy_ok hci k hk) hn hfit (by simp [hk]) hdg fun H1 locs1 hP hD hS => kk H1 locs1 (I0.write h1 hlen hok hx2 hne e1 e2 hP hD hS)
  · exact va_put (C := zRn ci) (T := zTn ci) (N := zNf ci) (ci := ci) hx hb hts (zIn hci) (zTys ci) (zTy_ok hci) (zNm_ok hci) hown iK iP iD iS (o - 1) he (zCl_get hci) k hk (hts _ hl) (fun _ q => q) (by simpa using hf) (zTy_ok hci k hk) hn hfit (by simp [hk]) hdg fun H1 locs1 hP hD hS => kk H1 locs1 (I0.write h1 hlen hok hx2 hne e1 e2 hP hD hS)
/-- a field written: a number -/
theorem zE_putz {ci k o t : Nat} {z : Int} (hci : ci < 11) (hk : k < zNf ci) (hc : (zC S o).1 = ci) (hn : (zC S o).2.1 = zNf ci) (ht : zty (zTys ci k) = t) : (Sum.inr (ci, ((List.range (zNf ci)).map fun k => zFv ad (zty (zTys ci k)) (h o k) ((zC S o).2.2.getD k none)).set k (zFv ad t z ((zC S o).2.2.getD k none))) : va_E) = zEc ad ca S (zu h o k z) o := by
  rw [zEc_obj hci hc hn, z_rset]
  congr 2
  apply List.map_congr_left
  intro j _
  by_cases hj : j = k
  · subst hj; rw [if_pos rfl, zu_same, ht]
  · rw [if_neg hj, zu_other hj]
/-- a field written: a reference -/
theorem zE_putr {ci k o q : Nat} (hci : ci < 11) (hk : k < zNf ci) (hc : (zC S o).1 = ci) (hn : (zC S o).2.1 = zNf ci) (hl : (zC S o).2.2.length = zNf ci) (ho : o < S.length) (ht : zty (zTys ci k) = 3) : (Sum.inr (ci, ((List.range (zNf ci)).map fun k => zFv ad (zty (zTys ci k)) (h o k) ((zC S o).2.2.getD k none)).set k (.ref (ad q))) : va_E) = zEc ad ca (zrset S o k (some q)) h o := by
  have hc' : (zC (zrset S o k (some q)) o).1 = ci := by rw [zrset_same ho]; exact hc
  have hn' : (zC (zrset S o k (some q)) o).2.1 = zNf ci := by rw [zrset_same ho]; exact hn
  rw [zEc_obj hci hc' hn', z_rset, zrset_same ho]
  congr 2
  apply List.map_congr_left
  intro j _
  by_cases hj : j = k
  · subst hj
    rw [if_pos rfl, ht]
    have : ((zC S o).2.2.set j (some q)).getD j none = some q := by
      rw [List.getD_eq_getElem?_getD, List.getElem?_set_self (by omega)]; rfl
    show _ = zFv ad 3 _ (((zC S o).2.2.set j (some q)).getD j none)
    rw [this]; rfl
  · rw [if_neg hj]
    show _ = zFv ad _ _ (((zC S o).2.2.set k (some q)).getD j none)
    rw [List.getD_eq_getElem?_getD, List.getD_eq_getElem?_getD, List.getElem?_set_ne (Ne.symm hj)]
theorem zEc_arr {o kd : Nat} (h0 : 11 ≤ kd) (hk : (zC S o).1 = kd) : zEc ad ca S h o = .inl (ca (kd - 100), (zC S o).2.1, zAc ad kd (h o) (zC S o).2.2) := by
  unfold zEc zEc0
  rw [hk, if_neg (by omega)]
theorem zh_ald {o kd j : Nat} {x : Int} {v : zV} (hx : p.tables.exec = Jvm.exec) (hb : c.code = cc) (I : zI_ D ca A H0 s ad S h H locs) (hc : (zC S o).1 = kd) (hj : zidx x (zC S o).2.1 = some j)
    (hv : (kd = 100 ∧ v = zI (h o j) ∧ decode cc pc = .ok (.iaload, 1)) ∨ (kd = 101 ∧ v = zI (zb8 (h o j)) ∧ decode cc pc = .ok (.baload, 1)) ∨ (kd = 102 ∧ v = zI (zb1 (h o j)) ∧ decode cc pc = .ok (.baload, 1)) ∨ (kd = 103 ∧ v = zL (h o j) ∧ decode cc pc = .ok (.laload, 1)) ∨ (104 ≤ kd ∧ kd < 108 ∧ (∃ q, v = zR q ∧ (zC S o).2.2.getD j none = some q) ∧ decode cc pc = .ok (.aaload, 1)))
    (kk : W p l e R s m args below meth c H locs cells slots Q (F0 m (pc + 1) ls (zt ad v :: rest))) : W p l e R s m args below meth c H locs cells slots Q (F0 m pc ls (.int (Int32.ofInt x) :: .ref (ad o) :: rest)) := by
  obtain ⟨iP, iD, iK, iS, iA, iO, iX⟩ := I
  obtain ⟨g1, g2, g3⟩ := zidx_in hj
  have hkd : 100 ≤ kd ∧ kd < 108 := by rcases hv with q | q | q | q | q <;> omega
  obtain ⟨h1, h2⟩ := iO.at (o := o) (by omega) (by omega)
  have he := zWl_get (ad := ad) (ca := ca) (h := h) h1 h2
  rw [zEc_arr (by omega) hc] at he
  rcases hv with ⟨rfl, rfl, hdg⟩ | ⟨rfl, rfl, hdg⟩ | ⟨rfl, rfl, hdg⟩ | ⟨rfl, rfl, hdg⟩ | ⟨hk1, hk2, ⟨q, rfl, hq⟩, hdg⟩
  · refine va_iald hx hb iK iP (o - 1) 0 he (zTl_get ca (t := 0) (by decide)) g1 hdg ?_
    rw [g2]; exact kk
  · refine va_bald hx hb iK iP (o - 1) 1 he (zTl_get ca (t := 1) (by decide)) g1 hdg ?_
    rw [g2]; exact kk
  · refine va_zald hx hb iK iP (o - 1) 2 he (zTl_get ca (t := 2) (by decide)) g1 hdg ?_
    rw [g2]; exact kk
  · refine va_lald hx hb iK iP (o - 1) 3 he (zTl_get ca (t := 3) (by decide)) g1 hdg ?_
    rw [g2]; exact kk
  · have hz : zAc ad kd (h o) (zC S o).2.2 = .inr (.inr (.inr (.inr fun j => ((zC S o).2.2.getD j none).map ad))) := by
      rcases (show kd = 104 ∨ kd = 105 ∨ kd = 106 ∨ kd = 107 by omega) with rfl | rfl | rfl | rfl <;> rfl
    rw [hz] at he
    have hC : ∃ C, zTt (kd - 100) = .object C := by
      rcases (show kd = 104 ∨ kd = 105 ∨ kd = 106 ∨ kd = 107 by omega) with rfl | rfl | rfl | rfl <;> exact ⟨_, rfl⟩
    obtain ⟨C, hC⟩ := hC
    have ht := zTl_get ca (t := kd - 100) (by omega)
    rw [hC] at ht
    refine va_aldq hx hb iK iP (o - 1) (kd - 100) he ht g1 hdg ?_
    rw [g2, hq]; exact kk
end ZHS
