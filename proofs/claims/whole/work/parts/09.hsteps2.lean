/-! THE SMALL MACHINE IS SOUND: elements written, things made, the script read, rows copied -/
section ZHS2
variable {p : Program} {l : Launch} {e : Env} {R : Room} {s : State} {m : MethodId} {args : Array Value} {below : List Frame} {meth : Method} {c : Code} {H : Heap} {locs : List Loc} {cells slots : Nat} {Q : State → Prop}
variable {cc : ByteArray} {pc : Nat} {ls : Array Slot} {ad : Nat → Nat} {rest : List Value} {D : va_G} {ca : Nat → ClassId} {A : Nat → Prop} {H0 : Heap} {S : zS} {h : zH}
theorem zu_upd {f : Int → Int32} {o j : Nat} {z : Int} : (fun i => f (zu h o j z o i)) = upd (fun i => f (h o i)) j (f z) := by
  funext i
  by_cases hi : i = j
  · subst hi; simp [zu, upd]
  · simp [zu, upd, hi]
theorem zu_updL {f : Int → Int64} {o j : Nat} {z : Int} : (fun i => f (zu h o j z o i)) = vp_updL (fun i => f (h o i)) j (f z) := by
  funext i
  by_cases hi : i = j
  · subst hi; simp [zu, vp_updL]
  · simp [zu, vp_updL, hi]
theorem zn_nar8 (z : Int) : vp_nar .byte (Int32.ofInt z) = Int32.ofInt (zb8 z) := by
  rw [vp_nar_byte, zn_i2b]
theorem zn_nar1 (z : Int) : vp_nar .boolean (Int32.ofInt z) = Int32.ofInt (zb1 z) := by
  show Int32.ofInt z &&& 1 = _
  apply zn_inj
  rw [pk_and (Int32.ofInt z) 1 (by decide), zn_nat, zn_nat]
  unfold zb1
  show (nI _).toBitVec.toNat = _
  rw [pk_tn (by omega)]
  omega
theorem zh_ast {o kd j : Nat} {x z : Int} {v : zV} (hx : p.tables.exec = Jvm.exec) (hb : c.code = cc) (I : zI_ D ca A H0 s ad S h H locs) (hc : (zC S o).1 = kd) (hj : zidx x (zC S o).2.1 = some j)
    (hv : (kd = 100 ∧ v = zI z ∧ decode cc pc = .ok (.iastore, 1)) ∨ (kd = 101 ∧ v = zI z ∧ decode cc pc = .ok (.bastore, 1)) ∨ (kd = 102 ∧ v = zI z ∧ decode cc pc = .ok (.bastore, 1)) ∨ (kd = 103 ∧ v = zL z ∧ decode cc pc = .ok (.lastore, 1)))
    (kk : ∀ (H1 : Heap) (locs1 : List Loc), zI_ D ca A H0 s ad S (zu h o j z) H1 locs1 → W p l e R s m args below meth c H1 locs1 cells slots Q (F0 m (pc + 1) ls rest)) : W p l e R s m args below meth c H locs cells slots Q (F0 m pc ls (zt ad v :: .int (Int32.ofInt x) :: .ref (ad o) :: rest)) := by
  have I0 := I
  obtain ⟨iP, iD, iK, iS, iA, iO, iX⟩ := I
  obtain ⟨g1, g2, g3⟩ := zidx_in hj
  have hkd : 100 ≤ kd ∧ kd < 104 := by rcases hv with q | q | q | q <;> omega
  obtain ⟨h1, h2⟩ := iO.at (o := o) (by omega) (by omega)
  have he := zWl_get (ad := ad) (ca := ca) (h := h) h1 h2
  rw [zEc_arr (by omega) hc] at he
  have h0 : zu h o j z 0 = h 0 := zu_ne (by omega)
  have hz : zEc ad ca S (zu h o j z) o = .inl (ca (kd - 100), (zC S o).2.1, zAc ad kd (zu h o j z o) (zC S o).2.2) := zEc_arr (by omega) hc
  rcases hv with ⟨rfl, rfl, hdg⟩ | ⟨rfl, rfl, hdg⟩ | ⟨rfl, rfl, hdg⟩ | ⟨rfl, rfl, hdg⟩
  · refine va_iast hx hb iK iP iD iS (o - 1) 0 he (zTl_get ca (t := 0) (by decide)) g1 hdg fun H1 locs1 hP hD hS => kk H1 locs1 (I0.write h1 rfl iO ?_ (fun o' hn => zEc_ne hn) rfl h0 hP hD hS)
    rw [hz, g2]
    show _ = (Sum.inl (_, _, Sum.inl (fun i => Int32.ofInt (zu h o j z o i))) : va_E)
    rw [zu_upd]
  · refine va_bast hx hb iK iP iD iS (o - 1) 1 he (zTl_get ca (t := 1) (by decide)) g1 hdg fun H1 locs1 hP hD hS => kk H1 locs1 (I0.write h1 rfl iO ?_ (fun o' hn => zEc_ne hn) rfl h0 hP hD hS)
    rw [hz, g2, zn_nar8]
    show _ = (Sum.inl (_, _, Sum.inl (fun i => Int32.ofInt (zb8 (zu h o j z o i)))) : va_E)
    rw [zu_upd (f := fun z => Int32.ofInt (zb8 z))]
  · refine va_zast hx hb iK iP iD iS (o - 1) 2 he (zTl_get ca (t := 2) (by decide)) g1 hdg fun H1 locs1 hP hD hS => kk H1 locs1 (I0.write h1 rfl iO ?_ (fun o' hn => zEc_ne hn) rfl h0 hP hD hS)
    rw [hz, g2, zn_nar1]
    show _ = (Sum.inl (_, _, Sum.inl (fun i => Int32.ofInt (zb1 (zu h o j z o i)))) : va_E)
    rw [zu_upd (f := fun z => Int32.ofInt (zb1 z))]
  · refine va_last hx hb iK iP iD iS (o - 1) 3 he (zTl_get ca (t := 3) (by decide)) g1 hdg fun H1 locs1 hP hD hS => kk H1 locs1 (I0.write h1 rfl iO ?_ (fun o' hn => zEc_ne hn) rfl h0 hP hD hS)
    rw [hz, g2]
    show _ = (Sum.inl (_, _, Sum.inr (Sum.inl (fun i => Int64.ofInt (zu h o j z o i)))) : va_E)
    rw [zu_updL]
theorem zEc_rset_ne {o j : Nat} {v : Option Nat} {o' : Nat} (hn : o' ≠ o) : zEc ad ca (zrset S o j v) h o' = zEc ad ca S h o' := by
  unfold zEc; rw [zrset_ne hn]
theorem zh_aast {o kd j q ci : Nat} {x : Int} (hx : p.tables.exec = Jvm.exec) (hb : c.code = cc) (I : zI_ D ca A H0 s ad S h H locs) (hc : (zC S o).1 = kd) (hj : zidx x (zC S o).2.1 = some j)
    (hv : (kd = 104 ∧ ci = 7) ∨ (kd = 105 ∧ ci = 2) ∨ (kd = 106 ∧ ci = 8) ∨ (kd = 107 ∧ ci = 0)) (hq : (zC S q).1 = ci) (hdg : decode cc pc = .ok (.aastore, 1))
    (kk : ∀ (H1 : Heap) (locs1 : List Loc), zI_ D ca A H0 s ad (zrset S o j (some q)) h H1 locs1 → W p l e R s m args below meth c H1 locs1 cells slots Q (F0 m (pc + 1) ls rest)) : W p l e R s m args below meth c H locs cells slots Q (F0 m pc ls (.ref (ad q) :: .int (Int32.ofInt x) :: .ref (ad o) :: rest)) := by
  have I0 := I
  obtain ⟨iP, iD, iK, iS, iA, iO, iX⟩ := I
  obtain ⟨g1, g2, g3⟩ := zidx_in hj
  have hkd : 104 ≤ kd ∧ kd < 108 := by rcases hv with q | q | q | q <;> omega
  have hci : ci < 11 := by rcases hv with q | q | q | q <;> omega
  obtain ⟨h1, h2⟩ := iO.at (o := o) (by omega) (by omega)
  have hlen : (zC S o).2.2.length = (zC S o).2.1 := by
    rcases iO.2.2.2 o h1 h2 with w | w | w
    · omega
    · omega
    · exact w.2.2.2
  obtain ⟨q1, q2, q3, q4⟩ := iO.obj hci hq
  have he := zWl_get (ad := ad) (ca := ca) (h := h) h1 h2
  rw [zEc_arr (by omega) hc] at he
  have heq := zWl_get (ad := ad) (ca := ca) (h := h) q1 q2
  rw [zEc_obj hci hq q3] at heq
  have hzz : ∀ (f : Nat → Int) (rs : List (Option Nat)), zAc ad kd f rs = .inr (.inr (.inr (.inr fun i => (rs.getD i none).map ad))) := by
    intro f rs
    rcases hv with w | w | w | w <;> (obtain ⟨rfl, -⟩ := w; rfl)
  rw [hzz] at he
  have ht : zTt (kd - 100) = .object (zRn ci) := by
    rcases hv with w | w | w | w <;> (obtain ⟨rfl, rfl⟩ := w; rfl)
  have ht2 := zTl_get ca (t := kd - 100) (by omega)
  rw [ht] at ht2
  refine va_astq (r := (zRn ci, zTn ci, zNf ci)) hx hb iK iP iD iS (o - 1) (kd - 100) (q - 1) ci he ht2 heq (zCl_get hci) g1 hdg fun H1 locs1 hP hD hS => kk H1 locs1 (I0.write h1 zrset_len (iO.rset h1 h2) ?_ (fun o' hn => zEc_rset_ne hn) (zrset_ne (by omega)) rfl hP hD hS)
  have hz : zEc ad ca (zrset S o j (some q)) h o = .inl (ca (kd - 100), (zC (zrset S o j (some q)) o).2.1, zAc ad kd (h o) (zC (zrset S o j (some q)) o).2.2) := zEc_arr (by omega) (by rw [zrset_same h2]; exact hc)
  rw [hz, hzz, zrset_same h2, g2]
  show (Sum.inl (_, _, Sum.inr (Sum.inr (Sum.inr (Sum.inr _)))) : va_E) = Sum.inl (_, _, Sum.inr (Sum.inr (Sum.inr (Sum.inr _))))
  congr 7
  funext i
  by_cases hi : i = j
  · subst hi
    simp only [va_up, if_true]
    show _ = Option.map ad (((zC S o).2.2.set i (some q)).getD i none)
    rw [List.getD_eq_getElem?_getD, List.getElem?_set_self (by omega)]; rfl
  · simp only [va_up, if_neg hi]
    show _ = Option.map ad (((zC S o).2.2.set j (some q)).getD i none)
    rw [List.getD_eq_getElem?_getD, List.getD_eq_getElem?_getD, List.getElem?_set_ne (Ne.symm hi)]
theorem zh_sld {j : Nat} {x : Int} (hx : p.tables.exec = Jvm.exec) (hb : c.code = cc) (I : zI_ D ca A H0 s ad S h H locs) (hj : zidx x (zC S 0).2.1 = some j) (hdg : decode cc pc = .ok (.iaload, 1))
    (kk : W p l e R s m args below meth c H locs cells slots Q (F0 m (pc + 1) ls (.int (Int32.ofInt (h 0 j)) :: rest))) : W p l e R s m args below meth c H locs cells slots Q (F0 m pc ls (.int (Int32.ofInt x) :: .ref (ad 0) :: rest)) := by
  obtain ⟨iP, iD, iK, iS, iA, iO, ⟨xs, X1, X2, X3, X4⟩, ao⟩ := I
  obtain ⟨g1, g2, g3⟩ := zidx_in hj
  refine va_sld hx hb X1 X2 X3 iS g1 hdg ?_
  rw [g2, X4]; exact kk
theorem zh_slen (hx : p.tables.exec = Jvm.exec) (hb : c.code = cc) (I : zI_ D ca A H0 s ad S h H locs) (hdg : decode cc pc = .ok (.arraylength, 1))
    (kk : W p l e R s m args below meth c H locs cells slots Q (F0 m (pc + 1) ls (.int (Int32.ofInt (zC S 0).2.1) :: rest))) : W p l e R s m args below meth c H locs cells slots Q (F0 m pc ls (.ref (ad 0) :: rest)) := by
  obtain ⟨iP, iD, iK, iS, iA, iO, ⟨xs, X1, X2, X3, X4⟩, ao⟩ := I
  exact va_slen hx hb X1 X2 X3 iS hdg kk
theorem zh_len {o kd : Nat} (hx : p.tables.exec = Jvm.exec) (hb : c.code = cc) (I : zI_ D ca A H0 s ad S h H locs) (hc : (zC S o).1 = kd) (hk : 100 ≤ kd ∧ kd < 108) (hdg : decode cc pc = .ok (.arraylength, 1))
    (kk : W p l e R s m args below meth c H locs cells slots Q (F0 m (pc + 1) ls (.int (Int32.ofInt (zC S o).2.1) :: rest))) : W p l e R s m args below meth c H locs cells slots Q (F0 m pc ls (.ref (ad o) :: rest)) := by
  obtain ⟨iP, iD, iK, iS, iA, iO, iX⟩ := I
  obtain ⟨h1, h2⟩ := iO.at (o := o) (by omega) (by omega)
  have he := zWl_get (ad := ad) (ca := ca) (h := h) h1 h2
  rw [zEc_arr (by omega) hc] at he
  exact va_alen hx hb iK iP (o - 1) (kd - 100) he (zTl_get ca (t := kd - 100) (by omega)) rfl hdg kk
end ZHS2
