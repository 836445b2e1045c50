/-! THE SMALL MACHINE IS SOUND: whole runs, by contracts -/
noncomputable def zws (k : Nat) : List Cond := Cond.code (zmi k).1 (zmi k).2.1 (zmi k).2.2.1 (zmi k).2.2.2.1 :: zGw
noncomputable def zrm (k mc ms : Nat) : Room := { frames := (zmi k).2.2.2.2.2.2.1, cells := mc, slots := ms, locals := (zmi k).2.2.2.2.2.2.2.1 }
theorem zGw_good : GoodIn zGw zGw := fun w hw => ⟨hw, good_of_word (List.mem_filter.mp hw).2⟩
theorem zws_good {k : Nat} (hc : Cond.code (zmi k).1 (zmi k).2.1 (zmi k).2.2.1 (zmi k).2.2.2.1 ∈ zGw) : GoodIn zGw (zws k) := fun w hw => (List.mem_cons.mp hw).elim (fun e => by rw [e]; exact zGw_good _ hc) (zGw_good w)
/-- what holds where a method begins -/
def zPre (D : va_G) (ca : Nat → ClassId) (ad : Nat → Nat) (sz : Nat) (S : zS) (h : zH) : State → Prop := fun U =>
  U.heap.size = sz ∧ va_P D vwCl (zWl ad ca S h) U.heap ∧ va_K D vwCl (zTl ca) U ∧ va_D (fun _ => True) (zWl ad ca S h) ∧ (∃ xs : Nat → Int32, va_X (ad 0) (zC S 0).2.1 xs U U.heap ∧ ad 0 < sz ∧ ∀ j, xs j = Int32.ofInt (h 0 j)) ∧ (∀ o, 1 ≤ o → o < S.length → ad o ≠ ad 0) ∧ zAO U ∧ zStr U U.heap (va_A (zWl ad ca S h) sz) ad
/-- .. and where it ends -/
def zPost (D : va_G) (ca : Nat → ClassId) (ad : Nat → Nat) (sz : Nat) (S : zS) (h : zH) (v : Option zV) (S' : zS) (h' : zH) : Array Value → State → Outcome → State → Prop := fun _ st oc t =>
  (∃ ad' : Nat → Nat, (∀ o, o < S.length ∨ S'.length ≤ o → ad' o = ad o) ∧ oc = .returned (v.map (zt ad')) ∧ va_P D vwCl (zWl ad' ca S' h') t.heap ∧ va_D (va_A (zWl ad ca S h) sz) (zWl ad' ca S' h')) ∧ va_F (va_A (zWl ad ca S h) sz) st t
def zContract (k : Nat) (as : List zV) (S : zS) (h : zH) (v : Option zV) (S' : zS) (h' : zH) : Prop := ∀ (l : Launch) (D : va_G) (ca : Nat → ClassId) (ad : Nat → Nat) (sz : Nat),
  Met l (zmi k).1 (zws k) (zrm k (S'.length - S.length) (zcs S' - zcs S)) (va_Pc (as.map (zt ad)) (zPre D ca ad sz S h)) (zPost D ca ad sz S h v S' h') (S'.length - S.length) (zcs S' - zcs S) (va_A (zWl ad ca S h) sz)
/-- a body from an index on: the machine comes to the return -/
def zBody (k i : Nat) (L st : List zV) (S : zS) (h : zH) (v : Option zV) (S' : zS) (h' : zH) : Prop :=
  ∀ {p : Program} {l : Launch} {e : Env} {R : Room} {s : State} {m : MethodId} {args : Array Value} {below : List Frame} {meth : Method} {c : Code} {H : Heap} {locs : List Loc} {cells slots : Nat} {Q : State → Prop} {ls : Array Slot} {ad : Nat → Nat} {D : va_G} {ca : Nat → ClassId} {A : Nat → Prop} {H0 : Heap},
    p.tables.exec = Jvm.exec → c.code = (zmi k).2.1 → s.vm.findClass (zmi k).2.2.2.2.1 = some m.cls → (∀ w ∈ zGw, w.before args s = true) → c.maxLocals = znl k → ((zmi k).2.2.2.2.2.1 = 2 → meth.name = "<init>") →
    zI_ D ca A H0 s ad S h H locs → zLs ad L ls → cells + (S'.length - S.length) ≤ R.cells → slots + (zcs S' - zcs S) ≤ R.slots → (zmi k).2.2.2.2.2.2.1 ≤ R.frames → (zmi k).2.2.2.2.2.2.2.1 ≤ R.locals →
    (∀ (j : Nat) (en : zE) (ad' : Nat → Nat) (H' : Heap) (locs' : List Loc) (ls' : Array Slot), ztb k j = some en → zRet en v → (∀ o, o < S.length ∨ S'.length ≤ o → ad' o = ad o) → zI_ D ca A H0 s ad' S' h' H' locs' → W p l e R s m args below meth c H' locs' (cells + (S'.length - S.length)) (slots + (zcs S' - zcs S)) Q (F0 m (zpc k j) ls' (v.toList.map (zt ad')))) →
    W p l e R s m args below meth c H locs cells slots Q (F0 m (zpc k i) ls (st.map (zt ad)))
theorem zwds_sl {ad : Nat → Nat} : ∀ as : List zV, (lg_sl (as.map (zt ad))).length = zwds as
  | [] => rfl
  | v :: vs => by
    have ih := zwds_sl (ad := ad) vs
    unfold lg_sl zwds at ih ⊢
    rw [List.map_cons, List.flatMap_cons, List.length_append, ih, List.map_cons, List.sum_cons]
    congr 1
    rw [zt_cat]
    by_cases hv : zwide v = true
    · simp [hv]
    · simp [hv]
theorem zwds_map {ad : Nat → Nat} : ∀ as : List zV, ((as.map (zt ad)).map fun v => v.category).sum = zwds as
  | [] => rfl
  | v :: vs => by
    have ih := zwds_map (ad := ad) vs
    unfold zwds at ih ⊢
    simp only [List.map_cons, List.sum_cons, ih, zt_cat]
theorem zwds_cons {v : zV} {vs : List zV} : zwds (v :: vs) = (if zwide v = true then 2 else 1) + zwds vs := by simp [zwds]
theorem zent_len : ∀ (n : Nat) (as : List zV), zwds as ≤ n → (zent n as).length = n
  | 0, [], _ => rfl
  | 1, [], _ => rfl
  | n + 2, [], _ => by simp [zent]
  | 0, v :: vs, h => by
    rw [zwds_cons] at h
    split at h <;> omega
  | 1, v :: vs, h => rfl
  | n + 2, v :: vs, h => by
    rw [zwds_cons] at h
    by_cases hv : zwide v = true
    · rw [if_pos hv] at h
      simp [zent, hv, zent_len n vs (by omega)]
    · rw [if_neg hv] at h
      simp [zent, hv, zent_len (n + 1) vs (by omega)]
theorem zent_args {ad : Nat → Nat} : ∀ (n : Nat) (as : List zV) (base k : Nat) (v : zV), zwds as ≤ n → (zent n as)[k]? = some v → v ≠ zN → (base + k, zt ad v) ∈ lv_args base (as.map (zt ad))
  | n, [], base, k, v, _, h, hn => by
    have h2 : (List.replicate n zN)[k]? = some v := by
      cases n with
      | zero => simpa [zent] using h
      | succ n => cases n with
        | zero => simpa [zent] using h
        | succ n => simpa [zent] using h
    exact absurd (List.mem_replicate.mp (List.mem_of_getElem? h2)).2 hn
  | 0, w :: ws, base, k, v, hz, _, _ => by
    rw [zwds_cons] at hz
    split at hz <;> omega
  | 1, w :: ws, base, k, v, hz, h, hn => by
    have h2 : ([w] : List zV)[k]? = some v := h
    cases k with
    | zero =>
      simp at h2
      subst h2
      rw [List.map_cons, lv_args]
      exact List.mem_cons_self
    | succ k => simp at h2
  | n + 2, w :: ws, base, k, v, hz, h, hn => by
    rw [zwds_cons] at hz
    rw [List.map_cons, lv_args, zt_cat]
    by_cases hv : zwide w = true
    · rw [if_pos hv] at hz
      simp only [zent, hv, if_true] at h ⊢
      cases k with
      | zero =>
        simp at h
        subst h
        exact List.mem_cons_self
      | succ k => cases k with
        | zero =>
          simp at h
          exact absurd h.symm hn
        | succ k =>
          have h2 : (zent n ws)[k]? = some v := by simpa using h
          have := zent_args (ad := ad) n ws (base + 2) k v (by omega) h2 hn
          rw [show base + (k + 1 + 1) = base + 2 + k by omega]
          exact List.mem_cons_of_mem _ this
    · rw [if_neg hv] at hz
      have hv2 : zwide w = false := by simpa using hv
      simp only [zent, hv2] at h ⊢
      cases k with
      | zero =>
        simp at h
        subst h
        exact List.mem_cons_self
      | succ k =>
        have h2 : (zent (n + 1) ws)[k]? = some v := by simpa using h
        have := zent_args (ad := ad) (n + 1) ws (base + 1) k v (by omega) h2 hn
        rw [show base + (k + 1) = base + 1 + k by omega]
        exact List.mem_cons_of_mem _ this
theorem zLs_entry {ad : Nat → Nat} {n : Nat} {as : List zV} (hz : zwds as ≤ n) : zLs ad (zent n as) ((lg_sl (as.map (zt ad)) ++ List.replicate (n - (lg_sl (as.map (zt ad))).length) Slot.unset).toArray) := by
  obtain ⟨h1, h2, h3⟩ := lv_entry (as.map (zt ad)) (n := n) (by rw [zwds_sl]; exact hz)
  refine ⟨by rw [h1, zent_len n as hz], h2, fun k v hk hn => ?_⟩
  have := zent_args (ad := ad) n as 0 k v hz hk hn
  rw [Nat.zero_add] at this
  exact h3 _ this
theorem zMet_ofW {l : Launch} {y : MethodName} {ws ws' : List Cond} {rm : Room} {Pc : Array Value → State → Prop} {Qc : Array Value → State → Outcome → State → Prop} {mc ms : Nat} {free : Addr → Prop} {cc : ByteArray} {maxL : Nat} {ret : Option FieldType}
    (hy : plainFor y = true) (hw : ws = Cond.code y cc maxL ret :: ws')
    (body : ∀ p e s m args below meth c s₁, BodyLoose p l y (headSpec ws rm) cc maxL ret e s m args below meth c s₁ → c.maxLocals = maxL → Pc args s →
      W p l e (headSpec ws rm).room s m args below meth c s.heap [] 0 0 (MQ below Qc args s mc ms free) (entryFrame m args maxL)) : Met l y ws rm Pc Qc mc ms free := by
  refine MetFree.of_bodySF (code := cc) (maxLocals := maxL) (ret := ret) hy ?_ ?_
  · intro args s m h hn
    obtain ⟨meth, c, h1, h2, h3, h4, h5, h6, -, -⟩ := Cond.code_spec hn (atoms_spec (ws := ws) h _ (by rw [hw]; exact List.mem_cons_self))
    exact ⟨meth, c, h1, h2, h3, h4, h5, h6⟩
  · intro p e s m args below meth c s₁ B hml hP _
    have hh0 : s₁.heap = s.heap := by rw [B.state]; rfl
    obtain ⟨t, a1, o, b1, b2, b3⟩ := body p e s m args below meth c s₁ B hml hP s₁ hh0 (Stand.of_body B)
    exact ⟨t, o, a1, b1, b2, ⟨b3.1, b3.2⟩⟩
theorem zcontract {k n kd : Nat} {as : List zV} {S : zS} {h : zH} {v : Option zV} {S' : zS} {h' : zH} (HC : ∀ i en, ztb k i = some en → zchk k i en = true) (hM : zMok k n kd) (hz : zwds as ≤ znl k) (hO : zOk S) (hB : zBody k 0 (zent (znl k) as) [] S h v S' h') : zContract k as S h v S' h' := by
  intro l D ca ad sz
  obtain ⟨hp0, hkd, hcode, hini, hcls, hpl, hdd, hk0, hk1, hk2⟩ := hM
  refine zMet_ofW (cc := (zmi k).2.1) (maxL := (zmi k).2.2.1) (ret := (zmi k).2.2.2.1) hpl rfl ?_
  intro p e s m args below meth c s₁ B hml hv
  obtain ⟨rfl, hsz, hP, hK, hD0, ⟨xs, X1, X2, X4⟩, hne, hao⟩ := hv
  have hx := B.exec
  have hb := B.bytes
  have hr := B.returns
  have hts0 := atoms_spec (ws := zws k) B.pre
  have hts : ∀ w ∈ zGw, w.before (as.map (zt ad)).toArray s = true := fun w hw => hts0 w (List.mem_cons_of_mem _ hw)
  have hown : s.vm.findClass (zmi k).2.2.2.2.1 = some m.cls := by rw [hcls]; exact findClass_of_methodNamed B.named
  have hlocks := B.notSynchronized
  have hin : (zmi k).2.2.2.2.2.1 = 2 → meth.name = "<init>" := fun q => by
    rw [hkd] at q
    rw [(name_of_methodNamed B.named B.method).1]
    exact (hk2 q).2.1
  subst hsz
  have hnA : ¬ va_A (zWl ad ca S h) s.heap.size (ad 0) := by
    rintro (⟨q, x, hq⟩ | q)
    · have hq1 : q < S.length - 1 := by
        have := (List.getElem?_eq_some_iff.mp hq).1
        rwa [zWl_len] at this
      have hq2 := zWl_get (ad := ad) (ca := ca) (h := h) (S := S) (o := q + 1) (by omega) (by omega)
      rw [show q + 1 - 1 = q by omega, hq] at hq2
      exact hne (q + 1) (by omega) (by omega) (congrArg Prod.fst (Option.some.inj hq2)).symm
    · omega
  have I : zI_ D ca (va_A (zWl ad ca S h) s.heap.size) s.heap s ad S h s.heap [] := ⟨hP, hD0.self, hK, va_S.rf, fun q hq => Or.inr hq, hO, ⟨xs, X1, X2, hnA, X4⟩, hao⟩
  rw [lg_entry_eq]
  have hl := zLs_entry (ad := ad) hz
  have hg := hB (p := p) (l := l) (e := e) (R := (headSpec (zws k) (zrm k (S'.length - S.length) (zcs S' - zcs S))).room) (m := m) (below := below) (meth := meth) (c := c) (cells := 0) (slots := 0) (Q := MQ below (zPost D ca ad s.heap.size S h v S' h') (as.map (zt ad)).toArray s (S'.length - S.length) (zcs S' - zcs S) (va_A (zWl ad ca S h) s.heap.size)) hx hb hown hts hml hin I hl (by rw [Nat.zero_add]; exact Nat.le_refl _) (by rw [Nat.zero_add]; exact Nat.le_refl _) (Nat.le_refl _) (Nat.le_refl _) ?_
  · rw [hp0] at hg
    exact hg
  · intro j en ad' H' locs' ls' he hret hag I'
    rw [Nat.zero_add, Nat.zero_add]
    have hc := HC j en he
    have hd := zchk_dec he hc
    obtain ⟨iP, iD, iK, iS, iA, iO, iX⟩ := I'
    have hc2 : zchk2 k j en = true := by
      simp only [zchk, Bool.and_eq_true] at hc
      exact hc.2
    obtain ⟨pc0, len, ins, a, b, z, ts, mask⟩ := en
    have hq : ∀ w : Option Value, w = v.map (zt ad') → ∀ t : State, t.heap = H' → s.WarmedH t.vm → zPost D ca ad s.heap.size S h v S' h' (as.map (zt ad)).toArray s (.returned w) t := fun w hw t ht _ => ⟨⟨ad', hag, by rw [hw], by rw [ht]; exact iP, iD⟩, iS.F ht⟩
    rcases hret with ⟨hi, z1, rfl, hz1⟩ | ⟨hi, z1, rfl⟩ | ⟨hi, o, rfl⟩ | ⟨hi, rfl⟩
    · have hi : ins = .ireturn := hi
      subst hi
      have hc2 : (decide (len = 1) && decide ((zmi k).2.2.2.1 = some .int ∧ a = 0 ∨ (zmi k).2.2.2.1 = some .boolean ∧ a = 1)) = true := hc2
      simp only [Bool.and_eq_true, decide_eq_true_eq] at hc2
      obtain ⟨hlen, hty⟩ := hc2
      subst hlen
      rcases hty with ⟨hty, -⟩ | ⟨hty, ha⟩
      · exact W.iret hx hb (hr.trans hty) (hq _ rfl) iS.2.2 hd
      · have hz1 : a = 0 ∨ z1 = 0 ∨ z1 = 1 := hz1
        exact W.zret hx hb (hr.trans hty) (by rcases hz1 with q | rfl | rfl; (omega); rfl; rfl) (hq _ rfl) iS.2.2 hd
    · have hi : ins = .lreturn := hi
      subst hi
      have hc2 : (decide (len = 1) && decide ((zmi k).2.2.2.1 = some .long)) = true := hc2
      simp only [Bool.and_eq_true, decide_eq_true_eq] at hc2
      obtain ⟨hlen, hty⟩ := hc2
      subst hlen
      exact W.lret hx hb (hr.trans hty) (hq _ rfl) iS.2.2 hd
    · have hi : ins = .areturn := hi
      subst hi
      have hc2 : (decide (len = 1) && (match (zmi k).2.2.2.1 with
        | some (.object _) => true
        | some (.array _) => true
        | _ => false)) = true := hc2
      simp only [Bool.and_eq_true, decide_eq_true_eq] at hc2
      obtain ⟨hlen, hty⟩ := hc2
      subst hlen
      split at hty
      · rename_i C hC
        exact W.aret hx hb (hr.trans hC) (Or.inl ⟨_, rfl⟩) (Or.inr ⟨_, rfl⟩) (hq _ rfl) iS.2.2 hd
      · rename_i C hC
        exact W.aret hx hb (hr.trans hC) (Or.inr ⟨_, rfl⟩) (Or.inr ⟨_, rfl⟩) (hq _ rfl) iS.2.2 hd
      · cases hty
    · have hi : ins = .return_ := hi
      subst hi
      have hc2 : (decide (len = 1) && decide ((zmi k).2.2.2.1 = none)) = true := hc2
      simp only [Bool.and_eq_true, decide_eq_true_eq] at hc2
      obtain ⟨hlen, hty⟩ := hc2
      subst hlen
      exact W.vret hx hb (hr.trans hty) (hq _ rfl) iS.2.2 hd
