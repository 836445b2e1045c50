/-! THE SMALL MACHINE IS SOUND: calls, and every run -/
theorem zagree_eq {n : Nat} {ad ad' : Nat → Nat} {v : zV} (hag : ∀ o, o < n → ad' o = ad o) (hv : zvalid n v = true) : zt ad' v = zt ad v := by
  rcases v with z | z | _ | o
  · rfl
  · rfl
  · rfl
  · have ho : o < n := by simpa [zvalid] using hv
    show Value.ref (ad' o) = Value.ref (ad o)
    rw [hag o ho]
theorem zagree_map {n : Nat} {ad ad' : Nat → Nat} {st : List zV} (hag : ∀ o, o < n → ad' o = ad o) (hv : st.all (zvalid n) = true) : st.map (zt ad') = st.map (zt ad) := by
  apply List.map_congr_left
  intro v h
  exact zagree_eq hag (List.all_eq_true.mp hv v h)
theorem zLs.agree {n : Nat} {ad ad' : Nat → Nat} {L : List zV} {ls : Array Slot} (hl : zLs ad L ls) (hag : ∀ o, o < n → ad' o = ad o) (hv : L.all (zvalid n) = true) : zLs ad' L ls := by
  refine ⟨hl.1, hl.2.1, fun k v hk hn => ?_⟩
  rw [zagree_eq hag (List.all_eq_true.mp hv v (List.mem_of_getElem? hk))]
  exact hl.2.2 k v hk hn
section ZR
variable {p : Program} {l : Launch} {e : Env} {R : Room} {s : State} {m : MethodId} {args : Array Value} {below : List Frame} {meth : Method} {c : Code} {H : Heap} {locs : List Loc} {cells slots : Nat} {Q : State → Prop}
variable {ls : Array Slot} {ad : Nat → Nat} {D : va_G} {ca : Nat → ClassId} {A : Nat → Prop} {H0 : Heap} {S : zS} {h : zH}
theorem zcalled {mc ms pc : Nat} {st0 rest : List Value} {v : Option zV} {S' : zS} {h' : zH} {a : Array Value} (hr : va_Run p l e R s m args below meth c H locs cells slots mc ms (F0 m pc ls st0) rest (zPost D ca ad H.size S h v S' h' a) (va_A (zWl ad ca S h) H.size)) (I : zI_ D ca A H0 s ad S h H locs) (hO' : zOk S') (e1 : zC S' 0 = zC S 0) (e2 : h' 0 = h 0)
    (kk : ∀ (ad' : Nat → Nat) (H1 : Heap) (locs1 : List Loc), (∀ o, o < S.length ∨ S'.length ≤ o → ad' o = ad o) → zI_ D ca A H0 s ad' S' h' H1 locs1 → W p l e R s m args below meth c H1 locs1 (cells + mc) (slots + ms) Q (F0 m (pc + 3) ls ((v.map (zt ad')).toList ++ rest))) : W p l e R s m args below meth c H locs cells slots Q (F0 m pc ls st0) := by
  intro T hT X
  obtain ⟨w, st₀, t, T', L, h0, X', hL, q1, q2, ⟨⟨ad', hag, hv, hP1, hD1⟩, hz, hk⟩, st⟩ := hr T hT X
  cases hv
  rw [h0] at hz hk
  obtain ⟨iP, iD, iK, iS, iA, iO, ⟨xs, X1, X2, X3, X4⟩, ao, hstr⟩ := I
  have hF : ∀ q, va_A (zWl ad ca S h) H.size q → A q := by
    rintro q (⟨k, x, hq⟩ | hq)
    · exact iD.2 k _ hq
    · exact iA q (Nat.le_trans iS.1 hq)
  have e0 : ad' 0 = ad 0 := hag 0 (Or.inl (by have := iO.1.1; omega))
  have I' : zI_ D ca A H0 s ad' S' h' T'.heap (locs ++ L) := by
    refine ⟨by rw [q1]; exact hP1, hD1.weaken (fun k q _ hq => hF _ hq), iK, ⟨Nat.le_trans iS.1 (by rw [q1]; exact hz), fun q g1 g2 => ?_, fun q hq => ?_⟩, iA, hO', ⟨xs, by rw [e0, e1]; exact X1, by rw [e0]; exact X2, by rw [e0]; exact X3, fun j => by rw [e2]; exact X4 j⟩, ao, hstr.agree (fun o ho => hag o (Or.inr (Nat.le_trans hO'.1.2 ho)))⟩
    · rw [q1, hk q (Nat.lt_of_lt_of_le g1 iS.1) (fun z => g2 (hF _ z))]
      exact iS.2.1 q g1 g2
    · rcases List.mem_append.mp hq with g | g
      · exact iS.2.2 q g
      · exact hF _ (hL q g)
  obtain ⟨t2, a1, b1⟩ := kk ad' T'.heap (locs ++ L) hag I' T' rfl X'
  exact ⟨t2, st t2 a1, b1⟩
theorem zpre_blind {sz : Nat} {as : List Value} : FrameBlind (va_Pc as (zPre D ca ad sz S h)) := by
  intro a U g mk q
  obtain ⟨q0, q1, qP, qK, qD, ⟨xs, X1, X2, X3⟩, q2, q3, q4⟩ := q
  exact ⟨q0, q1, qP, va_K.moved (u := U) (U := U.calling g mk a) (Vm.Alike.refl U.vm) qK, qD, ⟨xs, va_X.moved (u := U) (U := U.calling g mk a) (Vm.Alike.refl U.vm) X1, X2, X3⟩, q2, ⟨va_AO.moved (u := U) (U := U.calling g mk a) (Vm.Alike.refl U.vm) q3.1, va_AO.moved (u := U) (U := U.calling g mk a) (Vm.Alike.refl U.vm) q3.2.1, va_AO.moved (u := U) (U := U.calling g mk a) (Vm.Alike.refl U.vm) q3.2.2.1, va_AO.moved (u := U) (U := U.calling g mk a) (Vm.Alike.refl U.vm) q3.2.2.2.1, fun w hw => zNw_same (s := U) (U := U.calling g mk a) rfl w hw (q3.2.2.2.2 w hw)⟩, zStr.same (u := U) (U := U.calling g mk a) rfl q4⟩
theorem zpre_at (I : zI_ D ca A H0 s ad S h H locs) (U : State) (hU : U.heap = H) (hW : s.WarmedH U.vm) : zPre D ca ad H.size S h U := by
  obtain ⟨iP, iD, iK, iS, iA, iO, ⟨xs, X1, X2, X3, X4⟩, ao, hstr⟩ := I
  have ha := hW.alike
  refine ⟨by rw [hU], by rw [hU]; exact iP, va_K.moved ha iK, iD.weaken (fun _ _ _ _ => trivial), ⟨xs, ?_, Nat.lt_of_lt_of_le X2 iS.1, X4⟩, fun o h1 h2 q => ?_, ⟨va_AO.moved ha ao.1, va_AO.moved ha ao.2.1, va_AO.moved ha ao.2.2.1, va_AO.moved ha ao.2.2.2.1, fun w hw => zNw_warm hW w hw (ao.2.2.2.2 w hw)⟩, ?_⟩
  · rw [hU]
    exact va_X.moved ha (X1.kept (iS.2.1 _ X2 X3))
  · have h3 := zWl_get (ad := ad) (ca := ca) (h := h) h1 h2
    have h4 := iD.2 _ _ h3
    exact X3 (q ▸ h4)
  · rw [hU]
    refine ((hstr.kept (fun a h1 h2 => iS.2.1 a h1 h2)).warm hW).narrow ?_
    rintro q (⟨k, x, hq⟩ | hq)
    · exact iD.2 k _ hq
    · exact iA q (Nat.le_trans iS.1 hq)
end ZR
theorem zlast_rev {as : List zV} {x : zV} (h1 : 1 ≤ as.length) (h : as[as.length - 1]? = some x) : as.reverse = x :: as.dropLast.reverse := by
  have hne : as ≠ [] := by
    rintro rfl
    simp at h1
  have e : as = as.dropLast ++ [x] := by
    have h2 := List.dropLast_concat_getLast hne
    have h3 : as.getLast hne = x := by
      rw [List.getLast_eq_getElem]
      rw [List.getElem?_eq_getElem (by omega)] at h
      exact Option.some.inj h
    rw [h3] at h2
    exact h2.symm
  conv => lhs; rw [e]
  rw [List.reverse_append]; rfl
set_option maxHeartbeats 4000000 in
theorem zsound (HC : ∀ k i en, ztb k i = some en → zchk k i en = true ∧ zWd k en) : ∀ (f : Nat) (k i : Nat) (L st : List zV) (S : zS) (h : zH) (v : Option zV) (S' : zS) (h' : zH), zex ztb znl f k i L st S h = some (v, S', h') → zOk S → L.length = znl k →
    (zOk S' ∧ zC S' 0 = zC S 0 ∧ h' 0 = h 0 ∧ S.length ≤ S'.length ∧ zcs S ≤ zcs S') ∧ zBody k i L st S h v S' h' := by
  intro f
  induction f with
  | zero =>
    intro k i L st S h v S' h' hx
    cases hx
  | succ f ih =>
    intro k i L st S h v S' h' hx hO hL
    rw [zex] at hx
    cases he : ztb k i with
    | none => rw [he] at hx; cases hx
    | some en =>
      rw [he] at hx
      dsimp only at hx
      obtain ⟨hc, hw⟩ := HC k i en he
      have hLk : (zkill en.2.2.2.2.2.2.2 L).length = znl k := by rw [zkill_len]; exact hL
      cases hs : zstp en i (zkill en.2.2.2.2.2.2.2 L) st S h with
      | none => rw [hs] at hx; cases hx
      | some o =>
        rw [hs] at hx
        rcases o with ⟨j, L1, st1, S1, h1⟩ | w | ⟨m', L1, as, st1⟩
        · dsimp only at hx
          obtain ⟨p1, p2, p3, p4, p5, p6⟩ := zstp_pure hw hO hs
          obtain ⟨⟨r1, r2, r3, r4, r5⟩, hB⟩ := ih k j L1 st1 S1 h1 v S' h' hx p1 (p6.trans hLk)
          refine ⟨⟨r1, r2.trans p2, r3.trans p3, Nat.le_trans p4 r4, Nat.le_trans p5 r5⟩, ?_⟩
          intro p l e R s m args below meth c H locs cells slots Q ls ad D ca A H0 hxx hb hown hts hml hin I hl hcells hslots hfr hlo hret
          refine zstep hxx hb hown hts hml hin he hc hw hLk I (hl.kill _) hs (by omega) (by omega) hfr hlo fun ad1 H1 locs1 ls1 hag1 I1 hl1 => ?_
          refine hB hxx hb hown hts hml hin I1 hl1 (by omega) (by omega) hfr hlo fun j2 en2 ad2 H2 locs2 ls2 he2 hr2 hag2 I2 => ?_
          have := hret j2 en2 ad2 H2 locs2 ls2 he2 hr2 (fun o ho => ?_) I2
          · rw [show cells + (S1.length - S.length) + (S'.length - S1.length) = cells + (S'.length - S.length) by omega, show slots + (zcs S1 - zcs S) + (zcs S' - zcs S1) = slots + (zcs S' - zcs S) by omega]
            exact this
          · rw [hag2 o (by omega), hag1 o (by omega)]
        · dsimp only at hx
          cases hx
          obtain ⟨g1, g2⟩ := zstp_ret hs
          refine ⟨⟨hO, rfl, rfl, Nat.le_refl _, Nat.le_refl _⟩, ?_⟩
          intro p l e R s m args below meth c H locs cells slots Q ls ad D ca A H0 hxx hb hown hts hml hin I hl hcells hslots hfr hlo hret
          have := hret i en ad H locs ls he g1 (fun _ _ => rfl) I
          rw [g2]
          simpa using this
        · dsimp only at hx
          split at hx
          · cases hx
          rename_i hzw
          have hw1 : 1 ≤ en.2.2.2.2.1 ∨ ∀ ix, en.2.2.1 ≠ .invokevirtual ix := by
            by_cases hq : ∃ ix, en.2.2.1 = .invokevirtual ix
            · obtain ⟨ix, hq⟩ := hq
              have hw2 := hw
              have hv := zstp_virt hs hq
              unfold zWd at hw2
              rw [hq] at hw2
              dsimp only at hw2
              rw [if_neg hv.1, if_neg hv.2] at hw2
              exact Or.inl hw2.2.2.1
            · exact Or.inr fun ix q => hq ⟨ix, q⟩
          have hw0 : ∀ ix, en.2.2.1 = .invokespecial ix → en.2.2.2.1 ≠ 10000 → 1 ≤ en.2.2.2.2.1 := by
            intro ix q hq
            have hw2 := hw
            unfold zWd at hw2
            rw [q] at hw2
            dsimp only at hw2
            rw [if_neg hq] at hw2
            exact hw2.2.2.1
          obtain ⟨g1, g2, g3, g4, g5, g6⟩ := zstp_call hw1 hw0 hs
          cases hr : zex ztb znl f m' 0 (zent (znl m') as.reverse) [] S h with
          | none => rw [hr] at hx; cases hx
          | some o =>
            obtain ⟨v1, S1, h1⟩ := o
            rw [hr] at hx
            dsimp only at hx
            split at hx
            case isFalse => cases hx
            rename_i hva
            have hzr : zwds as.reverse ≤ znl m' := by
              have : zwds as.reverse = zwds as := by
                unfold zwds
                rw [List.map_reverse, List.sum_reverse]
              omega
            obtain ⟨⟨p1, p2, p3, p4, p5⟩, hB1⟩ := ih m' 0 _ [] S h v1 S1 h1 hr hO (zent_len _ _ hzr)
            obtain ⟨⟨r1, r2, r3, r4, r5⟩, hB⟩ := ih k (i + 1) L1 (v1.toList ++ st1) S1 h1 v S' h' hx p1 (by rw [g2]; exact hLk)
            refine ⟨⟨r1, r2.trans p2, r3.trans p3, Nat.le_trans p4 r4, Nat.le_trans p5 r5⟩, ?_⟩
            intro p l e R s m args below meth c H locs cells slots Q ls ad D ca A H0 hxx hb hown hts hml hin I hl hcells hslots hfr hlo hret
            have hl2 := hl.kill en.2.2.2.2.2.2.2
            rw [← g2] at hl2
            have hd := zchk_dec he hc
            have hc2 : zchk2 k i en = true := by
              simp only [zchk, Bool.and_eq_true] at hc
              exact hc.2
            have hpc := zpc_of he
            -- behind the call
            have hgo : ∀ (ad1 : Nat → Nat) (H1 : Heap) (locs1 : List Loc), zpc k (i + 1) = zpc k i + 3 → (∀ o, o < S.length ∨ S1.length ≤ o → ad1 o = ad o) → zI_ D ca A H0 s ad1 S1 h1 H1 locs1 → W p l e R s m args below meth c H1 locs1 (cells + (S1.length - S.length)) (slots + (zcs S1 - zcs S)) Q (F0 m (zpc k i + 3) ls ((v1.map (zt ad1)).toList ++ st1.map (zt ad))) := by
              intro ad1 H1 locs1 hn hag1 I1
              have hl3 : zLs ad1 L1 ls ∧ st1.map (zt ad1) = st1.map (zt ad) := by
                rcases hva with q | q
                · have : ad1 = ad := by
                    funext o
                    exact hag1 o (by omega)
                  subst this
                  exact ⟨hl2, rfl⟩
                · simp only [Bool.and_eq_true] at q
                  exact ⟨hl2.agree (fun o ho => hag1 o (Or.inl ho)) q.1, zagree_map (fun o ho => hag1 o (Or.inl ho)) q.2⟩
              have hg := hB (p := p) (l := l) (e := e) (R := R) (m := m) (args := args) (below := below) (meth := meth) (c := c) (H := H1) (locs := locs1) (cells := cells + (S1.length - S.length)) (slots := slots + (zcs S1 - zcs S)) (Q := Q) hxx hb hown hts hml hin I1 hl3.1 (by omega) (by omega) hfr hlo fun j2 en2 ad2 H2 locs2 ls2 he2 hr2 hag2 I2 => ?_
              · rw [hn, List.map_append, hl3.2] at hg
                cases v1 <;> exact hg
              · have := hret j2 en2 ad2 H2 locs2 ls2 he2 hr2 (fun o ho => ?_) I2
                · rw [show cells + (S1.length - S.length) + (S'.length - S1.length) = cells + (S'.length - S.length) by omega, show slots + (zcs S1 - zcs S) + (zcs S' - zcs S1) = slots + (zcs S' - zcs S) by omega]
                  exact this
                · rw [hag2 o (by omega), hag1 o (by omega)]
            have hcon : ∀ {n kd : Nat}, zMok m' n kd → zContract m' as.reverse S h v1 S1 h1 := fun hM => zcontract (fun i en q => (HC m' i en q).1) hM hzr hO hB1
            have hfit : cells + (S1.length - S.length) ≤ R.cells ∧ slots + (zcs S1 - zcs S) ≤ R.slots := ⟨by omega, by omega⟩
            have hst : st.map (zt ad) = as.map (zt ad) ++ st1.map (zt ad) := by rw [g3, List.map_append]
            have hwd : 2 * (F0 m (zpc k i) ls (st.map (zt ad))).monitorRoom + ((st1.map (zt ad)).map fun v => v.category).sum ≤ 8 := by
              refine lv_room (m := m) (pc := zpc k i) (ls := ls) (rest := st.map (zt ad)) ?_
              rw [zwds_map]; exact g5
            have hrev : ((as.reverse).map (zt ad)).reverse ++ st1.map (zt ad) = st.map (zt ad) := by rw [hst, List.map_reverse, List.reverse_reverse]
            obtain ⟨pc0, len, ins, a, b, z, ts, mask⟩ := en
            have g1 : m' = a := g1
            subst g1
            rcases g6 with ⟨ix, hi, hne⟩ | ⟨ix, o, hi, hne, ho, h1l⟩ | ⟨ix, o, hi, ho, hk, h1l⟩
            · have hi : ins = .invokestatic ix := hi
              subst hi
              have hne : m' ≠ 10001 := hne
              have hc2 : (decide (len = 3) && decide (zpc k (i + 1) = pc0 + len)) = true := hc2
              simp only [Bool.and_eq_true, decide_eq_true_eq] at hc2
              obtain ⟨hlen, hnx⟩ := hc2
              subst hlen
              have hw2 : (Cond.methodLink (zmi k).2.2.2.2.1 ix (zmi m').1 ∈ zGw ∨ Cond.methodLinkNest (zmi k).2.2.2.2.1 ix (zmi m').1 RX9 ∈ zNws) ∧ zMok m' b 1 ∧ zRoom k m' := by
                have hw2 := hw
                simp only [zWd, if_neg hne] at hw2
                exact hw2
              obtain ⟨w1, hM, w3⟩ := hw2
              have hcc := hcon hM
              obtain ⟨hp0, hkd, hcode, hini, hcls, hpl, hdd, hk0, hk1, hk2⟩ := hM
              have hnn : as.reverse.length = b := by rw [List.length_reverse]; exact g4
              rcases w1 with w1 | w1
              · refine zcalled (va_runS (Ts := zGw) (nL := znl k) (n := b) (As := as.reverse.map (zt ad)) (rest := st1.map (zt ad)) ⟨hxx, hb, hml, hown, hts⟩ (hcc l D ca ad H.size) ⟨callB_of b hts (zws_good hcode) rfl rfl rfl (hts _ hini) (hts _ w1) hdd ⟨Nat.le_trans w3.1 hfr, Nat.le_trans w3.2 hlo⟩, hts _ (hk1 rfl)⟩ ⟨zpre_blind, fun U hU hW => ⟨rfl, zpre_at I U hU hW⟩⟩ rfl (by rw [List.length_map]; exact hnn) (by show ls.size = _; rw [hl.1, hL]) hrev.symm hwd hd hfit) I p1 p2 p3 (fun ad1 H1 locs1 hag1 I1 => hgo ad1 H1 locs1 (by rw [hnx, hpc]) hag1 I1)
              · refine zcalled (va_runSN (host := RX9) (Ts := zGw) (nL := znl k) (n := b) (As := as.reverse.map (zt ad)) (rest := st1.map (zt ad)) ⟨hxx, hb, hml, hown, hts⟩ (hcc l D ca ad H.size) ⟨va_cnB b hts (zws_good hcode) rfl rfl rfl (I.2.2.2.2.2.2.2.1.2.2.2.2 _ w1) (hts _ hini) hdd ⟨Nat.le_trans w3.1 hfr, Nat.le_trans w3.2 hlo⟩, hts _ (hk1 rfl), trivial⟩ ⟨zpre_blind, fun U hU hW => ⟨rfl, zpre_at I U hU hW⟩⟩ rfl (by rw [List.length_map]; exact hnn) (by show ls.size = _; rw [hl.1, hL]) hrev.symm hwd hd hfit) I p1 p2 p3 (fun ad1 H1 locs1 hag1 I1 => hgo ad1 H1 locs1 (by rw [hnx, hpc]) hag1 I1)
            · have hi : ins = .invokespecial ix := hi
              subst hi
              have hne : m' ≠ 10000 := hne
              have hc2 : (decide (len = 3) && decide (zpc k (i + 1) = pc0 + len)) = true := hc2
              simp only [Bool.and_eq_true, decide_eq_true_eq] at hc2
              obtain ⟨hlen, hnx⟩ := hc2
              subst hlen
              have hw2 : (Cond.methodLink (zmi k).2.2.2.2.1 ix (zmi m').1 ∈ zGw ∨ Cond.methodLinkNest (zmi k).2.2.2.2.1 ix (zmi m').1 RX9 ∈ zNws) ∧ zMok m' (b - 1) 2 ∧ 1 ≤ b ∧ zRoom k m' := by
                have hw2 := hw
                simp only [zWd, if_neg hne] at hw2
                exact hw2
              obtain ⟨w1, hM, wb, w3⟩ := hw2
              have g4 : as.length = b := g4
              have ho : as[b - 1]? = some (zR o) := ho
              rw [← g4] at ho
              have hrv := zlast_rev h1l ho
              have hcc := hcon hM
              rw [hrv] at hcc
              obtain ⟨hp0, hkd, hcode, hini, hcls, hpl, hdd, hk0, hk1, hk2⟩ := hM
              obtain ⟨k1, k2, k3⟩ := hk2 rfl
              have hs2 : st.map (zt ad) = (as.dropLast.reverse.map (zt ad)).reverse ++ .ref (ad o) :: st1.map (zt ad) := by
                rw [← hrev, hrv, List.map_cons, List.reverse_cons, List.append_assoc]; rfl
              have hws : zws m' = Cond.code (zmi m').1 (zmi m').2.1 (zmi m').2.2.1 none :: zGw := by unfold zws; rw [k3]
              rcases w1 with w1 | w1
              · refine zcalled (va_runI (Ts := zGw) (nL := znl k) (n := b - 1) (b := ad o) (bytes := (zmi m').2.1) (maxL := (zmi m').2.2.1) (As := as.dropLast.reverse.map (zt ad)) (rest := st1.map (zt ad)) ⟨hxx, hb, hml, hown, hts⟩ (hcc l D ca ad H.size) ⟨callB_of (b - 1) hts (zws_good hcode) hws rfl rfl (hts _ hini) (hts _ w1) hdd ⟨Nat.le_trans w3.1 hfr, Nat.le_trans w3.2 hlo⟩, k2, hts _ k1⟩ ⟨zpre_blind, fun U hU hW => ⟨rfl, zpre_at I U hU hW⟩⟩ rfl (by rw [List.length_map, List.length_reverse, List.length_dropLast]; omega) (by show ls.size = _; rw [hl.1, hL]) hs2 hwd hd hfit) I p1 p2 p3 (fun ad1 H1 locs1 hag1 I1 => hgo ad1 H1 locs1 (by rw [hnx, hpc]) hag1 I1)
              · refine zcalled (va_runIN (host := RX9) (Ts := zGw) (nL := znl k) (n := b - 1) (b := ad o) (bytes := (zmi m').2.1) (maxL := (zmi m').2.2.1) (As := as.dropLast.reverse.map (zt ad)) (rest := st1.map (zt ad)) ⟨hxx, hb, hml, hown, hts⟩ (hcc l D ca ad H.size) ⟨va_cnB (b - 1) hts (zws_good hcode) hws rfl rfl (I.2.2.2.2.2.2.2.1.2.2.2.2 _ w1) (hts _ hini) hdd ⟨Nat.le_trans w3.1 hfr, Nat.le_trans w3.2 hlo⟩, k2, hts _ k1⟩ ⟨zpre_blind, fun U hU hW => ⟨rfl, zpre_at I U hU hW⟩⟩ rfl (by rw [List.length_map, List.length_reverse, List.length_dropLast]; omega) (by show ls.size = _; rw [hl.1, hL]) hs2 hwd hd hfit) I p1 p2 p3 (fun ad1 H1 locs1 hag1 I1 => hgo ad1 H1 locs1 (by rw [hnx, hpc]) hag1 I1)
            · have hi : ins = .invokevirtual ix := hi
              subst hi
              have hc2 : (decide (len = 3) && decide (zpc k (i + 1) = pc0 + len)) = true := hc2
              simp only [Bool.and_eq_true, decide_eq_true_eq] at hc2
              obtain ⟨hlen, hnx⟩ := hc2
              subst hlen
              have hv := zstp_virt hs rfl
              have hv : m' ≠ 10002 ∧ m' ≠ 10003 := hv
              have hw2 := hw
              simp only [zWd, if_neg hv.1, if_neg hv.2] at hw2
              obtain ⟨w1, hM, wb, ⟨ci, wc, wz, wn⟩, w3⟩ := hw2
              have wz : z = (ci : Int) := wz
              have hk : ((zC S o).1 : Int) = z := hk
              have hck : (zC S o).1 = ci := by omega
              have g4 : as.length = b := g4
              have ho : as[b - 1]? = some (zR o) := ho
              rw [← g4] at ho
              have hrv := zlast_rev h1l ho
              have hcc := hcon hM
              rw [hrv] at hcc
              obtain ⟨hp0, hkd, hcode, hini, hcls, hpl, hdd, hk0, hk1, hk2⟩ := hM
              obtain ⟨o1, o2, o3, -⟩ := I.2.2.2.2.2.1.obj wc hck
              have hel := zWl_get (ad := ad) (ca := ca) (h := h) o1 o2
              rw [zEc_obj wc hck o3] at hel
              have hrc := va_recv I.2.2.1 I.1 (zCl_get wc) hel
              have hs2 : st.map (zt ad) = (as.dropLast.reverse.map (zt ad)).reverse ++ .ref (ad o) :: st1.map (zt ad) := by
                rw [← hrev, hrv, List.map_cons, List.reverse_cons, List.append_assoc]; rfl
              have hdd2 : (zmi m').1.cls ≠ "java/lang/invoke/MethodHandle" ∧ (zmi m').1.cls ≠ "java/lang/invoke/VarHandle" ∧ (parseMethodDescriptor (zmi m').1.desc).map (fun d => d.parameters.length) = some (b - 1) := hdd
              refine zcalled (va_runV (Ts := zGw) (nL := znl k) (n := b - 1) (C := (zmi m').1.cls) (b := ad o) (As := as.dropLast.reverse.map (zt ad)) (rest := st1.map (zt ad)) ⟨hxx, hb, hml, hown, hts⟩ (hcc l D ca ad H.size) ⟨callB_of (b - 1) hts (zws_good hcode) rfl rfl rfl (hts _ hini) (hts _ w1) hdd2 ⟨Nat.le_trans w3.1 hfr, Nat.le_trans w3.2 hlo⟩, hts _ (hk0 rfl).1, hts _ (hk0 rfl).2⟩ ⟨zpre_blind, by rw [← wn]; exact hrc, fun U hU hW => ⟨rfl, zpre_at I U hU hW⟩⟩ rfl (by rw [List.length_map, List.length_reverse, List.length_dropLast]; omega) (by show ls.size = _; rw [hl.1, hL]) hs2 hwd hd hfit) I p1 p2 p3 (fun ad1 H1 locs1 hag1 I1 => hgo ad1 H1 locs1 (by rw [hnx, hpc]) hag1 I1)
