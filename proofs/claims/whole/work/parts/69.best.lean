/-! BEST TURNS: the greatest and the least are shortest ways; the class's findCost and findTurns -/
section BST
variable {N W H : Nat} {T : Nat → Bool} {F G : Nat → Int} {f p w0 d b : Nat → Int} {rk : Nat → Nat}
theorem isR_rho {q : Nat → Int} {m : Nat} {ρ : Nat → Nat} (h : isP N W T (pP N W T) m ρ) {v : Nat} : isR N W T v ↔ ∃ i, i < m ∧ ρ i = v := by
  constructor
  · rintro ⟨h1, h2, h3⟩
    obtain ⟨i, i1, i2, i3, -⟩ := h.2.2.2 v h1 h2
    obtain ⟨a1, a2, a3⟩ := h.2.1 i i1
    have := h3 (ρ i) a1 a2 (by rw [a3, i2])
    exact ⟨i, i1, by omega⟩
  · rintro ⟨i, i1, rfl⟩
    obtain ⟨a1, a2, a3⟩ := h.2.1 i i1
    refine ⟨a1, a2, fun k hk tk e => ?_⟩
    obtain ⟨r, r1, r2, r3, -⟩ := h.2.2.2 k hk tk
    have : r = i := by omega
    subst this
    exact r3
theorem pW_root (hw : wfS W H N T F G) {v : Nat} (hv : isR N W T v) : pW N W T F v = F v := by
  obtain ⟨h1, h2, h3⟩ := hv
  have e := wst_p (N := N) (W := W) (T := T) (F := F) (q0 := fun _ => 0) (w0 := fun _ => 0)
  refine wst_r (N := N) (W := W) (T := T) (F := F) (q0 := fun _ => 0) (w0 := fun _ => 0) N v (wst_all h1 h2) (fun j hj hq => ?_)
  obtain ⟨j1, j2, -⟩ := wst_w (q0 := fun _ => 0) (w0 := fun _ => 0) (W := W) hw.f N j hj
  refine h3 j j1 j2 ?_
  rw [← (e.2 j j1 j2).1, ← (e.2 v h1 h2).1, hq]
theorem tw_root (hw : wfS W H N T F G) {v : Nat} (hv : isR N W T v) : tw N W T F v = 0 := by
  unfold tw
  rw [pW_root hw hv, Int.sub_self]
  rfl
/-- joints hold parts together -/
theorem sc_conn (hw : wfS W H N T F G) : ∀ R : Nat → Bool, (∀ j, j < scJ N W T → R (scf N W T j) = R (sct N W T j)) → (∀ v, v < N → isR N W T v → R v = true) → ∀ v, v < N → T v = true → R v = true := by
  intro R hR hZ v hv tv
  obtain ⟨ρ, h⟩ := pP_isP (N := N) (W := W) (T := T)
  obtain ⟨i, i1, i2, i3, i4⟩ := h.2.2.2 v hv tv
  obtain ⟨a1, a2, a3⟩ := h.2.1 i i1
  refine i4 R (fun a b ha hb ta tb hab => ?_) (hZ _ a1 ((isR_rho (q := fun _ => 0) h).mpr ⟨i, i1, rfl⟩))
  have key : ∀ a b, a < b → b < N → T a = true → T b = true → bsd W a b = true → R a = R b := by
    intro a b hlt hb ta tb hab
    obtain ⟨j, j1, j2⟩ := jl_in (jl_has hw.1 hb hlt ta tb hab)
    have := hR j j1
    obtain ⟨e1, e2⟩ := Prod.mk.inj j2
    rw [e1, e2]
    exact this
  rcases Nat.lt_trichotomy a b with c | c | c
  · exact key a b c hb ta tb hab
  · rw [c]
  · exact (key b a c ha tb ta (by rw [bsd_sym]; exact hab)).symm
theorem sc_rt (hw : wfS W H N T F G) : ∃ rt : Nat → Nat, (∀ j, j < scJ N W T → rt (scf N W T j) = rt (sct N W T j)) ∧ ∀ v, v < N → isR N W T v → rt v = v := by
  obtain ⟨ρ, h⟩ := pP_isP (N := N) (W := W) (T := T)
  refine ⟨fun v => ρ (pP N W T v).toNat, fun j hj => ?_, fun v hv hr => ?_⟩
  · obtain ⟨a1, a2, a3, a4, a5⟩ := sc_at hw hj
    show ρ (pP N W T _).toNat = ρ (pP N W T _).toNat
    rw [h.1 _ _ (by omega) a2 a3 a4 a5]
  · obtain ⟨i, i1, rfl⟩ := (isR_rho (q := fun _ => 0) h).mp hr
    show ρ (pP N W T _).toNat = _
    rw [(h.2.1 i i1).2.2, Int.toNat_natCast]
theorem best_up (hw : wfS W H N T F G) (hb : ∀ j, j < scJ N W T → -(scu N W T G j) ≤ f j ∧ f j ≤ scu N W T G j) (hs : ∀ v, v < N → sp (scJ N W T) (scf N W T) (sct N W T) f v = 0) (hp : fe (scJ N W T) (scf N W T) (sct N W T) (scu N W T G) (scc N W T F) f p)
    (FF : bfF N (2 * scJ N W T) (asrc (scf N W T) (sct N W T)) (asrc (sct N W T) (scf N W T)) (aln (scc N W T F)) (aop (scu N W T G) f) w0 d b rk) (hw1 : ∀ v, v < N → isR N W T v → w0 v = 0) (hw2 : ∀ v, v < N → w0 v = 0 → isR N W T v) : isG N W T F G (fun k => tw N W T F k + d k) ∧ ∀ v, v < N → T v = true → d v < 1000000 := by
  obtain ⟨rt, r1, r2⟩ := sc_rt hw
  have hN := hw.2.2.2.1
  obtain ⟨e1, e2, e3, e4⟩ := ext_ok (L := 1000) (Z := isR N W T) (T := fun v => T v = true) (fun j hj => by have := sc_at hw hj; omega) (fun j hj => (sc_at hw hj).2.1) (fun j hj => (scu_in hw hj).1) hb hs (by omega) (fun j hj => (scc_e hw hj).2) (by omega) (fun j hj => ⟨(sc_at hw hj).2.2.1, (sc_at hw hj).2.2.2.1⟩) (sc_conn hw) r1 r2 hp FF hw1 hw2
  obtain ⟨-, c2⟩ := isC_flow hw hb hs hp
  have sub : (fun k => (fun k => tw N W T F k + d k) k - tw N W T F k) = d := by
    funext k
    show tw N W T F k + d k - tw N W T F k = d k
    omega
  refine ⟨⟨⟨(c2 _).mpr (by rw [sub]; exact e2), fun v hv => ?_⟩, fun y hy v hv tv => ?_⟩, e1⟩
  · show tw N W T F v + d v = 0
    rw [tw_root hw hv, e3 v hv.1 hv]; rfl
  · have := e4 (fun k => y k - tw N W T F k) ((c2 y).mp hy.1) (fun v hv hr => by
      show y v - tw N W T F v = 0
      rw [hy.2 v hr, tw_root hw hr]; rfl) v hv tv
    have t : y v - tw N W T F v ≤ d v := this
    show y v ≤ tw N W T F v + d v
    omega
theorem sp_rev {J : Nat} {fr to : Nat → Nat} {v : Nat} : sp J to fr f v = -(sp J fr to f v) := by
  unfold sp
  rw [← su_neg]
  exact su_congr (fun j _ => by show _ = -((if to j = v then f j else 0) - (if fr j = v then f j else 0)); omega)
theorem fe_rev {J : Nat} {fr to : Nat → Nat} {u c x : Nat → Int} : fe J to fr u c f x ↔ fe J fr to u c f (fun k => -(x k)) := by
  unfold fe
  constructor
  · intro h j hj
    obtain ⟨a, b⟩ := h j hj
    exact ⟨fun q => by have := a q; show -(x (to j)) ≤ -(x (fr j)) + c j; omega, fun q => by have := b q; show -(x (fr j)) ≤ -(x (to j)) - c j; omega⟩
  · intro h j hj
    obtain ⟨a, b⟩ := h j hj
    exact ⟨fun q => by have t : -(x (to j)) ≤ -(x (fr j)) + c j := a q; omega, fun q => by have t : -(x (fr j)) ≤ -(x (to j)) - c j := b q; omega⟩
theorem best_dn (hw : wfS W H N T F G) (hb : ∀ j, j < scJ N W T → -(scu N W T G j) ≤ f j ∧ f j ≤ scu N W T G j) (hs : ∀ v, v < N → sp (scJ N W T) (scf N W T) (sct N W T) f v = 0) (hp : fe (scJ N W T) (scf N W T) (sct N W T) (scu N W T G) (scc N W T F) f p)
    (FF : bfF N (2 * scJ N W T) (asrc (sct N W T) (scf N W T)) (asrc (scf N W T) (sct N W T)) (aln (scc N W T F)) (aop (scu N W T G) f) w0 d b rk) (hw1 : ∀ v, v < N → isR N W T v → w0 v = 0) (hw2 : ∀ v, v < N → w0 v = 0 → isR N W T v) : isL N W T F G (fun k => tw N W T F k - d k) ∧ ∀ v, v < N → T v = true → d v < 1000000 := by
  obtain ⟨rt, r1, r2⟩ := sc_rt hw
  have hN := hw.2.2.2.1
  have hp' : fe (scJ N W T) (sct N W T) (scf N W T) (scu N W T G) (scc N W T F) f (fun k => -(p k)) := fe_rev.mpr (by
    have : (fun k => -((fun k => -(p k)) k)) = p := by funext k; show -(-(p k)) = p k; omega
    rw [this]
    exact hp)
  obtain ⟨e1, e2, e3, e4⟩ := ext_ok (L := 1000) (Z := isR N W T) (T := fun v => T v = true) (fun j hj => (sc_at hw hj).2.1) (fun j hj => by have := sc_at hw hj; omega) (fun j hj => (scu_in hw hj).1) hb (fun v hv => by rw [sp_rev, hs v hv]; rfl) (by omega) (fun j hj => (scc_e hw hj).2) (by omega) (fun j hj => ⟨(sc_at hw hj).2.2.2.1, (sc_at hw hj).2.2.1⟩) (fun R hR => sc_conn hw R (fun j hj => (hR j hj).symm)) (fun j hj => (r1 j hj).symm) r2 hp' FF hw1 hw2
  obtain ⟨-, c2⟩ := isC_flow hw hb hs hp
  have sub : (fun k => (fun k => tw N W T F k - d k) k - tw N W T F k) = fun k => -(d k) := by
    funext k
    show tw N W T F k - d k - tw N W T F k = -(d k)
    omega
  refine ⟨⟨⟨(c2 _).mpr (by rw [sub]; exact fe_rev.mp e2), fun v hv => ?_⟩, fun y hy v hv tv => ?_⟩, e1⟩
  · show tw N W T F v - d v = 0
    rw [tw_root hw hv, e3 v hv.1 hv]; rfl
  · have := e4 (fun k => tw N W T F k - y k) (fe_rev.mpr (by
      have g : (fun k => -((fun k => tw N W T F k - y k) k)) = fun k => y k - tw N W T F k := by
        funext k
        show -(tw N W T F k - y k) = y k - tw N W T F k
        omega
      rw [g]
      exact (c2 y).mp hy.1)) (fun v hv hr => by
      show tw N W T F v - y v = 0
      rw [hy.2 v hr, tw_root hw hr]; rfl) v hv tv
    have t : tw N W T F v - y v ≤ d v := this
    show tw N W T F v - d v ≤ y v
    omega
end BST
/-- what findCost leaves -/
def HsC (h : zH) (o W H N : Nat) (T : Nat → Bool) (F G : Nat → Int) (z : Int) (f : Nat → Int) : Prop :=
  ScC h (o + 1) W H N T F G ∧ h (o + 1) 6 = (pM N W T : Int) ∧ (∀ k, k < N → T k = true → h (o + 5) k = pP N W T k ∧ h (o + 6) k = pW N W T F k) ∧ h o 1 = z ∧ isC N W T F G z ∧ JoC h o N (scJ N W T) (scf N W T) (sct N W T) (scu N W T G) (scc N W T F) ∧ FlC h o (scJ N W T) (scu N W T G) f ∧ (∀ v, v < N → sp (scJ N W T) (scf N W T) (sct N W T) f v = 0) ∧ ∃ p, fe (scJ N W T) (scf N W T) (sct N W T) (scu N W T G) (scc N W T F) f p
section FCO
variable {S : zS} {h : zH} {o W H N : Nat} {T : Nat → Bool} {F G : Nat → Int}
theorem zu_eq {x k : Nat} {v : Int} : zu h x k v x k = v := if_pos ⟨rfl, rfl⟩
theorem zu_off {x k y i : Nat} {v : Int} (q : y ≠ x ∨ i ≠ k) : zu h x k v y i = h y i := if_neg (fun z => by rcases q with q | q; exact q z.1; exact q z.2)
theorem zu_zu {x k : Nat} {v v' : Int} : zu (zu h x k v) x k v' = zu h x k v' := by
  funext y i
  unfold zu
  by_cases q : y = x ∧ i = k
  · rw [if_pos q, if_pos q]
  · rw [if_neg q, if_neg q, if_neg q]
/-- Heights.findCost -/
theorem s_fco (hL : LX0 S o) (hS : ScC h (o + 1) W H N T F G) (hw : wfS W H N T F G) : ∃ (z : Int) (f : Nat → Int) (h' : zH), Zx 2 0 [zR o, zN, zN] [] S h = some (some (zI z), S, h') ∧ HsC h' o W H N T F G z f ∧ ∀ x k, (x < o ∨ o + 18 < x) → h' x k = h x k := by
  obtain ⟨A, R, e71⟩ := s_wlk hL.scene hS hw
  obtain ⟨pm, pk⟩ := wst_p (N := N) (W := W) (T := T) (F := F) (q0 := h (o + 1 + 4)) (w0 := h (o + 1 + 5))
  generalize wst N W T F (fun _ => false, h (o + 1 + 4), 0, h (o + 1 + 5)) N = st at *
  obtain ⟨P, q, m, w⟩ := st
  dsimp only at *
  have hN := hw.2.2.2.1
  have k6 : ∀ k, k < N → T k = true → hk (o + 1) (m : Int) q w A R h (o + 6) k = pW N W T F k ∧ -10400 ≤ pW N W T F k ∧ pW N W T F k ≤ 10400 := fun k hkN tk => by
    refine ⟨?_, (pW_in hN hw.f hkN tk).2⟩
    rw [← (pk k hkN tk).2]
    exact hk_5
  obtain ⟨JA, JB, JC, JD, e3, hJ⟩ := s_joi hL (ScC_hk hS) hw k6
  have jo := JoC_of (h := hk (o + 1) (m : Int) q w A R h) hw (ScC_hk hS).2.2.1 hJ
  obtain ⟨f, s, d, b, ⟨fb, -, fp⟩, fs, e2⟩ := s_flw hL jo
  obtain ⟨ic, -⟩ := isC_flow (f := f) hw fb fs fp.choose_spec
  have jq := JoC_hq (f := f) (s := s) (d := d) (b := b) jo
  have q4 := jq.2.2.1
  have q13 : ∀ j, j < scJ N W T → hq o f s d b (hj o (scJ N W T : Int) JA JB JC JD (hk (o + 1) (m : Int) q w A R h)) (o + 13) j = scc N W T F j := fun j hj => (jq.2.2.2.2 j hj).2.2.1
  have q15 : ∀ j, hq o f s d b (hj o (scJ N W T : Int) JA JB JC JD (hk (o + 1) (m : Int) q w A R h)) (o + 15) j = f j := fun j => hq_15
  have J40 : scJ N W T ≤ 40 := jl_40 hw.1 hw.2.1 hw.2.2.1
  have away : ∀ x k, x ≠ o → (x < o + 11 ∨ o + 18 < x) → hq o f s d b (hj o (scJ N W T : Int) JA JB JC JD (hk (o + 1) (m : Int) q w A R h)) x k = hk (o + 1) (m : Int) q w A R h x k := fun x k h1 h2 => by
    rw [hq_o (by omega), hj_o (by omega)]
  have loop : Zx 2 21 [zR o, zN, zN] [] S (hq o f s d b (hj o (scJ N W T : Int) JA JB JC JD (hk (o + 1) (m : Int) q w A R h))) = some (some (zI (-(su (fun j => f j * scc N W T F j) (scJ N W T)))), S, zu (hq o f s d b (hj o (scJ N W T : Int) JA JB JC JD (hk (o + 1) (m : Int) q w A R h))) o 1 (-(su (fun j => f j * scc N W T F j) (scJ N W T)))) := by
    generalize hq o f s d b (hj o (scJ N W T : Int) JA JB JC JD (hk (o + 1) (m : Int) q w A R h)) = X at *
    rw [b2_21 hL]
    refine (z_chain (N := scJ N W T) (X := fun i => Zx 2 26 [zR o, zN, zI (i : Int)] [] S (zu X o 1 (-(su (fun j => f j * scc N W T F j) i)))) (fun i hi => ?_)).trans ?_
    · show Zx 2 26 _ _ _ _ = Zx 2 26 _ _ _ _
      rw [b2_26 hL (by intros; omega) (by intros; omega) (by intros; omega) (by intros; omega), zu_off (Or.inr (by decide)), q4, zw_nat (by omega), zw_nat (by omega), if_neg (by omega), Int.toNat_natCast, zu_eq, zu_off (y := o + 15) (Or.inl (by omega)), zu_off (y := o + 13) (Or.inl (by omega)), q13 i hi, q15, zu_zu, su, Int.neg_add, ← Int.sub_eq_add_neg]
      rfl
    · show Zx 2 26 _ _ _ _ = _
      rw [b2_26 hL (by intros; omega) (by rw [zu_off (Or.inr (by decide)), q4]; intro q; exact absurd (Int.le_refl _) q) (by intros; omega) (by rw [zu_off (Or.inr (by decide)), q4]; intro q; exact absurd (Int.le_refl _) q), zu_off (Or.inr (by decide)), q4, if_pos (Int.le_refl _), zu_eq]
  have fin : Zx 2 0 [zR o, zN, zN] [] S h = some (some (zI (-(su (fun j => f j * scc N W T F j) (scJ N W T)))), S, zu (hq o f s d b (hj o (scJ N W T : Int) JA JB JC JD (hk (o + 1) (m : Int) q w A R h))) o 1 (-(su (fun j => f j * scc N W T F j) (scJ N W T)))) := by
    rw [b2_0 hL, b2_2 hL hL.scene e71, b2_4 hL hL e3, e2]
    exact loop
  refine ⟨_, f, _, fin, ⟨?_, ?_, fun k hkN tk => ⟨?_, ?_⟩, zu_eq, ic, ?_, fun j hj => ⟨?_, fb j hj⟩, fs, fp⟩, fun x k hx => ?_⟩
  · obtain ⟨s0, s1, s2, sk⟩ := ScC_hk (m := (m : Int)) (q := q) (w := w) (P := A) (R := R) hS
    refine ⟨?_, ?_, ?_, fun k hk => ?_⟩
    · rw [zu_off (Or.inl (by omega)), away _ _ (by omega) (by omega)]; exact s0
    · rw [zu_off (Or.inl (by omega)), away _ _ (by omega) (by omega)]; exact s1
    · rw [zu_off (Or.inl (by omega)), away _ _ (by omega) (by omega)]; exact s2
    · rw [zu_off (Or.inl (by omega)), away _ _ (by omega) (by omega), zu_off (Or.inl (by omega)), away _ _ (by omega) (by omega), zu_off (Or.inl (by omega)), away _ _ (by omega) (by omega)]
      exact sk k hk
  · rw [zu_off (Or.inl (by omega)), away _ _ (by omega) (by omega), hk_m, pm]
  · rw [zu_off (Or.inl (by omega)), away _ _ (by omega) (by omega), ← (pk k hkN tk).1]
    exact hk_4
  · rw [zu_off (Or.inl (by omega)), away _ _ (by omega) (by omega)]
    exact (k6 k hkN tk).1
  · obtain ⟨j1, j2, j3, j4, j5⟩ := jq
    refine ⟨by rw [zu_off (Or.inl (by omega))]; exact j1, j2, by rw [zu_off (Or.inr (by decide))]; exact j3, j4, fun j hj => ?_⟩
    rw [zu_off (Or.inl (by omega)), zu_off (Or.inl (by omega)), zu_off (Or.inl (by omega)), zu_off (Or.inl (by omega))]
    exact j5 j hj
  · rw [zu_off (Or.inl (by omega))]
    exact q15 j
  · rw [zu_off (Or.inl (by omega)), away _ _ (by omega) (by omega), hk_o (by omega)]
end FCO
