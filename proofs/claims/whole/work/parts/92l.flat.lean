/-! QUESTIONS: how far heights go; mirrored sums -/
section BND
variable {N W H : Nat} {T : Nat → Bool} {F G : Nat → Int}
theorem wst_w2 {q0 w0 : Nat → Int} (hF : ∀ k, k < N → T k = true → 0 ≤ F k ∧ F k < 400) : ∀ i k, (wst N W T F (fun _ => false, q0, 0, w0) i).1 k = true → k < N ∧ T k = true ∧ (∃ t, (wst N W T F (fun _ => false, q0, 0, w0) i).2.2.2 k = F k + 400 * t) ∧ -(400 + 200 * (i : Int)) ≤ (wst N W T F (fun _ => false, q0, 0, w0) i).2.2.2 k ∧ (wst N W T F (fun _ => false, q0, 0, w0) i).2.2.2 k ≤ 400 + 200 * i
  | 0, k, h => Bool.noConfusion h
  | i + 1, k, h => by
    have ih := wst_w2 (q0 := q0) (w0 := w0) hF i
    have s1 : wst N W T F (fun _ => false, q0, 0, w0) (i + 1) = if wnx N W T (wst N W T F (fun _ => false, q0, 0, w0) i).1 = -1 then wst N W T F (fun _ => false, q0, 0, w0) i else wgo N W F (wnx N W T (wst N W T F (fun _ => false, q0, 0, w0) i).1).toNat (wst N W T F (fun _ => false, q0, 0, w0) i) := rfl
    rw [s1] at h ⊢
    generalize wst N W T F (fun _ => false, q0, 0, w0) i = s at *
    obtain ⟨P, q, m, w⟩ := s
    (try dsimp only at *)
    rcases wnx_cases (N := N) (W := W) (T := T) (P := P) with ⟨c1, -⟩ | ⟨k', c1, c2, c3, c4, -⟩
    · rw [if_pos c1] at h ⊢
      obtain ⟨a1, a2, a3, a4⟩ := ih k h
      exact ⟨a1, a2, a3, by (try dsimp only); omega⟩
    rw [if_neg (by omega), c2, Int.toNat_natCast] at h ⊢
    have f := hF k' c1 c3
    by_cases e : wfr N W P k' = -1
    · have g : wgo N W F k' (P, q, m, w) = (fun j => P j || decide (j = k'), fu q k' (m : Int), m + 1, fu w k' (F k')) := if_pos e
      rw [g] at h ⊢
      (try dsimp only at h ⊢)
      rw [Bool.or_eq_true, decide_eq_true_eq] at h
      by_cases c : k = k'
      · subst c
        rw [fu_same]
        exact ⟨c1, c3, ⟨0, by omega⟩, by omega⟩
      · rw [fu_ne c]
        obtain ⟨a1, a2, a3, a4⟩ := ih k (by rcases h with z | z; exact z; exact absurd z c)
        exact ⟨a1, a2, a3, by omega⟩
    · obtain ⟨a, a1, a2, a3, a4⟩ := wfr_some e
      have g : wgo N W F k' (P, q, m, w) = (fun j => P j || decide (j = k'), fu q k' (q a), m, fu w k' (w a + pdif a k' (F a) (F k'))) := by
        unfold wgo
        rw [if_neg e]
        simp only [a2, Int.toNat_natCast]
      rw [g] at h ⊢
      (try dsimp only at h ⊢)
      rw [Bool.or_eq_true, decide_eq_true_eq] at h
      by_cases c : k = k'
      · subst c
        rw [fu_same]
        obtain ⟨b1, b2, ⟨t, b3⟩, b4⟩ := ih a a3
        obtain ⟨t', p1⟩ := pdif_mod (a := a) (b := k) (x := F a) (y := F k)
        have p2 := pdif_200 (a := a) (b := k) (hF a b1 b2) f
        exact ⟨c1, c3, ⟨t + t', by omega⟩, by omega⟩
      · rw [fu_ne c]
        obtain ⟨a1, a2, a3, a4⟩ := ih k (by rcases h with z | z; exact z; exact absurd z c)
        exact ⟨a1, a2, a3, by omega⟩
theorem pW_in2 (hN : N ≤ 25) (hF : ∀ k, k < N → T k = true → 0 ≤ F k ∧ F k < 400) {k : Nat} (hk : k < N) (tk : T k = true) : -5400 ≤ pW N W T F k ∧ pW N W T F k ≤ 5400 := by
  obtain ⟨-, -, a, b⟩ := wst_w2 (q0 := fun _ => 0) (w0 := fun _ => 0) (W := W) hF N k (wst_all hk tk)
  unfold pW
  omega
theorem scc_in2 (hw : wfS W H N T F G) {j : Nat} (hj : j < scJ N W T) : -28 ≤ scc N W T F j ∧ scc N W T F j ≤ 28 := by
  obtain ⟨a1, a2, a3, a4, a5⟩ := sc_at hw hj
  have p := pdif_200 (a := scf N W T j) (b := sct N W T j) (hw.f _ (by omega) a3) (hw.f _ a2 a4)
  have w1 := pW_in2 (W := W) hw.2.2.2.1 hw.f (show scf N W T j < N by omega) a3
  have w2 := pW_in2 (W := W) hw.2.2.2.1 hw.f a2 a4
  have e : scc N W T F j = Int.tdiv (pdif (scf N W T j) (sct N W T j) (F (scf N W T j)) (F (sct N W T j)) - (pW N W T F (sct N W T j) - pW N W T F (scf N W T j))) 400 := rfl
  rw [e]
  have hs : -11000 ≤ pdif (scf N W T j) (sct N W T j) (F (scf N W T j)) (F (sct N W T j)) - (pW N W T F (sct N W T j) - pW N W T F (scf N W T j)) ∧ pdif (scf N W T j) (sct N W T j) (F (scf N W T j)) (F (sct N W T j)) - (pW N W T F (sct N W T j) - pW N W T F (scf N W T j)) ≤ 11000 := by omega
  generalize pdif (scf N W T j) (sct N W T j) (F (scf N W T j)) (F (sct N W T j)) - (pW N W T F (sct N W T j) - pW N W T F (scf N W T j)) = s at *
  have c := Int.natAbs_tdiv s 400
  have d : ∀ n : Nat, Nat.div n (Int.natAbs 400) = n / 400 := fun n => rfl
  rw [d] at c
  omega
theorem bfF_bd {J : Nat} {src dst : Nat → Nat} {ln : Nat → Int} {op : Nat → Bool} {w0 d b : Nat → Int} {rk : Nat → Nat} {L : Int} (FF : bfF N J src dst ln op w0 d b rk) (hs : ∀ e, e < J → src e < N) (hL : ∀ e, e < J → -L ≤ ln e ∧ ln e ≤ L) (hL0 : 0 ≤ L) : ∀ (m : Nat) (v : Nat), v < N → rc N rk v ≤ (m : Int) → d v < 1000000 → -(L * m) ≤ d v ∧ d v ≤ L * m
  | m, v, hv, hm, hd => by
    have Lm : 0 ≤ L * (m : Int) := Int.mul_nonneg hL0 (by omega)
    rcases (FF.2.1 v hv).1 hd with ⟨-, -, d0⟩ | ⟨-, e, e1, -, -, -, e5, e6, e7⟩
    · omega
    · have r := rc_lt (R := rk) (hs e e1) e7
      have r0 := (rc_le (R := rk) (hs e e1)).1
      have l := hL e e1
      cases m with
      | zero => omega
      | succ m =>
        have i := bfF_bd FF hs hL hL0 m (src e) (hs e e1) (by omega) e5
        have e8 : L * ((m + 1 : Nat) : Int) = L * (m : Int) + L := by rw [Int.natCast_succ, Int.mul_add, Int.mul_one]
        rw [e8, e6]
        omega
theorem ctl_bd (hw : wfS W H N T F G) {k : Nat} (hk : k < N) (tk : T k = true) : -400000 ≤ hgt F (ctl N W T F G) k ∧ hgt F (ctl N W T F G) k ≤ 400000 := by
  classical
  have h25 := hw.2.2.2.1
  obtain ⟨f, p, hb, hs, hp⟩ := sc_flow hw
  have hp' : fe (scJ N W T) (sct N W T) (scf N W T) (scu N W T G) (scc N W T F) f (fun k => -(p k)) := fe_rev.mpr (by
    have : (fun k => -((fun k => -(p k)) k)) = p := by funext k; show -(-(p k)) = p k; omega
    rw [this]
    exact hp)
  obtain ⟨K, I⟩ := bfI_start (N := N) (w0 := fun v => if isR N W T v then 0 else 1000000) (b := fun _ => -1) (ch := false) (A := 2 * scJ N W T) (src := asrc (sct N W T) (scf N W T)) (dst := asrc (scf N W T) (sct N W T)) (ln := aln (scc N W T F)) (op := aop (scu N W T G) f) (fun k => -(p k)) (fun v _ => by (try dsimp only); split <;> omega) (fun v _ => rfl)
  obtain ⟨d, b, rk, FF⟩ := bfI_D (sc_2 hw) (sc_1 hw) hp' (fun v _ => by (try dsimp only); split <;> omega) I
  obtain ⟨e1, e2⟩ := best_dn hw hb hs hp FF (fun v _ hv => if_pos hv) (fun v _ hv => by
    (try dsimp only at hv)
    by_cases c : isR N W T v
    · exact c
    · rw [if_neg c] at hv; omega)
  have el : ctl N W T F G k = tw N W T F k - d k := (ct_L hw).uniq e1 hk tk
  have rl := rc_le (R := rk) hk
  have bd := bfF_bd (L := 28) FF (asrc_lt (sc_2 hw) (sc_1 hw)) (aln_le (fun j hj => scc_in2 hw hj)) (by omega) 24 k hk (by omega) (e2 k hk tk)
  have w := pW_in2 (W := W) h25 hw.f hk tk
  have t := (tw_e hw hk tk).1
  unfold hgt
  rw [el]
  omega
end BND
section FLA
variable {n : Nat} {h : zH} {A : aS}
def mir (D : pD) (x y : Int) : Prop := 0 ≤ x ∧ x < (dW D : Int) ∧ 0 ≤ y ∧ y < (dH D : Int) ∧ dT D (y.toNat * dW D + x.toNat) = true ∧ dT D (y.toNat * dW D + (dW D - 1 - x.toNat)) = true
noncomputable def msm (D : pD) (x y : Int) : Int := hgt (dF D) (dTl D) (y.toNat * dW D + x.toNat) + hgt (dF D) (dTl D) (y.toNat * dW D + (dW D - 1 - x.toNat))
theorem mir_lt {D : pD} {x y : Int} (m : mir D x y) : y.toNat * dW D + x.toNat < dN D ∧ y.toNat * dW D + (dW D - 1 - x.toNat) < dN D := by
  obtain ⟨a, b, c, d, -, -⟩ := m
  exact ⟨pix_lt (by omega) (by omega), pix_lt (by omega) (by omega)⟩
theorem msm_in {D : pD} (hw : wfD D) {x y : Int} (m : mir D x y) : -800000 ≤ msm D x y ∧ msm D x y ≤ 800000 := by
  obtain ⟨l1, l2⟩ := mir_lt m
  have a : -400000 ≤ hgt (dF D) (dTl D) (y.toNat * dW D + x.toNat) ∧ hgt (dF D) (dTl D) (y.toNat * dW D + x.toNat) ≤ 400000 := ctl_bd (wfS_D hw) l1 m.2.2.2.2.1
  have b : -400000 ≤ hgt (dF D) (dTl D) (y.toNat * dW D + (dW D - 1 - x.toNat)) ∧ hgt (dF D) (dTl D) (y.toNat * dW D + (dW D - 1 - x.toNat)) ≤ 400000 := ctl_bd (wfS_D hw) l2 m.2.2.2.2.2
  unfold msm
  omega
theorem c_mir {D : pD} {o : Nat} (hL : LX0 (Z0 n) o) (hw : wfD D) (hV : SvK h o (dW D) (dH D) (dN D) (dT D) (dF D) (dG D)) {x y : Int} (hx : zint x) (hy : zint y) : (mir D x y → Zx 77 0 [zR (o + 1), zI x, zI y] [] (Z0 n) h = some (some (zI 1), Z0 n, h) ∧ Zx 11 0 [zR o, zI x, zI y, zN] [] (Z0 n) h = some (some (zI (msm D x y)), Z0 n, h)) ∧ (¬ mir D x y → Zx 77 0 [zR (o + 1), zI x, zI y] [] (Z0 n) h = some (some (zI 0), Z0 n, h)) := by
  have s := s_mir (S := Z0 n) hL.scene hV.sc (wfS_D hw) hx hy
  refine ⟨fun m => ?_, fun m => ?_⟩
  · have m' := m
    obtain ⟨a, b, c, d, e, f⟩ := m'
    rw [if_pos ⟨a, b, c, d, e, f⟩] at s
    refine ⟨s, ?_⟩
    obtain ⟨x, rfl, hx'⟩ := nat_of (m := dW D) ⟨a, b⟩
    obtain ⟨y, rfl, hy'⟩ := nat_of (m := dH D) ⟨c, d⟩
    rw [Int.toNat_natCast, Int.toNat_natCast] at e f
    have := s_msu (S := Z0 n) hL hV (wfS_D hw) hx' hy' e f
    rw [this]
    rfl
  · unfold mir at m
    rw [if_neg m] at s
    exact s
/-- FringeBenchModel.sumOf -/
theorem m_smo {g : zH} (hM : McT g 0 A) (hA : wfA A) {p : Nat} (hp : p < aNp A) {x y : Int} (hx : zint x) (hy : zint y) : ∃ g1, (mir (aPic A p) x y → Zx 212 0 [zR 202, zI (p : Int), zI x, zI y] [] (Z0 n) g = some (some (zI (msm (aPic A p) x y)), Z0 n, g1)) ∧ (¬ mir (aPic A p) x y → Zx 212 0 [zR 202, zI (p : Int), zI x, zI y] [] (Z0 n) g = some (some (zI (-1000000)), Z0 n, g1)) ∧ frM g1 g := by
  have wD := hA.2.2.1 p hp
  have hD := wfS_D wD
  have hN := dN25 wD
  have w12 := wD.1
  have w34 := wD.2.1
  obtain ⟨g1, e1, H1, V1, n1, f1⟩ := m_layP (n := n) hM hA hp
  have hi := s_inz (S := Z0 n) (h := g1) (a := x) (b := 0) (c := (dW (aPic A p) : Int) - 1) hx ⟨by omega, by omega⟩ ⟨by omega, by omega⟩
  have hj := s_inz (S := Z0 n) (h := g1) (a := y) (b := 0) (c := (dH (aPic A p) : Int) - 1) hy ⟨by omega, by omega⟩ ⟨by omega, by omega⟩
  have st : Zx 212 0 [zR 202, zI (p : Int), zI x, zI y] [] (Z0 n) g = Zx 212 10 [zR 202, zN, zI x, zI y] [zI ((dW (aPic A p) : Int) - 1), zI 0, zI x] (Z0 n) g1 := by
    rw [b212_0, b212_2 e1, if_neg (show ¬ zw 1 = 0 by decide), V1.1.1]
  refine ⟨g1, fun m => ?_, fun m => ?_, f1⟩
  · obtain ⟨l1, l2⟩ := mir_lt m
    obtain ⟨a, b, c, d, e, f⟩ := m
    obtain ⟨x, rfl, hx'⟩ := nat_of (m := dW (aPic A p)) ⟨a, b⟩
    obtain ⟨y, rfl, hy'⟩ := nat_of (m := dH (aPic A p)) ⟨c, d⟩
    rw [Int.toNat_natCast, Int.toNat_natCast] at e f l1 l2
    have eA : (y : Int) * (dW (aPic A p) : Int) + (x : Int) = ((y * dW (aPic A p) + x : Nat) : Int) := by
      rw [Int.natCast_add, Int.natCast_mul]
    have eB : (y : Int) * (dW (aPic A p) : Int) + (dW (aPic A p) : Int) - 1 - (x : Int) = ((y * dW (aPic A p) + (dW (aPic A p) - 1 - x) : Nat) : Int) := by
      rw [Int.natCast_add, Int.natCast_mul]; omega
    have t1 := V1.1.th l1
    have t2 := V1.1.th l2
    have h1 := V1.hin hD l1 e
    have h2 := V1.hin hD l2 f
    rw [st, b212_10 hi, if_neg (zif_neg (by omega)), V1.1.2.1, b212_18 hj (by rw [V1.1.1, eA]; intros; omega) (by rw [V1.1.1, eA]; intros; omega) (by rw [V1.1.1, eB]; intros; omega) (by rw [V1.1.1, eB]; intros; omega), if_neg (zif_neg (by omega)), V1.1.1, eA, eB, Int.toNat_natCast, Int.toNat_natCast, if_neg (fun q => by rw [t1.mp q] at e; cases e), if_pos (fun q => by rw [t2.mp q] at f; cases f), b212_54 (m_hgt V1 hD l1 e), V1.1.1, eB, b212_67 (m_hgt V1 hD l2 f)]
    rfl
  · rw [st, b212_10 hi]
    by_cases c1 : 0 ≤ x ∧ x ≤ (dW (aPic A p) : Int) - 1
    case neg => rw [if_pos (zif_pos c1), b212_45]
    rw [if_neg (zif_neg c1), V1.1.2.1]
    by_cases c2 : 0 ≤ y ∧ y ≤ (dH (aPic A p) : Int) - 1
    case neg => rw [b212_18 hj (fun q => absurd (zif_pos c2) q) (fun q => absurd (zif_pos c2) q) (fun q => absurd (zif_pos c2) (fun z => q z |>.elim)) (fun q => absurd (zif_pos c2) (fun z => q z |>.elim)), if_pos (zif_pos c2), b212_45]
    obtain ⟨x, rfl, hx'⟩ := nat_of (m := dW (aPic A p)) (p := x) ⟨c1.1, by omega⟩
    obtain ⟨y, rfl, hy'⟩ := nat_of (m := dH (aPic A p)) (p := y) ⟨c2.1, by omega⟩
    have l1 : y * dW (aPic A p) + x < dN (aPic A p) := pix_lt hx' hy'
    have l2 : y * dW (aPic A p) + (dW (aPic A p) - 1 - x) < dN (aPic A p) := pix_lt (by omega) hy'
    have eA : (y : Int) * (dW (aPic A p) : Int) + (x : Int) = ((y * dW (aPic A p) + x : Nat) : Int) := by
      rw [Int.natCast_add, Int.natCast_mul]
    have eB : (y : Int) * (dW (aPic A p) : Int) + (dW (aPic A p) : Int) - 1 - (x : Int) = ((y * dW (aPic A p) + (dW (aPic A p) - 1 - x) : Nat) : Int) := by
      rw [Int.natCast_add, Int.natCast_mul]; omega
    have t1 := V1.1.th l1
    have t2 := V1.1.th l2
    rw [b212_18 hj (by rw [V1.1.1, eA]; intros; omega) (by rw [V1.1.1, eA]; intros; omega) (by rw [V1.1.1, eB]; intros; omega) (by rw [V1.1.1, eB]; intros; omega), if_neg (zif_neg c2), V1.1.1, eA, eB, Int.toNat_natCast, Int.toNat_natCast]
    by_cases c3 : zw (zb1 (g1 216 (y * dW (aPic A p) + x))) = 0
    · rw [if_pos c3, b212_45]
    · rw [if_neg c3]
      by_cases c4 : zw (zb1 (g1 216 (y * dW (aPic A p) + (dW (aPic A p) - 1 - x)))) = 0
      · rw [if_neg (fun q => q c4), b212_45]
      · exfalso
        refine m ⟨by omega, by omega, by omega, by omega, ?_, ?_⟩
        · rw [Int.toNat_natCast, Int.toNat_natCast]
          cases q : dT (aPic A p) (y * dW (aPic A p) + x)
          · exact absurd (t1.mpr q) c3
          · rfl
        · rw [Int.toNat_natCast, Int.toNat_natCast]
          cases q : dT (aPic A p) (y * dW (aPic A p) + (dW (aPic A p) - 1 - x))
          · exact absurd (t2.mpr q) c4
          · rfl
/-- FringeBenchModel.wideOf -/
theorem m_wof {g : zH} (hM : McT g 0 A) (hA : wfA A) {p : Int} (hp : zint p) : (¬ (0 ≤ p ∧ p < aNp A) → Zx 213 0 [zR 202, zI p] [] (Z0 n) g = some (some (zI (-1)), Z0 n, g)) ∧ (∀ q : Nat, p = (q : Int) → q < aNp A → Zx 213 0 [zR 202, zI p] [] (Z0 n) g = some (some (zI (dW (aPic A q) : Int)), Z0 n, g)) := by
  have np := hA.2.1
  have ip := m_isp (n := n) hM hA hp
  refine ⟨fun c => ?_, fun q e hq => ?_⟩
  · rw [if_neg c] at ip
    rw [b213_0, b213_2 ip (fun q => absurd zw0 q) (fun q => absurd zw0 q), if_pos zw0, b213_12]
  · subst e
    rw [if_pos (by omega)] at ip
    have hP := (hM.2.2.2.1 q hq).1
    rw [show 534 * 0 + 178 * q = 178 * q by omega] at hP
    rw [b213_0, b213_2 ip (by intros; omega) (by intros; omega), if_neg (show ¬ zw 1 = 0 by decide), show ((178 : Int) * (q : Int)).toNat = 178 * q by omega, hP, b213_12]
end FLA
