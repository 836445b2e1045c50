/-! THE REFERENCE: walk -/
section RWK
variable {n : Nat} {h : zH} {W H N : Nat} {T : Nat → Bool} {F G : Nat → Int} {P : Nat → Bool}
/-- what is walked -/
def WkC (h : zH) (N : Nat) (P : Nat → Bool) (w : Nat → Int) : Prop := ∀ k, k < N → zb1 (h 229 k) = (if P k = true then 1 else 0) ∧ (P k = true → h 228 k = w k)
theorem WkC.th {w : Nat → Int} (hK : WkC h N P w) {k : Nat} (hk : k < N) : zw (zb1 (h 229 k)) = 0 ↔ P k = false := by
  rw [(hK k hk).1]
  cases P k
  · simp [zw0]
  · simp [zw1]
theorem ntw_in {w : Nat → Int} {p k : Nat} (hR : RfC h W H N T F G) (hP : PaC h N W T) (hK : WkC h N P w) (hw : wfS W H N T F G) (hp : p < 25) (hk : k < N) : Zx 185 8 [zR 202, zI (p : Int), zI (k : Int), zI 0] [] (Z0 n) h = if (if T k = true then pP N W T k else -1) = (p : Int) ∧ P k = false ∧ wfr N W P k ≠ -1 then some (some (zI (k : Int)), Z0 n, h) else Zx 185 2 [zR 202, zI (p : Int), zI ((k + 1 : Nat) : Int), zN] [] (Z0 n) h := by
  have h25 := hw.2.2.2.1
  have N0 : 0 < N := by omega
  have qr : zint (if T k = true then pP N W T k else -1) := by
    by_cases tk : T k = true
    · rw [if_pos tk]
      have := pP_in hw hk tk
      exact ⟨by omega, by omega⟩
    · rw [if_neg tk]; exact ⟨by omega, by omega⟩
  have row : ∀ b : Nat, b < N → Zx 185 8 [zR 202, zI (p : Int), zI (k : Int), zI (b : Int)] [] (Z0 n) h = if (if T k = true then pP N W T k else -1) = (p : Int) ∧ P k = false then (if (P b && bsd W b k) = true then some (some (zI (k : Int)), Z0 n, h) else Zx 185 8 [zR 202, zI (p : Int), zI (k : Int), zI ((b + 1 : Nat) : Int)] [] (Z0 n) h) else Zx 185 2 [zR 202, zI (p : Int), zI ((k + 1 : Nat) : Int), zN] [] (Z0 n) h := by
    intro b hb
    have st := b185_8 (n := n) (h := h) (l1 := (p : Int)) (l2 := (k : Int)) (l3 := (b : Int)) (by intros; omega) (by intros; omega) (by intros; omega) (by intros; omega) (by intros; omega) (by intros; omega)
    rw [hR.2.2.1, zw_nat (n := N) (by omega), zw_nat (n := b) (by omega), if_neg (by omega), Int.toNat_natCast, Int.toNat_natCast, hP.2 k hk, qr.e, zw_nat (n := p) (by omega)] at st
    rw [st]
    by_cases c1 : (if T k = true then pP N W T k else -1) = (p : Int)
    case neg => rw [if_pos c1, b185_37, if_neg (fun z => c1 z.1)]; rfl
    rw [if_neg (fun z => z c1)]
    have tk := hK.th hk
    by_cases c2 : zw (zb1 (h 229 k)) = 0
    case neg =>
      rw [if_pos c2, b185_37, if_neg (fun z => c2 (tk.mpr z.2))]; rfl
    rw [if_neg (fun z => z c2), if_pos (show (if T k = true then pP N W T k else -1) = (p : Int) ∧ P k = false from ⟨c1, tk.mp c2⟩)]
    have tb := hK.th hb
    by_cases c3 : zw (zb1 (h 229 b)) = 0
    · rw [if_pos c3, b185_35, if_neg (by rw [tb.mp c3]; exact Bool.noConfusion)]; rfl
    have pb : P b = true := by
      cases z : P b
      · exact absurd (tb.mpr z) c3
      · rfl
    rw [if_neg c3, b185_31 (m_abs (n := n) (h := h) (W := W) hR.1 hw.1 (by omega) (by omega)), pb, Bool.true_and, bsd_sym]
    cases bb : bsd W b k
    · rw [if_pos (show zw (if false = true then (1 : Int) else 0) = 0 by decide), b185_35, if_neg (by decide)]; rfl
    · rw [if_neg (show ¬ zw (if true = true then (1 : Int) else 0) = 0 by decide), if_pos rfl]
  by_cases c : (if T k = true then pP N W T k else -1) = (p : Int) ∧ P k = false
  case neg =>
    have := row 0 N0
    rw [if_neg c] at this
    rw [if_neg (fun z => c ⟨z.1, z.2.1⟩)]
    exact this
  have ch : ∀ m, m ≤ N → (∀ i, i < m → (P i && bsd W i k) = false) → Zx 185 8 [zR 202, zI (p : Int), zI (k : Int), zI 0] [] (Z0 n) h = Zx 185 8 [zR 202, zI (p : Int), zI (k : Int), zI (m : Int)] [] (Z0 n) h := fun m hm hi =>
    z_chain (N := m) (X := fun i => Zx 185 8 [zR 202, zI (p : Int), zI (k : Int), zI (i : Int)] [] (Z0 n) h) (fun i hl => by
      have := row i (by omega)
      rw [if_pos c, hi i hl, if_neg (by decide)] at this
      exact this)
  unfold wfr
  rcases fst_cases (fun j => P j && bsd W j k) N with ⟨h1, h2⟩ | ⟨k', h1, h2, h3, h4⟩
  · rw [h1, if_neg (fun z => z.2.2 rfl), ch N (Nat.le_refl _) h2]
    rw [b185_8 (by rw [hR.2.2.1]; intro q; exact absurd (Int.le_refl _) q) (by rw [hR.2.2.1]; intro q; exact absurd (Int.le_refl _) q) (by rw [hR.2.2.1]; intro q; exact absurd (Int.le_refl _) q) (by rw [hR.2.2.1]; intro q; exact absurd (Int.le_refl _) q) (by rw [hR.2.2.1]; intro q; exact absurd (Int.le_refl _) q) (by rw [hR.2.2.1]; intro q; exact absurd (Int.le_refl _) q), hR.2.2.1, if_pos (Int.le_refl _), b185_37]
    rfl
  · rw [h2, if_pos ⟨c.1, c.2, by omega⟩, ch k' (by omega) h4, row k' h1, if_pos c, if_pos h3]
/-- FringeBenchModel.nextToWalk -/
theorem m_ntw {w : Nat → Int} {p : Nat} (hR : RfC h W H N T F G) (hP : PaC h N W T) (hK : WkC h N P w) (hw : wfS W H N T F G) (hp : p < 25) : Zx 185 0 [zR 202, zI (p : Int), zN, zN] [] (Z0 n) h = some (some (zI (fst (fun k => decide ((if T k = true then pP N W T k else -1) = (p : Int) ∧ P k = false ∧ wfr N W P k ≠ -1)) N)), Z0 n, h) := by
  have h25 := hw.2.2.2.1
  have step : ∀ i : Nat, i < N → Zx 185 2 [zR 202, zI (p : Int), zI (i : Int), zN] [] (Z0 n) h = if decide ((if T i = true then pP N W T i else -1) = (p : Int) ∧ P i = false ∧ wfr N W P i ≠ -1) = true then some (some (zI (i : Int)), Z0 n, h) else Zx 185 2 [zR 202, zI (p : Int), zI ((i + 1 : Nat) : Int), zN] [] (Z0 n) h := by
    intro i hi
    rw [b185_2, hR.2.2.1, zw_nat (by omega), zw_nat (by omega), if_neg (by omega), ntw_in hR hP hK hw hp hi]
    by_cases c : (if T i = true then pP N W T i else -1) = (p : Int) ∧ P i = false ∧ wfr N W P i ≠ -1
    · rw [if_pos c, if_pos (decide_eq_true c)]
    · rw [if_neg c, if_neg (fun z => c (of_decide_eq_true z))]
  rw [b185_0]
  have ch : ∀ m, m ≤ N → (∀ k, k < m → decide ((if T k = true then pP N W T k else -1) = (p : Int) ∧ P k = false ∧ wfr N W P k ≠ -1) = false) → Zx 185 2 [zR 202, zI (p : Int), zI 0, zN] [] (Z0 n) h = Zx 185 2 [zR 202, zI (p : Int), zI (m : Int), zN] [] (Z0 n) h := fun m hm hk =>
    z_chain (N := m) (X := fun i => Zx 185 2 [zR 202, zI (p : Int), zI (i : Int), zN] [] (Z0 n) h) (fun i hi => by
      have := step i (by omega)
      rw [hk i hi, if_neg (by decide)] at this
      exact this)
  rcases fst_cases (fun k => decide ((if T k = true then pP N W T k else -1) = (p : Int) ∧ P k = false ∧ wfr N W P k ≠ -1)) N with ⟨h1, h2⟩ | ⟨k, h1, h2, h3, h4⟩
  · rw [h1, ch N (Nat.le_refl _) h2]
    rw [b185_2, hR.2.2.1, if_pos (Int.le_refl _)]
  · rw [h2, ch k (by omega) h4, step k h1, if_pos h3]
/-- the least of the done ones, looked for from the end -/
def lsf (p : Nat → Bool) (N : Nat) : Nat → Int
  | 0 => -1
  | t + 1 => if p (N - 1 - t) = true then ((N - 1 - t : Nat) : Int) else lsf p N t
theorem lsf_e {p : Nat → Bool} : ∀ t, t ≤ N → (lsf p N t = -1 ∧ ∀ j, N - t ≤ j → j < N → p j = false) ∨ ∃ j, N - t ≤ j ∧ j < N ∧ lsf p N t = (j : Int) ∧ p j = true ∧ ∀ i, N - t ≤ i → i < j → p i = false
  | 0, _ => Or.inl ⟨rfl, fun j h1 h2 => by omega⟩
  | t + 1, ht => by
    unfold lsf
    cases c : p (N - 1 - t)
    · rw [if_neg (by decide)]
      rcases lsf_e (p := p) t (by omega) with ⟨h1, h2⟩ | ⟨j, h1, h2, h3, h4, h5⟩
      · refine Or.inl ⟨h1, fun j j1 j2 => ?_⟩
        by_cases e : j = N - 1 - t
        · rw [e]; exact c
        · exact h2 j (by omega) j2
      · refine Or.inr ⟨j, by omega, h2, h3, h4, fun i i1 i2 => ?_⟩
        by_cases e : i = N - 1 - t
        · rw [e]; exact c
        · exact h5 i (by omega) i2
    · rw [if_pos rfl]
      exact Or.inr ⟨N - 1 - t, by omega, by omega, rfl, c, fun i i1 i2 => by omega⟩
theorem lsf_fst {p : Nat → Bool} : lsf p N N = fst p N := by
  rcases lsf_e (N := N) (p := p) N (Nat.le_refl _) with ⟨h1, h2⟩ | ⟨j, h1, h2, h3, h4, h5⟩
  · rw [h1, fst_none (fun k hk => h2 k (by omega) hk)]
  · rw [h3, fst_some h4 (fun i hi => h5 i (by omega) hi) h2]
theorem lsf_in {p : Nat → Bool} {t : Nat} (ht : t ≤ N) : -1 ≤ lsf p N t ∧ lsf p N t < N := by
  rcases lsf_e (N := N) (p := p) t ht with ⟨h1, h2⟩ | ⟨j, h1, h2, h3, h4, h5⟩ <;> omega
/-- one pixel walked -/
theorem m_wk1 {w : Nat → Int} {p k : Nat} (hR : RfC h W H N T F G) (hK : WkC h N P w) (hw : wfS W H N T F G) (hk : k < N) (hf : wfr N W P k ≠ -1) : Zx 184 39 [zR 202, zI (p : Int), zN, zI (k : Int), zN, zN] [] (Z0 n) h = Zx 184 87 [zR 202, zI (p : Int), zN, zN, zN, zN] [zI (p : Int), zR 202] (Z0 n) (zu (zu h 228 k (w (wfr N W P k).toNat + pdif (wfr N W P k).toNat k (F (wfr N W P k).toNat) (F k))) 229 k 1) := by
  have h25 := hw.2.2.2.1
  have N0 : 0 < N := by omega
  rw [b184_39, zw_nat (by omega), if_neg (by omega), hR.2.2.1]
  have e := z_chain (N := N) (X := fun t => Zx 184 49 [zR 202, zI (p : Int), zN, zI (k : Int), zI (lsf (fun j => P j && bsd W j k) N t), zI ((N : Int) - 1 - (t : Int))] [] (Z0 n) h) (fun t ht => by
    have hj : N - 1 - t < N := by omega
    have en : (N : Int) - 1 - (t : Int) = ((N - 1 - t : Nat) : Int) := by omega
    have en2 : (N : Int) - 1 - (t : Int) + -1 = (N : Int) - 1 - ((t + 1 : Nat) : Int) := by omega
    show Zx 184 49 [zR 202, zI (p : Int), zN, zI (k : Int), zI (lsf (fun j => P j && bsd W j k) N t), zI ((N : Int) - 1 - (t : Int))] [] (Z0 n) h = Zx 184 49 [zR 202, zI (p : Int), zN, zI (k : Int), zI (if (P (N - 1 - t) && bsd W (N - 1 - t) k) = true then ((N - 1 - t : Nat) : Int) else lsf (fun j => P j && bsd W j k) N t), zI ((N : Int) - 1 - ((t + 1 : Nat) : Int))] [] (Z0 n) h
    have st := b184_49 (n := n) (h := h) (l1 := (p : Int)) (l3 := (k : Int)) (l4 := lsf (fun j => P j && bsd W j k) N t) (l5 := ((N - 1 - t : Nat) : Int)) (by rw [zw_nat (by omega)]; intros; omega) (by rw [zw_nat (by omega)]; intros; omega) (by intros; omega) (by intros; omega)
    rw [zw_nat (n := N - 1 - t) (by omega), if_neg (by omega), Int.toNat_natCast] at st
    rw [en2.symm, en, st]
    have tj := hK.th hj
    by_cases c1 : zw (zb1 (h 229 (N - 1 - t))) = 0
    · rw [if_pos c1, b184_63, b184_64, tj.mp c1, Bool.false_and, if_neg (by decide)]
    have pj : P (N - 1 - t) = true := by
      cases z : P (N - 1 - t)
      · exact absurd (tj.mpr z) c1
      · rfl
    rw [if_neg c1, b184_59 (m_abs (n := n) (h := h) (W := W) hR.1 hw.1 (by omega) (by omega)), pj, Bool.true_and]
    cases bb : bsd W (N - 1 - t) k
    · rw [if_pos (show zw (if false = true then (1 : Int) else 0) = 0 by decide), b184_63, b184_64, if_neg (by decide)]
    · rw [if_neg (show ¬ zw (if true = true then (1 : Int) else 0) = 0 by decide), b184_64, if_pos rfl])
  have e1 : (N : Int) - 1 = (N : Int) - 1 - ((0 : Nat) : Int) := by omega
  rw [e1]
  refine Eq.trans e ?_
  show Zx 184 49 [zR 202, zI (p : Int), zN, zI (k : Int), zI (lsf (fun j => P j && bsd W j k) N N), zI ((N : Int) - 1 - (N : Int))] [] (Z0 n) h = _
  rw [lsf_fst, show (N : Int) - 1 - (N : Int) = -1 by omega]
  obtain ⟨j, j1, j2, j3, j4⟩ := wfr_some hf
  have j2' : fst (fun j => P j && bsd W j k) N = (j : Int) := j2
  rw [j2', j2, b184_49 (by rw [zwm1]; intros; omega) (by rw [zwm1]; intros; omega) (fun q => absurd (show zw (-1) < 0 by decide) q) (fun q => absurd (show zw (-1) < 0 by decide) q), zwm1, if_pos (by omega), b184_77 (zcl228 n) (by omega) (hR.dif hw j1 hk) (by intros; omega) (by intros; omega) (by intros; omega) (by intros; omega), Int.toNat_natCast, Int.toNat_natCast, (hK j j1).2 j3]
end RWK
