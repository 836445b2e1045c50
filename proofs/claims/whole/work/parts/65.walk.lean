/-! THE CLASS'S SCENE: the walk -/
theorem bs_0 {W N a b : Nat} : bs W N a 0 = (b : Int) ↔ W ≤ a ∧ (a : Int) - W = b := by
  unfold bs
  rw [if_pos rfl]
  split <;> omega
theorem bs_1 {W N a b : Nat} : bs W N a 1 = (b : Int) ↔ 0 < a % W ∧ (a : Int) - 1 = b := by
  unfold bs
  rw [if_neg (by decide), if_pos rfl]
  split <;> omega
theorem bs_2 {W N a b : Nat} : bs W N a 2 = (b : Int) ↔ a % W + 1 < W ∧ (a : Int) + 1 = b := by
  unfold bs
  rw [if_neg (by decide), if_neg (by decide), if_pos rfl]
  split <;> omega
theorem bs_3 {W N a b : Nat} : bs W N a 3 = (b : Int) ↔ a + W < N ∧ (a : Int) + W = b := by
  unfold bs
  rw [if_neg (by decide), if_neg (by decide), if_neg (by decide)]
  split <;> omega
/-- beside is beside by a side -/
theorem bs_bsd {W H N a b : Nat} (hW : 2 ≤ W ∧ W ≤ 5) (hN : N = W * H) (ha : a < N) : (b < N ∧ bsd W a b = true) ↔ ∃ s, s < 4 ∧ bs W N a s = (b : Int) := by
  have e : (∃ s, s < 4 ∧ bs W N a s = (b : Int)) ↔ (bs W N a 0 = (b : Int) ∨ bs W N a 1 = (b : Int) ∨ bs W N a 2 = (b : Int) ∨ bs W N a 3 = (b : Int)) := by
    constructor
    · rintro ⟨s, h1, h2⟩
      rcases (show s = 0 ∨ s = 1 ∨ s = 2 ∨ s = 3 by omega) with rfl | rfl | rfl | rfl
      · exact Or.inl h2
      · exact Or.inr (Or.inl h2)
      · exact Or.inr (Or.inr (Or.inl h2))
      · exact Or.inr (Or.inr (Or.inr h2))
    · rintro (h | h | h | h)
      · exact ⟨0, by omega, h⟩
      · exact ⟨1, by omega, h⟩
      · exact ⟨2, by omega, h⟩
      · exact ⟨3, by omega, h⟩
  rw [e, bs_0, bs_1, bs_2, bs_3]
  unfold bsd
  rw [decide_eq_true_eq]
  obtain ⟨w1, w2⟩ := hW
  rcases (show W = 2 ∨ W = 3 ∨ W = 4 ∨ W = 5 by omega) with rfl | rfl | rfl | rfl <;> omega
theorem bsd_sym {W a b : Nat} : bsd W a b = bsd W b a := by
  unfold bsd
  congr 1
  apply propext
  constructor <;> omega
theorem bsd_ne {W a : Nat} : bsd W a a = false := by
  unfold bsd
  rw [decide_eq_false_iff_not]
  omega
/-- the sides rise -/
theorem bs_up {W N a s t : Nat} (hW : 2 ≤ W) (hs : s < t) (ht : t < 4) (h1 : bs W N a s ≠ -1) (h2 : bs W N a t ≠ -1) : bs W N a s < bs W N a t := by
  unfold bs at *
  rcases (show s = 0 ∨ s = 1 ∨ s = 2 by omega) with rfl | rfl | rfl <;> rcases (show t = 1 ∨ t = 2 ∨ t = 3 by omega) with rfl | rfl | rfl <;> simp at * <;> (try omega) <;> split at h1 <;> split at h2 <;> simp_all <;> omega
theorem bs_in {W H N a s : Nat} (hW : 2 ≤ W ∧ W ≤ 5) (hN : N = W * H) (ha : a < N) (hs : s < 4) : -1 ≤ bs W N a s ∧ bs W N a s < N ∧ (bs W N a s ≠ -1 → 0 ≤ bs W N a s) := by
  obtain ⟨w1, w2⟩ := hW
  unfold bs
  rcases (show s = 0 ∨ s = 1 ∨ s = 2 ∨ s = 3 by omega) with rfl | rfl | rfl | rfl
  · rw [if_pos rfl]
    split <;> omega
  · rw [if_neg (by decide), if_pos rfl]
    have : a % W ≤ a := Nat.mod_le _ _
    split <;> omega
  · rw [if_neg (by decide), if_neg (by decide), if_pos rfl]
    rcases (show W = 2 ∨ W = 3 ∨ W = 4 ∨ W = 5 by omega) with rfl | rfl | rfl | rfl <;> split <;> omega
  · rw [if_neg (by decide), if_neg (by decide), if_neg (by decide)]
    split <;> omega
/-- a state of the walk: walked, part, parts, height -/
abbrev wS : Type := (Nat → Bool) × (Nat → Int) × Nat × (Nat → Int)
/-- the least walked pixel beside one -/
def wfr (N W : Nat) (P : Nat → Bool) (k : Nat) : Int := fst (fun j => P j && bsd W j k) N
/-- the next pixel -/
def wnx (N W : Nat) (T P : Nat → Bool) : Int := if fst (fun k => T k && !P k && !decide (wfr N W P k = -1)) N = -1 then fst (fun k => T k && !P k) N else fst (fun k => T k && !P k && !decide (wfr N W P k = -1)) N
def wgo (N W : Nat) (F : Nat → Int) (k : Nat) (s : wS) : wS :=
  if wfr N W s.1 k = -1 then (fun j => s.1 j || decide (j = k), fu s.2.1 k (s.2.2.1 : Int), s.2.2.1 + 1, fu s.2.2.2 k (F k))
  else (fun j => s.1 j || decide (j = k), fu s.2.1 k (s.2.1 (wfr N W s.1 k).toNat), s.2.2.1, fu s.2.2.2 k (s.2.2.2 (wfr N W s.1 k).toNat + pdif (wfr N W s.1 k).toNat k (F (wfr N W s.1 k).toNat) (F k)))
def wst (N W : Nat) (T : Nat → Bool) (F : Nat → Int) (s : wS) : Nat → wS
  | 0 => s
  | i + 1 => if wnx N W T (wst N W T F s i).1 = -1 then wst N W T F s i else wgo N W F (wnx N W T (wst N W T F s i).1).toNat (wst N W T F s i)
/-- parts, walked pixels, near pixels put in -/
def hk (o : Nat) (m : Int) (q w P R : Nat → Int) (h : zH) : zH := fun x k => if x = o ∧ k = 6 then m else if x = o + 4 then q k else if x = o + 5 then w k else if x = o + 6 then P k else if x = o + 7 then R k else h x k
section HK
variable {o : Nat} {m x : Int} {q w P R : Nat → Int} {h : zH} {k v : Nat}
theorem hk_4 : hk o m q w P R h (o + 4) k = q k := by
  unfold hk
  rw [if_neg (by omega), if_pos rfl]
theorem hk_5 : hk o m q w P R h (o + 5) k = w k := by
  unfold hk
  rw [if_neg (by omega), if_neg (by omega), if_pos rfl]
theorem hk_6 : hk o m q w P R h (o + 6) k = P k := by
  unfold hk
  rw [if_neg (by omega), if_neg (by omega), if_neg (by omega), if_pos rfl]
theorem hk_7 : hk o m q w P R h (o + 7) k = R k := by
  unfold hk
  rw [if_neg (by omega), if_neg (by omega), if_neg (by omega), if_neg (by omega), if_pos rfl]
theorem hk_m : hk o m q w P R h o 6 = m := by
  unfold hk
  rw [if_pos ⟨rfl, rfl⟩]
theorem hk_o {y : Nat} (g : (y < o + 4 ∨ o + 7 < y) ∧ ¬ (y = o ∧ k = 6)) : hk o m q w P R h y k = h y k := by
  unfold hk
  rw [if_neg g.2, if_neg (by omega), if_neg (by omega), if_neg (by omega), if_neg (by omega)]
theorem zu_hk_4 : zu (hk o m q w P R h) (o + 4) v x = hk o m (fu q v x) w P R h := by
  funext y k
  by_cases q1 : y = o + 4
  · subst q1
    rw [hk_4]
    by_cases q2 : k = v
    · rw [show zu (hk o m q w P R h) (o + 4) v x (o + 4) k = x from if_pos ⟨rfl, q2⟩, q2, fu_same]
    · rw [show zu (hk o m q w P R h) (o + 4) v x (o + 4) k = hk o m q w P R h (o + 4) k from if_neg (fun z => q2 z.2), fu_ne q2, hk_4]
  · rw [show zu (hk o m q w P R h) (o + 4) v x y k = hk o m q w P R h y k from if_neg (fun z => q1 z.1)]
    unfold hk
    simp only [if_neg q1]
theorem zu_hk_5 : zu (hk o m q w P R h) (o + 5) v x = hk o m q (fu w v x) P R h := by
  funext y k
  by_cases q1 : y = o + 5
  · subst q1
    rw [hk_5]
    by_cases q2 : k = v
    · rw [show zu (hk o m q w P R h) (o + 5) v x (o + 5) k = x from if_pos ⟨rfl, q2⟩, q2, fu_same]
    · rw [show zu (hk o m q w P R h) (o + 5) v x (o + 5) k = hk o m q w P R h (o + 5) k from if_neg (fun z => q2 z.2), fu_ne q2, hk_5]
  · rw [show zu (hk o m q w P R h) (o + 5) v x y k = hk o m q w P R h y k from if_neg (fun z => q1 z.1)]
    unfold hk
    simp only [if_neg q1]
theorem zu_hk_6 : zu (hk o m q w P R h) (o + 6) v x = hk o m q w (fu P v x) R h := by
  funext y k
  by_cases q1 : y = o + 6
  · subst q1
    rw [hk_6]
    by_cases q2 : k = v
    · rw [show zu (hk o m q w P R h) (o + 6) v x (o + 6) k = x from if_pos ⟨rfl, q2⟩, q2, fu_same]
    · rw [show zu (hk o m q w P R h) (o + 6) v x (o + 6) k = hk o m q w P R h (o + 6) k from if_neg (fun z => q2 z.2), fu_ne q2, hk_6]
  · rw [show zu (hk o m q w P R h) (o + 6) v x y k = hk o m q w P R h y k from if_neg (fun z => q1 z.1)]
    unfold hk
    simp only [if_neg q1]
theorem zu_hk_7 : zu (hk o m q w P R h) (o + 7) v x = hk o m q w P (fu R v x) h := by
  funext y k
  by_cases q1 : y = o + 7
  · subst q1
    rw [hk_7]
    by_cases q2 : k = v
    · rw [show zu (hk o m q w P R h) (o + 7) v x (o + 7) k = x from if_pos ⟨rfl, q2⟩, q2, fu_same]
    · rw [show zu (hk o m q w P R h) (o + 7) v x (o + 7) k = hk o m q w P R h (o + 7) k from if_neg (fun z => q2 z.2), fu_ne q2, hk_7]
  · rw [show zu (hk o m q w P R h) (o + 7) v x y k = hk o m q w P R h y k from if_neg (fun z => q1 z.1)]
    unfold hk
    simp only [if_neg q1]
theorem zu_hk_m : zu (hk o m q w P R h) o 6 x = hk o x q w P R h := by
  funext y k
  by_cases q1 : y = o ∧ k = 6
  · obtain ⟨rfl, rfl⟩ := q1
    rw [hk_m]
    exact if_pos ⟨rfl, rfl⟩
  · rw [show zu (hk o m q w P R h) o 6 x y k = hk o m q w P R h y k from if_neg q1]
    unfold hk
    simp only [if_neg q1]
theorem hk_cg {m' : Int} {q' w' P' R' : Nat → Int} (h0 : m = m') (h1 : ∀ k, q k = q' k) (h2 : ∀ k, w k = w' k) (h3 : ∀ k, P k = P' k) (h4 : ∀ k, R k = R' k) : hk o m q w P R h = hk o m' q' w' P' R' h := by
  rw [h0, show q = q' from funext h1, show w = w' from funext h2, show P = P' from funext h3, show R = R' from funext h4]
theorem ScC_hk {W H N : Nat} {T : Nat → Bool} {F G : Nat → Int} (hS : ScC h o W H N T F G) : ScC (hk o m q w P R h) o W H N T F G := by
  obtain ⟨s0, s1, s2, s3⟩ := hS
  refine ⟨by rw [hk_o (by omega)]; exact s0, by rw [hk_o (by omega)]; exact s1, by rw [hk_o (by omega)]; exact s2, fun k hk => ?_⟩
  rw [hk_o (by omega), hk_o (by omega), hk_o (by omega)]
  exact s3 k hk
end HK
/-- marks of a Bool function -/
def bar (N : Nat) (A : Nat → Int) (P : Nat → Bool) : Prop := ∀ k, k < N → zb1 (A k) = if P k = true then 1 else 0
theorem bar.z {N : Nat} {A : Nat → Int} {P : Nat → Bool} (h : bar N A P) {k : Nat} (hk : k < N) : zw (zb1 (A k)) = 0 ↔ P k = false := by
  rw [h k hk]
  cases P k
  · simp [zw0]
  · simp [zw1]
theorem fst_skip {p : Nat → Bool} {n : Nat} (h : p n = false) : fst p (n + 1) = fst p n := by
  rw [fst, h]
  split
  · rename_i z; rw [z]; rfl
  · rfl
section WLK
variable {S : zS} {h : zH} {o W H N : Nat} {T : Nat → Bool} {F G : Nat → Int} {P : Nat → Bool}
/-- Scene.nextToWalk -/
theorem s_nxw (hL : LX5 S o) (hS : ScC h o W H N T F G) (hN : N ≤ 25) (hP : bar N (h (o + 6)) P) (hR : bar N (h (o + 7)) (fun k => !decide (wfr N W P k = -1))) : Zx 72 0 [zR o, zN, zN] [] S h = some (some (zI (wnx N W T P)), S, h) := by
  have s2 := hS.2.2.1
  have z1 := zwm1
  have step : ∀ i, i < N → Zx 72 4 [zR o, zI (fst (fun k => T k && !P k) i), zI (i : Int)] [] S h = if (T i && !P i && !decide (wfr N W P i = -1)) = true then some (some (zI (i : Int)), S, h) else Zx 72 4 [zR o, zI (fst (fun k => T k && !P k) (i + 1)), zI ((i + 1 : Nat) : Int)] [] S h := by
    intro i hi
    have ht := hS.th hi
    have hp := hP.z hi
    have hr := hR.z hi
    rw [b72_4 hL (by intros; omega) (by intros; omega) (by intros; omega) (by intros; omega) (by intros; omega) (by intros; omega), s2, zw_nat (by omega), zw_nat (by omega), if_neg (by omega), Int.toNat_natCast]
    cases q : T i
    · rw [if_pos (ht.mpr q), b72_30 hL, fst_skip (by rw [q]; rfl), if_neg (by simp)]
      rfl
    rw [if_neg (fun z => by rw [ht.mp z] at q; cases q)]
    cases q2 : P i
    rotate_left
    · rw [if_pos (fun z => by rw [hp.mp z] at q2; cases q2), b72_30 hL, fst_skip (by rw [q, q2]; rfl), if_neg (by simp)]
      rfl
    rw [if_neg (fun z => z (hp.mpr q2))]
    by_cases q3 : wfr N W P i = -1
    · rw [if_pos (hr.mpr (by simp [q3]))]
      rw [if_neg (show ¬ (true && !false && !decide (wfr N W P i = -1)) = true by simp [q3]), fst, q, q2]
      have fl := fst_lt (p := fun k => T k && !P k) (n := i)
      rcases fst_cases (fun k => T k && !P k) i with ⟨g1, -⟩ | ⟨k, k1, k2, -⟩
      · rw [g1, zwm1, if_neg (fun z => z rfl), b72_30 hL, if_pos rfl]
        rfl
      · rw [k2, zw_nat (by omega), if_pos (by omega), b72_30 hL, if_neg (by omega)]
        rfl
    · rw [if_neg (fun z => by have := hr.mp z; simp [q3] at this), if_pos (by simp [q3])]
  rw [b72_0 hL]
  have ch : ∀ m, m ≤ N → (∀ k, k < m → (T k && !P k && !decide (wfr N W P k = -1)) = false) → Zx 72 4 [zR o, zI (-1), zI 0] [] S h = Zx 72 4 [zR o, zI (fst (fun k => T k && !P k) m), zI (m : Int)] [] S h := fun m hm hk =>
    z_chain (N := m) (X := fun i => Zx 72 4 [zR o, zI (fst (fun k => T k && !P k) i), zI (i : Int)] [] S h) (fun i hi => by
      have := step i (by omega)
      rw [hk i hi] at this
      exact this)
  unfold wnx
  rcases fst_cases (fun k => T k && !P k && !decide (wfr N W P k = -1)) N with ⟨h1, h2⟩ | ⟨k, h1, h2, h3, h4⟩
  · rw [if_pos h1, ch N (Nat.le_refl _) h2]
    rw [b72_4 hL (by intros; omega) (by rw [s2]; intro q; exact absurd (Int.le_refl _) q) (by intros; omega) (by rw [s2]; intro q; exact absurd (Int.le_refl _) q) (by intros; omega) (by rw [s2]; intro q; exact absurd (Int.le_refl _) q), s2, if_pos (Int.le_refl _)]
  · rw [h2, if_neg (by omega), ch k (by omega) h4, step k h1, if_pos h3]
/-- Scene.leastWalkedBeside -/
theorem s_lwb (hL : LX5 S o) (hS : ScC h o W H N T F G) (hw : wfS W H N T F G) (hP : bar N (h (o + 6)) P) {k : Nat} (hk : k < N) : Zx 73 0 [zR o, zI (k : Int), zN, zN] [] S h = some (some (zI (wfr N W P k)), S, h) := by
  have hww := hw
  obtain ⟨w1, ⟨w3, w4⟩, w5, w6, -⟩ := hww
  have z1 := zwm1
  have bi := fun s hs => bs_in (s := s) w1 w5 hk hs
  have step : ∀ s : Nat, s < 4 → Zx 73 2 [zR o, zI (k : Int), zI (s : Int), zN] [] S h = if bs W N k s ≠ -1 ∧ P (bs W N k s).toNat = true then some (some (zI (bs W N k s)), S, h) else Zx 73 2 [zR o, zI (k : Int), zI ((s + 1 : Nat) : Int), zN] [] S h := by
    intro s hs
    obtain ⟨b1, b2, b3⟩ := bi s hs
    rw [b73_2 hL, zw_nat (by omega), if_neg (by omega), b73_8 hL hL (s_bes hL hS hw hk hs) (by intro g; rw [zw_id (by omega) (by omega)] at g; exact b3 g) (by intros; omega), zw_id (by omega) (by omega)]
    by_cases q : bs W N k s = -1
    · rw [if_pos q, b73_20 hL, if_neg (fun z => z.1 q)]
      rfl
    · have hp := hP.z (k := (bs W N k s).toNat) (by have := b3 q; omega)
      rw [if_neg q]
      by_cases q2 : P (bs W N k s).toNat = true
      · rw [if_neg (fun z => by rw [hp.mp z] at q2; cases q2), if_pos ⟨q, q2⟩]
      · rw [if_pos (hp.mpr (by cases z : P (bs W N k s).toNat <;> simp_all)), b73_20 hL, if_neg (fun z => q2 z.2)]
        rfl
  rw [b73_0 hL]
  have ch : ∀ m, m ≤ 4 → (∀ s, s < m → ¬ (bs W N k s ≠ -1 ∧ P (bs W N k s).toNat = true)) → Zx 73 2 [zR o, zI (k : Int), zI 0, zN] [] S h = Zx 73 2 [zR o, zI (k : Int), zI (m : Int), zN] [] S h := fun m hm hk =>
    z_chain (N := m) (X := fun i => Zx 73 2 [zR o, zI (k : Int), zI (i : Int), zN] [] S h) (fun i hi => by
      have := step i (by omega)
      rw [if_neg (hk i hi)] at this
      exact this)
  unfold wfr
  have sd : ∀ j, j < N → (P j && bsd W j k) = true → ∃ s, s < 4 ∧ bs W N k s = (j : Int) ∧ P j = true := by
    intro j hj hb
    rw [Bool.and_eq_true, bsd_sym] at hb
    obtain ⟨s, g1, g2⟩ := (bs_bsd w1 w5 hk).mp ⟨hj, hb.2⟩
    exact ⟨s, g1, g2, hb.1⟩
  rcases fst_cases (fun s => !decide (bs W N k s = -1) && P (bs W N k s).toNat) 4 with ⟨h1, h2⟩ | ⟨s, h1, h2, h3, h4⟩
  · rw [ch 4 (Nat.le_refl _) (fun s hs z => by have := h2 s hs; simp [z.1, z.2] at this), b73_2 hL, if_pos (by decide), fst_none]
    intro j hj
    cases q : (P j && bsd W j k)
    · rfl
    · obtain ⟨s, g1, g2, g3⟩ := sd j hj q
      have := h2 s g1
      rw [g2, Int.toNat_natCast, g3] at this
      simp at this
  · rw [Bool.and_eq_true, Bool.not_eq_true', decide_eq_false_iff_not] at h3
    obtain ⟨b1, b2, b3⟩ := bi s h1
    have b4 := b3 h3.1
    have bb := (bs_bsd (b := (bs W N k s).toNat) w1 w5 hk).mpr ⟨s, h1, by omega⟩
    rw [ch s (by omega) (fun t ht z => by have := h4 t ht; simp [z.1, z.2] at this), step s h1, if_pos ⟨h3.1, h3.2⟩, fst_some (k := (bs W N k s).toNat) (by
      show (P _ && bsd W _ k) = true
      rw [h3.2, bsd_sym, bb.2]; rfl) (fun i hi => by
      cases q : (P i && bsd W i k)
      · rfl
      · obtain ⟨t, g1, g2, g3⟩ := sd i (by omega) q
        exfalso
        by_cases c1 : t < s
        · have := h4 t c1
          rw [g2, Int.toNat_natCast, g3] at this
          simp at this
        · by_cases c2 : t = s
          · subst c2; omega
          · have := bs_up (W := W) (N := N) (a := k) (s := s) (t := t) w1.1 (by omega) g1 h3.1 (by omega)
            omega) bb.1]
    rw [show (((bs W N k s).toNat : Nat) : Int) = bs W N k s by omega]
/-- marks round a pixel -/
def mk4 (W N k : Nat) (R : Nat → Int) : Nat → Nat → Int
  | 0 => R
  | s + 1 => if bs W N k s = -1 then mk4 W N k R s else fu (mk4 W N k R s) (bs W N k s).toNat 1
theorem mk4_e {R : Nat → Int} {k j : Nat} : ∀ s, (mk4 W N k R s j = R j ∧ ∀ t, t < s → bs W N k t ≠ (j : Int)) ∨ (mk4 W N k R s j = 1 ∧ ∃ t, t < s ∧ bs W N k t ≠ -1 ∧ (bs W N k t).toNat = j)
  | 0 => Or.inl ⟨rfl, fun t ht => absurd ht (Nat.not_lt_zero t)⟩
  | s + 1 => by
    rw [mk4]
    by_cases q : bs W N k s = -1
    · rw [if_pos q]
      rcases mk4_e (R := R) (k := k) (j := j) s with ⟨h1, h2⟩ | ⟨h1, t, h2, h3⟩
      · refine Or.inl ⟨h1, fun t ht => ?_⟩
        by_cases c : t = s
        · subst c; omega
        · exact h2 t (by omega)
      · exact Or.inr ⟨h1, t, by omega, h3⟩
    · rw [if_neg q]
      by_cases c : j = (bs W N k s).toNat
      · rw [c, fu_same]
        exact Or.inr ⟨rfl, s, by omega, q, rfl⟩
      · rw [fu_ne c]
        rcases mk4_e (R := R) (k := k) (j := j) s with ⟨h1, h2⟩ | ⟨h1, t, h2, h3⟩
        · refine Or.inl ⟨h1, fun t ht => ?_⟩
          by_cases d : t = s
          · subst d; omega
          · exact h2 t (by omega)
        · exact Or.inr ⟨h1, t, by omega, h3⟩
/-- Scene.markNear -/
theorem s_mkn {m : Int} {q w A R : Nat → Int} (hL : LX5 S o) (hS : ScC h o W H N T F G) (hw : wfS W H N T F G) {k : Nat} (hkN : k < N) : Zx 74 0 [zR o, zI (k : Int), zN, zN] [] S (hk o m q w A R h) = some (none, S, hk o m q w A (mk4 W N k R 4) h) := by
  have hww := hw
  obtain ⟨w1, ⟨w3, w4⟩, w5, w6, -⟩ := hww
  rw [b74_0 hL]
  refine (z_chain (N := 4) (X := fun s => Zx 74 2 [zR o, zI (k : Int), zI (s : Int), zN] [] S (hk o m q w A (mk4 W N k R s) h)) (fun s hs => ?_)).trans ?_
  · obtain ⟨b1, b2, b3⟩ := bs_in (s := s) w1 w5 hkN hs
    show Zx 74 2 _ _ _ _ = Zx 74 2 _ _ _ _
    rw [b74_2 hL, zw_nat (by omega), if_neg (by omega), b74_8 hL hL (s_bes hL (ScC_hk hS) hw hkN hs) (by intro g; rw [zw_id (by omega) (by omega)] at g; exact b3 g) (by intros; omega), zw_id (by omega) (by omega)]
    by_cases c : bs W N k s = -1
    · rw [if_pos c, b74_18 hL, mk4, if_pos c]
      rfl
    · rw [if_neg c, b74_18 hL, mk4, if_neg c, zu_hk_7]
      rfl
  · show Zx 74 2 _ _ _ _ = _
    rw [b74_2 hL, if_pos (by decide)]
end WLK
