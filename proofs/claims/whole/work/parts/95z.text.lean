/-! text, in both -/
section TXT
variable {n : Nat} {h : zH} {A : aS}
/-- as OpW, but the row of the reference may change too -/
def frZ (h' h : zH) : Prop := ∀ x k, (x < 202 ∨ x = 237 ∨ (x = 203 ∧ 600 ≤ k) ∨ ((x = 204 ∨ x = 205 ∨ x = 206) ∧ 1 ≤ k) ∨ (x = 207 ∧ 2 ≤ k) ∨ (x = 208 ∧ 534 ≤ k) ∨ (x = 209 ∧ 34 ≤ k)) → h' x k = h x k
def OpX (n m m' : Nat) (L L' : List zV) (A : aS) : Prop := ∃ (v : Int) (B : aS), wfA B ∧ (∀ h, ClS h A → ∃ h', Zx m 0 L [] (Z0 n) h = some (some (zI v), Z0 n, h') ∧ ClS h' B ∧ frX h' h) ∧ ∀ g, McT g 0 A → ∃ g', Zx m' 0 L' [] (Z0 n) g = some (some (zI v), Z0 n, g') ∧ McT g' 0 B ∧ frZ g' g
theorem OpX.S {m m' : Nat} {L L' : List zV} (H : ∀ A, wfA A → OpX n m m' L L' A) : OpS n m m' L L' := fun h A I hS => by
  obtain ⟨hA, S, M, II⟩ := hS
  obtain ⟨v, B, hB, a, b⟩ := H A hA
  obtain ⟨h1, e1, S1, f1⟩ := a h S
  have M1 : McT h1 0 A := M.cg (fun x k q1 q2 => f1 x k (by omega))
  obtain ⟨h2, e2, M2, f2⟩ := b h1 M1
  refine ⟨v, h1, h2, B, I, e1, e2, ⟨hB, S1.cg hB (fun x k q => f2 x k (by omega)), M2, fun i hi => ?_⟩, fun k => f1 0 k (by omega), fun k => (f2 0 k (by omega)).trans (f1 0 k (by omega))⟩
  refine (II i hi).cg hi (fun x k q => ?_)
  rcases q with q | q | q
  · rw [f2 x k (by omega)]; exact f1 x k (by omega)
  · rw [f2 x k (by omega)]; exact f1 x k (by omega)
  · have q2 := q
    unfold inS at q
    rw [f2 x k (by omega)]
    exact f1 x k (by omega)
theorem plcO_in {np nt : Nat} {t p : Int} (hn : np ≤ 3) (hnt : nt ≤ 2) : plcO np nt t p = -2 ∨ ((t = 0 ∧ ∃ k : Nat, plcO np nt t p = (k : Int) ∧ k < 3 ∧ ((p = -1 ∧ k = np) ∨ (p ≠ -1 ∧ p = (k : Int) ∧ k < np))) ∨ (t = 1 ∧ ∃ k : Nat, plcO np nt t p = (k : Int) ∧ k < 2 ∧ ((p = -1 ∧ k = nt) ∨ (p ≠ -1 ∧ p = (k : Int) ∧ k < nt)))) := by
  unfold plcO
  by_cases t0 : t = 0
  · rw [if_pos t0]
    by_cases q : p = -1
    · rw [if_pos q]
      by_cases r : np = 3
      · rw [if_pos r]; left; rfl
      · rw [if_neg r]; right; left; exact ⟨t0, np, rfl, by omega, Or.inl ⟨q, rfl⟩⟩
    · rw [if_neg q]
      by_cases r : 0 ≤ p ∧ p < np
      · rw [if_pos r]; right; left; exact ⟨t0, p.toNat, by omega, by omega, Or.inr ⟨q, by omega, by omega⟩⟩
      · rw [if_neg r]; left; rfl
  rw [if_neg t0]
  by_cases t1 : t = 1
  · rw [if_pos t1]
    by_cases q : p = -1
    · rw [if_pos q]
      by_cases r : nt = 2
      · rw [if_pos r]; left; rfl
      · rw [if_neg r]; right; right; exact ⟨t1, nt, rfl, by omega, Or.inl ⟨q, rfl⟩⟩
    · rw [if_neg q]
      by_cases r : 0 ≤ p ∧ p < nt
      · rw [if_pos r]; right; right; exact ⟨t1, p.toNat, by omega, by omega, Or.inr ⟨q, by omega, by omega⟩⟩
      · rw [if_neg r]; left; rfl
  · rw [if_neg t1]; left; rfl
/-- the state behind a text: refused; a picture; a test -/
def txF (A : aS) (f q : Int) : aS := (0, aByt A, aNp A, aPic A, aNt A, aTri A, f, q)
def txP (A : aS) (p : Nat) (D : pD) (f q : Int) : aS := (0, aByt A, if aNp A < p + 1 then p + 1 else aNp A, fun i => if i = p then D else aPic A i, aNt A, aTri A, f, q)
def txT (A : aS) (p : Nat) (T : tD) (f q : Int) : aS := (0, aByt A, aNp A, aPic A, if aNt A < p + 1 then p + 1 else aNt A, fun i => if i = p then T else aTri A i, f, q)
theorem txF.wf {f q : Int} (hA : wfA A) (hf : zint f) (hq : zint q) : wfA (txF A f q) := ⟨Nat.zero_le _, hA.2.1, hA.2.2.1, hA.2.2.2.1, hA.2.2.2.2.1, hf, hq⟩
theorem txP.wf {p : Nat} {D : pD} {f q : Int} (hA : wfA A) (hp : p < 3) (hpn : p ≤ aNp A) (hD : wfD D) (hf : zint f) (hq : zint q) : wfA (txP A p D f q) := by
  have np := hA.2.1
  refine ⟨Nat.zero_le _, ?_, fun i hi => ?_, hA.2.2.2.1, hA.2.2.2.2.1, hf, hq⟩
  · show (if aNp A < p + 1 then p + 1 else aNp A) ≤ 3
    split <;> omega
  · have hi' : i < (if aNp A < p + 1 then p + 1 else aNp A) := hi
    show wfD (if i = p then D else aPic A i)
    by_cases z : i = p
    · rw [if_pos z]; exact hD
    · rw [if_neg z]
      refine hA.2.2.1 i ?_
      by_cases y : aNp A < p + 1
      · rw [if_pos y] at hi'; omega
      · rw [if_neg y] at hi'; exact hi'
theorem txT.wf {p : Nat} {T : tD} {f q : Int} (hA : wfA A) (hp : p < 2) (hpn : p ≤ aNt A) (hT : wfT T) (hf : zint f) (hq : zint q) : wfA (txT A p T f q) := by
  have nt := hA.2.2.2.1
  refine ⟨Nat.zero_le _, hA.2.1, hA.2.2.1, ?_, fun i hi => ?_, hf, hq⟩
  · show (if aNt A < p + 1 then p + 1 else aNt A) ≤ 2
    split <;> omega
  · have hi' : i < (if aNt A < p + 1 then p + 1 else aNt A) := hi
    show wfT (if i = p then T else aTri A i)
    by_cases z : i = p
    · rw [if_pos z]; exact hT
    · rw [if_neg z]
      refine hA.2.2.2.2.1 i ?_
      by_cases y : aNt A < p + 1
      · rw [if_pos y] at hi'; omega
      · rw [if_neg y] at hi'; exact hi'
theorem ClS.isF {h' : zH} {f q : Int} (hS : ClS h A) (hA : wfA A) (e1 : h' 2 1 = 0) (e6 : h' 2 6 = f) (e7 : h' 2 7 = q) (fr : ∀ x k, ¬ (x = 2 ∧ (k = 1 ∨ k = 6 ∨ k = 7)) → (x < 104 ∨ 113 < x) → h' x k = h x k) : ClS h' (txF A f q) := by
  have np := hA.2.1
  have nt := hA.2.2.2.1
  obtain ⟨⟨-, -, t3, t4, t5, t6, t7, t8⟩, C⟩ := hS
  refine ⟨⟨e1, fun k hk => absurd hk (Nat.not_lt_zero k), by rw [fr _ _ (by omega) (by omega)]; exact t3, fun p hp => ?_, by rw [fr _ _ (by omega) (by omega)]; exact t5, fun t ht => ?_, e6, e7⟩, ?_⟩
  · have hp' : p < aNp A := hp
    exact (t4 p hp).cg2 (fun x k q1 q2 => fr x k (by omega) (by omega))
  · have ht' : t < aNt A := ht
    obtain ⟨u, v⟩ := t6 t ht
    refine ⟨by rw [fr _ _ (by omega) (by omega)]; exact u, fun k hk => ?_⟩
    rw [fr _ _ (by omega) (by omega), fr _ _ (by omega) (by omega)]
    exact v k hk
  · have := C.cg (h' := h') (fun x k q1 q2 => fr x k (by omega) (by omega))
    exact this
theorem ClS.isP {h' : zH} {p : Nat} {D : pD} {f q : Int} (hS : ClS h A) (hA : wfA A) (hp3 : p < 3) (hpn : p ≤ aNp A) (e1 : h' 2 1 = 0) (e6 : h' 2 6 = f) (e7 : h' 2 7 = q) (e3 : h' 2 3 = ((if aNp A < p + 1 then p + 1 else aNp A : Nat) : Int)) (e5 : h' 2 5 = h 2 5) (hP : PiD h' (5 + 5 * p) D) (ec : zb1 (h' 172 p) = 0) (fr : ∀ x k, x ≠ 2 → ¬ (5 + 5 * p ≤ x ∧ x ≤ 9 + 5 * p) → ¬ (x = 172 ∧ k = p) → (x < 104 ∨ 113 < x) → h' x k = h x k) : ClS h' (txP A p D f q) := by
  have np := hA.2.1
  have nt := hA.2.2.2.1
  obtain ⟨⟨-, -, t3, t4, t5, t6, t7, t8⟩, C⟩ := hS
  have old : ∀ i, i < (if aNp A < p + 1 then p + 1 else aNp A) → i ≠ p → i < aNp A := fun i hi z => by
    by_cases y : aNp A < p + 1
    · rw [if_pos y] at hi; omega
    · rw [if_neg y] at hi; exact hi
  refine ⟨⟨e1, fun k hk => absurd hk (Nat.not_lt_zero k), e3, fun i hi => ?_, by rw [e5]; exact t5, fun t ht => ?_, e6, e7⟩, fun i hi => ?_⟩
  · show PiD h' (2 + 3 + 5 * i) (if i = p then D else aPic A i)
    by_cases z : i = p
    · rw [if_pos z, z, show 2 + 3 + 5 * p = 5 + 5 * p by omega]; exact hP
    · rw [if_neg z]
      have hi' := old i hi z
      refine (t4 i hi').cg2 (fun x k q1 q2 => fr x k (by omega) ?_ (by omega) (by omega))
      by_cases y : i < p <;> omega
  · have ht' : t < aNt A := ht
    obtain ⟨u, v⟩ := t6 t ht
    refine ⟨by rw [fr _ _ (by omega) (by omega) (by omega) (by omega)]; exact u, fun k hk => ?_⟩
    rw [fr _ _ (by omega) (by omega) (by omega) (by omega), fr _ _ (by omega) (by omega) (by omega) (by omega)]
    exact v k hk
  · by_cases z : i = p
    · left; rw [z]; exact ec
    · rw [fr 172 i (by omega) (by omega) (by omega) (by omega)]
      rcases C i hi with y | ⟨y1, y2, y3⟩
      · exact Or.inl y
      · right
        have ex : aPic (txP A p D f q) i = aPic A i := if_neg z
        rw [ex]
        refine ⟨y1, ?_, y3.cg2 (fun x k q1 q2 => fr x k (by omega) (by omega) (by omega) (by omega))⟩
        show i < (if aNp A < p + 1 then p + 1 else aNp A)
        split <;> omega
theorem ClS.isT {h' : zH} {p : Nat} {T : tD} {f q : Int} (hS : ClS h A) (hA : wfA A) (hp2 : p < 2) (hpn : p ≤ aNt A) (e1 : h' 2 1 = 0) (e6 : h' 2 6 = f) (e7 : h' 2 7 = q) (e5 : h' 2 5 = ((if aNt A < p + 1 then p + 1 else aNt A : Nat) : Int)) (e3 : h' 2 3 = h 2 3) (hT : TrC h' (21 + 3 * p) T) (fr : ∀ x k, x ≠ 2 → ¬ (21 + 3 * p ≤ x ∧ x ≤ 23 + 3 * p) → (x < 104 ∨ 113 < x) → h' x k = h x k) : ClS h' (txT A p T f q) := by
  have np := hA.2.1
  have nt := hA.2.2.2.1
  obtain ⟨⟨-, -, t3, t4, t5, t6, t7, t8⟩, C⟩ := hS
  have old : ∀ i, i < (if aNt A < p + 1 then p + 1 else aNt A) → i ≠ p → i < aNt A := fun i hi z => by
    by_cases y : aNt A < p + 1
    · rw [if_pos y] at hi; omega
    · rw [if_neg y] at hi; exact hi
  refine ⟨⟨e1, fun k hk => absurd hk (Nat.not_lt_zero k), by rw [e3]; exact t3, fun i hi => ?_, e5, fun i hi => ?_, e6, e7⟩, ?_⟩
  · have hi' : i < aNp A := hi
    exact (t4 i hi).cg2 (fun x k q1 q2 => fr x k (by omega) (by omega) (by omega))
  · show TrC h' (2 + 19 + 3 * i) (if i = p then T else aTri A i)
    by_cases z : i = p
    · rw [if_pos z, z, show 2 + 19 + 3 * p = 21 + 3 * p by omega]; exact hT
    · rw [if_neg z]
      have hi' := old i hi z
      obtain ⟨u, v⟩ := t6 i hi'
      have o : ∀ x, 2 + 19 + 3 * i ≤ x → x ≤ 2 + 19 + 3 * i + 2 → ¬ (21 + 3 * p ≤ x ∧ x ≤ 23 + 3 * p) := fun x q1 q2 => by
        by_cases y : i < p <;> omega
      refine ⟨by rw [fr _ _ (by omega) (o _ (by omega) (by omega)) (by omega)]; exact u, fun k hk => ?_⟩
      rw [fr _ _ (by omega) (o _ (by omega) (by omega)) (by omega), fr _ _ (by omega) (o _ (by omega) (by omega)) (by omega)]
      exact v k hk
  · have := C.cg (h' := h') (fun x k q1 q2 => fr x k (by omega) (by omega) (by omega))
    exact this
end TXT
