/-! THE SMALL MACHINE IS SOUND: values and locals -/
def zt (ad : Nat → Nat) (v : zV) : Value := match v with
  | .inl z => .int (Int32.ofInt z)
  | .inr (.inl z) => .long (Int64.ofInt z)
  | .inr (.inr (some o)) => .ref (ad o)
  | .inr (.inr none) => .null
theorem zt_cat (ad : Nat → Nat) (v : zV) : (zt ad v).category = if zwide v = true then 2 else 1 := by
  rcases v with z | z | _ | o <;> rfl
theorem zt_cat1 {ad : Nat → Nat} {v : zV} (h : zwide v = false) : (zt ad v).category = 1 := by
  rw [zt_cat, h]; rfl
/-- the real locals hold what is known of them -/
def zLs (ad : Nat → Nat) (L : List zV) (ls : Array Slot) : Prop := ls.size = L.length ∧ lv_wf ls ∧ ∀ (k : Nat) (v : zV), L[k]? = some v → v ≠ zN → ls[k]? = some (.val (zt ad v))
theorem zkill_len : ∀ (bs : List Bool) (L : List zV), (zkill bs L).length = L.length
  | [], L => by simp [zkill]
  | true :: bs, [] => by simp [zkill]
  | false :: bs, [] => by simp [zkill]
  | true :: bs, v :: vs => by simp [zkill, zkill_len bs vs]
  | false :: bs, v :: vs => by simp [zkill, zkill_len bs vs]
theorem zkill_get : ∀ (bs : List Bool) (L : List zV) (k : Nat) (v : zV), (zkill bs L)[k]? = some v → v ≠ zN → L[k]? = some v
  | [], L, k, v, h, _ => by simpa [zkill] using h
  | true :: bs, [], k, v, h, _ => by simp [zkill] at h
  | false :: bs, [], k, v, h, _ => by simp [zkill] at h
  | true :: bs, w :: ws, 0, v, h, _ => by simpa [zkill] using h
  | false :: bs, w :: ws, 0, v, h, hn => by
    simp [zkill] at h
    exact absurd h.symm hn
  | true :: bs, w :: ws, k + 1, v, h, hn => by
    have h' : (zkill bs ws)[k]? = some v := by simpa [zkill] using h
    simpa using zkill_get bs ws k v h' hn
  | false :: bs, w :: ws, k + 1, v, h, hn => by
    have h' : (zkill bs ws)[k]? = some v := by simpa [zkill] using h
    simpa using zkill_get bs ws k v h' hn
theorem zLs.kill {ad : Nat → Nat} {L : List zV} {ls : Array Slot} (h : zLs ad L ls) (bs : List Bool) : zLs ad (zkill bs L) ls :=
  ⟨by rw [zkill_len]; exact h.1, h.2.1, fun k v hk hn => h.2.2 k v (zkill_get bs L k v hk hn) hn⟩
theorem zset_len : ∀ (i : Nat) (v : zV) (L : List zV), (zset i v L).length = L.length
  | 0, v, [] => rfl
  | 1, v, [] => rfl
  | n + 2, v, [] => rfl
  | 0, v, x :: vs => rfl
  | 1, v, x :: vs => by simp [zset, zset_len 0 v vs]
  | n + 2, v, x :: vs => by simp [zset, zset_len (n + 1) v vs]
theorem zset_get : ∀ (i : Nat) (v : zV) (L : List zV) (k : Nat) (w : zV), (zset i v L)[k]? = some w → w ≠ zN → (k = i ∧ w = v) ∨ (k ≠ i ∧ L[k]? = some w ∧ ¬ (k + 1 = i ∧ zwide w = true))
  | 0, v, [], k, w, h, _ => by simp [zset] at h
  | 1, v, [], k, w, h, _ => by simp [zset] at h
  | n + 2, v, [], k, w, h, _ => by simp [zset] at h
  | 0, v, x :: vs, 0, w, h, hn => by
    simp [zset] at h
    exact Or.inl ⟨rfl, h.symm⟩
  | 0, v, x :: vs, k + 1, w, h, hn => by
    refine Or.inr ⟨by omega, ?_, by omega⟩
    simpa [zset] using h
  | 1, v, x :: vs, 0, w, h, hn => by
    simp only [zset, List.getElem?_cons_zero, Option.some.injEq] at h
    by_cases hx : zwide x = true
    · rw [if_pos hx] at h
      exact absurd h.symm hn
    · rw [if_neg hx] at h
      subst h
      exact Or.inr ⟨by omega, by simp, fun q => hx q.2⟩
  | 1, v, x :: vs, k + 1, w, h, hn => by
    have h' : (zset 0 v vs)[k]? = some w := by simpa [zset] using h
    rcases zset_get 0 v vs k w h' hn with ⟨a, b⟩ | ⟨a, b, c⟩
    · exact Or.inl ⟨by omega, b⟩
    · exact Or.inr ⟨by omega, by simpa using b, fun q => by omega⟩
  | n + 2, v, x :: vs, 0, w, h, hn => by
    refine Or.inr ⟨by omega, ?_, by omega⟩
    simpa [zset] using h
  | n + 2, v, x :: vs, k + 1, w, h, hn => by
    have h' : (zset (n + 1) v vs)[k]? = some w := by simpa [zset] using h
    rcases zset_get (n + 1) v vs k w h' hn with ⟨a, b⟩ | ⟨a, b, c⟩
    · exact Or.inl ⟨by omega, b⟩
    · exact Or.inr ⟨by omega, by simpa using b, fun q => c ⟨by omega, q.2⟩⟩
/-- the known locals as a list -/
def zlv (ad : Nat → Nat) (L : List zV) : List (Nat × Value) := (List.range L.length).filterMap fun k => match L[k]? with
  | some v => if v = zN then none else some (k, zt ad v)
  | none => none
theorem zlv_mem {ad : Nat → Nat} {L : List zV} {q : Nat × Value} : q ∈ zlv ad L ↔ ∃ v, L[q.1]? = some v ∧ v ≠ zN ∧ q.2 = zt ad v := by
  unfold zlv
  rw [List.mem_filterMap]
  constructor
  · rintro ⟨k, hk, h⟩
    split at h
    · rename_i v hv
      split at h
      · cases h
      · rename_i hn
        cases h
        exact ⟨v, hv, hn, rfl⟩
    · cases h
  · rintro ⟨v, hv, hn, h⟩
    refine ⟨q.1, List.mem_range.mpr (List.getElem?_eq_some_iff.mp hv).1, ?_⟩
    simp only [hv, if_neg hn]
    rw [← h]
theorem zLs.has {ad : Nat → Nat} {L : List zV} {ls : Array Slot} (h : zLs ad L ls) : lv_has ls L.length (zlv ad L) := by
  refine ⟨h.1, h.2.1, fun q hq => ?_⟩
  obtain ⟨v, hv, hn, e⟩ := zlv_mem.mp hq
  rw [e]
  exact h.2.2 _ v hv hn
theorem zLs.stored {ad : Nat → Nat} {L : List zV} {ls' : Array Slot} {i : Nat} {v : zV} (hv : lv_has ls' L.length ((i, zt ad v) :: (zlv ad L).filter (fun q => !(q.1 == i) && !(q.1 + 1 == i && q.2.category == 2)))) : zLs ad (zset i v L) ls' := by
  refine ⟨by rw [zset_len]; exact hv.1, hv.2.1, fun k w hk hn => ?_⟩
  rcases zset_get i v L k w hk hn with ⟨a, b⟩ | ⟨a, b, c⟩
  · subst a; subst b
    exact hv.2.2 (k, zt ad w) List.mem_cons_self
  · refine hv.2.2 (k, zt ad w) (List.mem_cons_of_mem _ (List.mem_filter.mpr ⟨zlv_mem.mpr ⟨w, b, hn, rfl⟩, ?_⟩))
    have h1 : (k == i) = false := by simpa using a
    by_cases hw : zwide w = true
    · have h2 : (k + 1 == i) = false := by
        simp only [beq_eq_false_iff_ne, ne_eq]
        exact fun q => c ⟨q, hw⟩
      simp [h1, h2]
    · have h3 : (zt ad w).category = 1 := zt_cat1 (by simpa using hw)
      simp [h1, h3]
theorem zLs.stored2 {ad : Nat → Nat} {L : List zV} {ls' : Array Slot} {i : Nat} {v : zV} (hv : lv_has ls' L.length ((i, zt ad v) :: (zlv ad L).filter (fun q => !(q.1 == i) && (!(q.1 == i + 1) && !(q.1 + 1 == i && q.2.category == 2))))) : zLs ad (zset2 i v L) ls' := by
  refine ⟨by unfold zset2; rw [zset_len, zset_len]; exact hv.1, hv.2.1, fun k w hk hn => ?_⟩
  rcases zset_get i v _ k w hk hn with ⟨a, b⟩ | ⟨a, b, c⟩
  · subst a; subst b
    exact hv.2.2 (k, zt ad w) List.mem_cons_self
  · rcases zset_get (i + 1) zN L k w b hn with ⟨a2, b2⟩ | ⟨a2, b2, c2⟩
    · exact absurd b2 hn
    · refine hv.2.2 (k, zt ad w) (List.mem_cons_of_mem _ (List.mem_filter.mpr ⟨zlv_mem.mpr ⟨w, b2, hn, rfl⟩, ?_⟩))
      have h1 : (k == i) = false := by simpa using a
      have h0 : (k == i + 1) = false := by simpa using a2
      by_cases hw : zwide w = true
      · have h2 : (k + 1 == i) = false := by
          simp only [beq_eq_false_iff_ne, ne_eq]
          exact fun q => c ⟨q, hw⟩
        simp [h1, h0, h2]
      · have h3 : (zt ad w).category = 1 := zt_cat1 (by simpa using hw)
        simp [h1, h0, h3]
/-- numbers -/
theorem zw_toInt (z : Int) : (Int32.ofInt z).toInt = zw z := Int32.toInt_ofInt
theorem zwl_toInt (z : Int) : (Int64.ofInt z).toInt = zwl z := Int64.toInt_ofInt
theorem zw_of (x : Int32) : zw x.toInt = x.toInt := by
  rw [← zw_toInt, Int32.ofInt_toInt]
theorem zw_ofInt (z : Int) : Int32.ofInt (zw z) = Int32.ofInt z := by
  rw [← zw_toInt, Int32.ofInt_toInt]
theorem zw_lo (z : Int) : -2147483648 ≤ zw z := by
  have := Int32.le_toInt (Int32.ofInt z)
  rw [zw_toInt] at this; omega
theorem zw_hi (z : Int) : zw z < 2147483648 := by
  have := Int32.toInt_lt (Int32.ofInt z)
  rw [zw_toInt] at this; omega
theorem zw_id {z : Int} (h1 : -2147483648 ≤ z) (h2 : z < 2147483648) : zw z = z := by
  rw [← zw_toInt]
  exact Int32.toInt_ofInt_of_le (by omega) (by omega)
theorem zt_eqz {z : Int} : Int32.ofInt z = 0 ↔ zw z = 0 := by
  rw [← Int32.toInt_inj, zw_toInt]; rfl
theorem zt_eq {a b : Int} : Int32.ofInt a = Int32.ofInt b ↔ zw a = zw b := by
  rw [← Int32.toInt_inj, zw_toInt, zw_toInt]
theorem zt_lt {a b : Int} : Int32.ofInt a < Int32.ofInt b ↔ zw a < zw b := by
  rw [Int32.lt_iff_toInt_lt, zw_toInt, zw_toInt]
theorem zt_le {a b : Int} : Int32.ofInt a ≤ Int32.ofInt b ↔ zw a ≤ zw b := by
  rw [Int32.le_iff_toInt_le, zw_toInt, zw_toInt]
theorem zt_lt0 {a : Int} : Int32.ofInt a < 0 ↔ zw a < 0 := by
  rw [Int32.lt_iff_toInt_lt, zw_toInt]; rfl
theorem zt_le0 {a : Int} : 0 ≤ Int32.ofInt a ↔ 0 ≤ zw a := by
  rw [Int32.le_iff_toInt_le, zw_toInt]; rfl
theorem zt_gt0 {a : Int} : 0 < Int32.ofInt a ↔ 0 < zw a := by
  rw [Int32.lt_iff_toInt_lt, zw_toInt]; rfl
theorem zt_ge0 {a : Int} : Int32.ofInt a ≤ 0 ↔ zw a ≤ 0 := by
  rw [Int32.le_iff_toInt_le, zw_toInt]; rfl
theorem zidx_some {z : Int} {n j : Nat} (h : zidx z n = some j) : 0 ≤ zw z ∧ zw z < n ∧ j = (zw z).toNat := by
  unfold zidx at h
  split at h
  · rename_i q
    cases h
    exact ⟨q.1, q.2, rfl⟩
  · cases h
theorem zt_clamp (z : Int) : (Int32.ofInt z).toNatClampNeg = (zw z).toNat := by
  rw [← zw_toInt]; rfl
theorem zidx_in {z : Int} {n j : Nat} (h : zidx z n = some j) : vp_in (Int32.ofInt z) n ∧ (Int32.ofInt z).toNatClampNeg = j ∧ j < n := by
  obtain ⟨h1, h2, h3⟩ := zidx_some h
  have h4 : (zw z).toNat < n := by omega
  refine ⟨?_, by rw [zt_clamp, h3], by omega⟩
  rintro (q | q)
  · rw [zt_lt0] at q; omega
  · rw [zt_clamp] at q; omega
theorem zdiv_of {a b : Int} (hb : ¬ zw b = 0) : Int32.ofInt a / Int32.ofInt b = Int32.ofInt (Int.tdiv (zw a) (zw b)) := by
  rw [← Int32.toInt_inj, Int32.toInt_div, zw_toInt, zw_toInt, Int32.toInt_ofInt]
theorem zrem_of {a b : Int} (hb : ¬ zw b = 0) : Int32.ofInt a - Int32.ofInt a / Int32.ofInt b * Int32.ofInt b = Int32.ofInt (Int.tmod (zw a) (zw b)) := by
  rw [zdiv_of hb]
  rw [← zw_ofInt a, ← zw_ofInt b, ← Int32.ofInt_mul, ← Int32.ofInt_sub]
  congr 1
  have := Int.mul_tdiv_add_tmod (zw a) (zw b)
  rw [Int.mul_comm] at this
  omega
