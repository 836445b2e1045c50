/-! COSTS AND TURNS: what they are, and what the class's flow has to do with them -/
section JLM
variable {N W H : Nat} {T : Nat → Bool} {F G : Nat → Int}
theorem jl_mem (hW : 2 ≤ W ∧ W ≤ 5) (hN : N = W * H) {a b : Nat} : ∀ n, n ≤ N → (a, b) ∈ jl N W T n → a < b ∧ b < N ∧ T a = true ∧ T b = true ∧ bsd W a b = true
  | 0, _, h => by cases h
  | n + 1, hn, h => by
    rw [jl, List.mem_append, List.mem_append] at h
    rcases h with (h | h) | h
    · exact jl_mem hW hN n (by omega) h
    · unfold jr at h
      by_cases q : n % W + 1 < W ∧ T n = true ∧ T (n + 1) = true
      · rw [if_pos q, List.mem_singleton] at h
        obtain ⟨rfl, rfl⟩ := Prod.mk.inj h
        refine ⟨by omega, ?_, q.2.1, q.2.2, ?_⟩
        · obtain ⟨w1, w2⟩ := hW
          have q1 := q.1
          rcases (show W = 2 ∨ W = 3 ∨ W = 4 ∨ W = 5 by omega) with rfl | rfl | rfl | rfl <;> omega
        · unfold bsd
          rw [decide_eq_true_eq]
          obtain ⟨w1, w2⟩ := hW
          have q1 := q.1
          rcases (show W = 2 ∨ W = 3 ∨ W = 4 ∨ W = 5 by omega) with rfl | rfl | rfl | rfl <;> omega
      · rw [if_neg q] at h; cases h
    · unfold jd at h
      by_cases q : n + W < N ∧ T n = true ∧ T (n + W) = true
      · rw [if_pos q, List.mem_singleton] at h
        obtain ⟨rfl, rfl⟩ := Prod.mk.inj h
        refine ⟨by omega, q.1, q.2.1, q.2.2, ?_⟩
        unfold bsd
        rw [decide_eq_true_eq]
        obtain ⟨w1, w2⟩ := hW
        rcases (show W = 2 ∨ W = 3 ∨ W = 4 ∨ W = 5 by omega) with rfl | rfl | rfl | rfl <;> omega
      · rw [if_neg q] at h; cases h
theorem jl_mono {x : Nat × Nat} {n : Nat} (h : x ∈ jl N W T n) : ∀ m, x ∈ jl N W T (n + m)
  | 0 => h
  | m + 1 => by
    show x ∈ jl N W T (n + m) ++ jr W T (n + m) ++ jd N W T (n + m)
    rw [List.mem_append, List.mem_append]
    exact Or.inl (Or.inl (jl_mono h m))
theorem jl_has (hW : 2 ≤ W ∧ W ≤ 5) {a b : Nat} (hb : b < N) (hab : a < b) (ta : T a = true) (tb : T b = true) (h : bsd W a b = true) : (a, b) ∈ jl N W T N := by
  have e : (b = a + 1 ∧ a % W + 1 < W) ∨ b = a + W := by
    unfold bsd at h
    rw [decide_eq_true_eq] at h
    obtain ⟨w1, w2⟩ := hW
    rcases (show W = 2 ∨ W = 3 ∨ W = 4 ∨ W = 5 by omega) with rfl | rfl | rfl | rfl <;> omega
  have m : (a, b) ∈ jl N W T (a + 1) := by
    show (a, b) ∈ jl N W T a ++ jr W T a ++ jd N W T a
    rw [List.mem_append, List.mem_append]
    rcases e with ⟨rfl, e2⟩ | rfl
    · refine Or.inl (Or.inr ?_)
      unfold jr
      rw [if_pos ⟨e2, ta, tb⟩]
      exact List.mem_singleton.mpr rfl
    · refine Or.inr ?_
      unfold jd
      rw [if_pos ⟨hb, ta, tb⟩]
      exact List.mem_singleton.mpr rfl
  have := jl_mono m (N - (a + 1))
  rw [show a + 1 + (N - (a + 1)) = N by omega] at this
  exact this
/-- the joints by number -/
def jf (L : List (Nat × Nat)) (j : Nat) : Nat := (L[j]?.getD (0, 0)).1
def jt (L : List (Nat × Nat)) (j : Nat) : Nat := (L[j]?.getD (0, 0)).2
theorem jl_at {L : List (Nat × Nat)} {j : Nat} (h : j < L.length) : L[j]? = some (jf L j, jt L j) ∧ (jf L j, jt L j) ∈ L := by
  have e := List.getElem?_eq_getElem h
  have f : L[j]? = some (jf L j, jt L j) := by
    unfold jf jt
    rw [e]
    rfl
  exact ⟨f, List.mem_of_getElem? f⟩
theorem jl_in {L : List (Nat × Nat)} {x : Nat × Nat} (h : x ∈ L) : ∃ j, j < L.length ∧ x = (jf L j, jt L j) := by
  obtain ⟨j, hj, e⟩ := List.getElem_of_mem h
  refine ⟨j, hj, ?_⟩
  have := (jl_at hj).1
  rw [List.getElem?_eq_getElem hj, e] at this
  exact Option.some.inj this
/-- the joints of a scene -/
abbrev scJ (N W : Nat) (T : Nat → Bool) : Nat := (jl N W T N).length
abbrev scf (N W : Nat) (T : Nat → Bool) : Nat → Nat := jf (jl N W T N)
abbrev sct (N W : Nat) (T : Nat → Bool) : Nat → Nat := jt (jl N W T N)
def scu (N W : Nat) (T : Nat → Bool) (G : Nat → Int) (j : Nat) : Int := jdv G (scf N W T j) (sct N W T j)
def scc (N W : Nat) (T : Nat → Bool) (F : Nat → Int) (j : Nat) : Int := jcv F (pW N W T F) (scf N W T j) (sct N W T j)
/-- how far off the phases of a joint are, in turns -/
def ofv (F : Nat → Int) (a b : Nat) : Int := Int.tdiv (F b - F a - pdif a b (F a) (F b)) 400
/-- the turns of the walk -/
def tw (N W : Nat) (T : Nat → Bool) (F : Nat → Int) (k : Nat) : Int := Int.tdiv (pW N W T F k - F k) 400
theorem sc_at (hw : wfS W H N T F G) {j : Nat} (hj : j < scJ N W T) : scf N W T j < sct N W T j ∧ sct N W T j < N ∧ T (scf N W T j) = true ∧ T (sct N W T j) = true ∧ bsd W (scf N W T j) (sct N W T j) = true :=
  jl_mem hw.1 hw.2.2.1 N (Nat.le_refl _) (jl_at hj).2
theorem wfS.f (hw : wfS W H N T F G) : ∀ k, k < N → T k = true → 0 ≤ F k ∧ F k < 400 := fun k hk tk => ⟨(hw.2.2.2.2 k hk).2.1 tk, (hw.2.2.2.2 k hk).1.2⟩
theorem tw_e (hw : wfS W H N T F G) {k : Nat} (hk : k < N) (tk : T k = true) : pW N W T F k = F k + 400 * tw N W T F k ∧ -30 ≤ tw N W T F k ∧ tw N W T F k ≤ 30 := by
  have f := hw.f k hk tk
  obtain ⟨⟨t, e⟩, b1, b2⟩ := pW_in (W := W) hw.2.2.2.1 hw.f hk tk
  have : tw N W T F k = t := by
    unfold tw
    rw [e, show F k + 400 * t - F k = 400 * t by omega]
    exact Int.mul_tdiv_cancel_left t (by decide)
  rw [this]
  omega
theorem ofv_e {a b : Nat} : pdif a b (F a) (F b) = F b - F a - 400 * ofv F a b := by
  obtain ⟨t, e⟩ := pdif_mod (a := a) (b := b) (x := F a) (y := F b)
  have : ofv F a b = -t := by
    unfold ofv
    rw [e, show F b - F a - (F b - F a + 400 * t) = 400 * (-t) by omega]
    exact Int.mul_tdiv_cancel_left (-t) (by decide)
  rw [this]
  omega
theorem scc_e (hw : wfS W H N T F G) {j : Nat} (hj : j < scJ N W T) : scc N W T F j = -(ofv F (scf N W T j) (sct N W T j)) - (tw N W T F (sct N W T j) - tw N W T F (scf N W T j)) ∧ -1000 ≤ scc N W T F j ∧ scc N W T F j ≤ 1000 := by
  obtain ⟨a1, a2, a3, a4, a5⟩ := sc_at hw hj
  obtain ⟨e1, b1⟩ := tw_e hw (show scf N W T j < N by omega) a3
  obtain ⟨e2, b2⟩ := tw_e hw a2 a4
  have e3 := ofv_e (F := F) (a := scf N W T j) (b := sct N W T j)
  have p := pdif_200 (a := scf N W T j) (b := sct N W T j) (hw.f _ (by omega) a3) (hw.f _ a2 a4)
  have f1 := hw.f _ (show scf N W T j < N by omega) a3
  have f2 := hw.f _ a2 a4
  have : scc N W T F j = -(ofv F (scf N W T j) (sct N W T j)) - (tw N W T F (sct N W T j) - tw N W T F (scf N W T j)) := by
    unfold scc jcv
    rw [e1, e2, e3]
    generalize ofv F (scf N W T j) (sct N W T j) = x
    generalize tw N W T F (scf N W T j) = y
    generalize tw N W T F (sct N W T j) = z
    generalize F (scf N W T j) = r
    generalize F (sct N W T j) = s
    rw [show s - r - 400 * x - (s + 400 * z - (r + 400 * y)) = 400 * (-x - (z - y)) by omega]
    exact Int.mul_tdiv_cancel_left _ (by decide)
  refine ⟨this, ?_⟩
  rw [this]
  omega
theorem scu_in (hw : wfS W H N T F G) {j : Nat} (hj : j < scJ N W T) : 1 ≤ scu N W T G j ∧ scu N W T G j ≤ 9 := by
  obtain ⟨a1, a2, -⟩ := sc_at hw hj
  obtain ⟨-, -, g1, g2⟩ := hw.2.2.2.2 (scf N W T j) (by omega)
  obtain ⟨-, -, g3, g4⟩ := hw.2.2.2.2 (sct N W T j) a2
  unfold scu jdv
  split <;> omega
/-- what the class's joints are -/
theorem JoC_of {h : zH} {o : Nat} {A B C D : Nat → Int} (hw : wfS W H N T F G) (hn : h (o + 1) 2 = N) (hJ : JH F G (pW N W T F) (jl N W T N) A B C D) : JoC (hj o (scJ N W T : Int) A B C D h) o N (scJ N W T) (scf N W T) (sct N W T) (scu N W T G) (scc N W T F) := by
  refine ⟨by rw [hj_o (by omega)]; exact hn, hw.2.2.2.1, hj_m, jl_40 hw.1 hw.2.1 hw.2.2.1, fun j hj => ?_⟩
  obtain ⟨g1, g2, g3, g4⟩ := hJ j _ _ (jl_at hj).1
  obtain ⟨a1, a2, -⟩ := sc_at hw hj
  rw [hj_11, hj_12, hj_13, hj_14]
  exact ⟨g1, g2, g3, g4, by omega, a2, scu_in hw hj, (scc_e hw hj).2⟩
/-- the cost of turns -/
def tco (N W : Nat) (T : Nat → Bool) (F G : Nat → Int) (x : Nat → Int) : Int := su (fun j => scu N W T G j * ab (x (sct N W T j) - x (scf N W T j) + ofv F (scf N W T j) (sct N W T j))) (scJ N W T)
theorem tco_co (hw : wfS W H N T F G) {x : Nat → Int} : tco N W T F G x = co (scJ N W T) (scf N W T) (sct N W T) (scu N W T G) (scc N W T F) (fun k => x k - tw N W T F k) := by
  unfold tco co
  refine su_congr (fun j hj => ?_)
  have e := (scc_e hw hj).1
  show _ = scu N W T G j * ab (x (sct N W T j) - tw N W T F (sct N W T j) - (x (scf N W T j) - tw N W T F (scf N W T j)) - scc N W T F j)
  rw [e]
  congr 2
  omega
/-- the least cost -/
def isC (N W : Nat) (T : Nat → Bool) (F G : Nat → Int) (z : Int) : Prop := (∃ x, tco N W T F G x = z) ∧ ∀ x, z ≤ tco N W T F G x
theorem isC.uniq {z z' : Int} (h : isC N W T F G z) (h' : isC N W T F G z') : z = z' := by
  obtain ⟨⟨x, e⟩, a⟩ := h
  obtain ⟨⟨x', e'⟩, a'⟩ := h'
  have := a x'
  have := a' x
  omega
/-- the first pixel of a part -/
def isR (N W : Nat) (T : Nat → Bool) (v : Nat) : Prop := v < N ∧ T v = true ∧ ∀ k, k < N → T k = true → pP N W T k = pP N W T v → v ≤ k
/-- best turns, nothing turned at the first pixels -/
def isB (N W : Nat) (T : Nat → Bool) (F G : Nat → Int) (x : Nat → Int) : Prop := (∀ y, tco N W T F G x ≤ tco N W T F G y) ∧ ∀ v, isR N W T v → x v = 0
def isL (N W : Nat) (T : Nat → Bool) (F G : Nat → Int) (x : Nat → Int) : Prop := isB N W T F G x ∧ ∀ y, isB N W T F G y → ∀ v, v < N → T v = true → x v ≤ y v
def isG (N W : Nat) (T : Nat → Bool) (F G : Nat → Int) (x : Nat → Int) : Prop := isB N W T F G x ∧ ∀ y, isB N W T F G y → ∀ v, v < N → T v = true → y v ≤ x v
theorem isL.uniq {x y : Nat → Int} (h : isL N W T F G x) (h' : isL N W T F G y) {v : Nat} (hv : v < N) (tv : T v = true) : x v = y v := by
  have a := h.2 y h'.1 v hv tv
  have b := h'.2 x h.1 v hv tv
  omega
theorem isG.uniq {x y : Nat → Int} (h : isG N W T F G x) (h' : isG N W T F G y) {v : Nat} (hv : v < N) (tv : T v = true) : x v = y v := by
  have a := h.2 y h'.1 v hv tv
  have b := h'.2 x h.1 v hv tv
  omega
/-- a best flow's earnings are the least cost -/
theorem isC_flow {f p : Nat → Int} (hw : wfS W H N T F G) (hb : ∀ j, j < scJ N W T → -(scu N W T G j) ≤ f j ∧ f j ≤ scu N W T G j) (hs : ∀ v, v < N → sp (scJ N W T) (scf N W T) (sct N W T) f v = 0) (hp : fe (scJ N W T) (scf N W T) (sct N W T) (scu N W T G) (scc N W T F) f p) : isC N W T F G (-(su (fun j => f j * scc N W T F j) (scJ N W T))) ∧ ∀ x, (∀ y, tco N W T F G x ≤ tco N W T F G y) ↔ fe (scJ N W T) (scf N W T) (sct N W T) (scu N W T G) (scc N W T F) f (fun k => x k - tw N W T F k) := by
  have h1 : ∀ j, j < scJ N W T → scf N W T j < N := fun j hj => by have := sc_at hw hj; omega
  have h2 : ∀ j, j < scJ N W T → sct N W T j < N := fun j hj => (sc_at hw hj).2.1
  have low : ∀ x, -(su (fun j => f j * scc N W T F j) (scJ N W T)) ≤ tco N W T F G x := fun x => by
    rw [tco_co hw]
    exact fl_low h1 h2 hs hb
  have at_ : ∀ x, tco N W T F G x = -(su (fun j => f j * scc N W T F j) (scJ N W T)) ↔ fe (scJ N W T) (scf N W T) (sct N W T) (scu N W T G) (scc N W T F) f (fun k => x k - tw N W T F k) := fun x => by
    rw [tco_co hw]
    exact fl_eq h1 h2 hs hb
  have ex : tco N W T F G (fun k => p k + tw N W T F k) = -(su (fun j => f j * scc N W T F j) (scJ N W T)) := (at_ _).mpr (by
    have : (fun k => (fun k => p k + tw N W T F k) k - tw N W T F k) = p := by
      funext k
      show p k + tw N W T F k - tw N W T F k = p k
      omega
    rw [this]
    exact hp)
  refine ⟨⟨⟨_, ex⟩, low⟩, fun x => ⟨fun g => (at_ x).mp ?_, fun g y => ?_⟩⟩
  · have a := g (fun k => p k + tw N W T F k)
    have b := low x
    omega
  · rw [(at_ x).mpr g]
    exact low y
end JLM
