/-! WHAT METHODS DO: Scene -/
/-- the difference of two phases, by the lesser pixel first -/
def pdif (a b : Nat) (pa pb : Int) : Int :=
  if a < b then (if pb - pa < -200 then pb - pa + 400 else if 200 ≤ pb - pa then pb - pa - 400 else pb - pa)
  else -(if pa - pb < -200 then pa - pb + 400 else if 200 ≤ pa - pb then pa - pb - 400 else pa - pb)
theorem s68_tail {S : zS} {h : zH} {a b : Nat} {d : Int} (ha : a < 25) (hb : b < 25) (h1 : -1000 ≤ d) (h2 : d ≤ 1000) : Zx 68 22 [zN, zI (a : Int), zI (b : Int), zN] [zI d] S h = some (some (zI (if a < b then (if d < -200 then d + 400 else if 200 ≤ d then d - 400 else d) else -(if d < -200 then d + 400 else if 200 ≤ d then d - 400 else d))), S, h) := by
  have ea := zw_nat (n := a) (by omega)
  have eb := zw_nat (n := b) (by omega)
  have ed := zw_id (z := d) (by omega) (by omega)
  have fin : ∀ e : Int, Zx 68 32 [zN, zI (a : Int), zI (b : Int), zI e] [] S h = some (some (zI (if a < b then e else -e)), S, h) := by
    intro e
    rw [b68_32, ea, eb]
    by_cases hab : (b : Int) ≤ a
    · rw [if_pos hab, b68_39, if_neg (by omega)]
    · rw [if_neg hab, b68_39, if_pos (by omega)]
  rw [b68_22, ed]
  by_cases c1 : -200 ≤ d
  · rw [if_pos c1]
    by_cases c2 : d < 200
    · rw [if_pos c2, fin, if_neg (show ¬ d < -200 by omega), if_neg (show ¬ 200 ≤ d by omega)]
    · rw [if_neg c2, fin, if_neg (show ¬ d < -200 by omega), if_pos (show 200 ≤ d by omega)]
      rfl
  · rw [if_neg c1, fin, if_pos (show d < -200 by omega)]
/-- Scene.difference -/
theorem s_sdif {S : zS} {h : zH} {o a b : Nat} (hL : LX5 S o) (ha : a < 25) (hb : b < 25) (h1 : -1 ≤ h (o + 2) a) (h2 : h (o + 2) a < 400) (h3 : -1 ≤ h (o + 2) b) (h4 : h (o + 2) b < 400) : Zx 68 0 [zR o, zI (a : Int), zI (b : Int), zN] [] S h = some (some (zI (pdif a b (h (o + 2) a) (h (o + 2) b))), S, h) := by
  have ea := zw_nat (n := a) (by omega)
  have eb := zw_nat (n := b) (by omega)
  have ta : ((a : Int)).toNat = a := by omega
  have tb : ((b : Int)).toNat = b := by omega
  rw [b68_0 hL (fun _ => by omega) (fun _ => by omega) (fun _ => by omega) (fun _ => by omega) (fun _ => by omega) (fun _ => by omega) (fun _ => by omega) (fun _ => by omega), ea, eb, ta, tb]
  by_cases hab : (b : Int) ≤ a
  · rw [if_pos hab, s68_tail ha hb (by omega) (by omega)]
    have hn : ¬ a < b := by omega
    unfold pdif
    simp only [if_neg hn]
  · rw [if_neg hab, s68_tail ha hb (by omega) (by omega)]
    have hn : a < b := by omega
    unfold pdif
    simp only [if_pos hn]
