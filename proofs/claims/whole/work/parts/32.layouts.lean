/-! LAYOUTS: where the objects of an object lie (laid by wip/whole/zblk.py) -/
def LX2 (S : zS) (o : Nat) : Prop := zC S o = (2, 7, [none, none, none, some (o + 1), some (o + 2), some (o + 3), some (o + 4)]) ∧ zC S (o + 1) = (100, 100, []) ∧ zC S (o + 2) = (100, 25, []) ∧ zC S (o + 3) = (100, 25, []) ∧ zC S (o + 4) = (102, 25, [])
def LX8 (S : zS) (o : Nat) : Prop := zC S o = (8, 3, [none, some (o + 1), some (o + 2)]) ∧ zC S (o + 1) = (100, 8, []) ∧ zC S (o + 2) = (100, 8, [])
def LX5 (S : zS) (o : Nat) : Prop := zC S o = (5, 11, [none, none, none, some (o + 1), some (o + 2), some (o + 3), none, some (o + 4), some (o + 5), some (o + 6), some (o + 7)]) ∧ zC S (o + 1) = (102, 25, []) ∧ zC S (o + 2) = (100, 25, []) ∧ zC S (o + 3) = (100, 25, []) ∧ zC S (o + 4) = (100, 25, []) ∧ zC S (o + 5) = (100, 25, []) ∧ zC S (o + 6) = (102, 25, []) ∧ zC S (o + 7) = (102, 25, [])
def LX0 (S : zS) (o : Nat) : Prop := zC S o = (0, 13, [some (o + 1), none, some (o + 9), some (o + 10), none, some (o + 11), some (o + 12), some (o + 13), some (o + 14), some (o + 15), some (o + 16), some (o + 17), some (o + 18)]) ∧ zC S (o + 1) = (5, 11, [none, none, none, some (o + 2), some (o + 3), some (o + 4), none, some (o + 5), some (o + 6), some (o + 7), some (o + 8)]) ∧ zC S (o + 2) = (102, 25, []) ∧ zC S (o + 3) = (100, 25, []) ∧ zC S (o + 4) = (100, 25, []) ∧ zC S (o + 5) = (100, 25, []) ∧ zC S (o + 6) = (100, 25, []) ∧ zC S (o + 7) = (102, 25, []) ∧ zC S (o + 8) = (102, 25, []) ∧ zC S (o + 9) = (100, 25, []) ∧ zC S (o + 10) = (100, 25, []) ∧ zC S (o + 11) = (100, 40, []) ∧ zC S (o + 12) = (100, 40, []) ∧ zC S (o + 13) = (100, 40, []) ∧ zC S (o + 14) = (100, 40, []) ∧ zC S (o + 15) = (100, 40, []) ∧ zC S (o + 16) = (100, 25, []) ∧ zC S (o + 17) = (100, 25, []) ∧ zC S (o + 18) = (100, 25, [])
theorem LX0.scene {S : zS} {o : Nat} (h : LX0 S o) : LX5 S (o + 1) := ⟨h.2.1, h.2.2.1, h.2.2.2.1, h.2.2.2.2.1, h.2.2.2.2.2.1, h.2.2.2.2.2.2.1, h.2.2.2.2.2.2.2.1, h.2.2.2.2.2.2.2.2.1⟩
def LX7 (S : zS) (o : Nat) : Prop := zC S o = (7, 8, [some (o + 1), none, some (o + 2), none, some (o + 18), none, none, none]) ∧ zC S (o + 1) = (101, 600, []) ∧ zC S (o + 2) = (105, 3, [some (o + 3), some (o + 8), some (o + 13)]) ∧ zC S (o + 3) = (2, 7, [none, none, none, some (o + 4), some (o + 5), some (o + 6), some (o + 7)]) ∧ zC S (o + 4) = (100, 100, []) ∧ zC S (o + 5) = (100, 25, []) ∧ zC S (o + 6) = (100, 25, []) ∧ zC S (o + 7) = (102, 25, []) ∧ zC S (o + 8) = (2, 7, [none, none, none, some (o + 9), some (o + 10), some (o + 11), some (o + 12)]) ∧ zC S (o + 9) = (100, 100, []) ∧ zC S (o + 10) = (100, 25, []) ∧ zC S (o + 11) = (100, 25, []) ∧ zC S (o + 12) = (102, 25, []) ∧ zC S (o + 13) = (2, 7, [none, none, none, some (o + 14), some (o + 15), some (o + 16), some (o + 17)]) ∧ zC S (o + 14) = (100, 100, []) ∧ zC S (o + 15) = (100, 25, []) ∧ zC S (o + 16) = (100, 25, []) ∧ zC S (o + 17) = (102, 25, []) ∧ zC S (o + 18) = (106, 2, [some (o + 19), some (o + 22)]) ∧ zC S (o + 19) = (8, 3, [none, some (o + 20), some (o + 21)]) ∧ zC S (o + 20) = (100, 8, []) ∧ zC S (o + 21) = (100, 8, []) ∧ zC S (o + 22) = (8, 3, [none, some (o + 23), some (o + 24)]) ∧ zC S (o + 23) = (100, 8, []) ∧ zC S (o + 24) = (100, 8, [])
theorem LX7.pic3 {S : zS} {o : Nat} (h : LX7 S o) : LX2 S (o + 3) := ⟨h.2.2.2.1, h.2.2.2.2.1, h.2.2.2.2.2.1, h.2.2.2.2.2.2.1, h.2.2.2.2.2.2.2.1⟩
theorem LX7.pic8 {S : zS} {o : Nat} (h : LX7 S o) : LX2 S (o + 8) := ⟨h.2.2.2.2.2.2.2.2.1, h.2.2.2.2.2.2.2.2.2.1, h.2.2.2.2.2.2.2.2.2.2.1, h.2.2.2.2.2.2.2.2.2.2.2.1, h.2.2.2.2.2.2.2.2.2.2.2.2.1⟩
theorem LX7.pic13 {S : zS} {o : Nat} (h : LX7 S o) : LX2 S (o + 13) := ⟨h.2.2.2.2.2.2.2.2.2.2.2.2.2.1, h.2.2.2.2.2.2.2.2.2.2.2.2.2.2.1, h.2.2.2.2.2.2.2.2.2.2.2.2.2.2.2.1, h.2.2.2.2.2.2.2.2.2.2.2.2.2.2.2.2.1, h.2.2.2.2.2.2.2.2.2.2.2.2.2.2.2.2.2.1⟩
theorem LX7.tri19 {S : zS} {o : Nat} (h : LX7 S o) : LX8 S (o + 19) := ⟨h.2.2.2.2.2.2.2.2.2.2.2.2.2.2.2.2.2.2.2.1, h.2.2.2.2.2.2.2.2.2.2.2.2.2.2.2.2.2.2.2.2.1, h.2.2.2.2.2.2.2.2.2.2.2.2.2.2.2.2.2.2.2.2.2.1⟩
theorem LX7.tri22 {S : zS} {o : Nat} (h : LX7 S o) : LX8 S (o + 22) := ⟨h.2.2.2.2.2.2.2.2.2.2.2.2.2.2.2.2.2.2.2.2.2.2.1, h.2.2.2.2.2.2.2.2.2.2.2.2.2.2.2.2.2.2.2.2.2.2.2.1, h.2.2.2.2.2.2.2.2.2.2.2.2.2.2.2.2.2.2.2.2.2.2.2.2⟩
/-- all objects, behind both constructors -/
def Z0_0 : zS := [(9, 10, [some 2, some 27, some 103, some 104, some 114, some 172, some 173, some 192, some 200, some 201]), (7, 8, [some 3, none, some 4, none, some 20, none, none, none]), (101, 600, []), (105, 3, [some 5, some 10, some 15]), (2, 7, [none, none, none, some 6, some 7, some 8, some 9]), (100, 100, []), (100, 25, []), (100, 25, []), (102, 25, []), (2, 7, [none, none, none, some 11, some 12, some 13, some 14]), (100, 100, []), (100, 25, []), (100, 25, []), (102, 25, []), (2, 7, [none, none, none, some 16, some 17, some 18, some 19]), (100, 100, []), (100, 25, []), (100, 25, []), (102, 25, []), (106, 2, [some 21, some 24]), (8, 3, [none, some 22, some 23]), (100, 8, []), (100, 8, []), (8, 3, [none, some 25, some 26]), (100, 8, []), (100, 8, []), (104, 3, [some 28, some 53, some 78]), (7, 8, [some 29, none, some 30, none, some 46, none, none, none]), (101, 600, []), (105, 3, [some 31, some 36, some 41]), (2, 7, [none, none, none, some 32, some 33, some 34, some 35]), (100, 100, []), (100, 25, []), (100, 25, []), (102, 25, []), (2, 7, [none, none, none, some 37, some 38, some 39, some 40]), (100, 100, []), (100, 25, []), (100, 25, []), (102, 25, [])]
def Z0_1 : zS := [(2, 7, [none, none, none, some 42, some 43, some 44, some 45]), (100, 100, []), (100, 25, []), (100, 25, []), (102, 25, []), (106, 2, [some 47, some 50]), (8, 3, [none, some 48, some 49]), (100, 8, []), (100, 8, []), (8, 3, [none, some 51, some 52]), (100, 8, []), (100, 8, []), (7, 8, [some 54, none, some 55, none, some 71, none, none, none]), (101, 600, []), (105, 3, [some 56, some 61, some 66]), (2, 7, [none, none, none, some 57, some 58, some 59, some 60]), (100, 100, []), (100, 25, []), (100, 25, []), (102, 25, []), (2, 7, [none, none, none, some 62, some 63, some 64, some 65]), (100, 100, []), (100, 25, []), (100, 25, []), (102, 25, []), (2, 7, [none, none, none, some 67, some 68, some 69, some 70]), (100, 100, []), (100, 25, []), (100, 25, []), (102, 25, []), (106, 2, [some 72, some 75]), (8, 3, [none, some 73, some 74]), (100, 8, []), (100, 8, []), (8, 3, [none, some 76, some 77]), (100, 8, []), (100, 8, []), (7, 8, [some 79, none, some 80, none, some 96, none, none, none]), (101, 600, []), (105, 3, [some 81, some 86, some 91])]
def Z0_2 : zS := [(2, 7, [none, none, none, some 82, some 83, some 84, some 85]), (100, 100, []), (100, 25, []), (100, 25, []), (102, 25, []), (2, 7, [none, none, none, some 87, some 88, some 89, some 90]), (100, 100, []), (100, 25, []), (100, 25, []), (102, 25, []), (2, 7, [none, none, none, some 92, some 93, some 94, some 95]), (100, 100, []), (100, 25, []), (100, 25, []), (102, 25, []), (106, 2, [some 97, some 100]), (8, 3, [none, some 98, some 99]), (100, 8, []), (100, 8, []), (8, 3, [none, some 101, some 102]), (100, 8, []), (100, 8, []), (102, 3, []), (4, 13, [some 3, none, none, none, none, none, none, none, some 105, some 106, some 111, none, none]), (102, 25, []), (2, 7, [none, none, none, some 107, some 108, some 109, some 110]), (100, 100, []), (100, 25, []), (100, 25, []), (102, 25, []), (8, 3, [none, some 112, some 113]), (100, 8, []), (100, 8, []), (107, 3, [some 115, some 134, some 153]), (0, 13, [some 116, none, some 124, some 125, none, some 126, some 127, some 128, some 129, some 130, some 131, some 132, some 133]), (5, 11, [none, none, none, some 117, some 118, some 119, none, some 120, some 121, some 122, some 123]), (102, 25, []), (100, 25, []), (100, 25, []), (100, 25, [])]
def Z0_3 : zS := [(100, 25, []), (102, 25, []), (102, 25, []), (100, 25, []), (100, 25, []), (100, 40, []), (100, 40, []), (100, 40, []), (100, 40, []), (100, 40, []), (100, 25, []), (100, 25, []), (100, 25, []), (0, 13, [some 135, none, some 143, some 144, none, some 145, some 146, some 147, some 148, some 149, some 150, some 151, some 152]), (5, 11, [none, none, none, some 136, some 137, some 138, none, some 139, some 140, some 141, some 142]), (102, 25, []), (100, 25, []), (100, 25, []), (100, 25, []), (100, 25, []), (102, 25, []), (102, 25, []), (100, 25, []), (100, 25, []), (100, 40, []), (100, 40, []), (100, 40, []), (100, 40, []), (100, 40, []), (100, 25, []), (100, 25, []), (100, 25, []), (0, 13, [some 154, none, some 162, some 163, none, some 164, some 165, some 166, some 167, some 168, some 169, some 170, some 171]), (5, 11, [none, none, none, some 155, some 156, some 157, none, some 158, some 159, some 160, some 161]), (102, 25, []), (100, 25, []), (100, 25, []), (100, 25, []), (100, 25, []), (102, 25, [])]
def Z0_4 : zS := [(102, 25, []), (100, 25, []), (100, 25, []), (100, 40, []), (100, 40, []), (100, 40, []), (100, 40, []), (100, 40, []), (100, 25, []), (100, 25, []), (100, 25, []), (102, 3, []), (0, 13, [some 174, none, some 182, some 183, none, some 184, some 185, some 186, some 187, some 188, some 189, some 190, some 191]), (5, 11, [none, none, none, some 175, some 176, some 177, none, some 178, some 179, some 180, some 181]), (102, 25, []), (100, 25, []), (100, 25, []), (100, 25, []), (100, 25, []), (102, 25, []), (102, 25, []), (100, 25, []), (100, 25, []), (100, 40, []), (100, 40, []), (100, 40, []), (100, 40, []), (100, 40, []), (100, 25, []), (100, 25, []), (100, 25, []), (1, 9, [none, some 193, some 194, some 195, none, some 196, some 197, some 198, some 199]), (100, 16, []), (100, 16, []), (100, 16, []), (100, 16, []), (100, 16, []), (100, 16, []), (100, 256, []), (3, 10, [none, none, none, none, none, none, none, none, none, none])]
def Z0_5 : zS := [(6, 4, [none, none, none, none]), (10, 63, [none, some 203, some 204, some 205, some 206, some 207, some 208, some 209, none, none, none, none, none, none, none, none, none, some 210, none, none, none, none, none, none, some 211, some 212, some 213, some 214, some 215, some 216, none, some 217, none, none, some 218, some 219, some 220, some 221, some 222, some 223, none, some 224, some 225, some 226, none, some 227, some 228, some 229, some 230, some 231, none, none, some 232, some 233, none, none, none, none, none, some 234, some 235, some 236, some 237]), (101, 2400, []), (100, 4, []), (100, 4, []), (100, 4, []), (100, 8, []), (100, 2136, []), (100, 136, []), (100, 178, []), (100, 100, []), (100, 25, []), (100, 25, []), (102, 25, []), (100, 25, []), (102, 25, []), (100, 25, []), (100, 40, []), (100, 40, []), (100, 40, []), (100, 40, []), (100, 25, []), (100, 25, []), (100, 729, []), (100, 27, []), (100, 27, []), (100, 25, []), (100, 25, []), (102, 25, []), (103, 10, []), (100, 25, []), (102, 25, []), (100, 25, []), (100, 16, []), (100, 65536, []), (100, 40, []), (102, 3, [])]
def Z0 (n : Nat) : zS := (108, n, []) :: (Z0_0 ++ (Z0_1 ++ (Z0_2 ++ (Z0_3 ++ (Z0_4 ++ (Z0_5))))))
theorem zcl0 (n : Nat) : zC (Z0 n) 0 = (108, n, []) := rfl
theorem zcl1 (n : Nat) : zC (Z0 n) 1 = (9, 10, [some 2, some 27, some 103, some 104, some 114, some 172, some 173, some 192, some 200, some 201]) := rfl
theorem zcl2 (n : Nat) : zC (Z0 n) 2 = (7, 8, [some 3, none, some 4, none, some 20, none, none, none]) := rfl
theorem zcl3 (n : Nat) : zC (Z0 n) 3 = (101, 600, []) := rfl
theorem zcl4 (n : Nat) : zC (Z0 n) 4 = (105, 3, [some 5, some 10, some 15]) := rfl
theorem zcl5 (n : Nat) : zC (Z0 n) 5 = (2, 7, [none, none, none, some 6, some 7, some 8, some 9]) := rfl
theorem zcl6 (n : Nat) : zC (Z0 n) 6 = (100, 100, []) := rfl
theorem zcl7 (n : Nat) : zC (Z0 n) 7 = (100, 25, []) := rfl
theorem zcl8 (n : Nat) : zC (Z0 n) 8 = (100, 25, []) := rfl
theorem zcl9 (n : Nat) : zC (Z0 n) 9 = (102, 25, []) := rfl
theorem zcl10 (n : Nat) : zC (Z0 n) 10 = (2, 7, [none, none, none, some 11, some 12, some 13, some 14]) := rfl
theorem zcl11 (n : Nat) : zC (Z0 n) 11 = (100, 100, []) := rfl
theorem zcl12 (n : Nat) : zC (Z0 n) 12 = (100, 25, []) := rfl
theorem zcl13 (n : Nat) : zC (Z0 n) 13 = (100, 25, []) := rfl
theorem zcl14 (n : Nat) : zC (Z0 n) 14 = (102, 25, []) := rfl
theorem zcl15 (n : Nat) : zC (Z0 n) 15 = (2, 7, [none, none, none, some 16, some 17, some 18, some 19]) := rfl
theorem zcl16 (n : Nat) : zC (Z0 n) 16 = (100, 100, []) := rfl
theorem zcl17 (n : Nat) : zC (Z0 n) 17 = (100, 25, []) := rfl
theorem zcl18 (n : Nat) : zC (Z0 n) 18 = (100, 25, []) := rfl
theorem zcl19 (n : Nat) : zC (Z0 n) 19 = (102, 25, []) := rfl
theorem zcl20 (n : Nat) : zC (Z0 n) 20 = (106, 2, [some 21, some 24]) := rfl
theorem zcl21 (n : Nat) : zC (Z0 n) 21 = (8, 3, [none, some 22, some 23]) := rfl
theorem zcl22 (n : Nat) : zC (Z0 n) 22 = (100, 8, []) := rfl
theorem zcl23 (n : Nat) : zC (Z0 n) 23 = (100, 8, []) := rfl
theorem zcl24 (n : Nat) : zC (Z0 n) 24 = (8, 3, [none, some 25, some 26]) := rfl
theorem zcl25 (n : Nat) : zC (Z0 n) 25 = (100, 8, []) := rfl
theorem zcl26 (n : Nat) : zC (Z0 n) 26 = (100, 8, []) := rfl
theorem zcl27 (n : Nat) : zC (Z0 n) 27 = (104, 3, [some 28, some 53, some 78]) := rfl
theorem zcl28 (n : Nat) : zC (Z0 n) 28 = (7, 8, [some 29, none, some 30, none, some 46, none, none, none]) := rfl
theorem zcl29 (n : Nat) : zC (Z0 n) 29 = (101, 600, []) := rfl
theorem zcl30 (n : Nat) : zC (Z0 n) 30 = (105, 3, [some 31, some 36, some 41]) := rfl
theorem zcl31 (n : Nat) : zC (Z0 n) 31 = (2, 7, [none, none, none, some 32, some 33, some 34, some 35]) := rfl
theorem zcl32 (n : Nat) : zC (Z0 n) 32 = (100, 100, []) := rfl
theorem zcl33 (n : Nat) : zC (Z0 n) 33 = (100, 25, []) := rfl
theorem zcl34 (n : Nat) : zC (Z0 n) 34 = (100, 25, []) := rfl
theorem zcl35 (n : Nat) : zC (Z0 n) 35 = (102, 25, []) := rfl
theorem zcl36 (n : Nat) : zC (Z0 n) 36 = (2, 7, [none, none, none, some 37, some 38, some 39, some 40]) := rfl
theorem zcl37 (n : Nat) : zC (Z0 n) 37 = (100, 100, []) := rfl
theorem zcl38 (n : Nat) : zC (Z0 n) 38 = (100, 25, []) := rfl
theorem zcl39 (n : Nat) : zC (Z0 n) 39 = (100, 25, []) := rfl
theorem zcl40 (n : Nat) : zC (Z0 n) 40 = (102, 25, []) := rfl
theorem zcl41 (n : Nat) : zC (Z0 n) 41 = (2, 7, [none, none, none, some 42, some 43, some 44, some 45]) := rfl
theorem zcl42 (n : Nat) : zC (Z0 n) 42 = (100, 100, []) := rfl
theorem zcl43 (n : Nat) : zC (Z0 n) 43 = (100, 25, []) := rfl
theorem zcl44 (n : Nat) : zC (Z0 n) 44 = (100, 25, []) := rfl
theorem zcl45 (n : Nat) : zC (Z0 n) 45 = (102, 25, []) := rfl
theorem zcl46 (n : Nat) : zC (Z0 n) 46 = (106, 2, [some 47, some 50]) := rfl
theorem zcl47 (n : Nat) : zC (Z0 n) 47 = (8, 3, [none, some 48, some 49]) := rfl
theorem zcl48 (n : Nat) : zC (Z0 n) 48 = (100, 8, []) := rfl
theorem zcl49 (n : Nat) : zC (Z0 n) 49 = (100, 8, []) := rfl
theorem zcl50 (n : Nat) : zC (Z0 n) 50 = (8, 3, [none, some 51, some 52]) := rfl
theorem zcl51 (n : Nat) : zC (Z0 n) 51 = (100, 8, []) := rfl
theorem zcl52 (n : Nat) : zC (Z0 n) 52 = (100, 8, []) := rfl
theorem zcl53 (n : Nat) : zC (Z0 n) 53 = (7, 8, [some 54, none, some 55, none, some 71, none, none, none]) := rfl
theorem zcl54 (n : Nat) : zC (Z0 n) 54 = (101, 600, []) := rfl
theorem zcl55 (n : Nat) : zC (Z0 n) 55 = (105, 3, [some 56, some 61, some 66]) := rfl
theorem zcl56 (n : Nat) : zC (Z0 n) 56 = (2, 7, [none, none, none, some 57, some 58, some 59, some 60]) := rfl
theorem zcl57 (n : Nat) : zC (Z0 n) 57 = (100, 100, []) := rfl
theorem zcl58 (n : Nat) : zC (Z0 n) 58 = (100, 25, []) := rfl
theorem zcl59 (n : Nat) : zC (Z0 n) 59 = (100, 25, []) := rfl
theorem zcl60 (n : Nat) : zC (Z0 n) 60 = (102, 25, []) := rfl
theorem zcl61 (n : Nat) : zC (Z0 n) 61 = (2, 7, [none, none, none, some 62, some 63, some 64, some 65]) := rfl
theorem zcl62 (n : Nat) : zC (Z0 n) 62 = (100, 100, []) := rfl
theorem zcl63 (n : Nat) : zC (Z0 n) 63 = (100, 25, []) := rfl
theorem zcl64 (n : Nat) : zC (Z0 n) 64 = (100, 25, []) := rfl
theorem zcl65 (n : Nat) : zC (Z0 n) 65 = (102, 25, []) := rfl
theorem zcl66 (n : Nat) : zC (Z0 n) 66 = (2, 7, [none, none, none, some 67, some 68, some 69, some 70]) := rfl
theorem zcl67 (n : Nat) : zC (Z0 n) 67 = (100, 100, []) := rfl
theorem zcl68 (n : Nat) : zC (Z0 n) 68 = (100, 25, []) := rfl
theorem zcl69 (n : Nat) : zC (Z0 n) 69 = (100, 25, []) := rfl
theorem zcl70 (n : Nat) : zC (Z0 n) 70 = (102, 25, []) := rfl
theorem zcl71 (n : Nat) : zC (Z0 n) 71 = (106, 2, [some 72, some 75]) := rfl
theorem zcl72 (n : Nat) : zC (Z0 n) 72 = (8, 3, [none, some 73, some 74]) := rfl
theorem zcl73 (n : Nat) : zC (Z0 n) 73 = (100, 8, []) := rfl
theorem zcl74 (n : Nat) : zC (Z0 n) 74 = (100, 8, []) := rfl
theorem zcl75 (n : Nat) : zC (Z0 n) 75 = (8, 3, [none, some 76, some 77]) := rfl
theorem zcl76 (n : Nat) : zC (Z0 n) 76 = (100, 8, []) := rfl
theorem zcl77 (n : Nat) : zC (Z0 n) 77 = (100, 8, []) := rfl
theorem zcl78 (n : Nat) : zC (Z0 n) 78 = (7, 8, [some 79, none, some 80, none, some 96, none, none, none]) := rfl
theorem zcl79 (n : Nat) : zC (Z0 n) 79 = (101, 600, []) := rfl
theorem zcl80 (n : Nat) : zC (Z0 n) 80 = (105, 3, [some 81, some 86, some 91]) := rfl
theorem zcl81 (n : Nat) : zC (Z0 n) 81 = (2, 7, [none, none, none, some 82, some 83, some 84, some 85]) := rfl
theorem zcl82 (n : Nat) : zC (Z0 n) 82 = (100, 100, []) := rfl
theorem zcl83 (n : Nat) : zC (Z0 n) 83 = (100, 25, []) := rfl
theorem zcl84 (n : Nat) : zC (Z0 n) 84 = (100, 25, []) := rfl
theorem zcl85 (n : Nat) : zC (Z0 n) 85 = (102, 25, []) := rfl
theorem zcl86 (n : Nat) : zC (Z0 n) 86 = (2, 7, [none, none, none, some 87, some 88, some 89, some 90]) := rfl
theorem zcl87 (n : Nat) : zC (Z0 n) 87 = (100, 100, []) := rfl
theorem zcl88 (n : Nat) : zC (Z0 n) 88 = (100, 25, []) := rfl
theorem zcl89 (n : Nat) : zC (Z0 n) 89 = (100, 25, []) := rfl
theorem zcl90 (n : Nat) : zC (Z0 n) 90 = (102, 25, []) := rfl
theorem zcl91 (n : Nat) : zC (Z0 n) 91 = (2, 7, [none, none, none, some 92, some 93, some 94, some 95]) := rfl
theorem zcl92 (n : Nat) : zC (Z0 n) 92 = (100, 100, []) := rfl
theorem zcl93 (n : Nat) : zC (Z0 n) 93 = (100, 25, []) := rfl
theorem zcl94 (n : Nat) : zC (Z0 n) 94 = (100, 25, []) := rfl
theorem zcl95 (n : Nat) : zC (Z0 n) 95 = (102, 25, []) := rfl
theorem zcl96 (n : Nat) : zC (Z0 n) 96 = (106, 2, [some 97, some 100]) := rfl
theorem zcl97 (n : Nat) : zC (Z0 n) 97 = (8, 3, [none, some 98, some 99]) := rfl
theorem zcl98 (n : Nat) : zC (Z0 n) 98 = (100, 8, []) := rfl
theorem zcl99 (n : Nat) : zC (Z0 n) 99 = (100, 8, []) := rfl
theorem zcl100 (n : Nat) : zC (Z0 n) 100 = (8, 3, [none, some 101, some 102]) := rfl
theorem zcl101 (n : Nat) : zC (Z0 n) 101 = (100, 8, []) := rfl
theorem zcl102 (n : Nat) : zC (Z0 n) 102 = (100, 8, []) := rfl
theorem zcl103 (n : Nat) : zC (Z0 n) 103 = (102, 3, []) := rfl
theorem zcl104 (n : Nat) : zC (Z0 n) 104 = (4, 13, [some 3, none, none, none, none, none, none, none, some 105, some 106, some 111, none, none]) := rfl
theorem zcl105 (n : Nat) : zC (Z0 n) 105 = (102, 25, []) := rfl
theorem zcl106 (n : Nat) : zC (Z0 n) 106 = (2, 7, [none, none, none, some 107, some 108, some 109, some 110]) := rfl
theorem zcl107 (n : Nat) : zC (Z0 n) 107 = (100, 100, []) := rfl
theorem zcl108 (n : Nat) : zC (Z0 n) 108 = (100, 25, []) := rfl
theorem zcl109 (n : Nat) : zC (Z0 n) 109 = (100, 25, []) := rfl
theorem zcl110 (n : Nat) : zC (Z0 n) 110 = (102, 25, []) := rfl
theorem zcl111 (n : Nat) : zC (Z0 n) 111 = (8, 3, [none, some 112, some 113]) := rfl
theorem zcl112 (n : Nat) : zC (Z0 n) 112 = (100, 8, []) := rfl
theorem zcl113 (n : Nat) : zC (Z0 n) 113 = (100, 8, []) := rfl
theorem zcl114 (n : Nat) : zC (Z0 n) 114 = (107, 3, [some 115, some 134, some 153]) := rfl
theorem zcl115 (n : Nat) : zC (Z0 n) 115 = (0, 13, [some 116, none, some 124, some 125, none, some 126, some 127, some 128, some 129, some 130, some 131, some 132, some 133]) := rfl
theorem zcl116 (n : Nat) : zC (Z0 n) 116 = (5, 11, [none, none, none, some 117, some 118, some 119, none, some 120, some 121, some 122, some 123]) := rfl
theorem zcl117 (n : Nat) : zC (Z0 n) 117 = (102, 25, []) := rfl
theorem zcl118 (n : Nat) : zC (Z0 n) 118 = (100, 25, []) := rfl
theorem zcl119 (n : Nat) : zC (Z0 n) 119 = (100, 25, []) := rfl
theorem zcl120 (n : Nat) : zC (Z0 n) 120 = (100, 25, []) := rfl
theorem zcl121 (n : Nat) : zC (Z0 n) 121 = (100, 25, []) := rfl
theorem zcl122 (n : Nat) : zC (Z0 n) 122 = (102, 25, []) := rfl
theorem zcl123 (n : Nat) : zC (Z0 n) 123 = (102, 25, []) := rfl
theorem zcl124 (n : Nat) : zC (Z0 n) 124 = (100, 25, []) := rfl
theorem zcl125 (n : Nat) : zC (Z0 n) 125 = (100, 25, []) := rfl
theorem zcl126 (n : Nat) : zC (Z0 n) 126 = (100, 40, []) := rfl
theorem zcl127 (n : Nat) : zC (Z0 n) 127 = (100, 40, []) := rfl
theorem zcl128 (n : Nat) : zC (Z0 n) 128 = (100, 40, []) := rfl
theorem zcl129 (n : Nat) : zC (Z0 n) 129 = (100, 40, []) := rfl
theorem zcl130 (n : Nat) : zC (Z0 n) 130 = (100, 40, []) := rfl
theorem zcl131 (n : Nat) : zC (Z0 n) 131 = (100, 25, []) := rfl
theorem zcl132 (n : Nat) : zC (Z0 n) 132 = (100, 25, []) := rfl
theorem zcl133 (n : Nat) : zC (Z0 n) 133 = (100, 25, []) := rfl
theorem zcl134 (n : Nat) : zC (Z0 n) 134 = (0, 13, [some 135, none, some 143, some 144, none, some 145, some 146, some 147, some 148, some 149, some 150, some 151, some 152]) := rfl
theorem zcl135 (n : Nat) : zC (Z0 n) 135 = (5, 11, [none, none, none, some 136, some 137, some 138, none, some 139, some 140, some 141, some 142]) := rfl
theorem zcl136 (n : Nat) : zC (Z0 n) 136 = (102, 25, []) := rfl
theorem zcl137 (n : Nat) : zC (Z0 n) 137 = (100, 25, []) := rfl
theorem zcl138 (n : Nat) : zC (Z0 n) 138 = (100, 25, []) := rfl
theorem zcl139 (n : Nat) : zC (Z0 n) 139 = (100, 25, []) := rfl
theorem zcl140 (n : Nat) : zC (Z0 n) 140 = (100, 25, []) := rfl
theorem zcl141 (n : Nat) : zC (Z0 n) 141 = (102, 25, []) := rfl
theorem zcl142 (n : Nat) : zC (Z0 n) 142 = (102, 25, []) := rfl
theorem zcl143 (n : Nat) : zC (Z0 n) 143 = (100, 25, []) := rfl
theorem zcl144 (n : Nat) : zC (Z0 n) 144 = (100, 25, []) := rfl
theorem zcl145 (n : Nat) : zC (Z0 n) 145 = (100, 40, []) := rfl
theorem zcl146 (n : Nat) : zC (Z0 n) 146 = (100, 40, []) := rfl
theorem zcl147 (n : Nat) : zC (Z0 n) 147 = (100, 40, []) := rfl
theorem zcl148 (n : Nat) : zC (Z0 n) 148 = (100, 40, []) := rfl
theorem zcl149 (n : Nat) : zC (Z0 n) 149 = (100, 40, []) := rfl
theorem zcl150 (n : Nat) : zC (Z0 n) 150 = (100, 25, []) := rfl
theorem zcl151 (n : Nat) : zC (Z0 n) 151 = (100, 25, []) := rfl
theorem zcl152 (n : Nat) : zC (Z0 n) 152 = (100, 25, []) := rfl
theorem zcl153 (n : Nat) : zC (Z0 n) 153 = (0, 13, [some 154, none, some 162, some 163, none, some 164, some 165, some 166, some 167, some 168, some 169, some 170, some 171]) := rfl
theorem zcl154 (n : Nat) : zC (Z0 n) 154 = (5, 11, [none, none, none, some 155, some 156, some 157, none, some 158, some 159, some 160, some 161]) := rfl
theorem zcl155 (n : Nat) : zC (Z0 n) 155 = (102, 25, []) := rfl
theorem zcl156 (n : Nat) : zC (Z0 n) 156 = (100, 25, []) := rfl
theorem zcl157 (n : Nat) : zC (Z0 n) 157 = (100, 25, []) := rfl
theorem zcl158 (n : Nat) : zC (Z0 n) 158 = (100, 25, []) := rfl
theorem zcl159 (n : Nat) : zC (Z0 n) 159 = (100, 25, []) := rfl
theorem zcl160 (n : Nat) : zC (Z0 n) 160 = (102, 25, []) := rfl
theorem zcl161 (n : Nat) : zC (Z0 n) 161 = (102, 25, []) := rfl
theorem zcl162 (n : Nat) : zC (Z0 n) 162 = (100, 25, []) := rfl
theorem zcl163 (n : Nat) : zC (Z0 n) 163 = (100, 25, []) := rfl
theorem zcl164 (n : Nat) : zC (Z0 n) 164 = (100, 40, []) := rfl
theorem zcl165 (n : Nat) : zC (Z0 n) 165 = (100, 40, []) := rfl
theorem zcl166 (n : Nat) : zC (Z0 n) 166 = (100, 40, []) := rfl
theorem zcl167 (n : Nat) : zC (Z0 n) 167 = (100, 40, []) := rfl
theorem zcl168 (n : Nat) : zC (Z0 n) 168 = (100, 40, []) := rfl
theorem zcl169 (n : Nat) : zC (Z0 n) 169 = (100, 25, []) := rfl
theorem zcl170 (n : Nat) : zC (Z0 n) 170 = (100, 25, []) := rfl
theorem zcl171 (n : Nat) : zC (Z0 n) 171 = (100, 25, []) := rfl
theorem zcl172 (n : Nat) : zC (Z0 n) 172 = (102, 3, []) := rfl
theorem zcl173 (n : Nat) : zC (Z0 n) 173 = (0, 13, [some 174, none, some 182, some 183, none, some 184, some 185, some 186, some 187, some 188, some 189, some 190, some 191]) := rfl
theorem zcl174 (n : Nat) : zC (Z0 n) 174 = (5, 11, [none, none, none, some 175, some 176, some 177, none, some 178, some 179, some 180, some 181]) := rfl
theorem zcl175 (n : Nat) : zC (Z0 n) 175 = (102, 25, []) := rfl
theorem zcl176 (n : Nat) : zC (Z0 n) 176 = (100, 25, []) := rfl
theorem zcl177 (n : Nat) : zC (Z0 n) 177 = (100, 25, []) := rfl
theorem zcl178 (n : Nat) : zC (Z0 n) 178 = (100, 25, []) := rfl
theorem zcl179 (n : Nat) : zC (Z0 n) 179 = (100, 25, []) := rfl
theorem zcl180 (n : Nat) : zC (Z0 n) 180 = (102, 25, []) := rfl
theorem zcl181 (n : Nat) : zC (Z0 n) 181 = (102, 25, []) := rfl
theorem zcl182 (n : Nat) : zC (Z0 n) 182 = (100, 25, []) := rfl
theorem zcl183 (n : Nat) : zC (Z0 n) 183 = (100, 25, []) := rfl
theorem zcl184 (n : Nat) : zC (Z0 n) 184 = (100, 40, []) := rfl
theorem zcl185 (n : Nat) : zC (Z0 n) 185 = (100, 40, []) := rfl
theorem zcl186 (n : Nat) : zC (Z0 n) 186 = (100, 40, []) := rfl
theorem zcl187 (n : Nat) : zC (Z0 n) 187 = (100, 40, []) := rfl
theorem zcl188 (n : Nat) : zC (Z0 n) 188 = (100, 40, []) := rfl
theorem zcl189 (n : Nat) : zC (Z0 n) 189 = (100, 25, []) := rfl
theorem zcl190 (n : Nat) : zC (Z0 n) 190 = (100, 25, []) := rfl
theorem zcl191 (n : Nat) : zC (Z0 n) 191 = (100, 25, []) := rfl
theorem zcl192 (n : Nat) : zC (Z0 n) 192 = (1, 9, [none, some 193, some 194, some 195, none, some 196, some 197, some 198, some 199]) := rfl
theorem zcl193 (n : Nat) : zC (Z0 n) 193 = (100, 16, []) := rfl
theorem zcl194 (n : Nat) : zC (Z0 n) 194 = (100, 16, []) := rfl
theorem zcl195 (n : Nat) : zC (Z0 n) 195 = (100, 16, []) := rfl
theorem zcl196 (n : Nat) : zC (Z0 n) 196 = (100, 16, []) := rfl
theorem zcl197 (n : Nat) : zC (Z0 n) 197 = (100, 16, []) := rfl
theorem zcl198 (n : Nat) : zC (Z0 n) 198 = (100, 16, []) := rfl
theorem zcl199 (n : Nat) : zC (Z0 n) 199 = (100, 256, []) := rfl
theorem zcl200 (n : Nat) : zC (Z0 n) 200 = (3, 10, [none, none, none, none, none, none, none, none, none, none]) := rfl
theorem zcl201 (n : Nat) : zC (Z0 n) 201 = (6, 4, [none, none, none, none]) := rfl
theorem zcl202 (n : Nat) : zC (Z0 n) 202 = (10, 63, [none, some 203, some 204, some 205, some 206, some 207, some 208, some 209, none, none, none, none, none, none, none, none, none, some 210, none, none, none, none, none, none, some 211, some 212, some 213, some 214, some 215, some 216, none, some 217, none, none, some 218, some 219, some 220, some 221, some 222, some 223, none, some 224, some 225, some 226, none, some 227, some 228, some 229, some 230, some 231, none, none, some 232, some 233, none, none, none, none, none, some 234, some 235, some 236, some 237]) := rfl
theorem zcl203 (n : Nat) : zC (Z0 n) 203 = (101, 2400, []) := rfl
theorem zcl204 (n : Nat) : zC (Z0 n) 204 = (100, 4, []) := rfl
theorem zcl205 (n : Nat) : zC (Z0 n) 205 = (100, 4, []) := rfl
theorem zcl206 (n : Nat) : zC (Z0 n) 206 = (100, 4, []) := rfl
theorem zcl207 (n : Nat) : zC (Z0 n) 207 = (100, 8, []) := rfl
theorem zcl208 (n : Nat) : zC (Z0 n) 208 = (100, 2136, []) := rfl
theorem zcl209 (n : Nat) : zC (Z0 n) 209 = (100, 136, []) := rfl
theorem zcl210 (n : Nat) : zC (Z0 n) 210 = (100, 178, []) := rfl
theorem zcl211 (n : Nat) : zC (Z0 n) 211 = (100, 100, []) := rfl
theorem zcl212 (n : Nat) : zC (Z0 n) 212 = (100, 25, []) := rfl
theorem zcl213 (n : Nat) : zC (Z0 n) 213 = (100, 25, []) := rfl
theorem zcl214 (n : Nat) : zC (Z0 n) 214 = (102, 25, []) := rfl
theorem zcl215 (n : Nat) : zC (Z0 n) 215 = (100, 25, []) := rfl
theorem zcl216 (n : Nat) : zC (Z0 n) 216 = (102, 25, []) := rfl
theorem zcl217 (n : Nat) : zC (Z0 n) 217 = (100, 25, []) := rfl
theorem zcl218 (n : Nat) : zC (Z0 n) 218 = (100, 40, []) := rfl
theorem zcl219 (n : Nat) : zC (Z0 n) 219 = (100, 40, []) := rfl
theorem zcl220 (n : Nat) : zC (Z0 n) 220 = (100, 40, []) := rfl
theorem zcl221 (n : Nat) : zC (Z0 n) 221 = (100, 40, []) := rfl
theorem zcl222 (n : Nat) : zC (Z0 n) 222 = (100, 25, []) := rfl
theorem zcl223 (n : Nat) : zC (Z0 n) 223 = (100, 25, []) := rfl
theorem zcl224 (n : Nat) : zC (Z0 n) 224 = (100, 729, []) := rfl
theorem zcl225 (n : Nat) : zC (Z0 n) 225 = (100, 27, []) := rfl
theorem zcl226 (n : Nat) : zC (Z0 n) 226 = (100, 27, []) := rfl
theorem zcl227 (n : Nat) : zC (Z0 n) 227 = (100, 25, []) := rfl
theorem zcl228 (n : Nat) : zC (Z0 n) 228 = (100, 25, []) := rfl
theorem zcl229 (n : Nat) : zC (Z0 n) 229 = (102, 25, []) := rfl
theorem zcl230 (n : Nat) : zC (Z0 n) 230 = (103, 10, []) := rfl
theorem zcl231 (n : Nat) : zC (Z0 n) 231 = (100, 25, []) := rfl
theorem zcl232 (n : Nat) : zC (Z0 n) 232 = (102, 25, []) := rfl
theorem zcl233 (n : Nat) : zC (Z0 n) 233 = (100, 25, []) := rfl
theorem zcl234 (n : Nat) : zC (Z0 n) 234 = (100, 16, []) := rfl
theorem zcl235 (n : Nat) : zC (Z0 n) 235 = (100, 65536, []) := rfl
theorem zcl236 (n : Nat) : zC (Z0 n) 236 = (100, 40, []) := rfl
theorem zcl237 (n : Nat) : zC (Z0 n) 237 = (102, 3, []) := rfl
theorem LX0_115 (n : Nat) : LX0 (Z0 n) 115 := ⟨rfl, rfl, rfl, rfl, rfl, rfl, rfl, rfl, rfl, rfl, rfl, rfl, rfl, rfl, rfl, rfl, rfl, rfl, rfl⟩
theorem LX0_134 (n : Nat) : LX0 (Z0 n) 134 := ⟨rfl, rfl, rfl, rfl, rfl, rfl, rfl, rfl, rfl, rfl, rfl, rfl, rfl, rfl, rfl, rfl, rfl, rfl, rfl⟩
theorem LX0_153 (n : Nat) : LX0 (Z0 n) 153 := ⟨rfl, rfl, rfl, rfl, rfl, rfl, rfl, rfl, rfl, rfl, rfl, rfl, rfl, rfl, rfl, rfl, rfl, rfl, rfl⟩
theorem LX0_173 (n : Nat) : LX0 (Z0 n) 173 := ⟨rfl, rfl, rfl, rfl, rfl, rfl, rfl, rfl, rfl, rfl, rfl, rfl, rfl, rfl, rfl, rfl, rfl, rfl, rfl⟩
theorem LX2_5 (n : Nat) : LX2 (Z0 n) 5 := ⟨rfl, rfl, rfl, rfl, rfl⟩
theorem LX2_10 (n : Nat) : LX2 (Z0 n) 10 := ⟨rfl, rfl, rfl, rfl, rfl⟩
theorem LX2_15 (n : Nat) : LX2 (Z0 n) 15 := ⟨rfl, rfl, rfl, rfl, rfl⟩
theorem LX2_31 (n : Nat) : LX2 (Z0 n) 31 := ⟨rfl, rfl, rfl, rfl, rfl⟩
theorem LX2_36 (n : Nat) : LX2 (Z0 n) 36 := ⟨rfl, rfl, rfl, rfl, rfl⟩
theorem LX2_41 (n : Nat) : LX2 (Z0 n) 41 := ⟨rfl, rfl, rfl, rfl, rfl⟩
theorem LX2_56 (n : Nat) : LX2 (Z0 n) 56 := ⟨rfl, rfl, rfl, rfl, rfl⟩
theorem LX2_61 (n : Nat) : LX2 (Z0 n) 61 := ⟨rfl, rfl, rfl, rfl, rfl⟩
theorem LX2_66 (n : Nat) : LX2 (Z0 n) 66 := ⟨rfl, rfl, rfl, rfl, rfl⟩
theorem LX2_81 (n : Nat) : LX2 (Z0 n) 81 := ⟨rfl, rfl, rfl, rfl, rfl⟩
theorem LX2_86 (n : Nat) : LX2 (Z0 n) 86 := ⟨rfl, rfl, rfl, rfl, rfl⟩
theorem LX2_91 (n : Nat) : LX2 (Z0 n) 91 := ⟨rfl, rfl, rfl, rfl, rfl⟩
theorem LX2_106 (n : Nat) : LX2 (Z0 n) 106 := ⟨rfl, rfl, rfl, rfl, rfl⟩
theorem LX5_116 (n : Nat) : LX5 (Z0 n) 116 := ⟨rfl, rfl, rfl, rfl, rfl, rfl, rfl, rfl⟩
theorem LX5_135 (n : Nat) : LX5 (Z0 n) 135 := ⟨rfl, rfl, rfl, rfl, rfl, rfl, rfl, rfl⟩
theorem LX5_154 (n : Nat) : LX5 (Z0 n) 154 := ⟨rfl, rfl, rfl, rfl, rfl, rfl, rfl, rfl⟩
theorem LX5_174 (n : Nat) : LX5 (Z0 n) 174 := ⟨rfl, rfl, rfl, rfl, rfl, rfl, rfl, rfl⟩
theorem LX7_2 (n : Nat) : LX7 (Z0 n) 2 := ⟨rfl, rfl, rfl, rfl, rfl, rfl, rfl, rfl, rfl, rfl, rfl, rfl, rfl, rfl, rfl, rfl, rfl, rfl, rfl, rfl, rfl, rfl, rfl, rfl, rfl⟩
theorem LX7_28 (n : Nat) : LX7 (Z0 n) 28 := ⟨rfl, rfl, rfl, rfl, rfl, rfl, rfl, rfl, rfl, rfl, rfl, rfl, rfl, rfl, rfl, rfl, rfl, rfl, rfl, rfl, rfl, rfl, rfl, rfl, rfl⟩
theorem LX7_53 (n : Nat) : LX7 (Z0 n) 53 := ⟨rfl, rfl, rfl, rfl, rfl, rfl, rfl, rfl, rfl, rfl, rfl, rfl, rfl, rfl, rfl, rfl, rfl, rfl, rfl, rfl, rfl, rfl, rfl, rfl, rfl⟩
theorem LX7_78 (n : Nat) : LX7 (Z0 n) 78 := ⟨rfl, rfl, rfl, rfl, rfl, rfl, rfl, rfl, rfl, rfl, rfl, rfl, rfl, rfl, rfl, rfl, rfl, rfl, rfl, rfl, rfl, rfl, rfl, rfl, rfl⟩
theorem LX8_21 (n : Nat) : LX8 (Z0 n) 21 := ⟨rfl, rfl, rfl⟩
theorem LX8_24 (n : Nat) : LX8 (Z0 n) 24 := ⟨rfl, rfl, rfl⟩
theorem LX8_47 (n : Nat) : LX8 (Z0 n) 47 := ⟨rfl, rfl, rfl⟩
theorem LX8_50 (n : Nat) : LX8 (Z0 n) 50 := ⟨rfl, rfl, rfl⟩
theorem LX8_72 (n : Nat) : LX8 (Z0 n) 72 := ⟨rfl, rfl, rfl⟩
theorem LX8_75 (n : Nat) : LX8 (Z0 n) 75 := ⟨rfl, rfl, rfl⟩
theorem LX8_97 (n : Nat) : LX8 (Z0 n) 97 := ⟨rfl, rfl, rfl⟩
theorem LX8_100 (n : Nat) : LX8 (Z0 n) 100 := ⟨rfl, rfl, rfl⟩
theorem LX8_111 (n : Nat) : LX8 (Z0 n) 111 := ⟨rfl, rfl, rfl⟩
