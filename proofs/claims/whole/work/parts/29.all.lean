/-! EVERY METHOD'S TABLES HOLD -/
theorem zmi_out {k : Nat} (h : 244 ≤ k) {i : Nat} : ztb k i = none := by
  have h0 : zM.length = 244 := by decide +kernel
  have hl : zM.length ≤ k := by omega
  have e : zmi k = (x, code, 0, none, "", 9, 0, 0, []) := by
    unfold zmi
    rw [List.getD_eq_getElem?_getD (l := zM), List.getElem?_eq_none hl]; rfl
  unfold ztb; rw [e]; rfl
theorem zall_0 {k i : Nat} {en : zE} (h1 : 0 ≤ k) (h2 : k < 20) (he : ztb k i = some en) : zchk k i en = true ∧ zWd k en := by
  rcases (show k = 0 ∨ k = 1 ∨ k = 2 ∨ k = 3 ∨ k = 4 ∨ k = 5 ∨ k = 6 ∨ k = 7 ∨ k = 8 ∨ k = 9 ∨ k = 10 ∨ k = 11 ∨ k = 12 ∨ k = 13 ∨ k = 14 ∨ k = 15 ∨ k = 16 ∨ k = 17 ∨ k = 18 ∨ k = 19 by omega) with rfl | rfl | rfl | rfl | rfl | rfl | rfl | rfl | rfl | rfl | rfl | rfl | rfl | rfl | rfl | rfl | rfl | rfl | rfl | rfl
  · exact ⟨by have := zchkL_at zck0 he; rwa [Nat.zero_add] at this, zWdL_at zwd0 he⟩
  · exact ⟨by have := zchkL_at zck1 he; rwa [Nat.zero_add] at this, zWdL_at zwd1 he⟩
  · exact ⟨by have := zchkL_at zck2 he; rwa [Nat.zero_add] at this, zWdL_at zwd2 he⟩
  · exact ⟨by have := zchkL_at zck3 he; rwa [Nat.zero_add] at this, zWdL_at zwd3 he⟩
  · exact ⟨by have := zchkL_at zck4 he; rwa [Nat.zero_add] at this, zWdL_at zwd4 he⟩
  · exact ⟨by have := zchkL_at zck5 he; rwa [Nat.zero_add] at this, zWdL_at zwd5 he⟩
  · exact ⟨by have := zchkL_at zck6 he; rwa [Nat.zero_add] at this, zWdL_at zwd6 he⟩
  · exact ⟨by have := zchkL_at zck7 he; rwa [Nat.zero_add] at this, zWdL_at zwd7 he⟩
  · exact ⟨by have := zchkL_at zck8 he; rwa [Nat.zero_add] at this, zWdL_at zwd8 he⟩
  · exact ⟨by have := zchkL_at zck9 he; rwa [Nat.zero_add] at this, zWdL_at zwd9 he⟩
  · exact ⟨by have := zchkL_at zck10 he; rwa [Nat.zero_add] at this, zWdL_at zwd10 he⟩
  · exact ⟨by have := zchkL_at zck11 he; rwa [Nat.zero_add] at this, zWdL_at zwd11 he⟩
  · exact ⟨by have := zchkL_at zck12 he; rwa [Nat.zero_add] at this, zWdL_at zwd12 he⟩
  · exact ⟨by have := zchkL_at zck13 he; rwa [Nat.zero_add] at this, zWdL_at zwd13 he⟩
  · exact ⟨by have := zchkL_at zck14 he; rwa [Nat.zero_add] at this, zWdL_at zwd14 he⟩
  · exact ⟨by have := zchkL_at zck15 he; rwa [Nat.zero_add] at this, zWdL_at zwd15 he⟩
  · exact ⟨by have := zchkL_at zck16 he; rwa [Nat.zero_add] at this, zWdL_at zwd16 he⟩
  · exact ⟨by have := zchkL_at zck17 he; rwa [Nat.zero_add] at this, zWdL_at zwd17 he⟩
  · exact ⟨by have := zchkL_at zck18 he; rwa [Nat.zero_add] at this, zWdL_at zwd18 he⟩
  · exact ⟨by have := zchkL_at zck19 he; rwa [Nat.zero_add] at this, zWdL_at zwd19 he⟩
theorem zall_20 {k i : Nat} {en : zE} (h1 : 20 ≤ k) (h2 : k < 40) (he : ztb k i = some en) : zchk k i en = true ∧ zWd k en := by
  rcases (show k = 20 ∨ k = 21 ∨ k = 22 ∨ k = 23 ∨ k = 24 ∨ k = 25 ∨ k = 26 ∨ k = 27 ∨ k = 28 ∨ k = 29 ∨ k = 30 ∨ k = 31 ∨ k = 32 ∨ k = 33 ∨ k = 34 ∨ k = 35 ∨ k = 36 ∨ k = 37 ∨ k = 38 ∨ k = 39 by omega) with rfl | rfl | rfl | rfl | rfl | rfl | rfl | rfl | rfl | rfl | rfl | rfl | rfl | rfl | rfl | rfl | rfl | rfl | rfl | rfl
  · exact ⟨by have := zchkL_at zck20 he; rwa [Nat.zero_add] at this, zWdL_at zwd20 he⟩
  · exact ⟨by have := zchkL_at zck21 he; rwa [Nat.zero_add] at this, zWdL_at zwd21 he⟩
  · exact ⟨by have := zchkL_at zck22 he; rwa [Nat.zero_add] at this, zWdL_at zwd22 he⟩
  · exact ⟨by have := zchkL_at zck23 he; rwa [Nat.zero_add] at this, zWdL_at zwd23 he⟩
  · exact ⟨by have := zchkL_at zck24 he; rwa [Nat.zero_add] at this, zWdL_at zwd24 he⟩
  · exact ⟨by have := zchkL_at zck25 he; rwa [Nat.zero_add] at this, zWdL_at zwd25 he⟩
  · exact ⟨by have := zchkL_at zck26 he; rwa [Nat.zero_add] at this, zWdL_at zwd26 he⟩
  · exact ⟨by have := zchkL_at zck27 he; rwa [Nat.zero_add] at this, zWdL_at zwd27 he⟩
  · exact ⟨by have := zchkL_at zck28 he; rwa [Nat.zero_add] at this, zWdL_at zwd28 he⟩
  · exact ⟨by have := zchkL_at zck29 he; rwa [Nat.zero_add] at this, zWdL_at zwd29 he⟩
  · exact ⟨by have := zchkL_at zck30 he; rwa [Nat.zero_add] at this, zWdL_at zwd30 he⟩
  · exact ⟨by have := zchkL_at zck31 he; rwa [Nat.zero_add] at this, zWdL_at zwd31 he⟩
  · exact ⟨by have := zchkL_at zck32 he; rwa [Nat.zero_add] at this, zWdL_at zwd32 he⟩
  · exact ⟨by have := zchkL_at zck33 he; rwa [Nat.zero_add] at this, zWdL_at zwd33 he⟩
  · exact ⟨by have := zchkL_at zck34 he; rwa [Nat.zero_add] at this, zWdL_at zwd34 he⟩
  · exact ⟨by have := zchkL_at zck35 he; rwa [Nat.zero_add] at this, zWdL_at zwd35 he⟩
  · exact ⟨by have := zchkL_at zck36 he; rwa [Nat.zero_add] at this, zWdL_at zwd36 he⟩
  · exact ⟨by have := zchkL_at zck37 he; rwa [Nat.zero_add] at this, zWdL_at zwd37 he⟩
  · exact ⟨by have := zchkL_at zck38 he; rwa [Nat.zero_add] at this, zWdL_at zwd38 he⟩
  · exact ⟨by have := zchkL_at zck39 he; rwa [Nat.zero_add] at this, zWdL_at zwd39 he⟩
theorem zall_40 {k i : Nat} {en : zE} (h1 : 40 ≤ k) (h2 : k < 60) (he : ztb k i = some en) : zchk k i en = true ∧ zWd k en := by
  rcases (show k = 40 ∨ k = 41 ∨ k = 42 ∨ k = 43 ∨ k = 44 ∨ k = 45 ∨ k = 46 ∨ k = 47 ∨ k = 48 ∨ k = 49 ∨ k = 50 ∨ k = 51 ∨ k = 52 ∨ k = 53 ∨ k = 54 ∨ k = 55 ∨ k = 56 ∨ k = 57 ∨ k = 58 ∨ k = 59 by omega) with rfl | rfl | rfl | rfl | rfl | rfl | rfl | rfl | rfl | rfl | rfl | rfl | rfl | rfl | rfl | rfl | rfl | rfl | rfl | rfl
  · exact ⟨by have := zchkL_at zck40 he; rwa [Nat.zero_add] at this, zWdL_at zwd40 he⟩
  · exact ⟨by have := zchkL_at zck41 he; rwa [Nat.zero_add] at this, zWdL_at zwd41 he⟩
  · exact ⟨by have := zchkL_at zck42 he; rwa [Nat.zero_add] at this, zWdL_at zwd42 he⟩
  · exact ⟨by have := zchkL_at zck43 he; rwa [Nat.zero_add] at this, zWdL_at zwd43 he⟩
  · exact ⟨by have := zchkL_at zck44 he; rwa [Nat.zero_add] at this, zWdL_at zwd44 he⟩
  · exact ⟨by have := zchkL_at zck45 he; rwa [Nat.zero_add] at this, zWdL_at zwd45 he⟩
  · exact ⟨by have := zchkL_at zck46 he; rwa [Nat.zero_add] at this, zWdL_at zwd46 he⟩
  · exact ⟨by have := zchkL_at zck47 he; rwa [Nat.zero_add] at this, zWdL_at zwd47 he⟩
  · exact ⟨by have := zchkL_at zck48 he; rwa [Nat.zero_add] at this, zWdL_at zwd48 he⟩
  · exact ⟨by have := zchkL_at zck49 he; rwa [Nat.zero_add] at this, zWdL_at zwd49 he⟩
  · exact ⟨by have := zchkL_at zck50 he; rwa [Nat.zero_add] at this, zWdL_at zwd50 he⟩
  · exact ⟨by have := zchkL_at zck51 he; rwa [Nat.zero_add] at this, zWdL_at zwd51 he⟩
  · exact ⟨by have := zchkL_at zck52 he; rwa [Nat.zero_add] at this, zWdL_at zwd52 he⟩
  · exact ⟨by have := zchkL_at zck53 he; rwa [Nat.zero_add] at this, zWdL_at zwd53 he⟩
  · exact ⟨by have := zchkL_at zck54 he; rwa [Nat.zero_add] at this, zWdL_at zwd54 he⟩
  · exact ⟨by have := zchkL_at zck55 he; rwa [Nat.zero_add] at this, zWdL_at zwd55 he⟩
  · exact ⟨by have := zchkL_at zck56 he; rwa [Nat.zero_add] at this, zWdL_at zwd56 he⟩
  · exact ⟨by have := zchkL_at zck57 he; rwa [Nat.zero_add] at this, zWdL_at zwd57 he⟩
  · exact ⟨by have := zchkL_at zck58 he; rwa [Nat.zero_add] at this, zWdL_at zwd58 he⟩
  · exact ⟨by have := zchkL_at zck59 he; rwa [Nat.zero_add] at this, zWdL_at zwd59 he⟩
theorem zall_60 {k i : Nat} {en : zE} (h1 : 60 ≤ k) (h2 : k < 80) (he : ztb k i = some en) : zchk k i en = true ∧ zWd k en := by
  rcases (show k = 60 ∨ k = 61 ∨ k = 62 ∨ k = 63 ∨ k = 64 ∨ k = 65 ∨ k = 66 ∨ k = 67 ∨ k = 68 ∨ k = 69 ∨ k = 70 ∨ k = 71 ∨ k = 72 ∨ k = 73 ∨ k = 74 ∨ k = 75 ∨ k = 76 ∨ k = 77 ∨ k = 78 ∨ k = 79 by omega) with rfl | rfl | rfl | rfl | rfl | rfl | rfl | rfl | rfl | rfl | rfl | rfl | rfl | rfl | rfl | rfl | rfl | rfl | rfl | rfl
  · exact ⟨by have := zchkL_at zck60 he; rwa [Nat.zero_add] at this, zWdL_at zwd60 he⟩
  · exact ⟨by have := zchkL_at zck61 he; rwa [Nat.zero_add] at this, zWdL_at zwd61 he⟩
  · exact ⟨by have := zchkL_at zck62 he; rwa [Nat.zero_add] at this, zWdL_at zwd62 he⟩
  · exact ⟨by have := zchkL_at zck63 he; rwa [Nat.zero_add] at this, zWdL_at zwd63 he⟩
  · exact ⟨by have := zchkL_at zck64 he; rwa [Nat.zero_add] at this, zWdL_at zwd64 he⟩
  · exact ⟨by have := zchkL_at zck65 he; rwa [Nat.zero_add] at this, zWdL_at zwd65 he⟩
  · exact ⟨by have := zchkL_at zck66 he; rwa [Nat.zero_add] at this, zWdL_at zwd66 he⟩
  · exact ⟨by have := zchkL_at zck67 he; rwa [Nat.zero_add] at this, zWdL_at zwd67 he⟩
  · exact ⟨by have := zchkL_at zck68 he; rwa [Nat.zero_add] at this, zWdL_at zwd68 he⟩
  · exact ⟨by have := zchkL_at zck69 he; rwa [Nat.zero_add] at this, zWdL_at zwd69 he⟩
  · exact ⟨by have := zchkL_at zck70 he; rwa [Nat.zero_add] at this, zWdL_at zwd70 he⟩
  · exact ⟨by have := zchkL_at zck71 he; rwa [Nat.zero_add] at this, zWdL_at zwd71 he⟩
  · exact ⟨by have := zchkL_at zck72 he; rwa [Nat.zero_add] at this, zWdL_at zwd72 he⟩
  · exact ⟨by have := zchkL_at zck73 he; rwa [Nat.zero_add] at this, zWdL_at zwd73 he⟩
  · exact ⟨by have := zchkL_at zck74 he; rwa [Nat.zero_add] at this, zWdL_at zwd74 he⟩
  · exact ⟨by have := zchkL_at zck75 he; rwa [Nat.zero_add] at this, zWdL_at zwd75 he⟩
  · exact ⟨by have := zchkL_at zck76 he; rwa [Nat.zero_add] at this, zWdL_at zwd76 he⟩
  · exact ⟨by have := zchkL_at zck77 he; rwa [Nat.zero_add] at this, zWdL_at zwd77 he⟩
  · exact ⟨by have := zchkL_at zck78 he; rwa [Nat.zero_add] at this, zWdL_at zwd78 he⟩
  · exact ⟨by have := zchkL_at zck79 he; rwa [Nat.zero_add] at this, zWdL_at zwd79 he⟩
theorem zall_80 {k i : Nat} {en : zE} (h1 : 80 ≤ k) (h2 : k < 100) (he : ztb k i = some en) : zchk k i en = true ∧ zWd k en := by
  rcases (show k = 80 ∨ k = 81 ∨ k = 82 ∨ k = 83 ∨ k = 84 ∨ k = 85 ∨ k = 86 ∨ k = 87 ∨ k = 88 ∨ k = 89 ∨ k = 90 ∨ k = 91 ∨ k = 92 ∨ k = 93 ∨ k = 94 ∨ k = 95 ∨ k = 96 ∨ k = 97 ∨ k = 98 ∨ k = 99 by omega) with rfl | rfl | rfl | rfl | rfl | rfl | rfl | rfl | rfl | rfl | rfl | rfl | rfl | rfl | rfl | rfl | rfl | rfl | rfl | rfl
  · exact ⟨by have := zchkL_at zck80 he; rwa [Nat.zero_add] at this, zWdL_at zwd80 he⟩
  · exact ⟨by have := zchkL_at zck81 he; rwa [Nat.zero_add] at this, zWdL_at zwd81 he⟩
  · exact ⟨by have := zchkL_at zck82 he; rwa [Nat.zero_add] at this, zWdL_at zwd82 he⟩
  · exact ⟨by have := zchkL_at zck83 he; rwa [Nat.zero_add] at this, zWdL_at zwd83 he⟩
  · exact ⟨by have := zchkL_at zck84 he; rwa [Nat.zero_add] at this, zWdL_at zwd84 he⟩
  · exact ⟨by have := zchkL_at zck85 he; rwa [Nat.zero_add] at this, zWdL_at zwd85 he⟩
  · exact ⟨by have := zchkL_at zck86 he; rwa [Nat.zero_add] at this, zWdL_at zwd86 he⟩
  · exact ⟨by have := zchkL_at zck87 he; rwa [Nat.zero_add] at this, zWdL_at zwd87 he⟩
  · exact ⟨by have := zchkL_at zck88 he; rwa [Nat.zero_add] at this, zWdL_at zwd88 he⟩
  · exact ⟨by have := zchkL_at zck89 he; rwa [Nat.zero_add] at this, zWdL_at zwd89 he⟩
  · exact ⟨by have := zchkL_at zck90 he; rwa [Nat.zero_add] at this, zWdL_at zwd90 he⟩
  · exact ⟨by have := zchkL_at zck91 he; rwa [Nat.zero_add] at this, zWdL_at zwd91 he⟩
  · exact ⟨by have := zchkL_at zck92 he; rwa [Nat.zero_add] at this, zWdL_at zwd92 he⟩
  · exact ⟨by have := zchkL_at zck93 he; rwa [Nat.zero_add] at this, zWdL_at zwd93 he⟩
  · exact ⟨by have := zchkL_at zck94 he; rwa [Nat.zero_add] at this, zWdL_at zwd94 he⟩
  · exact ⟨by have := zchkL_at zck95 he; rwa [Nat.zero_add] at this, zWdL_at zwd95 he⟩
  · exact ⟨by have := zchkL_at zck96 he; rwa [Nat.zero_add] at this, zWdL_at zwd96 he⟩
  · exact ⟨by have := zchkL_at zck97 he; rwa [Nat.zero_add] at this, zWdL_at zwd97 he⟩
  · exact ⟨by have := zchkL_at zck98 he; rwa [Nat.zero_add] at this, zWdL_at zwd98 he⟩
  · exact ⟨by have := zchkL_at zck99 he; rwa [Nat.zero_add] at this, zWdL_at zwd99 he⟩
theorem zall_100 {k i : Nat} {en : zE} (h1 : 100 ≤ k) (h2 : k < 120) (he : ztb k i = some en) : zchk k i en = true ∧ zWd k en := by
  rcases (show k = 100 ∨ k = 101 ∨ k = 102 ∨ k = 103 ∨ k = 104 ∨ k = 105 ∨ k = 106 ∨ k = 107 ∨ k = 108 ∨ k = 109 ∨ k = 110 ∨ k = 111 ∨ k = 112 ∨ k = 113 ∨ k = 114 ∨ k = 115 ∨ k = 116 ∨ k = 117 ∨ k = 118 ∨ k = 119 by omega) with rfl | rfl | rfl | rfl | rfl | rfl | rfl | rfl | rfl | rfl | rfl | rfl | rfl | rfl | rfl | rfl | rfl | rfl | rfl | rfl
  · exact ⟨by have := zchkL_at zck100 he; rwa [Nat.zero_add] at this, zWdL_at zwd100 he⟩
  · exact ⟨by have := zchkL_at zck101 he; rwa [Nat.zero_add] at this, zWdL_at zwd101 he⟩
  · exact ⟨by have := zchkL_at zck102 he; rwa [Nat.zero_add] at this, zWdL_at zwd102 he⟩
  · exact ⟨by have := zchkL_at zck103 he; rwa [Nat.zero_add] at this, zWdL_at zwd103 he⟩
  · exact ⟨by have := zchkL_at zck104 he; rwa [Nat.zero_add] at this, zWdL_at zwd104 he⟩
  · exact ⟨by have := zchkL_at zck105 he; rwa [Nat.zero_add] at this, zWdL_at zwd105 he⟩
  · exact ⟨by have := zchkL_at zck106 he; rwa [Nat.zero_add] at this, zWdL_at zwd106 he⟩
  · exact ⟨by have := zchkL_at zck107 he; rwa [Nat.zero_add] at this, zWdL_at zwd107 he⟩
  · exact ⟨by have := zchkL_at zck108 he; rwa [Nat.zero_add] at this, zWdL_at zwd108 he⟩
  · exact ⟨by have := zchkL_at zck109 he; rwa [Nat.zero_add] at this, zWdL_at zwd109 he⟩
  · exact ⟨by have := zchkL_at zck110 he; rwa [Nat.zero_add] at this, zWdL_at zwd110 he⟩
  · exact ⟨by have := zchkL_at zck111 he; rwa [Nat.zero_add] at this, zWdL_at zwd111 he⟩
  · exact ⟨by have := zchkL_at zck112 he; rwa [Nat.zero_add] at this, zWdL_at zwd112 he⟩
  · exact ⟨by have := zchkL_at zck113 he; rwa [Nat.zero_add] at this, zWdL_at zwd113 he⟩
  · exact ⟨by have := zchkL_at zck114 he; rwa [Nat.zero_add] at this, zWdL_at zwd114 he⟩
  · exact ⟨by have := zchkL_at zck115 he; rwa [Nat.zero_add] at this, zWdL_at zwd115 he⟩
  · exact ⟨by have := zchkL_at zck116 he; rwa [Nat.zero_add] at this, zWdL_at zwd116 he⟩
  · exact ⟨by have := zchkL_at zck117 he; rwa [Nat.zero_add] at this, zWdL_at zwd117 he⟩
  · exact ⟨by have := zchkL_at zck118 he; rwa [Nat.zero_add] at this, zWdL_at zwd118 he⟩
  · exact ⟨by have := zchkL_at zck119 he; rwa [Nat.zero_add] at this, zWdL_at zwd119 he⟩
theorem zall_120 {k i : Nat} {en : zE} (h1 : 120 ≤ k) (h2 : k < 140) (he : ztb k i = some en) : zchk k i en = true ∧ zWd k en := by
  rcases (show k = 120 ∨ k = 121 ∨ k = 122 ∨ k = 123 ∨ k = 124 ∨ k = 125 ∨ k = 126 ∨ k = 127 ∨ k = 128 ∨ k = 129 ∨ k = 130 ∨ k = 131 ∨ k = 132 ∨ k = 133 ∨ k = 134 ∨ k = 135 ∨ k = 136 ∨ k = 137 ∨ k = 138 ∨ k = 139 by omega) with rfl | rfl | rfl | rfl | rfl | rfl | rfl | rfl | rfl | rfl | rfl | rfl | rfl | rfl | rfl | rfl | rfl | rfl | rfl | rfl
  · exact ⟨by have := zchkL_at zck120 he; rwa [Nat.zero_add] at this, zWdL_at zwd120 he⟩
  · exact ⟨by have := zchkL_at zck121 he; rwa [Nat.zero_add] at this, zWdL_at zwd121 he⟩
  · exact ⟨by have := zchkL_at zck122 he; rwa [Nat.zero_add] at this, zWdL_at zwd122 he⟩
  · exact ⟨by have := zchkL_at zck123 he; rwa [Nat.zero_add] at this, zWdL_at zwd123 he⟩
  · exact ⟨by have := zchkL_at zck124 he; rwa [Nat.zero_add] at this, zWdL_at zwd124 he⟩
  · exact ⟨by have := zchkL_at zck125 he; rwa [Nat.zero_add] at this, zWdL_at zwd125 he⟩
  · exact ⟨by have := zchkL_at zck126 he; rwa [Nat.zero_add] at this, zWdL_at zwd126 he⟩
  · exact ⟨by have := zchkL_at zck127 he; rwa [Nat.zero_add] at this, zWdL_at zwd127 he⟩
  · exact ⟨by have := zchkL_at zck128 he; rwa [Nat.zero_add] at this, zWdL_at zwd128 he⟩
  · exact ⟨by have := zchkL_at zck129 he; rwa [Nat.zero_add] at this, zWdL_at zwd129 he⟩
  · exact ⟨by have := zchkL_at zck130 he; rwa [Nat.zero_add] at this, zWdL_at zwd130 he⟩
  · exact ⟨by have := zchkL_at zck131 he; rwa [Nat.zero_add] at this, zWdL_at zwd131 he⟩
  · exact ⟨by have := zchkL_at zck132 he; rwa [Nat.zero_add] at this, zWdL_at zwd132 he⟩
  · exact ⟨by have := zchkL_at zck133 he; rwa [Nat.zero_add] at this, zWdL_at zwd133 he⟩
  · exact ⟨by have := zchkL_at zck134 he; rwa [Nat.zero_add] at this, zWdL_at zwd134 he⟩
  · exact ⟨by have := zchkL_at zck135 he; rwa [Nat.zero_add] at this, zWdL_at zwd135 he⟩
  · exact ⟨by have := zchkL_at zck136 he; rwa [Nat.zero_add] at this, zWdL_at zwd136 he⟩
  · exact ⟨by have := zchkL_at zck137 he; rwa [Nat.zero_add] at this, zWdL_at zwd137 he⟩
  · exact ⟨by have := zchkL_at zck138 he; rwa [Nat.zero_add] at this, zWdL_at zwd138 he⟩
  · exact ⟨by have := zchkL_at zck139 he; rwa [Nat.zero_add] at this, zWdL_at zwd139 he⟩
theorem zall_140 {k i : Nat} {en : zE} (h1 : 140 ≤ k) (h2 : k < 160) (he : ztb k i = some en) : zchk k i en = true ∧ zWd k en := by
  rcases (show k = 140 ∨ k = 141 ∨ k = 142 ∨ k = 143 ∨ k = 144 ∨ k = 145 ∨ k = 146 ∨ k = 147 ∨ k = 148 ∨ k = 149 ∨ k = 150 ∨ k = 151 ∨ k = 152 ∨ k = 153 ∨ k = 154 ∨ k = 155 ∨ k = 156 ∨ k = 157 ∨ k = 158 ∨ k = 159 by omega) with rfl | rfl | rfl | rfl | rfl | rfl | rfl | rfl | rfl | rfl | rfl | rfl | rfl | rfl | rfl | rfl | rfl | rfl | rfl | rfl
  · exact ⟨by have := zchkL_at zck140 he; rwa [Nat.zero_add] at this, zWdL_at zwd140 he⟩
  · exact ⟨by have := zchkL_at zck141 he; rwa [Nat.zero_add] at this, zWdL_at zwd141 he⟩
  · exact ⟨by have := zchkL_at zck142 he; rwa [Nat.zero_add] at this, zWdL_at zwd142 he⟩
  · exact ⟨by have := zchkL_at zck143 he; rwa [Nat.zero_add] at this, zWdL_at zwd143 he⟩
  · exact ⟨by have := zchkL_at zck144 he; rwa [Nat.zero_add] at this, zWdL_at zwd144 he⟩
  · exact ⟨by have := zchkL_at zck145 he; rwa [Nat.zero_add] at this, zWdL_at zwd145 he⟩
  · exact ⟨by have := zchkL_at zck146 he; rwa [Nat.zero_add] at this, zWdL_at zwd146 he⟩
  · exact ⟨by have := zchkL_at zck147 he; rwa [Nat.zero_add] at this, zWdL_at zwd147 he⟩
  · exact ⟨by have := zchkL_at zck148 he; rwa [Nat.zero_add] at this, zWdL_at zwd148 he⟩
  · exact ⟨by have := zchkL_at zck149 he; rwa [Nat.zero_add] at this, zWdL_at zwd149 he⟩
  · exact ⟨by have := zchkL_at zck150 he; rwa [Nat.zero_add] at this, zWdL_at zwd150 he⟩
  · exact ⟨by have := zchkL_at zck151 he; rwa [Nat.zero_add] at this, zWdL_at zwd151 he⟩
  · exact ⟨by have := zchkL_at zck152 he; rwa [Nat.zero_add] at this, zWdL_at zwd152 he⟩
  · exact ⟨by have := zchkL_at zck153 he; rwa [Nat.zero_add] at this, zWdL_at zwd153 he⟩
  · exact ⟨by have := zchkL_at zck154 he; rwa [Nat.zero_add] at this, zWdL_at zwd154 he⟩
  · exact ⟨by have := zchkL_at zck155 he; rwa [Nat.zero_add] at this, zWdL_at zwd155 he⟩
  · exact ⟨by have := zchkL_at zck156 he; rwa [Nat.zero_add] at this, zWdL_at zwd156 he⟩
  · exact ⟨by have := zchkL_at zck157 he; rwa [Nat.zero_add] at this, zWdL_at zwd157 he⟩
  · exact ⟨by have := zchkL_at zck158 he; rwa [Nat.zero_add] at this, zWdL_at zwd158 he⟩
  · exact ⟨by have := zchkL_at zck159 he; rwa [Nat.zero_add] at this, zWdL_at zwd159 he⟩
theorem zall_160 {k i : Nat} {en : zE} (h1 : 160 ≤ k) (h2 : k < 180) (he : ztb k i = some en) : zchk k i en = true ∧ zWd k en := by
  rcases (show k = 160 ∨ k = 161 ∨ k = 162 ∨ k = 163 ∨ k = 164 ∨ k = 165 ∨ k = 166 ∨ k = 167 ∨ k = 168 ∨ k = 169 ∨ k = 170 ∨ k = 171 ∨ k = 172 ∨ k = 173 ∨ k = 174 ∨ k = 175 ∨ k = 176 ∨ k = 177 ∨ k = 178 ∨ k = 179 by omega) with rfl | rfl | rfl | rfl | rfl | rfl | rfl | rfl | rfl | rfl | rfl | rfl | rfl | rfl | rfl | rfl | rfl | rfl | rfl | rfl
  · exact ⟨by have := zchkL_at zck160 he; rwa [Nat.zero_add] at this, zWdL_at zwd160 he⟩
  · exact ⟨by have := zchkL_at zck161 he; rwa [Nat.zero_add] at this, zWdL_at zwd161 he⟩
  · exact ⟨by have := zchkL_at zck162 he; rwa [Nat.zero_add] at this, zWdL_at zwd162 he⟩
  · exact ⟨by have := zchkL_at zck163 he; rwa [Nat.zero_add] at this, zWdL_at zwd163 he⟩
  · exact ⟨by have := zchkL_at zck164 he; rwa [Nat.zero_add] at this, zWdL_at zwd164 he⟩
  · exact ⟨by have := zchkL_at zck165 he; rwa [Nat.zero_add] at this, zWdL_at zwd165 he⟩
  · exact ⟨by have := zchkL_at zck166 he; rwa [Nat.zero_add] at this, zWdL_at zwd166 he⟩
  · exact ⟨by have := zchkL_at zck167 he; rwa [Nat.zero_add] at this, zWdL_at zwd167 he⟩
  · exact ⟨by have := zchkL_at zck168 he; rwa [Nat.zero_add] at this, zWdL_at zwd168 he⟩
  · exact ⟨by have := zchkL_at zck169 he; rwa [Nat.zero_add] at this, zWdL_at zwd169 he⟩
  · exact ⟨by have := zchkL_at zck170 he; rwa [Nat.zero_add] at this, zWdL_at zwd170 he⟩
  · exact ⟨by have := zchkL_at zck171 he; rwa [Nat.zero_add] at this, zWdL_at zwd171 he⟩
  · exact ⟨by have := zchkL_at zck172 he; rwa [Nat.zero_add] at this, zWdL_at zwd172 he⟩
  · exact ⟨by have := zchkL_at zck173 he; rwa [Nat.zero_add] at this, zWdL_at zwd173 he⟩
  · exact ⟨by have := zchkL_at zck174 he; rwa [Nat.zero_add] at this, zWdL_at zwd174 he⟩
  · exact ⟨by have := zchkL_at zck175 he; rwa [Nat.zero_add] at this, zWdL_at zwd175 he⟩
  · exact ⟨by have := zchkL_at zck176 he; rwa [Nat.zero_add] at this, zWdL_at zwd176 he⟩
  · exact ⟨by have := zchkL_at zck177 he; rwa [Nat.zero_add] at this, zWdL_at zwd177 he⟩
  · exact ⟨by have := zchkL_at zck178 he; rwa [Nat.zero_add] at this, zWdL_at zwd178 he⟩
  · exact ⟨by have := zchkL_at zck179 he; rwa [Nat.zero_add] at this, zWdL_at zwd179 he⟩
theorem zall_180 {k i : Nat} {en : zE} (h1 : 180 ≤ k) (h2 : k < 200) (he : ztb k i = some en) : zchk k i en = true ∧ zWd k en := by
  rcases (show k = 180 ∨ k = 181 ∨ k = 182 ∨ k = 183 ∨ k = 184 ∨ k = 185 ∨ k = 186 ∨ k = 187 ∨ k = 188 ∨ k = 189 ∨ k = 190 ∨ k = 191 ∨ k = 192 ∨ k = 193 ∨ k = 194 ∨ k = 195 ∨ k = 196 ∨ k = 197 ∨ k = 198 ∨ k = 199 by omega) with rfl | rfl | rfl | rfl | rfl | rfl | rfl | rfl | rfl | rfl | rfl | rfl | rfl | rfl | rfl | rfl | rfl | rfl | rfl | rfl
  · exact ⟨by have := zchkL_at zck180 he; rwa [Nat.zero_add] at this, zWdL_at zwd180 he⟩
  · exact ⟨by have := zchkL_at zck181 he; rwa [Nat.zero_add] at this, zWdL_at zwd181 he⟩
  · exact ⟨by have := zchkL_at zck182 he; rwa [Nat.zero_add] at this, zWdL_at zwd182 he⟩
  · exact ⟨by have := zchkL_at zck183 he; rwa [Nat.zero_add] at this, zWdL_at zwd183 he⟩
  · exact ⟨by have := zchkL_at zck184 he; rwa [Nat.zero_add] at this, zWdL_at zwd184 he⟩
  · exact ⟨by have := zchkL_at zck185 he; rwa [Nat.zero_add] at this, zWdL_at zwd185 he⟩
  · exact ⟨by have := zchkL_at zck186 he; rwa [Nat.zero_add] at this, zWdL_at zwd186 he⟩
  · exact ⟨by have := zchkL_at zck187 he; rwa [Nat.zero_add] at this, zWdL_at zwd187 he⟩
  · exact ⟨by have := zchkL_at zck188 he; rwa [Nat.zero_add] at this, zWdL_at zwd188 he⟩
  · exact ⟨by have := zchkL_at zck189 he; rwa [Nat.zero_add] at this, zWdL_at zwd189 he⟩
  · exact ⟨by have := zchkL_at zck190 he; rwa [Nat.zero_add] at this, zWdL_at zwd190 he⟩
  · exact ⟨by have := zchkL_at zck191 he; rwa [Nat.zero_add] at this, zWdL_at zwd191 he⟩
  · exact ⟨by have := zchkL_at zck192 he; rwa [Nat.zero_add] at this, zWdL_at zwd192 he⟩
  · exact ⟨by have := zchkL_at zck193 he; rwa [Nat.zero_add] at this, zWdL_at zwd193 he⟩
  · exact ⟨by have := zchkL_at zck194 he; rwa [Nat.zero_add] at this, zWdL_at zwd194 he⟩
  · exact ⟨by have := zchkL_at zck195 he; rwa [Nat.zero_add] at this, zWdL_at zwd195 he⟩
  · exact ⟨by have := zchkL_at zck196 he; rwa [Nat.zero_add] at this, zWdL_at zwd196 he⟩
  · exact ⟨by have := zchkL_at zck197 he; rwa [Nat.zero_add] at this, zWdL_at zwd197 he⟩
  · exact ⟨by have := zchkL_at zck198 he; rwa [Nat.zero_add] at this, zWdL_at zwd198 he⟩
  · exact ⟨by have := zchkL_at zck199 he; rwa [Nat.zero_add] at this, zWdL_at zwd199 he⟩
theorem zall_200 {k i : Nat} {en : zE} (h1 : 200 ≤ k) (h2 : k < 220) (he : ztb k i = some en) : zchk k i en = true ∧ zWd k en := by
  rcases (show k = 200 ∨ k = 201 ∨ k = 202 ∨ k = 203 ∨ k = 204 ∨ k = 205 ∨ k = 206 ∨ k = 207 ∨ k = 208 ∨ k = 209 ∨ k = 210 ∨ k = 211 ∨ k = 212 ∨ k = 213 ∨ k = 214 ∨ k = 215 ∨ k = 216 ∨ k = 217 ∨ k = 218 ∨ k = 219 by omega) with rfl | rfl | rfl | rfl | rfl | rfl | rfl | rfl | rfl | rfl | rfl | rfl | rfl | rfl | rfl | rfl | rfl | rfl | rfl | rfl
  · exact ⟨by have := zchkL_at zck200 he; rwa [Nat.zero_add] at this, zWdL_at zwd200 he⟩
  · exact ⟨by have := zchkL_at zck201 he; rwa [Nat.zero_add] at this, zWdL_at zwd201 he⟩
  · exact ⟨by have := zchkL_at zck202 he; rwa [Nat.zero_add] at this, zWdL_at zwd202 he⟩
  · exact ⟨by have := zchkL_at zck203 he; rwa [Nat.zero_add] at this, zWdL_at zwd203 he⟩
  · exact ⟨by have := zchkL_at zck204 he; rwa [Nat.zero_add] at this, zWdL_at zwd204 he⟩
  · exact ⟨by have := zchkL_at zck205 he; rwa [Nat.zero_add] at this, zWdL_at zwd205 he⟩
  · exact ⟨by have := zchkL_at zck206 he; rwa [Nat.zero_add] at this, zWdL_at zwd206 he⟩
  · exact ⟨by have := zchkL_at zck207 he; rwa [Nat.zero_add] at this, zWdL_at zwd207 he⟩
  · exact ⟨by have := zchkL_at zck208 he; rwa [Nat.zero_add] at this, zWdL_at zwd208 he⟩
  · exact ⟨by have := zchkL_at zck209 he; rwa [Nat.zero_add] at this, zWdL_at zwd209 he⟩
  · exact ⟨by have := zchkL_at zck210 he; rwa [Nat.zero_add] at this, zWdL_at zwd210 he⟩
  · exact ⟨by have := zchkL_at zck211 he; rwa [Nat.zero_add] at this, zWdL_at zwd211 he⟩
  · exact ⟨by have := zchkL_at zck212 he; rwa [Nat.zero_add] at this, zWdL_at zwd212 he⟩
  · exact ⟨by have := zchkL_at zck213 he; rwa [Nat.zero_add] at this, zWdL_at zwd213 he⟩
  · exact ⟨by have := zchkL_at zck214 he; rwa [Nat.zero_add] at this, zWdL_at zwd214 he⟩
  · exact ⟨by have := zchkL_at zck215 he; rwa [Nat.zero_add] at this, zWdL_at zwd215 he⟩
  · exact ⟨by have := zchkL_at zck216 he; rwa [Nat.zero_add] at this, zWdL_at zwd216 he⟩
  · exact ⟨by have := zchkL_at zck217 he; rwa [Nat.zero_add] at this, zWdL_at zwd217 he⟩
  · exact ⟨by have := zchkL_at zck218 he; rwa [Nat.zero_add] at this, zWdL_at zwd218 he⟩
  · exact ⟨by have := zchkL_at zck219 he; rwa [Nat.zero_add] at this, zWdL_at zwd219 he⟩
theorem zall_220 {k i : Nat} {en : zE} (h1 : 220 ≤ k) (h2 : k < 240) (he : ztb k i = some en) : zchk k i en = true ∧ zWd k en := by
  rcases (show k = 220 ∨ k = 221 ∨ k = 222 ∨ k = 223 ∨ k = 224 ∨ k = 225 ∨ k = 226 ∨ k = 227 ∨ k = 228 ∨ k = 229 ∨ k = 230 ∨ k = 231 ∨ k = 232 ∨ k = 233 ∨ k = 234 ∨ k = 235 ∨ k = 236 ∨ k = 237 ∨ k = 238 ∨ k = 239 by omega) with rfl | rfl | rfl | rfl | rfl | rfl | rfl | rfl | rfl | rfl | rfl | rfl | rfl | rfl | rfl | rfl | rfl | rfl | rfl | rfl
  · exact ⟨by have := zchkL_at zck220 he; rwa [Nat.zero_add] at this, zWdL_at zwd220 he⟩
  · exact ⟨by have := zchkL_at zck221 he; rwa [Nat.zero_add] at this, zWdL_at zwd221 he⟩
  · exact ⟨by have := zchkL_at zck222 he; rwa [Nat.zero_add] at this, zWdL_at zwd222 he⟩
  · exact ⟨by have := zchkL_at zck223 he; rwa [Nat.zero_add] at this, zWdL_at zwd223 he⟩
  · exact ⟨by have := zchkL_at zck224 he; rwa [Nat.zero_add] at this, zWdL_at zwd224 he⟩
  · exact ⟨by have := zchkL_at zck225 he; rwa [Nat.zero_add] at this, zWdL_at zwd225 he⟩
  · exact ⟨by have := zchkL_at zck226 he; rwa [Nat.zero_add] at this, zWdL_at zwd226 he⟩
  · exact ⟨by have := zchkL_at zck227 he; rwa [Nat.zero_add] at this, zWdL_at zwd227 he⟩
  · exact ⟨by have := zchkL_at zck228 he; rwa [Nat.zero_add] at this, zWdL_at zwd228 he⟩
  · exact ⟨by have := zchkL_at zck229 he; rwa [Nat.zero_add] at this, zWdL_at zwd229 he⟩
  · exact ⟨by have := zchkL_at zck230 he; rwa [Nat.zero_add] at this, zWdL_at zwd230 he⟩
  · exact ⟨by have := zchkL_at zck231 he; rwa [Nat.zero_add] at this, zWdL_at zwd231 he⟩
  · exact ⟨by have := zchkL_at zck232 he; rwa [Nat.zero_add] at this, zWdL_at zwd232 he⟩
  · exact ⟨by have := zchkL_at zck233 he; rwa [Nat.zero_add] at this, zWdL_at zwd233 he⟩
  · exact ⟨by have := zchkL_at zck234 he; rwa [Nat.zero_add] at this, zWdL_at zwd234 he⟩
  · exact ⟨by have := zchkL_at zck235 he; rwa [Nat.zero_add] at this, zWdL_at zwd235 he⟩
  · exact ⟨by have := zchkL_at zck236 he; rwa [Nat.zero_add] at this, zWdL_at zwd236 he⟩
  · exact ⟨by have := zchkL_at zck237 he; rwa [Nat.zero_add] at this, zWdL_at zwd237 he⟩
  · exact ⟨by have := zchkL_at zck238 he; rwa [Nat.zero_add] at this, zWdL_at zwd238 he⟩
  · exact ⟨by have := zchkL_at zck239 he; rwa [Nat.zero_add] at this, zWdL_at zwd239 he⟩
theorem zall_240 {k i : Nat} {en : zE} (h1 : 240 ≤ k) (h2 : k < 244) (he : ztb k i = some en) : zchk k i en = true ∧ zWd k en := by
  rcases (show k = 240 ∨ k = 241 ∨ k = 242 ∨ k = 243 by omega) with rfl | rfl | rfl | rfl
  · exact ⟨by have := zchkL_at zck240 he; rwa [Nat.zero_add] at this, zWdL_at zwd240 he⟩
  · exact ⟨by have := zchkL_at zck241 he; rwa [Nat.zero_add] at this, zWdL_at zwd241 he⟩
  · exact ⟨by have := zchkL_at zck242 he; rwa [Nat.zero_add] at this, zWdL_at zwd242 he⟩
  · exact ⟨by have := zchkL_at zck243 he; rwa [Nat.zero_add] at this, zWdL_at zwd243 he⟩
theorem zall : ∀ k i en, ztb k i = some en → zchk k i en = true ∧ zWd k en := by
  intro k i en he
  rcases Nat.lt_or_ge k 20 with h0 | h0
  · exact zall_0 (by omega) h0 he
  rcases Nat.lt_or_ge k 40 with h20 | h20
  · exact zall_20 (by omega) h20 he
  rcases Nat.lt_or_ge k 60 with h40 | h40
  · exact zall_40 (by omega) h40 he
  rcases Nat.lt_or_ge k 80 with h60 | h60
  · exact zall_60 (by omega) h60 he
  rcases Nat.lt_or_ge k 100 with h80 | h80
  · exact zall_80 (by omega) h80 he
  rcases Nat.lt_or_ge k 120 with h100 | h100
  · exact zall_100 (by omega) h100 he
  rcases Nat.lt_or_ge k 140 with h120 | h120
  · exact zall_120 (by omega) h120 he
  rcases Nat.lt_or_ge k 160 with h140 | h140
  · exact zall_140 (by omega) h140 he
  rcases Nat.lt_or_ge k 180 with h160 | h160
  · exact zall_160 (by omega) h160 he
  rcases Nat.lt_or_ge k 200 with h180 | h180
  · exact zall_180 (by omega) h180 he
  rcases Nat.lt_or_ge k 220 with h200 | h200
  · exact zall_200 (by omega) h200 he
  rcases Nat.lt_or_ge k 240 with h220 | h220
  · exact zall_220 (by omega) h220 he
  rcases Nat.lt_or_ge k 244 with h240 | h240
  · exact zall_240 (by omega) h240 he
  rw [zmi_out (by omega)] at he
  cases he
