/-! CONSTRUCTORS: FringeBench (laid by wip/whole/zctor.py) -/
def bl94_0 (b : Nat) : zS := ([(9, 10, [none, none, none, none, none, none, none, none, none, none])])
def bl94_1 (b : Nat) : zS := ([(9, 10, [none, none, none, none, none, none, none, none, none, none]), (7, 8, [none, none, none, none, none, none, none, none])])
def bl94_2 (b : Nat) : zS := ([(9, 10, [none, none, none, none, none, none, none, none, none, none])] ++ (cl7 (b + 1)))
def bl94_3 (b : Nat) : zS := ([(9, 10, [some (b + 1), none, none, none, none, none, none, none, none, none])] ++ (cl7 (b + 1)))
def bl94_4 (b : Nat) : zS := ([(9, 10, [some (b + 1), none, none, none, none, none, none, none, none, none])] ++ (cl7 (b + 1) ++ ([(104, 3, [none, none, none])])))
def bl94_5 (b : Nat) : zS := ([(9, 10, [some (b + 1), none, none, none, none, none, none, none, none, none])] ++ (cl7 (b + 1) ++ ([(104, 3, [none, none, none]), (7, 8, [none, none, none, none, none, none, none, none])])))
def bl94_6 (b : Nat) : zS := ([(9, 10, [some (b + 1), none, none, none, none, none, none, none, none, none])] ++ (cl7 (b + 1) ++ ([(104, 3, [none, none, none])] ++ (cl7 (b + 27)))))
def bl94_7 (b : Nat) : zS := ([(9, 10, [some (b + 1), none, none, none, none, none, none, none, none, none])] ++ (cl7 (b + 1) ++ ([(104, 3, [some (b + 27), none, none])] ++ (cl7 (b + 27)))))
def bl94_8 (b : Nat) : zS := ([(9, 10, [some (b + 1), none, none, none, none, none, none, none, none, none])] ++ (cl7 (b + 1) ++ ([(104, 3, [some (b + 27), none, none])] ++ (cl7 (b + 27) ++ ([(7, 8, [none, none, none, none, none, none, none, none])])))))
def bl94_9 (b : Nat) : zS := ([(9, 10, [some (b + 1), none, none, none, none, none, none, none, none, none])] ++ (cl7 (b + 1) ++ ([(104, 3, [some (b + 27), none, none])] ++ (cl7 (b + 27) ++ (cl7 (b + 52))))))
def bl94_10 (b : Nat) : zS := ([(9, 10, [some (b + 1), none, none, none, none, none, none, none, none, none])] ++ (cl7 (b + 1) ++ ([(104, 3, [some (b + 27), some (b + 52), none])] ++ (cl7 (b + 27) ++ (cl7 (b + 52))))))
def bl94_11 (b : Nat) : zS := ([(9, 10, [some (b + 1), none, none, none, none, none, none, none, none, none])] ++ (cl7 (b + 1) ++ ([(104, 3, [some (b + 27), some (b + 52), none])] ++ (cl7 (b + 27) ++ (cl7 (b + 52) ++ ([(7, 8, [none, none, none, none, none, none, none, none])]))))))
def bl94_12 (b : Nat) : zS := ([(9, 10, [some (b + 1), none, none, none, none, none, none, none, none, none])] ++ (cl7 (b + 1) ++ ([(104, 3, [some (b + 27), some (b + 52), none])] ++ (cl7 (b + 27) ++ (cl7 (b + 52) ++ (cl7 (b + 77)))))))
def bl94_13 (b : Nat) : zS := ([(9, 10, [some (b + 1), none, none, none, none, none, none, none, none, none])] ++ (cl7 (b + 1) ++ ([(104, 3, [some (b + 27), some (b + 52), some (b + 77)])] ++ (cl7 (b + 27) ++ (cl7 (b + 52) ++ (cl7 (b + 77)))))))
def bl94_14 (b : Nat) : zS := ([(9, 10, [some (b + 1), some (b + 26), none, none, none, none, none, none, none, none])] ++ (cl7 (b + 1) ++ ([(104, 3, [some (b + 27), some (b + 52), some (b + 77)])] ++ (cl7 (b + 27) ++ (cl7 (b + 52) ++ (cl7 (b + 77)))))))
def bl94_15 (b : Nat) : zS := ([(9, 10, [some (b + 1), some (b + 26), none, none, none, none, none, none, none, none])] ++ (cl7 (b + 1) ++ ([(104, 3, [some (b + 27), some (b + 52), some (b + 77)])] ++ (cl7 (b + 27) ++ (cl7 (b + 52) ++ (cl7 (b + 77) ++ ([(102, 3, [])])))))))
def bl94_16 (b : Nat) : zS := ([(9, 10, [some (b + 1), some (b + 26), some (b + 102), none, none, none, none, none, none, none])] ++ (cl7 (b + 1) ++ ([(104, 3, [some (b + 27), some (b + 52), some (b + 77)])] ++ (cl7 (b + 27) ++ (cl7 (b + 52) ++ (cl7 (b + 77) ++ ([(102, 3, [])])))))))
def bl94_17 (b : Nat) : zS := ([(9, 10, [some (b + 1), some (b + 26), some (b + 102), none, none, none, none, none, none, none])] ++ (cl7 (b + 1) ++ ([(104, 3, [some (b + 27), some (b + 52), some (b + 77)])] ++ (cl7 (b + 27) ++ (cl7 (b + 52) ++ (cl7 (b + 77) ++ ([(102, 3, []), (4, 13, [none, none, none, none, none, none, none, none, none, none, none, none, none])])))))))
def bl94_18 (b : Nat) : zS := ([(9, 10, [some (b + 1), some (b + 26), some (b + 102), none, none, none, none, none, none, none])] ++ (cl7 (b + 1) ++ ([(104, 3, [some (b + 27), some (b + 52), some (b + 77)])] ++ (cl7 (b + 27) ++ (cl7 (b + 52) ++ (cl7 (b + 77) ++ ([(102, 3, [])] ++ (cl4 (b + 103) (b + 2)))))))))
def bl94_19 (b : Nat) : zS := ([(9, 10, [some (b + 1), some (b + 26), some (b + 102), some (b + 103), none, none, none, none, none, none])] ++ (cl7 (b + 1) ++ ([(104, 3, [some (b + 27), some (b + 52), some (b + 77)])] ++ (cl7 (b + 27) ++ (cl7 (b + 52) ++ (cl7 (b + 77) ++ ([(102, 3, [])] ++ (cl4 (b + 103) (b + 2)))))))))
def bl94_20 (b : Nat) : zS := ([(9, 10, [some (b + 1), some (b + 26), some (b + 102), some (b + 103), none, none, none, none, none, none])] ++ (cl7 (b + 1) ++ ([(104, 3, [some (b + 27), some (b + 52), some (b + 77)])] ++ (cl7 (b + 27) ++ (cl7 (b + 52) ++ (cl7 (b + 77) ++ ([(102, 3, [])] ++ (cl4 (b + 103) (b + 2) ++ ([(107, 3, [none, none, none])])))))))))
def bl94_21 (b : Nat) : zS := ([(9, 10, [some (b + 1), some (b + 26), some (b + 102), some (b + 103), none, none, none, none, none, none])] ++ (cl7 (b + 1) ++ ([(104, 3, [some (b + 27), some (b + 52), some (b + 77)])] ++ (cl7 (b + 27) ++ (cl7 (b + 52) ++ (cl7 (b + 77) ++ ([(102, 3, [])] ++ (cl4 (b + 103) (b + 2) ++ ([(107, 3, [none, none, none]), (0, 13, [none, none, none, none, none, none, none, none, none, none, none, none, none])])))))))))
def bl94_22 (b : Nat) : zS := ([(9, 10, [some (b + 1), some (b + 26), some (b + 102), some (b + 103), none, none, none, none, none, none])] ++ (cl7 (b + 1) ++ ([(104, 3, [some (b + 27), some (b + 52), some (b + 77)])] ++ (cl7 (b + 27) ++ (cl7 (b + 52) ++ (cl7 (b + 77) ++ ([(102, 3, [])] ++ (cl4 (b + 103) (b + 2) ++ ([(107, 3, [none, none, none])] ++ (cl0 (b + 114)))))))))))
def bl94_23 (b : Nat) : zS := ([(9, 10, [some (b + 1), some (b + 26), some (b + 102), some (b + 103), none, none, none, none, none, none])] ++ (cl7 (b + 1) ++ ([(104, 3, [some (b + 27), some (b + 52), some (b + 77)])] ++ (cl7 (b + 27) ++ (cl7 (b + 52) ++ (cl7 (b + 77) ++ ([(102, 3, [])] ++ (cl4 (b + 103) (b + 2) ++ ([(107, 3, [some (b + 114), none, none])] ++ (cl0 (b + 114)))))))))))
def bl94_24 (b : Nat) : zS := ([(9, 10, [some (b + 1), some (b + 26), some (b + 102), some (b + 103), none, none, none, none, none, none])] ++ (cl7 (b + 1) ++ ([(104, 3, [some (b + 27), some (b + 52), some (b + 77)])] ++ (cl7 (b + 27) ++ (cl7 (b + 52) ++ (cl7 (b + 77) ++ ([(102, 3, [])] ++ (cl4 (b + 103) (b + 2) ++ ([(107, 3, [some (b + 114), none, none])] ++ (cl0 (b + 114) ++ ([(0, 13, [none, none, none, none, none, none, none, none, none, none, none, none, none])])))))))))))
def bl94_25 (b : Nat) : zS := ([(9, 10, [some (b + 1), some (b + 26), some (b + 102), some (b + 103), none, none, none, none, none, none])] ++ (cl7 (b + 1) ++ ([(104, 3, [some (b + 27), some (b + 52), some (b + 77)])] ++ (cl7 (b + 27) ++ (cl7 (b + 52) ++ (cl7 (b + 77) ++ ([(102, 3, [])] ++ (cl4 (b + 103) (b + 2) ++ ([(107, 3, [some (b + 114), none, none])] ++ (cl0 (b + 114) ++ (cl0 (b + 133))))))))))))
def bl94_26 (b : Nat) : zS := ([(9, 10, [some (b + 1), some (b + 26), some (b + 102), some (b + 103), none, none, none, none, none, none])] ++ (cl7 (b + 1) ++ ([(104, 3, [some (b + 27), some (b + 52), some (b + 77)])] ++ (cl7 (b + 27) ++ (cl7 (b + 52) ++ (cl7 (b + 77) ++ ([(102, 3, [])] ++ (cl4 (b + 103) (b + 2) ++ ([(107, 3, [some (b + 114), some (b + 133), none])] ++ (cl0 (b + 114) ++ (cl0 (b + 133))))))))))))
def bl94_27 (b : Nat) : zS := ([(9, 10, [some (b + 1), some (b + 26), some (b + 102), some (b + 103), none, none, none, none, none, none])] ++ (cl7 (b + 1) ++ ([(104, 3, [some (b + 27), some (b + 52), some (b + 77)])] ++ (cl7 (b + 27) ++ (cl7 (b + 52) ++ (cl7 (b + 77) ++ ([(102, 3, [])] ++ (cl4 (b + 103) (b + 2) ++ ([(107, 3, [some (b + 114), some (b + 133), none])] ++ (cl0 (b + 114) ++ (cl0 (b + 133) ++ ([(0, 13, [none, none, none, none, none, none, none, none, none, none, none, none, none])]))))))))))))
def bl94_28 (b : Nat) : zS := ([(9, 10, [some (b + 1), some (b + 26), some (b + 102), some (b + 103), none, none, none, none, none, none])] ++ (cl7 (b + 1) ++ ([(104, 3, [some (b + 27), some (b + 52), some (b + 77)])] ++ (cl7 (b + 27) ++ (cl7 (b + 52) ++ (cl7 (b + 77) ++ ([(102, 3, [])] ++ (cl4 (b + 103) (b + 2) ++ ([(107, 3, [some (b + 114), some (b + 133), none])] ++ (cl0 (b + 114) ++ (cl0 (b + 133) ++ (cl0 (b + 152)))))))))))))
def bl94_29 (b : Nat) : zS := ([(9, 10, [some (b + 1), some (b + 26), some (b + 102), some (b + 103), none, none, none, none, none, none])] ++ (cl7 (b + 1) ++ ([(104, 3, [some (b + 27), some (b + 52), some (b + 77)])] ++ (cl7 (b + 27) ++ (cl7 (b + 52) ++ (cl7 (b + 77) ++ ([(102, 3, [])] ++ (cl4 (b + 103) (b + 2) ++ ([(107, 3, [some (b + 114), some (b + 133), some (b + 152)])] ++ (cl0 (b + 114) ++ (cl0 (b + 133) ++ (cl0 (b + 152)))))))))))))
def bl94_30 (b : Nat) : zS := ([(9, 10, [some (b + 1), some (b + 26), some (b + 102), some (b + 103), some (b + 113), none, none, none, none, none])] ++ (cl7 (b + 1) ++ ([(104, 3, [some (b + 27), some (b + 52), some (b + 77)])] ++ (cl7 (b + 27) ++ (cl7 (b + 52) ++ (cl7 (b + 77) ++ ([(102, 3, [])] ++ (cl4 (b + 103) (b + 2) ++ ([(107, 3, [some (b + 114), some (b + 133), some (b + 152)])] ++ (cl0 (b + 114) ++ (cl0 (b + 133) ++ (cl0 (b + 152)))))))))))))
def bl94_31 (b : Nat) : zS := ([(9, 10, [some (b + 1), some (b + 26), some (b + 102), some (b + 103), some (b + 113), none, none, none, none, none])] ++ (cl7 (b + 1) ++ ([(104, 3, [some (b + 27), some (b + 52), some (b + 77)])] ++ (cl7 (b + 27) ++ (cl7 (b + 52) ++ (cl7 (b + 77) ++ ([(102, 3, [])] ++ (cl4 (b + 103) (b + 2) ++ ([(107, 3, [some (b + 114), some (b + 133), some (b + 152)])] ++ (cl0 (b + 114) ++ (cl0 (b + 133) ++ (cl0 (b + 152) ++ ([(102, 3, [])])))))))))))))
def bl94_32 (b : Nat) : zS := ([(9, 10, [some (b + 1), some (b + 26), some (b + 102), some (b + 103), some (b + 113), some (b + 171), none, none, none, none])] ++ (cl7 (b + 1) ++ ([(104, 3, [some (b + 27), some (b + 52), some (b + 77)])] ++ (cl7 (b + 27) ++ (cl7 (b + 52) ++ (cl7 (b + 77) ++ ([(102, 3, [])] ++ (cl4 (b + 103) (b + 2) ++ ([(107, 3, [some (b + 114), some (b + 133), some (b + 152)])] ++ (cl0 (b + 114) ++ (cl0 (b + 133) ++ (cl0 (b + 152) ++ ([(102, 3, [])])))))))))))))
def bl94_33 (b : Nat) : zS := ([(9, 10, [some (b + 1), some (b + 26), some (b + 102), some (b + 103), some (b + 113), some (b + 171), none, none, none, none])] ++ (cl7 (b + 1) ++ ([(104, 3, [some (b + 27), some (b + 52), some (b + 77)])] ++ (cl7 (b + 27) ++ (cl7 (b + 52) ++ (cl7 (b + 77) ++ ([(102, 3, [])] ++ (cl4 (b + 103) (b + 2) ++ ([(107, 3, [some (b + 114), some (b + 133), some (b + 152)])] ++ (cl0 (b + 114) ++ (cl0 (b + 133) ++ (cl0 (b + 152) ++ ([(102, 3, []), (0, 13, [none, none, none, none, none, none, none, none, none, none, none, none, none])])))))))))))))
def bl94_34 (b : Nat) : zS := ([(9, 10, [some (b + 1), some (b + 26), some (b + 102), some (b + 103), some (b + 113), some (b + 171), none, none, none, none])] ++ (cl7 (b + 1) ++ ([(104, 3, [some (b + 27), some (b + 52), some (b + 77)])] ++ (cl7 (b + 27) ++ (cl7 (b + 52) ++ (cl7 (b + 77) ++ ([(102, 3, [])] ++ (cl4 (b + 103) (b + 2) ++ ([(107, 3, [some (b + 114), some (b + 133), some (b + 152)])] ++ (cl0 (b + 114) ++ (cl0 (b + 133) ++ (cl0 (b + 152) ++ ([(102, 3, [])] ++ (cl0 (b + 172)))))))))))))))
def bl94_35 (b : Nat) : zS := ([(9, 10, [some (b + 1), some (b + 26), some (b + 102), some (b + 103), some (b + 113), some (b + 171), some (b + 172), none, none, none])] ++ (cl7 (b + 1) ++ ([(104, 3, [some (b + 27), some (b + 52), some (b + 77)])] ++ (cl7 (b + 27) ++ (cl7 (b + 52) ++ (cl7 (b + 77) ++ ([(102, 3, [])] ++ (cl4 (b + 103) (b + 2) ++ ([(107, 3, [some (b + 114), some (b + 133), some (b + 152)])] ++ (cl0 (b + 114) ++ (cl0 (b + 133) ++ (cl0 (b + 152) ++ ([(102, 3, [])] ++ (cl0 (b + 172)))))))))))))))
def bl94_36 (b : Nat) : zS := ([(9, 10, [some (b + 1), some (b + 26), some (b + 102), some (b + 103), some (b + 113), some (b + 171), some (b + 172), none, none, none])] ++ (cl7 (b + 1) ++ ([(104, 3, [some (b + 27), some (b + 52), some (b + 77)])] ++ (cl7 (b + 27) ++ (cl7 (b + 52) ++ (cl7 (b + 77) ++ ([(102, 3, [])] ++ (cl4 (b + 103) (b + 2) ++ ([(107, 3, [some (b + 114), some (b + 133), some (b + 152)])] ++ (cl0 (b + 114) ++ (cl0 (b + 133) ++ (cl0 (b + 152) ++ ([(102, 3, [])] ++ (cl0 (b + 172) ++ ([(1, 9, [none, none, none, none, none, none, none, none, none])])))))))))))))))
def bl94_37 (b : Nat) : zS := ([(9, 10, [some (b + 1), some (b + 26), some (b + 102), some (b + 103), some (b + 113), some (b + 171), some (b + 172), none, none, none])] ++ (cl7 (b + 1) ++ ([(104, 3, [some (b + 27), some (b + 52), some (b + 77)])] ++ (cl7 (b + 27) ++ (cl7 (b + 52) ++ (cl7 (b + 77) ++ ([(102, 3, [])] ++ (cl4 (b + 103) (b + 2) ++ ([(107, 3, [some (b + 114), some (b + 133), some (b + 152)])] ++ (cl0 (b + 114) ++ (cl0 (b + 133) ++ (cl0 (b + 152) ++ ([(102, 3, [])] ++ (cl0 (b + 172) ++ (cl1 (b + 191))))))))))))))))
def bl94_38 (b : Nat) : zS := ([(9, 10, [some (b + 1), some (b + 26), some (b + 102), some (b + 103), some (b + 113), some (b + 171), some (b + 172), some (b + 191), none, none])] ++ (cl7 (b + 1) ++ ([(104, 3, [some (b + 27), some (b + 52), some (b + 77)])] ++ (cl7 (b + 27) ++ (cl7 (b + 52) ++ (cl7 (b + 77) ++ ([(102, 3, [])] ++ (cl4 (b + 103) (b + 2) ++ ([(107, 3, [some (b + 114), some (b + 133), some (b + 152)])] ++ (cl0 (b + 114) ++ (cl0 (b + 133) ++ (cl0 (b + 152) ++ ([(102, 3, [])] ++ (cl0 (b + 172) ++ (cl1 (b + 191))))))))))))))))
def bl94_39 (b : Nat) : zS := ([(9, 10, [some (b + 1), some (b + 26), some (b + 102), some (b + 103), some (b + 113), some (b + 171), some (b + 172), some (b + 191), none, none])] ++ (cl7 (b + 1) ++ ([(104, 3, [some (b + 27), some (b + 52), some (b + 77)])] ++ (cl7 (b + 27) ++ (cl7 (b + 52) ++ (cl7 (b + 77) ++ ([(102, 3, [])] ++ (cl4 (b + 103) (b + 2) ++ ([(107, 3, [some (b + 114), some (b + 133), some (b + 152)])] ++ (cl0 (b + 114) ++ (cl0 (b + 133) ++ (cl0 (b + 152) ++ ([(102, 3, [])] ++ (cl0 (b + 172) ++ (cl1 (b + 191) ++ ([(3, 10, [none, none, none, none, none, none, none, none, none, none])]))))))))))))))))
def bl94_40 (b : Nat) : zS := ([(9, 10, [some (b + 1), some (b + 26), some (b + 102), some (b + 103), some (b + 113), some (b + 171), some (b + 172), some (b + 191), none, none])] ++ (cl7 (b + 1) ++ ([(104, 3, [some (b + 27), some (b + 52), some (b + 77)])] ++ (cl7 (b + 27) ++ (cl7 (b + 52) ++ (cl7 (b + 77) ++ ([(102, 3, [])] ++ (cl4 (b + 103) (b + 2) ++ ([(107, 3, [some (b + 114), some (b + 133), some (b + 152)])] ++ (cl0 (b + 114) ++ (cl0 (b + 133) ++ (cl0 (b + 152) ++ ([(102, 3, [])] ++ (cl0 (b + 172) ++ (cl1 (b + 191) ++ (cl3 (b + 199)))))))))))))))))
def bl94_41 (b : Nat) : zS := ([(9, 10, [some (b + 1), some (b + 26), some (b + 102), some (b + 103), some (b + 113), some (b + 171), some (b + 172), some (b + 191), some (b + 199), none])] ++ (cl7 (b + 1) ++ ([(104, 3, [some (b + 27), some (b + 52), some (b + 77)])] ++ (cl7 (b + 27) ++ (cl7 (b + 52) ++ (cl7 (b + 77) ++ ([(102, 3, [])] ++ (cl4 (b + 103) (b + 2) ++ ([(107, 3, [some (b + 114), some (b + 133), some (b + 152)])] ++ (cl0 (b + 114) ++ (cl0 (b + 133) ++ (cl0 (b + 152) ++ ([(102, 3, [])] ++ (cl0 (b + 172) ++ (cl1 (b + 191) ++ (cl3 (b + 199)))))))))))))))))
def bl94_42 (b : Nat) : zS := ([(9, 10, [some (b + 1), some (b + 26), some (b + 102), some (b + 103), some (b + 113), some (b + 171), some (b + 172), some (b + 191), some (b + 199), none])] ++ (cl7 (b + 1) ++ ([(104, 3, [some (b + 27), some (b + 52), some (b + 77)])] ++ (cl7 (b + 27) ++ (cl7 (b + 52) ++ (cl7 (b + 77) ++ ([(102, 3, [])] ++ (cl4 (b + 103) (b + 2) ++ ([(107, 3, [some (b + 114), some (b + 133), some (b + 152)])] ++ (cl0 (b + 114) ++ (cl0 (b + 133) ++ (cl0 (b + 152) ++ ([(102, 3, [])] ++ (cl0 (b + 172) ++ (cl1 (b + 191) ++ (cl3 (b + 199) ++ ([(6, 4, [none, none, none, none])])))))))))))))))))
def bl94_43 (b : Nat) : zS := ([(9, 10, [some (b + 1), some (b + 26), some (b + 102), some (b + 103), some (b + 113), some (b + 171), some (b + 172), some (b + 191), some (b + 199), none])] ++ (cl7 (b + 1) ++ ([(104, 3, [some (b + 27), some (b + 52), some (b + 77)])] ++ (cl7 (b + 27) ++ (cl7 (b + 52) ++ (cl7 (b + 77) ++ ([(102, 3, [])] ++ (cl4 (b + 103) (b + 2) ++ ([(107, 3, [some (b + 114), some (b + 133), some (b + 152)])] ++ (cl0 (b + 114) ++ (cl0 (b + 133) ++ (cl0 (b + 152) ++ ([(102, 3, [])] ++ (cl0 (b + 172) ++ (cl1 (b + 191) ++ (cl3 (b + 199) ++ (cl6 (b + 200))))))))))))))))))
def bl94_44 (b : Nat) : zS := ([(9, 10, [some (b + 1), some (b + 26), some (b + 102), some (b + 103), some (b + 113), some (b + 171), some (b + 172), some (b + 191), some (b + 199), some (b + 200)])] ++ (cl7 (b + 1) ++ ([(104, 3, [some (b + 27), some (b + 52), some (b + 77)])] ++ (cl7 (b + 27) ++ (cl7 (b + 52) ++ (cl7 (b + 77) ++ ([(102, 3, [])] ++ (cl4 (b + 103) (b + 2) ++ ([(107, 3, [some (b + 114), some (b + 133), some (b + 152)])] ++ (cl0 (b + 114) ++ (cl0 (b + 133) ++ (cl0 (b + 152) ++ ([(102, 3, [])] ++ (cl0 (b + 172) ++ (cl1 (b + 191) ++ (cl3 (b + 199) ++ (cl6 (b + 200))))))))))))))))))
def cl9 (b : Nat) : zS := bl94_44 b
theorem ze94_0 {S1 : zS} {h : zH} (hv : zvalidS (S1 ++ bl94_0 S1.length) = true) (hn : S1.length ≤ 700000) : Zx 94 0 [zR S1.length] [] (S1 ++ bl94_0 S1.length) h = Zx 94 1 [zR S1.length] [zR S1.length] (S1 ++ bl94_0 S1.length) h := Zx_next rfl rfl
theorem ze94_1 {S1 : zS} {h : zH} (hv : zvalidS (S1 ++ bl94_0 S1.length) = true) (hn : S1.length ≤ 700000) : Zx 94 1 [zR S1.length] [zR S1.length] (S1 ++ bl94_0 S1.length) h = Zx 94 2 [zR S1.length] [] (S1 ++ bl94_0 S1.length) h := Zx_next rfl rfl
theorem ze94_2 {S1 : zS} {h : zH} (hv : zvalidS (S1 ++ bl94_0 S1.length) = true) (hn : S1.length ≤ 700000) : Zx 94 2 [zR S1.length] [] (S1 ++ bl94_0 S1.length) h = Zx 94 3 [zR S1.length] [zR S1.length] (S1 ++ bl94_0 S1.length) h := Zx_next rfl rfl
set_option maxRecDepth 20000 in
set_option maxHeartbeats 2000000 in
theorem ze94_3 {S1 : zS} {h : zH} (hv : zvalidS (S1 ++ bl94_0 S1.length) = true) (hn : S1.length ≤ 700000) : Zx 94 3 [zR S1.length] [zR S1.length] (S1 ++ bl94_0 S1.length) h = Zx 94 4 [zR S1.length] [zR (S1.length + 1), zR S1.length] (S1 ++ bl94_1 S1.length) (zhn h (S1.length + 1)) := Zm_new rfl rfl hv (by simp [zvalid, bl94_0, cl0_len, cl1_len, cl2_len, cl3_len, cl4_len, cl5_len, cl6_len, cl7_len, cl8_len]; try omega) (by simp [zvalid, bl94_0, cl0_len, cl1_len, cl2_len, cl3_len, cl4_len, cl5_len, cl6_len, cl7_len, cl8_len]; try omega) (by simp [bl94_0, cl0_len, cl1_len, cl2_len, cl3_len, cl4_len, cl5_len, cl6_len, cl7_len, cl8_len]; try omega) rfl
set_option maxRecDepth 20000 in
set_option maxHeartbeats 2000000 in
theorem zy94_3 {S1 : zS} (hv : zvalidS (S1 ++ bl94_0 S1.length) = true) (hn : S1.length ≤ 700000) : zvalidS (S1 ++ bl94_1 S1.length) = true := zv_app (c := (7, 8, [none, none, none, none, none, none, none, none])) hv rfl
theorem ze94_4 {S1 : zS} {h : zH} (hv : zvalidS (S1 ++ bl94_1 S1.length) = true) (hn : S1.length ≤ 700000) : Zx 94 4 [zR S1.length] [zR (S1.length + 1), zR S1.length] (S1 ++ bl94_1 S1.length) h = Zx 94 5 [zR S1.length] [zR (S1.length + 1), zR (S1.length + 1), zR S1.length] (S1 ++ bl94_1 S1.length) h := Zx_next rfl rfl
set_option maxRecDepth 20000 in
set_option maxHeartbeats 2000000 in
theorem ze94_5 {S1 : zS} {h : zH} (hv : zvalidS (S1 ++ bl94_0 S1.length) = true) (hn : S1.length ≤ 700000) (hz : ∀ k, h (S1.length + 1) k = 0) : ∃ h', Zx 94 5 [zR S1.length] [zR (S1.length + 1), zR (S1.length + 1), zR S1.length] (S1 ++ bl94_1 S1.length) h = Zx 94 6 [zR S1.length] [zR (S1.length + 1), zR S1.length] (S1 ++ bl94_2 S1.length) h' ∧ zvalidS (S1 ++ bl94_2 S1.length) = true ∧ (∀ o k, o < (S1.length + 1) → h' o k = h o k) ∧ ∀ k, h' (S1.length + 1) k = if k = 7 then -1 else 0 := by
  have hl : (S1 ++ bl94_0 S1.length).length = (S1.length + 1) := by simp [bl94_0, cl0_len, cl1_len, cl2_len, cl3_len, cl4_len, cl5_len, cl6_len, cl7_len, cl8_len]
  obtain ⟨h1, hr, hw, hf, hg⟩ := zc_89 (S1 := S1 ++ bl94_0 S1.length) (h := h) hv (by rw [hl]; omega) (fun k => by rw [hl]; exact hz k)
  rw [hl, List.append_assoc, List.append_assoc] at hr
  rw [hl, List.append_assoc] at hw
  rw [hl] at hf hg
  have e1 : bl94_0 S1.length ++ [(7, 8, [none, none, none, none, none, none, none, none])] = bl94_1 S1.length := by simp [bl94_0, bl94_1]
  have e2 : bl94_0 S1.length ++ cl7 (S1.length + 1) = bl94_2 S1.length := by simp [bl94_0, bl94_2]
  rw [e1, e2] at hr
  rw [e2] at hw
  exact ⟨h1, Zx_ci (b := 1) (st2 := [zR (S1.length + 1), zR S1.length]) rfl rfl (by decide) rfl rfl rfl (Nat.le_of_ble_eq_true rfl) (Nat.le_of_ble_eq_true rfl) (Nat.le_of_ble_eq_true rfl) rfl hr (Or.inr (by simp [zvalid, bl94_1, cl0_len, cl1_len, cl2_len, cl3_len, cl4_len, cl5_len, cl6_len, cl7_len, cl8_len]; try omega)) rfl, hw, hf, hg⟩
set_option maxRecDepth 20000 in
set_option maxHeartbeats 2000000 in
theorem ze94_6 {S1 : zS} {h : zH} (hv : zvalidS (S1 ++ bl94_2 S1.length) = true) (hn : S1.length ≤ 700000) : Zx 94 6 [zR S1.length] [zR (S1.length + 1), zR S1.length] (S1 ++ bl94_2 S1.length) h = Zx 94 7 [zR S1.length] [] (S1 ++ bl94_3 S1.length) h := Zm_putR0 (l := bl94_2 S1.length) (c := (9, 10, [none, none, none, none, none, none, none, none, none, none])) (f := 0) (q := (S1.length + 1)) rfl rfl rfl rfl rfl
set_option maxRecDepth 20000 in
set_option maxHeartbeats 2000000 in
theorem zy94_6 {S1 : zS} (hv : zvalidS (S1 ++ bl94_2 S1.length) = true) (hn : S1.length ≤ 700000) : zvalidS (S1 ++ bl94_3 S1.length) = true := zv_set (d := 0) (k := 0) (c := (9, 10, [none, none, none, none, none, none, none, none, none, none])) hv rfl (by simp [bl94_2, cl0_len, cl1_len, cl2_len, cl3_len, cl4_len, cl5_len, cl6_len, cl7_len, cl8_len]; try omega)
theorem ze94_7 {S1 : zS} {h : zH} (hv : zvalidS (S1 ++ bl94_3 S1.length) = true) (hn : S1.length ≤ 700000) : Zx 94 7 [zR S1.length] [] (S1 ++ bl94_3 S1.length) h = Zx 94 8 [zR S1.length] [zR S1.length] (S1 ++ bl94_3 S1.length) h := Zx_next rfl rfl
theorem ze94_8 {S1 : zS} {h : zH} (hv : zvalidS (S1 ++ bl94_3 S1.length) = true) (hn : S1.length ≤ 700000) : Zx 94 8 [zR S1.length] [zR S1.length] (S1 ++ bl94_3 S1.length) h = Zx 94 9 [zR S1.length] [zI 3, zR S1.length] (S1 ++ bl94_3 S1.length) h := Zx_next rfl rfl
set_option maxRecDepth 20000 in
set_option maxHeartbeats 2000000 in
theorem ze94_9 {S1 : zS} {h : zH} (hv : zvalidS (S1 ++ bl94_3 S1.length) = true) (hn : S1.length ≤ 700000) : Zx 94 9 [zR S1.length] [zI 3, zR S1.length] (S1 ++ bl94_3 S1.length) h = Zx 94 10 [zR S1.length] [zR (S1.length + 26), zR S1.length] (S1 ++ bl94_4 S1.length) (zhn h (S1.length + 26)) := Zm_newq rfl rfl (by decide) rfl hv (by simp [zvalid, bl94_3, cl0_len, cl1_len, cl2_len, cl3_len, cl4_len, cl5_len, cl6_len, cl7_len, cl8_len]; try omega) (by simp [zvalid, bl94_3, cl0_len, cl1_len, cl2_len, cl3_len, cl4_len, cl5_len, cl6_len, cl7_len, cl8_len]; try omega) (by simp [bl94_3, cl0_len, cl1_len, cl2_len, cl3_len, cl4_len, cl5_len, cl6_len, cl7_len, cl8_len]; try omega) rfl
set_option maxRecDepth 20000 in
set_option maxHeartbeats 2000000 in
theorem zy94_9 {S1 : zS} (hv : zvalidS (S1 ++ bl94_3 S1.length) = true) (hn : S1.length ≤ 700000) : zvalidS (S1 ++ bl94_4 S1.length) = true := zv_app (c := (104, 3, [none, none, none])) hv rfl
theorem ze94_10 {S1 : zS} {h : zH} (hv : zvalidS (S1 ++ bl94_4 S1.length) = true) (hn : S1.length ≤ 700000) : Zx 94 10 [zR S1.length] [zR (S1.length + 26), zR S1.length] (S1 ++ bl94_4 S1.length) h = Zx 94 11 [zR S1.length] [zR (S1.length + 26), zR (S1.length + 26), zR S1.length] (S1 ++ bl94_4 S1.length) h := Zx_next rfl rfl
theorem ze94_11 {S1 : zS} {h : zH} (hv : zvalidS (S1 ++ bl94_4 S1.length) = true) (hn : S1.length ≤ 700000) : Zx 94 11 [zR S1.length] [zR (S1.length + 26), zR (S1.length + 26), zR S1.length] (S1 ++ bl94_4 S1.length) h = Zx 94 12 [zR S1.length] [zI 0, zR (S1.length + 26), zR (S1.length + 26), zR S1.length] (S1 ++ bl94_4 S1.length) h := Zx_next rfl rfl
set_option maxRecDepth 20000 in
set_option maxHeartbeats 2000000 in
theorem ze94_12 {S1 : zS} {h : zH} (hv : zvalidS (S1 ++ bl94_4 S1.length) = true) (hn : S1.length ≤ 700000) : Zx 94 12 [zR S1.length] [zI 0, zR (S1.length + 26), zR (S1.length + 26), zR S1.length] (S1 ++ bl94_4 S1.length) h = Zx 94 13 [zR S1.length] [zR (S1.length + 27), zI 0, zR (S1.length + 26), zR (S1.length + 26), zR S1.length] (S1 ++ bl94_5 S1.length) (zhn h (S1.length + 27)) := Zm_new rfl rfl hv (by simp [zvalid, bl94_4, cl0_len, cl1_len, cl2_len, cl3_len, cl4_len, cl5_len, cl6_len, cl7_len, cl8_len]; try omega) (by simp [zvalid, bl94_4, cl0_len, cl1_len, cl2_len, cl3_len, cl4_len, cl5_len, cl6_len, cl7_len, cl8_len]; try omega) (by simp [bl94_4, cl0_len, cl1_len, cl2_len, cl3_len, cl4_len, cl5_len, cl6_len, cl7_len, cl8_len]; try omega) rfl
set_option maxRecDepth 20000 in
set_option maxHeartbeats 2000000 in
theorem zy94_12 {S1 : zS} (hv : zvalidS (S1 ++ bl94_4 S1.length) = true) (hn : S1.length ≤ 700000) : zvalidS (S1 ++ bl94_5 S1.length) = true := zv_app (c := (7, 8, [none, none, none, none, none, none, none, none])) hv rfl
theorem ze94_13 {S1 : zS} {h : zH} (hv : zvalidS (S1 ++ bl94_5 S1.length) = true) (hn : S1.length ≤ 700000) : Zx 94 13 [zR S1.length] [zR (S1.length + 27), zI 0, zR (S1.length + 26), zR (S1.length + 26), zR S1.length] (S1 ++ bl94_5 S1.length) h = Zx 94 14 [zR S1.length] [zR (S1.length + 27), zR (S1.length + 27), zI 0, zR (S1.length + 26), zR (S1.length + 26), zR S1.length] (S1 ++ bl94_5 S1.length) h := Zx_next rfl rfl
set_option maxRecDepth 20000 in
set_option maxHeartbeats 2000000 in
theorem ze94_14 {S1 : zS} {h : zH} (hv : zvalidS (S1 ++ bl94_4 S1.length) = true) (hn : S1.length ≤ 700000) (hz : ∀ k, h (S1.length + 27) k = 0) : ∃ h', Zx 94 14 [zR S1.length] [zR (S1.length + 27), zR (S1.length + 27), zI 0, zR (S1.length + 26), zR (S1.length + 26), zR S1.length] (S1 ++ bl94_5 S1.length) h = Zx 94 15 [zR S1.length] [zR (S1.length + 27), zI 0, zR (S1.length + 26), zR (S1.length + 26), zR S1.length] (S1 ++ bl94_6 S1.length) h' ∧ zvalidS (S1 ++ bl94_6 S1.length) = true ∧ (∀ o k, o < (S1.length + 27) → h' o k = h o k) ∧ ∀ k, h' (S1.length + 27) k = if k = 7 then -1 else 0 := by
  have hl : (S1 ++ bl94_4 S1.length).length = (S1.length + 27) := by simp [bl94_4, cl0_len, cl1_len, cl2_len, cl3_len, cl4_len, cl5_len, cl6_len, cl7_len, cl8_len]
  obtain ⟨h1, hr, hw, hf, hg⟩ := zc_89 (S1 := S1 ++ bl94_4 S1.length) (h := h) hv (by rw [hl]; omega) (fun k => by rw [hl]; exact hz k)
  rw [hl, List.append_assoc, List.append_assoc] at hr
  rw [hl, List.append_assoc] at hw
  rw [hl] at hf hg
  have e1 : bl94_4 S1.length ++ [(7, 8, [none, none, none, none, none, none, none, none])] = bl94_5 S1.length := by simp [bl94_4, bl94_5]
  have e2 : bl94_4 S1.length ++ cl7 (S1.length + 27) = bl94_6 S1.length := by simp [bl94_4, bl94_6]
  rw [e1, e2] at hr
  rw [e2] at hw
  exact ⟨h1, Zx_ci (b := 1) (st2 := [zR (S1.length + 27), zI 0, zR (S1.length + 26), zR (S1.length + 26), zR S1.length]) rfl rfl (by decide) rfl rfl rfl (Nat.le_of_ble_eq_true rfl) (Nat.le_of_ble_eq_true rfl) (Nat.le_of_ble_eq_true rfl) rfl hr (Or.inr (by simp [zvalid, bl94_5, cl0_len, cl1_len, cl2_len, cl3_len, cl4_len, cl5_len, cl6_len, cl7_len, cl8_len]; try omega)) rfl, hw, hf, hg⟩
set_option maxRecDepth 20000 in
set_option maxHeartbeats 2000000 in
theorem ze94_15 {S1 : zS} {h : zH} (hv : zvalidS (S1 ++ bl94_6 S1.length) = true) (hn : S1.length ≤ 700000) : Zx 94 15 [zR S1.length] [zR (S1.length + 27), zI 0, zR (S1.length + 26), zR (S1.length + 26), zR S1.length] (S1 ++ bl94_6 S1.length) h = Zx 94 16 [zR S1.length] [zR (S1.length + 26), zR S1.length] (S1 ++ bl94_7 S1.length) h := Zm_aast (d := 26) (l := bl94_6 S1.length) (c := (104, 3, [none, none, none])) (j := 0) (q := (S1.length + 27)) rfl rfl rfl rfl rfl (Or.inl ⟨rfl, zC_k (d := 27) rfl⟩)
set_option maxRecDepth 20000 in
set_option maxHeartbeats 2000000 in
theorem zy94_15 {S1 : zS} (hv : zvalidS (S1 ++ bl94_6 S1.length) = true) (hn : S1.length ≤ 700000) : zvalidS (S1 ++ bl94_7 S1.length) = true := zv_set (d := 26) (k := 0) (c := (104, 3, [none, none, none])) hv rfl (by simp [bl94_6, cl0_len, cl1_len, cl2_len, cl3_len, cl4_len, cl5_len, cl6_len, cl7_len, cl8_len]; try omega)
theorem ze94_16 {S1 : zS} {h : zH} (hv : zvalidS (S1 ++ bl94_7 S1.length) = true) (hn : S1.length ≤ 700000) : Zx 94 16 [zR S1.length] [zR (S1.length + 26), zR S1.length] (S1 ++ bl94_7 S1.length) h = Zx 94 17 [zR S1.length] [zR (S1.length + 26), zR (S1.length + 26), zR S1.length] (S1 ++ bl94_7 S1.length) h := Zx_next rfl rfl
theorem ze94_17 {S1 : zS} {h : zH} (hv : zvalidS (S1 ++ bl94_7 S1.length) = true) (hn : S1.length ≤ 700000) : Zx 94 17 [zR S1.length] [zR (S1.length + 26), zR (S1.length + 26), zR S1.length] (S1 ++ bl94_7 S1.length) h = Zx 94 18 [zR S1.length] [zI 1, zR (S1.length + 26), zR (S1.length + 26), zR S1.length] (S1 ++ bl94_7 S1.length) h := Zx_next rfl rfl
set_option maxRecDepth 20000 in
set_option maxHeartbeats 2000000 in
theorem ze94_18 {S1 : zS} {h : zH} (hv : zvalidS (S1 ++ bl94_7 S1.length) = true) (hn : S1.length ≤ 700000) : Zx 94 18 [zR S1.length] [zI 1, zR (S1.length + 26), zR (S1.length + 26), zR S1.length] (S1 ++ bl94_7 S1.length) h = Zx 94 19 [zR S1.length] [zR (S1.length + 52), zI 1, zR (S1.length + 26), zR (S1.length + 26), zR S1.length] (S1 ++ bl94_8 S1.length) (zhn h (S1.length + 52)) := Zm_new rfl rfl hv (by simp [zvalid, bl94_7, cl0_len, cl1_len, cl2_len, cl3_len, cl4_len, cl5_len, cl6_len, cl7_len, cl8_len]; try omega) (by simp [zvalid, bl94_7, cl0_len, cl1_len, cl2_len, cl3_len, cl4_len, cl5_len, cl6_len, cl7_len, cl8_len]; try omega) (by simp [bl94_7, cl0_len, cl1_len, cl2_len, cl3_len, cl4_len, cl5_len, cl6_len, cl7_len, cl8_len]; try omega) rfl
set_option maxRecDepth 20000 in
set_option maxHeartbeats 2000000 in
theorem zy94_18 {S1 : zS} (hv : zvalidS (S1 ++ bl94_7 S1.length) = true) (hn : S1.length ≤ 700000) : zvalidS (S1 ++ bl94_8 S1.length) = true := zv_app (c := (7, 8, [none, none, none, none, none, none, none, none])) hv rfl
theorem ze94_19 {S1 : zS} {h : zH} (hv : zvalidS (S1 ++ bl94_8 S1.length) = true) (hn : S1.length ≤ 700000) : Zx 94 19 [zR S1.length] [zR (S1.length + 52), zI 1, zR (S1.length + 26), zR (S1.length + 26), zR S1.length] (S1 ++ bl94_8 S1.length) h = Zx 94 20 [zR S1.length] [zR (S1.length + 52), zR (S1.length + 52), zI 1, zR (S1.length + 26), zR (S1.length + 26), zR S1.length] (S1 ++ bl94_8 S1.length) h := Zx_next rfl rfl
set_option maxRecDepth 20000 in
set_option maxHeartbeats 2000000 in
theorem ze94_20 {S1 : zS} {h : zH} (hv : zvalidS (S1 ++ bl94_7 S1.length) = true) (hn : S1.length ≤ 700000) (hz : ∀ k, h (S1.length + 52) k = 0) : ∃ h', Zx 94 20 [zR S1.length] [zR (S1.length + 52), zR (S1.length + 52), zI 1, zR (S1.length + 26), zR (S1.length + 26), zR S1.length] (S1 ++ bl94_8 S1.length) h = Zx 94 21 [zR S1.length] [zR (S1.length + 52), zI 1, zR (S1.length + 26), zR (S1.length + 26), zR S1.length] (S1 ++ bl94_9 S1.length) h' ∧ zvalidS (S1 ++ bl94_9 S1.length) = true ∧ (∀ o k, o < (S1.length + 52) → h' o k = h o k) ∧ ∀ k, h' (S1.length + 52) k = if k = 7 then -1 else 0 := by
  have hl : (S1 ++ bl94_7 S1.length).length = (S1.length + 52) := by simp [bl94_7, cl0_len, cl1_len, cl2_len, cl3_len, cl4_len, cl5_len, cl6_len, cl7_len, cl8_len]
  obtain ⟨h1, hr, hw, hf, hg⟩ := zc_89 (S1 := S1 ++ bl94_7 S1.length) (h := h) hv (by rw [hl]; omega) (fun k => by rw [hl]; exact hz k)
  rw [hl, List.append_assoc, List.append_assoc] at hr
  rw [hl, List.append_assoc] at hw
  rw [hl] at hf hg
  have e1 : bl94_7 S1.length ++ [(7, 8, [none, none, none, none, none, none, none, none])] = bl94_8 S1.length := by simp [bl94_7, bl94_8]
  have e2 : bl94_7 S1.length ++ cl7 (S1.length + 52) = bl94_9 S1.length := by simp [bl94_7, bl94_9]
  rw [e1, e2] at hr
  rw [e2] at hw
  exact ⟨h1, Zx_ci (b := 1) (st2 := [zR (S1.length + 52), zI 1, zR (S1.length + 26), zR (S1.length + 26), zR S1.length]) rfl rfl (by decide) rfl rfl rfl (Nat.le_of_ble_eq_true rfl) (Nat.le_of_ble_eq_true rfl) (Nat.le_of_ble_eq_true rfl) rfl hr (Or.inr (by simp [zvalid, bl94_8, cl0_len, cl1_len, cl2_len, cl3_len, cl4_len, cl5_len, cl6_len, cl7_len, cl8_len]; try omega)) rfl, hw, hf, hg⟩
set_option maxRecDepth 20000 in
set_option maxHeartbeats 2000000 in
theorem ze94_21 {S1 : zS} {h : zH} (hv : zvalidS (S1 ++ bl94_9 S1.length) = true) (hn : S1.length ≤ 700000) : Zx 94 21 [zR S1.length] [zR (S1.length + 52), zI 1, zR (S1.length + 26), zR (S1.length + 26), zR S1.length] (S1 ++ bl94_9 S1.length) h = Zx 94 22 [zR S1.length] [zR (S1.length + 26), zR S1.length] (S1 ++ bl94_10 S1.length) h := Zm_aast (d := 26) (l := bl94_9 S1.length) (c := (104, 3, [some (S1.length + 27), none, none])) (j := 1) (q := (S1.length + 52)) rfl rfl rfl rfl rfl (Or.inl ⟨rfl, zC_k (d := 52) rfl⟩)
set_option maxRecDepth 20000 in
set_option maxHeartbeats 2000000 in
theorem zy94_21 {S1 : zS} (hv : zvalidS (S1 ++ bl94_9 S1.length) = true) (hn : S1.length ≤ 700000) : zvalidS (S1 ++ bl94_10 S1.length) = true := zv_set (d := 26) (k := 1) (c := (104, 3, [some (S1.length + 27), none, none])) hv rfl (by simp [bl94_9, cl0_len, cl1_len, cl2_len, cl3_len, cl4_len, cl5_len, cl6_len, cl7_len, cl8_len]; try omega)
theorem ze94_22 {S1 : zS} {h : zH} (hv : zvalidS (S1 ++ bl94_10 S1.length) = true) (hn : S1.length ≤ 700000) : Zx 94 22 [zR S1.length] [zR (S1.length + 26), zR S1.length] (S1 ++ bl94_10 S1.length) h = Zx 94 23 [zR S1.length] [zR (S1.length + 26), zR (S1.length + 26), zR S1.length] (S1 ++ bl94_10 S1.length) h := Zx_next rfl rfl
theorem ze94_23 {S1 : zS} {h : zH} (hv : zvalidS (S1 ++ bl94_10 S1.length) = true) (hn : S1.length ≤ 700000) : Zx 94 23 [zR S1.length] [zR (S1.length + 26), zR (S1.length + 26), zR S1.length] (S1 ++ bl94_10 S1.length) h = Zx 94 24 [zR S1.length] [zI 2, zR (S1.length + 26), zR (S1.length + 26), zR S1.length] (S1 ++ bl94_10 S1.length) h := Zx_next rfl rfl
set_option maxRecDepth 20000 in
set_option maxHeartbeats 2000000 in
theorem ze94_24 {S1 : zS} {h : zH} (hv : zvalidS (S1 ++ bl94_10 S1.length) = true) (hn : S1.length ≤ 700000) : Zx 94 24 [zR S1.length] [zI 2, zR (S1.length + 26), zR (S1.length + 26), zR S1.length] (S1 ++ bl94_10 S1.length) h = Zx 94 25 [zR S1.length] [zR (S1.length + 77), zI 2, zR (S1.length + 26), zR (S1.length + 26), zR S1.length] (S1 ++ bl94_11 S1.length) (zhn h (S1.length + 77)) := Zm_new rfl rfl hv (by simp [zvalid, bl94_10, cl0_len, cl1_len, cl2_len, cl3_len, cl4_len, cl5_len, cl6_len, cl7_len, cl8_len]; try omega) (by simp [zvalid, bl94_10, cl0_len, cl1_len, cl2_len, cl3_len, cl4_len, cl5_len, cl6_len, cl7_len, cl8_len]; try omega) (by simp [bl94_10, cl0_len, cl1_len, cl2_len, cl3_len, cl4_len, cl5_len, cl6_len, cl7_len, cl8_len]; try omega) rfl
set_option maxRecDepth 20000 in
set_option maxHeartbeats 2000000 in
theorem zy94_24 {S1 : zS} (hv : zvalidS (S1 ++ bl94_10 S1.length) = true) (hn : S1.length ≤ 700000) : zvalidS (S1 ++ bl94_11 S1.length) = true := zv_app (c := (7, 8, [none, none, none, none, none, none, none, none])) hv rfl
theorem ze94_25 {S1 : zS} {h : zH} (hv : zvalidS (S1 ++ bl94_11 S1.length) = true) (hn : S1.length ≤ 700000) : Zx 94 25 [zR S1.length] [zR (S1.length + 77), zI 2, zR (S1.length + 26), zR (S1.length + 26), zR S1.length] (S1 ++ bl94_11 S1.length) h = Zx 94 26 [zR S1.length] [zR (S1.length + 77), zR (S1.length + 77), zI 2, zR (S1.length + 26), zR (S1.length + 26), zR S1.length] (S1 ++ bl94_11 S1.length) h := Zx_next rfl rfl
set_option maxRecDepth 20000 in
set_option maxHeartbeats 2000000 in
theorem ze94_26 {S1 : zS} {h : zH} (hv : zvalidS (S1 ++ bl94_10 S1.length) = true) (hn : S1.length ≤ 700000) (hz : ∀ k, h (S1.length + 77) k = 0) : ∃ h', Zx 94 26 [zR S1.length] [zR (S1.length + 77), zR (S1.length + 77), zI 2, zR (S1.length + 26), zR (S1.length + 26), zR S1.length] (S1 ++ bl94_11 S1.length) h = Zx 94 27 [zR S1.length] [zR (S1.length + 77), zI 2, zR (S1.length + 26), zR (S1.length + 26), zR S1.length] (S1 ++ bl94_12 S1.length) h' ∧ zvalidS (S1 ++ bl94_12 S1.length) = true ∧ (∀ o k, o < (S1.length + 77) → h' o k = h o k) ∧ ∀ k, h' (S1.length + 77) k = if k = 7 then -1 else 0 := by
  have hl : (S1 ++ bl94_10 S1.length).length = (S1.length + 77) := by simp [bl94_10, cl0_len, cl1_len, cl2_len, cl3_len, cl4_len, cl5_len, cl6_len, cl7_len, cl8_len]
  obtain ⟨h1, hr, hw, hf, hg⟩ := zc_89 (S1 := S1 ++ bl94_10 S1.length) (h := h) hv (by rw [hl]; omega) (fun k => by rw [hl]; exact hz k)
  rw [hl, List.append_assoc, List.append_assoc] at hr
  rw [hl, List.append_assoc] at hw
  rw [hl] at hf hg
  have e1 : bl94_10 S1.length ++ [(7, 8, [none, none, none, none, none, none, none, none])] = bl94_11 S1.length := by simp [bl94_10, bl94_11]
  have e2 : bl94_10 S1.length ++ cl7 (S1.length + 77) = bl94_12 S1.length := by simp [bl94_10, bl94_12]
  rw [e1, e2] at hr
  rw [e2] at hw
  exact ⟨h1, Zx_ci (b := 1) (st2 := [zR (S1.length + 77), zI 2, zR (S1.length + 26), zR (S1.length + 26), zR S1.length]) rfl rfl (by decide) rfl rfl rfl (Nat.le_of_ble_eq_true rfl) (Nat.le_of_ble_eq_true rfl) (Nat.le_of_ble_eq_true rfl) rfl hr (Or.inr (by simp [zvalid, bl94_11, cl0_len, cl1_len, cl2_len, cl3_len, cl4_len, cl5_len, cl6_len, cl7_len, cl8_len]; try omega)) rfl, hw, hf, hg⟩
set_option maxRecDepth 20000 in
set_option maxHeartbeats 2000000 in
theorem ze94_27 {S1 : zS} {h : zH} (hv : zvalidS (S1 ++ bl94_12 S1.length) = true) (hn : S1.length ≤ 700000) : Zx 94 27 [zR S1.length] [zR (S1.length + 77), zI 2, zR (S1.length + 26), zR (S1.length + 26), zR S1.length] (S1 ++ bl94_12 S1.length) h = Zx 94 28 [zR S1.length] [zR (S1.length + 26), zR S1.length] (S1 ++ bl94_13 S1.length) h := Zm_aast (d := 26) (l := bl94_12 S1.length) (c := (104, 3, [some (S1.length + 27), some (S1.length + 52), none])) (j := 2) (q := (S1.length + 77)) rfl rfl rfl rfl rfl (Or.inl ⟨rfl, zC_k (d := 77) rfl⟩)
set_option maxRecDepth 20000 in
set_option maxHeartbeats 2000000 in
theorem zy94_27 {S1 : zS} (hv : zvalidS (S1 ++ bl94_12 S1.length) = true) (hn : S1.length ≤ 700000) : zvalidS (S1 ++ bl94_13 S1.length) = true := zv_set (d := 26) (k := 2) (c := (104, 3, [some (S1.length + 27), some (S1.length + 52), none])) hv rfl (by simp [bl94_12, cl0_len, cl1_len, cl2_len, cl3_len, cl4_len, cl5_len, cl6_len, cl7_len, cl8_len]; try omega)
set_option maxRecDepth 20000 in
set_option maxHeartbeats 2000000 in
theorem ze94_28 {S1 : zS} {h : zH} (hv : zvalidS (S1 ++ bl94_13 S1.length) = true) (hn : S1.length ≤ 700000) : Zx 94 28 [zR S1.length] [zR (S1.length + 26), zR S1.length] (S1 ++ bl94_13 S1.length) h = Zx 94 29 [zR S1.length] [] (S1 ++ bl94_14 S1.length) h := Zm_putR0 (l := bl94_13 S1.length) (c := (9, 10, [some (S1.length + 1), none, none, none, none, none, none, none, none, none])) (f := 1) (q := (S1.length + 26)) rfl rfl rfl rfl rfl
set_option maxRecDepth 20000 in
set_option maxHeartbeats 2000000 in
theorem zy94_28 {S1 : zS} (hv : zvalidS (S1 ++ bl94_13 S1.length) = true) (hn : S1.length ≤ 700000) : zvalidS (S1 ++ bl94_14 S1.length) = true := zv_set (d := 0) (k := 1) (c := (9, 10, [some (S1.length + 1), none, none, none, none, none, none, none, none, none])) hv rfl (by simp [bl94_13, cl0_len, cl1_len, cl2_len, cl3_len, cl4_len, cl5_len, cl6_len, cl7_len, cl8_len]; try omega)
theorem ze94_29 {S1 : zS} {h : zH} (hv : zvalidS (S1 ++ bl94_14 S1.length) = true) (hn : S1.length ≤ 700000) : Zx 94 29 [zR S1.length] [] (S1 ++ bl94_14 S1.length) h = Zx 94 30 [zR S1.length] [zR S1.length] (S1 ++ bl94_14 S1.length) h := Zx_next rfl rfl
theorem ze94_30 {S1 : zS} {h : zH} (hv : zvalidS (S1 ++ bl94_14 S1.length) = true) (hn : S1.length ≤ 700000) : Zx 94 30 [zR S1.length] [zR S1.length] (S1 ++ bl94_14 S1.length) h = Zx 94 31 [zR S1.length] [zI 3, zR S1.length] (S1 ++ bl94_14 S1.length) h := Zx_next rfl rfl
set_option maxRecDepth 20000 in
set_option maxHeartbeats 2000000 in
theorem ze94_31 {S1 : zS} {h : zH} (hv : zvalidS (S1 ++ bl94_14 S1.length) = true) (hn : S1.length ≤ 700000) : Zx 94 31 [zR S1.length] [zI 3, zR S1.length] (S1 ++ bl94_14 S1.length) h = Zx 94 32 [zR S1.length] [zR (S1.length + 102), zR S1.length] (S1 ++ bl94_15 S1.length) (zhn h (S1.length + 102)) := Zm_newa rfl rfl (by decide) rfl hv (by simp [zvalid, bl94_14, cl0_len, cl1_len, cl2_len, cl3_len, cl4_len, cl5_len, cl6_len, cl7_len, cl8_len]; try omega) (by simp [zvalid, bl94_14, cl0_len, cl1_len, cl2_len, cl3_len, cl4_len, cl5_len, cl6_len, cl7_len, cl8_len]; try omega) (by simp [bl94_14, cl0_len, cl1_len, cl2_len, cl3_len, cl4_len, cl5_len, cl6_len, cl7_len, cl8_len]; try omega) rfl
set_option maxRecDepth 20000 in
set_option maxHeartbeats 2000000 in
theorem zy94_31 {S1 : zS} (hv : zvalidS (S1 ++ bl94_14 S1.length) = true) (hn : S1.length ≤ 700000) : zvalidS (S1 ++ bl94_15 S1.length) = true := zv_app (c := (102, 3, [])) hv rfl
set_option maxRecDepth 20000 in
set_option maxHeartbeats 2000000 in
theorem ze94_32 {S1 : zS} {h : zH} (hv : zvalidS (S1 ++ bl94_15 S1.length) = true) (hn : S1.length ≤ 700000) : Zx 94 32 [zR S1.length] [zR (S1.length + 102), zR S1.length] (S1 ++ bl94_15 S1.length) h = Zx 94 33 [zR S1.length] [] (S1 ++ bl94_16 S1.length) h := Zm_putR0 (l := bl94_15 S1.length) (c := (9, 10, [some (S1.length + 1), some (S1.length + 26), none, none, none, none, none, none, none, none])) (f := 2) (q := (S1.length + 102)) rfl rfl rfl rfl rfl
set_option maxRecDepth 20000 in
set_option maxHeartbeats 2000000 in
theorem zy94_32 {S1 : zS} (hv : zvalidS (S1 ++ bl94_15 S1.length) = true) (hn : S1.length ≤ 700000) : zvalidS (S1 ++ bl94_16 S1.length) = true := zv_set (d := 0) (k := 2) (c := (9, 10, [some (S1.length + 1), some (S1.length + 26), none, none, none, none, none, none, none, none])) hv rfl (by simp [bl94_15, cl0_len, cl1_len, cl2_len, cl3_len, cl4_len, cl5_len, cl6_len, cl7_len, cl8_len]; try omega)
theorem ze94_33 {S1 : zS} {h : zH} (hv : zvalidS (S1 ++ bl94_16 S1.length) = true) (hn : S1.length ≤ 700000) : Zx 94 33 [zR S1.length] [] (S1 ++ bl94_16 S1.length) h = Zx 94 34 [zR S1.length] [zR S1.length] (S1 ++ bl94_16 S1.length) h := Zx_next rfl rfl
set_option maxRecDepth 20000 in
set_option maxHeartbeats 2000000 in
theorem ze94_34 {S1 : zS} {h : zH} (hv : zvalidS (S1 ++ bl94_16 S1.length) = true) (hn : S1.length ≤ 700000) : Zx 94 34 [zR S1.length] [zR S1.length] (S1 ++ bl94_16 S1.length) h = Zx 94 35 [zR S1.length] [zR (S1.length + 103), zR S1.length] (S1 ++ bl94_17 S1.length) (zhn h (S1.length + 103)) := Zm_new rfl rfl hv (by simp [zvalid, bl94_16, cl0_len, cl1_len, cl2_len, cl3_len, cl4_len, cl5_len, cl6_len, cl7_len, cl8_len]; try omega) (by simp [zvalid, bl94_16, cl0_len, cl1_len, cl2_len, cl3_len, cl4_len, cl5_len, cl6_len, cl7_len, cl8_len]; try omega) (by simp [bl94_16, cl0_len, cl1_len, cl2_len, cl3_len, cl4_len, cl5_len, cl6_len, cl7_len, cl8_len]; try omega) rfl
set_option maxRecDepth 20000 in
set_option maxHeartbeats 2000000 in
theorem zy94_34 {S1 : zS} (hv : zvalidS (S1 ++ bl94_16 S1.length) = true) (hn : S1.length ≤ 700000) : zvalidS (S1 ++ bl94_17 S1.length) = true := zv_app (c := (4, 13, [none, none, none, none, none, none, none, none, none, none, none, none, none])) hv rfl
theorem ze94_35 {S1 : zS} {h : zH} (hv : zvalidS (S1 ++ bl94_17 S1.length) = true) (hn : S1.length ≤ 700000) : Zx 94 35 [zR S1.length] [zR (S1.length + 103), zR S1.length] (S1 ++ bl94_17 S1.length) h = Zx 94 36 [zR S1.length] [zR (S1.length + 103), zR (S1.length + 103), zR S1.length] (S1 ++ bl94_17 S1.length) h := Zx_next rfl rfl
theorem ze94_36 {S1 : zS} {h : zH} (hv : zvalidS (S1 ++ bl94_17 S1.length) = true) (hn : S1.length ≤ 700000) : Zx 94 36 [zR S1.length] [zR (S1.length + 103), zR (S1.length + 103), zR S1.length] (S1 ++ bl94_17 S1.length) h = Zx 94 37 [zR S1.length] [zR S1.length, zR (S1.length + 103), zR (S1.length + 103), zR S1.length] (S1 ++ bl94_17 S1.length) h := Zx_next rfl rfl
theorem ze94_37 {S1 : zS} {h : zH} (hv : zvalidS (S1 ++ bl94_17 S1.length) = true) (hn : S1.length ≤ 700000) : Zx 94 37 [zR S1.length] [zR S1.length, zR (S1.length + 103), zR (S1.length + 103), zR S1.length] (S1 ++ bl94_17 S1.length) h = Zx 94 38 [zR S1.length] [zR (S1.length + 1), zR (S1.length + 103), zR (S1.length + 103), zR S1.length] (S1 ++ bl94_17 S1.length) h := Zx_get rfl rfl (zC_mid0 rfl) rfl
theorem ze94_38 {S1 : zS} {h : zH} (hv : zvalidS (S1 ++ bl94_17 S1.length) = true) (hn : S1.length ≤ 700000) : Zx 94 38 [zR S1.length] [zR (S1.length + 1), zR (S1.length + 103), zR (S1.length + 103), zR S1.length] (S1 ++ bl94_17 S1.length) h = Zx 94 39 [zR S1.length] [zR (S1.length + 2), zR (S1.length + 103), zR (S1.length + 103), zR S1.length] (S1 ++ bl94_17 S1.length) h := Zx_get rfl rfl (zC_mid (d := 1) rfl) rfl
set_option maxRecDepth 20000 in
set_option maxHeartbeats 2000000 in
theorem ze94_39 {S1 : zS} {h : zH} (hv : zvalidS (S1 ++ bl94_16 S1.length) = true) (hn : S1.length ≤ 700000) : ∃ h', Zx 94 39 [zR S1.length] [zR (S1.length + 2), zR (S1.length + 103), zR (S1.length + 103), zR S1.length] (S1 ++ bl94_17 S1.length) h = Zx 94 40 [zR S1.length] [zR (S1.length + 103), zR S1.length] (S1 ++ bl94_18 S1.length) h' ∧ zvalidS (S1 ++ bl94_18 S1.length) = true ∧ (∀ o k, o < (S1.length + 103) → h' o k = h o k) := by
  have hl : (S1 ++ bl94_16 S1.length).length = (S1.length + 103) := by simp [bl94_16, cl0_len, cl1_len, cl2_len, cl3_len, cl4_len, cl5_len, cl6_len, cl7_len, cl8_len]
  obtain ⟨h1, hr, hw, hf⟩ := zc_39 (S1 := S1 ++ bl94_16 S1.length) (h := h) hv (by rw [hl]; omega) (q := (S1.length + 2)) (by simp [bl94_16, cl0_len, cl1_len, cl2_len, cl3_len, cl4_len, cl5_len, cl6_len, cl7_len, cl8_len]; try omega)
  rw [hl, List.append_assoc, List.append_assoc] at hr
  rw [hl, List.append_assoc] at hw
  rw [hl] at hf
  have e1 : bl94_16 S1.length ++ [(4, 13, [none, none, none, none, none, none, none, none, none, none, none, none, none])] = bl94_17 S1.length := by simp [bl94_16, bl94_17]
  have e2 : bl94_16 S1.length ++ cl4 (S1.length + 103) (S1.length + 2) = bl94_18 S1.length := by simp [bl94_16, bl94_18]
  rw [e1, e2] at hr
  rw [e2] at hw
  exact ⟨h1, Zx_ci (b := 2) (st2 := [zR (S1.length + 103), zR S1.length]) rfl rfl (by decide) rfl rfl rfl (Nat.le_of_ble_eq_true rfl) (Nat.le_of_ble_eq_true rfl) (Nat.le_of_ble_eq_true rfl) rfl hr (Or.inr (by simp [zvalid, bl94_17, cl0_len, cl1_len, cl2_len, cl3_len, cl4_len, cl5_len, cl6_len, cl7_len, cl8_len]; try omega)) rfl, hw, hf⟩
set_option maxRecDepth 20000 in
set_option maxHeartbeats 2000000 in
theorem ze94_40 {S1 : zS} {h : zH} (hv : zvalidS (S1 ++ bl94_18 S1.length) = true) (hn : S1.length ≤ 700000) : Zx 94 40 [zR S1.length] [zR (S1.length + 103), zR S1.length] (S1 ++ bl94_18 S1.length) h = Zx 94 41 [zR S1.length] [] (S1 ++ bl94_19 S1.length) h := Zm_putR0 (l := bl94_18 S1.length) (c := (9, 10, [some (S1.length + 1), some (S1.length + 26), some (S1.length + 102), none, none, none, none, none, none, none])) (f := 3) (q := (S1.length + 103)) rfl rfl rfl rfl rfl
set_option maxRecDepth 20000 in
set_option maxHeartbeats 2000000 in
theorem zy94_40 {S1 : zS} (hv : zvalidS (S1 ++ bl94_18 S1.length) = true) (hn : S1.length ≤ 700000) : zvalidS (S1 ++ bl94_19 S1.length) = true := zv_set (d := 0) (k := 3) (c := (9, 10, [some (S1.length + 1), some (S1.length + 26), some (S1.length + 102), none, none, none, none, none, none, none])) hv rfl (by simp [bl94_18, cl0_len, cl1_len, cl2_len, cl3_len, cl4_len, cl5_len, cl6_len, cl7_len, cl8_len]; try omega)
theorem ze94_41 {S1 : zS} {h : zH} (hv : zvalidS (S1 ++ bl94_19 S1.length) = true) (hn : S1.length ≤ 700000) : Zx 94 41 [zR S1.length] [] (S1 ++ bl94_19 S1.length) h = Zx 94 42 [zR S1.length] [zR S1.length] (S1 ++ bl94_19 S1.length) h := Zx_next rfl rfl
theorem ze94_42 {S1 : zS} {h : zH} (hv : zvalidS (S1 ++ bl94_19 S1.length) = true) (hn : S1.length ≤ 700000) : Zx 94 42 [zR S1.length] [zR S1.length] (S1 ++ bl94_19 S1.length) h = Zx 94 43 [zR S1.length] [zI 3, zR S1.length] (S1 ++ bl94_19 S1.length) h := Zx_next rfl rfl
set_option maxRecDepth 20000 in
set_option maxHeartbeats 2000000 in
theorem ze94_43 {S1 : zS} {h : zH} (hv : zvalidS (S1 ++ bl94_19 S1.length) = true) (hn : S1.length ≤ 700000) : Zx 94 43 [zR S1.length] [zI 3, zR S1.length] (S1 ++ bl94_19 S1.length) h = Zx 94 44 [zR S1.length] [zR (S1.length + 113), zR S1.length] (S1 ++ bl94_20 S1.length) (zhn h (S1.length + 113)) := Zm_newq rfl rfl (by decide) rfl hv (by simp [zvalid, bl94_19, cl0_len, cl1_len, cl2_len, cl3_len, cl4_len, cl5_len, cl6_len, cl7_len, cl8_len]; try omega) (by simp [zvalid, bl94_19, cl0_len, cl1_len, cl2_len, cl3_len, cl4_len, cl5_len, cl6_len, cl7_len, cl8_len]; try omega) (by simp [bl94_19, cl0_len, cl1_len, cl2_len, cl3_len, cl4_len, cl5_len, cl6_len, cl7_len, cl8_len]; try omega) rfl
set_option maxRecDepth 20000 in
set_option maxHeartbeats 2000000 in
theorem zy94_43 {S1 : zS} (hv : zvalidS (S1 ++ bl94_19 S1.length) = true) (hn : S1.length ≤ 700000) : zvalidS (S1 ++ bl94_20 S1.length) = true := zv_app (c := (107, 3, [none, none, none])) hv rfl
theorem ze94_44 {S1 : zS} {h : zH} (hv : zvalidS (S1 ++ bl94_20 S1.length) = true) (hn : S1.length ≤ 700000) : Zx 94 44 [zR S1.length] [zR (S1.length + 113), zR S1.length] (S1 ++ bl94_20 S1.length) h = Zx 94 45 [zR S1.length] [zR (S1.length + 113), zR (S1.length + 113), zR S1.length] (S1 ++ bl94_20 S1.length) h := Zx_next rfl rfl
theorem ze94_45 {S1 : zS} {h : zH} (hv : zvalidS (S1 ++ bl94_20 S1.length) = true) (hn : S1.length ≤ 700000) : Zx 94 45 [zR S1.length] [zR (S1.length + 113), zR (S1.length + 113), zR S1.length] (S1 ++ bl94_20 S1.length) h = Zx 94 46 [zR S1.length] [zI 0, zR (S1.length + 113), zR (S1.length + 113), zR S1.length] (S1 ++ bl94_20 S1.length) h := Zx_next rfl rfl
set_option maxRecDepth 20000 in
set_option maxHeartbeats 2000000 in
theorem ze94_46 {S1 : zS} {h : zH} (hv : zvalidS (S1 ++ bl94_20 S1.length) = true) (hn : S1.length ≤ 700000) : Zx 94 46 [zR S1.length] [zI 0, zR (S1.length + 113), zR (S1.length + 113), zR S1.length] (S1 ++ bl94_20 S1.length) h = Zx 94 47 [zR S1.length] [zR (S1.length + 114), zI 0, zR (S1.length + 113), zR (S1.length + 113), zR S1.length] (S1 ++ bl94_21 S1.length) (zhn h (S1.length + 114)) := Zm_new rfl rfl hv (by simp [zvalid, bl94_20, cl0_len, cl1_len, cl2_len, cl3_len, cl4_len, cl5_len, cl6_len, cl7_len, cl8_len]; try omega) (by simp [zvalid, bl94_20, cl0_len, cl1_len, cl2_len, cl3_len, cl4_len, cl5_len, cl6_len, cl7_len, cl8_len]; try omega) (by simp [bl94_20, cl0_len, cl1_len, cl2_len, cl3_len, cl4_len, cl5_len, cl6_len, cl7_len, cl8_len]; try omega) rfl
set_option maxRecDepth 20000 in
set_option maxHeartbeats 2000000 in
theorem zy94_46 {S1 : zS} (hv : zvalidS (S1 ++ bl94_20 S1.length) = true) (hn : S1.length ≤ 700000) : zvalidS (S1 ++ bl94_21 S1.length) = true := zv_app (c := (0, 13, [none, none, none, none, none, none, none, none, none, none, none, none, none])) hv rfl
theorem ze94_47 {S1 : zS} {h : zH} (hv : zvalidS (S1 ++ bl94_21 S1.length) = true) (hn : S1.length ≤ 700000) : Zx 94 47 [zR S1.length] [zR (S1.length + 114), zI 0, zR (S1.length + 113), zR (S1.length + 113), zR S1.length] (S1 ++ bl94_21 S1.length) h = Zx 94 48 [zR S1.length] [zR (S1.length + 114), zR (S1.length + 114), zI 0, zR (S1.length + 113), zR (S1.length + 113), zR S1.length] (S1 ++ bl94_21 S1.length) h := Zx_next rfl rfl
set_option maxRecDepth 20000 in
set_option maxHeartbeats 2000000 in
theorem ze94_48 {S1 : zS} {h : zH} (hv : zvalidS (S1 ++ bl94_20 S1.length) = true) (hn : S1.length ≤ 700000) : ∃ h', Zx 94 48 [zR S1.length] [zR (S1.length + 114), zR (S1.length + 114), zI 0, zR (S1.length + 113), zR (S1.length + 113), zR S1.length] (S1 ++ bl94_21 S1.length) h = Zx 94 49 [zR S1.length] [zR (S1.length + 114), zI 0, zR (S1.length + 113), zR (S1.length + 113), zR S1.length] (S1 ++ bl94_22 S1.length) h' ∧ zvalidS (S1 ++ bl94_22 S1.length) = true ∧ (∀ o k, o < (S1.length + 114) → h' o k = h o k) := by
  have hl : (S1 ++ bl94_20 S1.length).length = (S1.length + 114) := by simp [bl94_20, cl0_len, cl1_len, cl2_len, cl3_len, cl4_len, cl5_len, cl6_len, cl7_len, cl8_len]
  obtain ⟨h1, hr, hw, hf⟩ := zc_0 (S1 := S1 ++ bl94_20 S1.length) (h := h) hv (by rw [hl]; omega)
  rw [hl, List.append_assoc, List.append_assoc] at hr
  rw [hl, List.append_assoc] at hw
  rw [hl] at hf
  have e1 : bl94_20 S1.length ++ [(0, 13, [none, none, none, none, none, none, none, none, none, none, none, none, none])] = bl94_21 S1.length := by simp [bl94_20, bl94_21]
  have e2 : bl94_20 S1.length ++ cl0 (S1.length + 114) = bl94_22 S1.length := by simp [bl94_20, bl94_22]
  rw [e1, e2] at hr
  rw [e2] at hw
  exact ⟨h1, Zx_ci (b := 1) (st2 := [zR (S1.length + 114), zI 0, zR (S1.length + 113), zR (S1.length + 113), zR S1.length]) rfl rfl (by decide) rfl rfl rfl (Nat.le_of_ble_eq_true rfl) (Nat.le_of_ble_eq_true rfl) (Nat.le_of_ble_eq_true rfl) rfl hr (Or.inr (by simp [zvalid, bl94_21, cl0_len, cl1_len, cl2_len, cl3_len, cl4_len, cl5_len, cl6_len, cl7_len, cl8_len]; try omega)) rfl, hw, hf⟩
set_option maxRecDepth 20000 in
set_option maxHeartbeats 2000000 in
theorem ze94_49 {S1 : zS} {h : zH} (hv : zvalidS (S1 ++ bl94_22 S1.length) = true) (hn : S1.length ≤ 700000) : Zx 94 49 [zR S1.length] [zR (S1.length + 114), zI 0, zR (S1.length + 113), zR (S1.length + 113), zR S1.length] (S1 ++ bl94_22 S1.length) h = Zx 94 50 [zR S1.length] [zR (S1.length + 113), zR S1.length] (S1 ++ bl94_23 S1.length) h := Zm_aast (d := 113) (l := bl94_22 S1.length) (c := (107, 3, [none, none, none])) (j := 0) (q := (S1.length + 114)) rfl rfl rfl rfl rfl (Or.inr (Or.inr (Or.inr ⟨rfl, zC_k (d := 114) rfl⟩)))
set_option maxRecDepth 20000 in
set_option maxHeartbeats 2000000 in
theorem zy94_49 {S1 : zS} (hv : zvalidS (S1 ++ bl94_22 S1.length) = true) (hn : S1.length ≤ 700000) : zvalidS (S1 ++ bl94_23 S1.length) = true := zv_set (d := 113) (k := 0) (c := (107, 3, [none, none, none])) hv rfl (by simp [bl94_22, cl0_len, cl1_len, cl2_len, cl3_len, cl4_len, cl5_len, cl6_len, cl7_len, cl8_len]; try omega)
theorem ze94_50 {S1 : zS} {h : zH} (hv : zvalidS (S1 ++ bl94_23 S1.length) = true) (hn : S1.length ≤ 700000) : Zx 94 50 [zR S1.length] [zR (S1.length + 113), zR S1.length] (S1 ++ bl94_23 S1.length) h = Zx 94 51 [zR S1.length] [zR (S1.length + 113), zR (S1.length + 113), zR S1.length] (S1 ++ bl94_23 S1.length) h := Zx_next rfl rfl
theorem ze94_51 {S1 : zS} {h : zH} (hv : zvalidS (S1 ++ bl94_23 S1.length) = true) (hn : S1.length ≤ 700000) : Zx 94 51 [zR S1.length] [zR (S1.length + 113), zR (S1.length + 113), zR S1.length] (S1 ++ bl94_23 S1.length) h = Zx 94 52 [zR S1.length] [zI 1, zR (S1.length + 113), zR (S1.length + 113), zR S1.length] (S1 ++ bl94_23 S1.length) h := Zx_next rfl rfl
set_option maxRecDepth 20000 in
set_option maxHeartbeats 2000000 in
theorem ze94_52 {S1 : zS} {h : zH} (hv : zvalidS (S1 ++ bl94_23 S1.length) = true) (hn : S1.length ≤ 700000) : Zx 94 52 [zR S1.length] [zI 1, zR (S1.length + 113), zR (S1.length + 113), zR S1.length] (S1 ++ bl94_23 S1.length) h = Zx 94 53 [zR S1.length] [zR (S1.length + 133), zI 1, zR (S1.length + 113), zR (S1.length + 113), zR S1.length] (S1 ++ bl94_24 S1.length) (zhn h (S1.length + 133)) := Zm_new rfl rfl hv (by simp [zvalid, bl94_23, cl0_len, cl1_len, cl2_len, cl3_len, cl4_len, cl5_len, cl6_len, cl7_len, cl8_len]; try omega) (by simp [zvalid, bl94_23, cl0_len, cl1_len, cl2_len, cl3_len, cl4_len, cl5_len, cl6_len, cl7_len, cl8_len]; try omega) (by simp [bl94_23, cl0_len, cl1_len, cl2_len, cl3_len, cl4_len, cl5_len, cl6_len, cl7_len, cl8_len]; try omega) rfl
set_option maxRecDepth 20000 in
set_option maxHeartbeats 2000000 in
theorem zy94_52 {S1 : zS} (hv : zvalidS (S1 ++ bl94_23 S1.length) = true) (hn : S1.length ≤ 700000) : zvalidS (S1 ++ bl94_24 S1.length) = true := zv_app (c := (0, 13, [none, none, none, none, none, none, none, none, none, none, none, none, none])) hv rfl
theorem ze94_53 {S1 : zS} {h : zH} (hv : zvalidS (S1 ++ bl94_24 S1.length) = true) (hn : S1.length ≤ 700000) : Zx 94 53 [zR S1.length] [zR (S1.length + 133), zI 1, zR (S1.length + 113), zR (S1.length + 113), zR S1.length] (S1 ++ bl94_24 S1.length) h = Zx 94 54 [zR S1.length] [zR (S1.length + 133), zR (S1.length + 133), zI 1, zR (S1.length + 113), zR (S1.length + 113), zR S1.length] (S1 ++ bl94_24 S1.length) h := Zx_next rfl rfl
set_option maxRecDepth 20000 in
set_option maxHeartbeats 2000000 in
theorem ze94_54 {S1 : zS} {h : zH} (hv : zvalidS (S1 ++ bl94_23 S1.length) = true) (hn : S1.length ≤ 700000) : ∃ h', Zx 94 54 [zR S1.length] [zR (S1.length + 133), zR (S1.length + 133), zI 1, zR (S1.length + 113), zR (S1.length + 113), zR S1.length] (S1 ++ bl94_24 S1.length) h = Zx 94 55 [zR S1.length] [zR (S1.length + 133), zI 1, zR (S1.length + 113), zR (S1.length + 113), zR S1.length] (S1 ++ bl94_25 S1.length) h' ∧ zvalidS (S1 ++ bl94_25 S1.length) = true ∧ (∀ o k, o < (S1.length + 133) → h' o k = h o k) := by
  have hl : (S1 ++ bl94_23 S1.length).length = (S1.length + 133) := by simp [bl94_23, cl0_len, cl1_len, cl2_len, cl3_len, cl4_len, cl5_len, cl6_len, cl7_len, cl8_len]
  obtain ⟨h1, hr, hw, hf⟩ := zc_0 (S1 := S1 ++ bl94_23 S1.length) (h := h) hv (by rw [hl]; omega)
  rw [hl, List.append_assoc, List.append_assoc] at hr
  rw [hl, List.append_assoc] at hw
  rw [hl] at hf
  have e1 : bl94_23 S1.length ++ [(0, 13, [none, none, none, none, none, none, none, none, none, none, none, none, none])] = bl94_24 S1.length := by simp [bl94_23, bl94_24]
  have e2 : bl94_23 S1.length ++ cl0 (S1.length + 133) = bl94_25 S1.length := by simp [bl94_23, bl94_25]
  rw [e1, e2] at hr
  rw [e2] at hw
  exact ⟨h1, Zx_ci (b := 1) (st2 := [zR (S1.length + 133), zI 1, zR (S1.length + 113), zR (S1.length + 113), zR S1.length]) rfl rfl (by decide) rfl rfl rfl (Nat.le_of_ble_eq_true rfl) (Nat.le_of_ble_eq_true rfl) (Nat.le_of_ble_eq_true rfl) rfl hr (Or.inr (by simp [zvalid, bl94_24, cl0_len, cl1_len, cl2_len, cl3_len, cl4_len, cl5_len, cl6_len, cl7_len, cl8_len]; try omega)) rfl, hw, hf⟩
set_option maxRecDepth 20000 in
set_option maxHeartbeats 2000000 in
theorem ze94_55 {S1 : zS} {h : zH} (hv : zvalidS (S1 ++ bl94_25 S1.length) = true) (hn : S1.length ≤ 700000) : Zx 94 55 [zR S1.length] [zR (S1.length + 133), zI 1, zR (S1.length + 113), zR (S1.length + 113), zR S1.length] (S1 ++ bl94_25 S1.length) h = Zx 94 56 [zR S1.length] [zR (S1.length + 113), zR S1.length] (S1 ++ bl94_26 S1.length) h := Zm_aast (d := 113) (l := bl94_25 S1.length) (c := (107, 3, [some (S1.length + 114), none, none])) (j := 1) (q := (S1.length + 133)) rfl rfl rfl rfl rfl (Or.inr (Or.inr (Or.inr ⟨rfl, zC_k (d := 133) rfl⟩)))
set_option maxRecDepth 20000 in
set_option maxHeartbeats 2000000 in
theorem zy94_55 {S1 : zS} (hv : zvalidS (S1 ++ bl94_25 S1.length) = true) (hn : S1.length ≤ 700000) : zvalidS (S1 ++ bl94_26 S1.length) = true := zv_set (d := 113) (k := 1) (c := (107, 3, [some (S1.length + 114), none, none])) hv rfl (by simp [bl94_25, cl0_len, cl1_len, cl2_len, cl3_len, cl4_len, cl5_len, cl6_len, cl7_len, cl8_len]; try omega)
theorem ze94_56 {S1 : zS} {h : zH} (hv : zvalidS (S1 ++ bl94_26 S1.length) = true) (hn : S1.length ≤ 700000) : Zx 94 56 [zR S1.length] [zR (S1.length + 113), zR S1.length] (S1 ++ bl94_26 S1.length) h = Zx 94 57 [zR S1.length] [zR (S1.length + 113), zR (S1.length + 113), zR S1.length] (S1 ++ bl94_26 S1.length) h := Zx_next rfl rfl
theorem ze94_57 {S1 : zS} {h : zH} (hv : zvalidS (S1 ++ bl94_26 S1.length) = true) (hn : S1.length ≤ 700000) : Zx 94 57 [zR S1.length] [zR (S1.length + 113), zR (S1.length + 113), zR S1.length] (S1 ++ bl94_26 S1.length) h = Zx 94 58 [zR S1.length] [zI 2, zR (S1.length + 113), zR (S1.length + 113), zR S1.length] (S1 ++ bl94_26 S1.length) h := Zx_next rfl rfl
set_option maxRecDepth 20000 in
set_option maxHeartbeats 2000000 in
theorem ze94_58 {S1 : zS} {h : zH} (hv : zvalidS (S1 ++ bl94_26 S1.length) = true) (hn : S1.length ≤ 700000) : Zx 94 58 [zR S1.length] [zI 2, zR (S1.length + 113), zR (S1.length + 113), zR S1.length] (S1 ++ bl94_26 S1.length) h = Zx 94 59 [zR S1.length] [zR (S1.length + 152), zI 2, zR (S1.length + 113), zR (S1.length + 113), zR S1.length] (S1 ++ bl94_27 S1.length) (zhn h (S1.length + 152)) := Zm_new rfl rfl hv (by simp [zvalid, bl94_26, cl0_len, cl1_len, cl2_len, cl3_len, cl4_len, cl5_len, cl6_len, cl7_len, cl8_len]; try omega) (by simp [zvalid, bl94_26, cl0_len, cl1_len, cl2_len, cl3_len, cl4_len, cl5_len, cl6_len, cl7_len, cl8_len]; try omega) (by simp [bl94_26, cl0_len, cl1_len, cl2_len, cl3_len, cl4_len, cl5_len, cl6_len, cl7_len, cl8_len]; try omega) rfl
set_option maxRecDepth 20000 in
set_option maxHeartbeats 2000000 in
theorem zy94_58 {S1 : zS} (hv : zvalidS (S1 ++ bl94_26 S1.length) = true) (hn : S1.length ≤ 700000) : zvalidS (S1 ++ bl94_27 S1.length) = true := zv_app (c := (0, 13, [none, none, none, none, none, none, none, none, none, none, none, none, none])) hv rfl
theorem ze94_59 {S1 : zS} {h : zH} (hv : zvalidS (S1 ++ bl94_27 S1.length) = true) (hn : S1.length ≤ 700000) : Zx 94 59 [zR S1.length] [zR (S1.length + 152), zI 2, zR (S1.length + 113), zR (S1.length + 113), zR S1.length] (S1 ++ bl94_27 S1.length) h = Zx 94 60 [zR S1.length] [zR (S1.length + 152), zR (S1.length + 152), zI 2, zR (S1.length + 113), zR (S1.length + 113), zR S1.length] (S1 ++ bl94_27 S1.length) h := Zx_next rfl rfl
set_option maxRecDepth 20000 in
set_option maxHeartbeats 2000000 in
theorem ze94_60 {S1 : zS} {h : zH} (hv : zvalidS (S1 ++ bl94_26 S1.length) = true) (hn : S1.length ≤ 700000) : ∃ h', Zx 94 60 [zR S1.length] [zR (S1.length + 152), zR (S1.length + 152), zI 2, zR (S1.length + 113), zR (S1.length + 113), zR S1.length] (S1 ++ bl94_27 S1.length) h = Zx 94 61 [zR S1.length] [zR (S1.length + 152), zI 2, zR (S1.length + 113), zR (S1.length + 113), zR S1.length] (S1 ++ bl94_28 S1.length) h' ∧ zvalidS (S1 ++ bl94_28 S1.length) = true ∧ (∀ o k, o < (S1.length + 152) → h' o k = h o k) := by
  have hl : (S1 ++ bl94_26 S1.length).length = (S1.length + 152) := by simp [bl94_26, cl0_len, cl1_len, cl2_len, cl3_len, cl4_len, cl5_len, cl6_len, cl7_len, cl8_len]
  obtain ⟨h1, hr, hw, hf⟩ := zc_0 (S1 := S1 ++ bl94_26 S1.length) (h := h) hv (by rw [hl]; omega)
  rw [hl, List.append_assoc, List.append_assoc] at hr
  rw [hl, List.append_assoc] at hw
  rw [hl] at hf
  have e1 : bl94_26 S1.length ++ [(0, 13, [none, none, none, none, none, none, none, none, none, none, none, none, none])] = bl94_27 S1.length := by simp [bl94_26, bl94_27]
  have e2 : bl94_26 S1.length ++ cl0 (S1.length + 152) = bl94_28 S1.length := by simp [bl94_26, bl94_28]
  rw [e1, e2] at hr
  rw [e2] at hw
  exact ⟨h1, Zx_ci (b := 1) (st2 := [zR (S1.length + 152), zI 2, zR (S1.length + 113), zR (S1.length + 113), zR S1.length]) rfl rfl (by decide) rfl rfl rfl (Nat.le_of_ble_eq_true rfl) (Nat.le_of_ble_eq_true rfl) (Nat.le_of_ble_eq_true rfl) rfl hr (Or.inr (by simp [zvalid, bl94_27, cl0_len, cl1_len, cl2_len, cl3_len, cl4_len, cl5_len, cl6_len, cl7_len, cl8_len]; try omega)) rfl, hw, hf⟩
set_option maxRecDepth 20000 in
set_option maxHeartbeats 2000000 in
theorem ze94_61 {S1 : zS} {h : zH} (hv : zvalidS (S1 ++ bl94_28 S1.length) = true) (hn : S1.length ≤ 700000) : Zx 94 61 [zR S1.length] [zR (S1.length + 152), zI 2, zR (S1.length + 113), zR (S1.length + 113), zR S1.length] (S1 ++ bl94_28 S1.length) h = Zx 94 62 [zR S1.length] [zR (S1.length + 113), zR S1.length] (S1 ++ bl94_29 S1.length) h := Zm_aast (d := 113) (l := bl94_28 S1.length) (c := (107, 3, [some (S1.length + 114), some (S1.length + 133), none])) (j := 2) (q := (S1.length + 152)) rfl rfl rfl rfl rfl (Or.inr (Or.inr (Or.inr ⟨rfl, zC_k (d := 152) rfl⟩)))
set_option maxRecDepth 20000 in
set_option maxHeartbeats 2000000 in
theorem zy94_61 {S1 : zS} (hv : zvalidS (S1 ++ bl94_28 S1.length) = true) (hn : S1.length ≤ 700000) : zvalidS (S1 ++ bl94_29 S1.length) = true := zv_set (d := 113) (k := 2) (c := (107, 3, [some (S1.length + 114), some (S1.length + 133), none])) hv rfl (by simp [bl94_28, cl0_len, cl1_len, cl2_len, cl3_len, cl4_len, cl5_len, cl6_len, cl7_len, cl8_len]; try omega)
set_option maxRecDepth 20000 in
set_option maxHeartbeats 2000000 in
theorem ze94_62 {S1 : zS} {h : zH} (hv : zvalidS (S1 ++ bl94_29 S1.length) = true) (hn : S1.length ≤ 700000) : Zx 94 62 [zR S1.length] [zR (S1.length + 113), zR S1.length] (S1 ++ bl94_29 S1.length) h = Zx 94 63 [zR S1.length] [] (S1 ++ bl94_30 S1.length) h := Zm_putR0 (l := bl94_29 S1.length) (c := (9, 10, [some (S1.length + 1), some (S1.length + 26), some (S1.length + 102), some (S1.length + 103), none, none, none, none, none, none])) (f := 4) (q := (S1.length + 113)) rfl rfl rfl rfl rfl
set_option maxRecDepth 20000 in
set_option maxHeartbeats 2000000 in
theorem zy94_62 {S1 : zS} (hv : zvalidS (S1 ++ bl94_29 S1.length) = true) (hn : S1.length ≤ 700000) : zvalidS (S1 ++ bl94_30 S1.length) = true := zv_set (d := 0) (k := 4) (c := (9, 10, [some (S1.length + 1), some (S1.length + 26), some (S1.length + 102), some (S1.length + 103), none, none, none, none, none, none])) hv rfl (by simp [bl94_29, cl0_len, cl1_len, cl2_len, cl3_len, cl4_len, cl5_len, cl6_len, cl7_len, cl8_len]; try omega)
theorem ze94_63 {S1 : zS} {h : zH} (hv : zvalidS (S1 ++ bl94_30 S1.length) = true) (hn : S1.length ≤ 700000) : Zx 94 63 [zR S1.length] [] (S1 ++ bl94_30 S1.length) h = Zx 94 64 [zR S1.length] [zR S1.length] (S1 ++ bl94_30 S1.length) h := Zx_next rfl rfl
theorem ze94_64 {S1 : zS} {h : zH} (hv : zvalidS (S1 ++ bl94_30 S1.length) = true) (hn : S1.length ≤ 700000) : Zx 94 64 [zR S1.length] [zR S1.length] (S1 ++ bl94_30 S1.length) h = Zx 94 65 [zR S1.length] [zI 3, zR S1.length] (S1 ++ bl94_30 S1.length) h := Zx_next rfl rfl
set_option maxRecDepth 20000 in
set_option maxHeartbeats 2000000 in
theorem ze94_65 {S1 : zS} {h : zH} (hv : zvalidS (S1 ++ bl94_30 S1.length) = true) (hn : S1.length ≤ 700000) : Zx 94 65 [zR S1.length] [zI 3, zR S1.length] (S1 ++ bl94_30 S1.length) h = Zx 94 66 [zR S1.length] [zR (S1.length + 171), zR S1.length] (S1 ++ bl94_31 S1.length) (zhn h (S1.length + 171)) := Zm_newa rfl rfl (by decide) rfl hv (by simp [zvalid, bl94_30, cl0_len, cl1_len, cl2_len, cl3_len, cl4_len, cl5_len, cl6_len, cl7_len, cl8_len]; try omega) (by simp [zvalid, bl94_30, cl0_len, cl1_len, cl2_len, cl3_len, cl4_len, cl5_len, cl6_len, cl7_len, cl8_len]; try omega) (by simp [bl94_30, cl0_len, cl1_len, cl2_len, cl3_len, cl4_len, cl5_len, cl6_len, cl7_len, cl8_len]; try omega) rfl
set_option maxRecDepth 20000 in
set_option maxHeartbeats 2000000 in
theorem zy94_65 {S1 : zS} (hv : zvalidS (S1 ++ bl94_30 S1.length) = true) (hn : S1.length ≤ 700000) : zvalidS (S1 ++ bl94_31 S1.length) = true := zv_app (c := (102, 3, [])) hv rfl
set_option maxRecDepth 20000 in
set_option maxHeartbeats 2000000 in
theorem ze94_66 {S1 : zS} {h : zH} (hv : zvalidS (S1 ++ bl94_31 S1.length) = true) (hn : S1.length ≤ 700000) : Zx 94 66 [zR S1.length] [zR (S1.length + 171), zR S1.length] (S1 ++ bl94_31 S1.length) h = Zx 94 67 [zR S1.length] [] (S1 ++ bl94_32 S1.length) h := Zm_putR0 (l := bl94_31 S1.length) (c := (9, 10, [some (S1.length + 1), some (S1.length + 26), some (S1.length + 102), some (S1.length + 103), some (S1.length + 113), none, none, none, none, none])) (f := 5) (q := (S1.length + 171)) rfl rfl rfl rfl rfl
set_option maxRecDepth 20000 in
set_option maxHeartbeats 2000000 in
theorem zy94_66 {S1 : zS} (hv : zvalidS (S1 ++ bl94_31 S1.length) = true) (hn : S1.length ≤ 700000) : zvalidS (S1 ++ bl94_32 S1.length) = true := zv_set (d := 0) (k := 5) (c := (9, 10, [some (S1.length + 1), some (S1.length + 26), some (S1.length + 102), some (S1.length + 103), some (S1.length + 113), none, none, none, none, none])) hv rfl (by simp [bl94_31, cl0_len, cl1_len, cl2_len, cl3_len, cl4_len, cl5_len, cl6_len, cl7_len, cl8_len]; try omega)
theorem ze94_67 {S1 : zS} {h : zH} (hv : zvalidS (S1 ++ bl94_32 S1.length) = true) (hn : S1.length ≤ 700000) : Zx 94 67 [zR S1.length] [] (S1 ++ bl94_32 S1.length) h = Zx 94 68 [zR S1.length] [zR S1.length] (S1 ++ bl94_32 S1.length) h := Zx_next rfl rfl
set_option maxRecDepth 20000 in
set_option maxHeartbeats 2000000 in
theorem ze94_68 {S1 : zS} {h : zH} (hv : zvalidS (S1 ++ bl94_32 S1.length) = true) (hn : S1.length ≤ 700000) : Zx 94 68 [zR S1.length] [zR S1.length] (S1 ++ bl94_32 S1.length) h = Zx 94 69 [zR S1.length] [zR (S1.length + 172), zR S1.length] (S1 ++ bl94_33 S1.length) (zhn h (S1.length + 172)) := Zm_new rfl rfl hv (by simp [zvalid, bl94_32, cl0_len, cl1_len, cl2_len, cl3_len, cl4_len, cl5_len, cl6_len, cl7_len, cl8_len]; try omega) (by simp [zvalid, bl94_32, cl0_len, cl1_len, cl2_len, cl3_len, cl4_len, cl5_len, cl6_len, cl7_len, cl8_len]; try omega) (by simp [bl94_32, cl0_len, cl1_len, cl2_len, cl3_len, cl4_len, cl5_len, cl6_len, cl7_len, cl8_len]; try omega) rfl
set_option maxRecDepth 20000 in
set_option maxHeartbeats 2000000 in
theorem zy94_68 {S1 : zS} (hv : zvalidS (S1 ++ bl94_32 S1.length) = true) (hn : S1.length ≤ 700000) : zvalidS (S1 ++ bl94_33 S1.length) = true := zv_app (c := (0, 13, [none, none, none, none, none, none, none, none, none, none, none, none, none])) hv rfl
theorem ze94_69 {S1 : zS} {h : zH} (hv : zvalidS (S1 ++ bl94_33 S1.length) = true) (hn : S1.length ≤ 700000) : Zx 94 69 [zR S1.length] [zR (S1.length + 172), zR S1.length] (S1 ++ bl94_33 S1.length) h = Zx 94 70 [zR S1.length] [zR (S1.length + 172), zR (S1.length + 172), zR S1.length] (S1 ++ bl94_33 S1.length) h := Zx_next rfl rfl
set_option maxRecDepth 20000 in
set_option maxHeartbeats 2000000 in
theorem ze94_70 {S1 : zS} {h : zH} (hv : zvalidS (S1 ++ bl94_32 S1.length) = true) (hn : S1.length ≤ 700000) : ∃ h', Zx 94 70 [zR S1.length] [zR (S1.length + 172), zR (S1.length + 172), zR S1.length] (S1 ++ bl94_33 S1.length) h = Zx 94 71 [zR S1.length] [zR (S1.length + 172), zR S1.length] (S1 ++ bl94_34 S1.length) h' ∧ zvalidS (S1 ++ bl94_34 S1.length) = true ∧ (∀ o k, o < (S1.length + 172) → h' o k = h o k) := by
  have hl : (S1 ++ bl94_32 S1.length).length = (S1.length + 172) := by simp [bl94_32, cl0_len, cl1_len, cl2_len, cl3_len, cl4_len, cl5_len, cl6_len, cl7_len, cl8_len]
  obtain ⟨h1, hr, hw, hf⟩ := zc_0 (S1 := S1 ++ bl94_32 S1.length) (h := h) hv (by rw [hl]; omega)
  rw [hl, List.append_assoc, List.append_assoc] at hr
  rw [hl, List.append_assoc] at hw
  rw [hl] at hf
  have e1 : bl94_32 S1.length ++ [(0, 13, [none, none, none, none, none, none, none, none, none, none, none, none, none])] = bl94_33 S1.length := by simp [bl94_32, bl94_33]
  have e2 : bl94_32 S1.length ++ cl0 (S1.length + 172) = bl94_34 S1.length := by simp [bl94_32, bl94_34]
  rw [e1, e2] at hr
  rw [e2] at hw
  exact ⟨h1, Zx_ci (b := 1) (st2 := [zR (S1.length + 172), zR S1.length]) rfl rfl (by decide) rfl rfl rfl (Nat.le_of_ble_eq_true rfl) (Nat.le_of_ble_eq_true rfl) (Nat.le_of_ble_eq_true rfl) rfl hr (Or.inr (by simp [zvalid, bl94_33, cl0_len, cl1_len, cl2_len, cl3_len, cl4_len, cl5_len, cl6_len, cl7_len, cl8_len]; try omega)) rfl, hw, hf⟩
set_option maxRecDepth 20000 in
set_option maxHeartbeats 2000000 in
theorem ze94_71 {S1 : zS} {h : zH} (hv : zvalidS (S1 ++ bl94_34 S1.length) = true) (hn : S1.length ≤ 700000) : Zx 94 71 [zR S1.length] [zR (S1.length + 172), zR S1.length] (S1 ++ bl94_34 S1.length) h = Zx 94 72 [zR S1.length] [] (S1 ++ bl94_35 S1.length) h := Zm_putR0 (l := bl94_34 S1.length) (c := (9, 10, [some (S1.length + 1), some (S1.length + 26), some (S1.length + 102), some (S1.length + 103), some (S1.length + 113), some (S1.length + 171), none, none, none, none])) (f := 6) (q := (S1.length + 172)) rfl rfl rfl rfl rfl
set_option maxRecDepth 20000 in
set_option maxHeartbeats 2000000 in
theorem zy94_71 {S1 : zS} (hv : zvalidS (S1 ++ bl94_34 S1.length) = true) (hn : S1.length ≤ 700000) : zvalidS (S1 ++ bl94_35 S1.length) = true := zv_set (d := 0) (k := 6) (c := (9, 10, [some (S1.length + 1), some (S1.length + 26), some (S1.length + 102), some (S1.length + 103), some (S1.length + 113), some (S1.length + 171), none, none, none, none])) hv rfl (by simp [bl94_34, cl0_len, cl1_len, cl2_len, cl3_len, cl4_len, cl5_len, cl6_len, cl7_len, cl8_len]; try omega)
theorem ze94_72 {S1 : zS} {h : zH} (hv : zvalidS (S1 ++ bl94_35 S1.length) = true) (hn : S1.length ≤ 700000) : Zx 94 72 [zR S1.length] [] (S1 ++ bl94_35 S1.length) h = Zx 94 73 [zR S1.length] [zR S1.length] (S1 ++ bl94_35 S1.length) h := Zx_next rfl rfl
set_option maxRecDepth 20000 in
set_option maxHeartbeats 2000000 in
theorem ze94_73 {S1 : zS} {h : zH} (hv : zvalidS (S1 ++ bl94_35 S1.length) = true) (hn : S1.length ≤ 700000) : Zx 94 73 [zR S1.length] [zR S1.length] (S1 ++ bl94_35 S1.length) h = Zx 94 74 [zR S1.length] [zR (S1.length + 191), zR S1.length] (S1 ++ bl94_36 S1.length) (zhn h (S1.length + 191)) := Zm_new rfl rfl hv (by simp [zvalid, bl94_35, cl0_len, cl1_len, cl2_len, cl3_len, cl4_len, cl5_len, cl6_len, cl7_len, cl8_len]; try omega) (by simp [zvalid, bl94_35, cl0_len, cl1_len, cl2_len, cl3_len, cl4_len, cl5_len, cl6_len, cl7_len, cl8_len]; try omega) (by simp [bl94_35, cl0_len, cl1_len, cl2_len, cl3_len, cl4_len, cl5_len, cl6_len, cl7_len, cl8_len]; try omega) rfl
set_option maxRecDepth 20000 in
set_option maxHeartbeats 2000000 in
theorem zy94_73 {S1 : zS} (hv : zvalidS (S1 ++ bl94_35 S1.length) = true) (hn : S1.length ≤ 700000) : zvalidS (S1 ++ bl94_36 S1.length) = true := zv_app (c := (1, 9, [none, none, none, none, none, none, none, none, none])) hv rfl
theorem ze94_74 {S1 : zS} {h : zH} (hv : zvalidS (S1 ++ bl94_36 S1.length) = true) (hn : S1.length ≤ 700000) : Zx 94 74 [zR S1.length] [zR (S1.length + 191), zR S1.length] (S1 ++ bl94_36 S1.length) h = Zx 94 75 [zR S1.length] [zR (S1.length + 191), zR (S1.length + 191), zR S1.length] (S1 ++ bl94_36 S1.length) h := Zx_next rfl rfl
set_option maxRecDepth 20000 in
set_option maxHeartbeats 2000000 in
theorem ze94_75 {S1 : zS} {h : zH} (hv : zvalidS (S1 ++ bl94_35 S1.length) = true) (hn : S1.length ≤ 700000) : ∃ h', Zx 94 75 [zR S1.length] [zR (S1.length + 191), zR (S1.length + 191), zR S1.length] (S1 ++ bl94_36 S1.length) h = Zx 94 76 [zR S1.length] [zR (S1.length + 191), zR S1.length] (S1 ++ bl94_37 S1.length) h' ∧ zvalidS (S1 ++ bl94_37 S1.length) = true ∧ (∀ o k, o < (S1.length + 191) → h' o k = h o k) := by
  have hl : (S1 ++ bl94_35 S1.length).length = (S1.length + 191) := by simp [bl94_35, cl0_len, cl1_len, cl2_len, cl3_len, cl4_len, cl5_len, cl6_len, cl7_len, cl8_len]
  obtain ⟨h1, hr, hw, hf⟩ := zc_22 (S1 := S1 ++ bl94_35 S1.length) (h := h) hv (by rw [hl]; omega)
  rw [hl, List.append_assoc, List.append_assoc] at hr
  rw [hl, List.append_assoc] at hw
  rw [hl] at hf
  have e1 : bl94_35 S1.length ++ [(1, 9, [none, none, none, none, none, none, none, none, none])] = bl94_36 S1.length := by simp [bl94_35, bl94_36]
  have e2 : bl94_35 S1.length ++ cl1 (S1.length + 191) = bl94_37 S1.length := by simp [bl94_35, bl94_37]
  rw [e1, e2] at hr
  rw [e2] at hw
  exact ⟨h1, Zx_ci (b := 1) (st2 := [zR (S1.length + 191), zR S1.length]) rfl rfl (by decide) rfl rfl rfl (Nat.le_of_ble_eq_true rfl) (Nat.le_of_ble_eq_true rfl) (Nat.le_of_ble_eq_true rfl) rfl hr (Or.inr (by simp [zvalid, bl94_36, cl0_len, cl1_len, cl2_len, cl3_len, cl4_len, cl5_len, cl6_len, cl7_len, cl8_len]; try omega)) rfl, hw, hf⟩
set_option maxRecDepth 20000 in
set_option maxHeartbeats 2000000 in
theorem ze94_76 {S1 : zS} {h : zH} (hv : zvalidS (S1 ++ bl94_37 S1.length) = true) (hn : S1.length ≤ 700000) : Zx 94 76 [zR S1.length] [zR (S1.length + 191), zR S1.length] (S1 ++ bl94_37 S1.length) h = Zx 94 77 [zR S1.length] [] (S1 ++ bl94_38 S1.length) h := Zm_putR0 (l := bl94_37 S1.length) (c := (9, 10, [some (S1.length + 1), some (S1.length + 26), some (S1.length + 102), some (S1.length + 103), some (S1.length + 113), some (S1.length + 171), some (S1.length + 172), none, none, none])) (f := 7) (q := (S1.length + 191)) rfl rfl rfl rfl rfl
set_option maxRecDepth 20000 in
set_option maxHeartbeats 2000000 in
theorem zy94_76 {S1 : zS} (hv : zvalidS (S1 ++ bl94_37 S1.length) = true) (hn : S1.length ≤ 700000) : zvalidS (S1 ++ bl94_38 S1.length) = true := zv_set (d := 0) (k := 7) (c := (9, 10, [some (S1.length + 1), some (S1.length + 26), some (S1.length + 102), some (S1.length + 103), some (S1.length + 113), some (S1.length + 171), some (S1.length + 172), none, none, none])) hv rfl (by simp [bl94_37, cl0_len, cl1_len, cl2_len, cl3_len, cl4_len, cl5_len, cl6_len, cl7_len, cl8_len]; try omega)
theorem ze94_77 {S1 : zS} {h : zH} (hv : zvalidS (S1 ++ bl94_38 S1.length) = true) (hn : S1.length ≤ 700000) : Zx 94 77 [zR S1.length] [] (S1 ++ bl94_38 S1.length) h = Zx 94 78 [zR S1.length] [zR S1.length] (S1 ++ bl94_38 S1.length) h := Zx_next rfl rfl
set_option maxRecDepth 20000 in
set_option maxHeartbeats 2000000 in
theorem ze94_78 {S1 : zS} {h : zH} (hv : zvalidS (S1 ++ bl94_38 S1.length) = true) (hn : S1.length ≤ 700000) : Zx 94 78 [zR S1.length] [zR S1.length] (S1 ++ bl94_38 S1.length) h = Zx 94 79 [zR S1.length] [zR (S1.length + 199), zR S1.length] (S1 ++ bl94_39 S1.length) (zhn h (S1.length + 199)) := Zm_new rfl rfl hv (by simp [zvalid, bl94_38, cl0_len, cl1_len, cl2_len, cl3_len, cl4_len, cl5_len, cl6_len, cl7_len, cl8_len]; try omega) (by simp [zvalid, bl94_38, cl0_len, cl1_len, cl2_len, cl3_len, cl4_len, cl5_len, cl6_len, cl7_len, cl8_len]; try omega) (by simp [bl94_38, cl0_len, cl1_len, cl2_len, cl3_len, cl4_len, cl5_len, cl6_len, cl7_len, cl8_len]; try omega) rfl
set_option maxRecDepth 20000 in
set_option maxHeartbeats 2000000 in
theorem zy94_78 {S1 : zS} (hv : zvalidS (S1 ++ bl94_38 S1.length) = true) (hn : S1.length ≤ 700000) : zvalidS (S1 ++ bl94_39 S1.length) = true := zv_app (c := (3, 10, [none, none, none, none, none, none, none, none, none, none])) hv rfl
theorem ze94_79 {S1 : zS} {h : zH} (hv : zvalidS (S1 ++ bl94_39 S1.length) = true) (hn : S1.length ≤ 700000) : Zx 94 79 [zR S1.length] [zR (S1.length + 199), zR S1.length] (S1 ++ bl94_39 S1.length) h = Zx 94 80 [zR S1.length] [zR (S1.length + 199), zR (S1.length + 199), zR S1.length] (S1 ++ bl94_39 S1.length) h := Zx_next rfl rfl
set_option maxRecDepth 20000 in
set_option maxHeartbeats 2000000 in
theorem ze94_80 {S1 : zS} {h : zH} (hv : zvalidS (S1 ++ bl94_38 S1.length) = true) (hn : S1.length ≤ 700000) : ∃ h', Zx 94 80 [zR S1.length] [zR (S1.length + 199), zR (S1.length + 199), zR S1.length] (S1 ++ bl94_39 S1.length) h = Zx 94 81 [zR S1.length] [zR (S1.length + 199), zR S1.length] (S1 ++ bl94_40 S1.length) h' ∧ zvalidS (S1 ++ bl94_40 S1.length) = true ∧ (∀ o k, o < (S1.length + 199) → h' o k = h o k) := by
  have hl : (S1 ++ bl94_38 S1.length).length = (S1.length + 199) := by simp [bl94_38, cl0_len, cl1_len, cl2_len, cl3_len, cl4_len, cl5_len, cl6_len, cl7_len, cl8_len]
  obtain ⟨h1, hr, hw, hf⟩ := zc_34 (S1 := S1 ++ bl94_38 S1.length) (h := h) hv (by rw [hl]; omega)
  rw [hl, List.append_assoc, List.append_assoc] at hr
  rw [hl, List.append_assoc] at hw
  rw [hl] at hf
  have e1 : bl94_38 S1.length ++ [(3, 10, [none, none, none, none, none, none, none, none, none, none])] = bl94_39 S1.length := by simp [bl94_38, bl94_39]
  have e2 : bl94_38 S1.length ++ cl3 (S1.length + 199) = bl94_40 S1.length := by simp [bl94_38, bl94_40]
  rw [e1, e2] at hr
  rw [e2] at hw
  exact ⟨h1, Zx_ci (b := 1) (st2 := [zR (S1.length + 199), zR S1.length]) rfl rfl (by decide) rfl rfl rfl (Nat.le_of_ble_eq_true rfl) (Nat.le_of_ble_eq_true rfl) (Nat.le_of_ble_eq_true rfl) rfl hr (Or.inr (by simp [zvalid, bl94_39, cl0_len, cl1_len, cl2_len, cl3_len, cl4_len, cl5_len, cl6_len, cl7_len, cl8_len]; try omega)) rfl, hw, hf⟩
set_option maxRecDepth 20000 in
set_option maxHeartbeats 2000000 in
theorem ze94_81 {S1 : zS} {h : zH} (hv : zvalidS (S1 ++ bl94_40 S1.length) = true) (hn : S1.length ≤ 700000) : Zx 94 81 [zR S1.length] [zR (S1.length + 199), zR S1.length] (S1 ++ bl94_40 S1.length) h = Zx 94 82 [zR S1.length] [] (S1 ++ bl94_41 S1.length) h := Zm_putR0 (l := bl94_40 S1.length) (c := (9, 10, [some (S1.length + 1), some (S1.length + 26), some (S1.length + 102), some (S1.length + 103), some (S1.length + 113), some (S1.length + 171), some (S1.length + 172), some (S1.length + 191), none, none])) (f := 8) (q := (S1.length + 199)) rfl rfl rfl rfl rfl
set_option maxRecDepth 20000 in
set_option maxHeartbeats 2000000 in
theorem zy94_81 {S1 : zS} (hv : zvalidS (S1 ++ bl94_40 S1.length) = true) (hn : S1.length ≤ 700000) : zvalidS (S1 ++ bl94_41 S1.length) = true := zv_set (d := 0) (k := 8) (c := (9, 10, [some (S1.length + 1), some (S1.length + 26), some (S1.length + 102), some (S1.length + 103), some (S1.length + 113), some (S1.length + 171), some (S1.length + 172), some (S1.length + 191), none, none])) hv rfl (by simp [bl94_40, cl0_len, cl1_len, cl2_len, cl3_len, cl4_len, cl5_len, cl6_len, cl7_len, cl8_len]; try omega)
theorem ze94_82 {S1 : zS} {h : zH} (hv : zvalidS (S1 ++ bl94_41 S1.length) = true) (hn : S1.length ≤ 700000) : Zx 94 82 [zR S1.length] [] (S1 ++ bl94_41 S1.length) h = Zx 94 83 [zR S1.length] [zR S1.length] (S1 ++ bl94_41 S1.length) h := Zx_next rfl rfl
set_option maxRecDepth 20000 in
set_option maxHeartbeats 2000000 in
theorem ze94_83 {S1 : zS} {h : zH} (hv : zvalidS (S1 ++ bl94_41 S1.length) = true) (hn : S1.length ≤ 700000) : Zx 94 83 [zR S1.length] [zR S1.length] (S1 ++ bl94_41 S1.length) h = Zx 94 84 [zR S1.length] [zR (S1.length + 200), zR S1.length] (S1 ++ bl94_42 S1.length) (zhn h (S1.length + 200)) := Zm_new rfl rfl hv (by simp [zvalid, bl94_41, cl0_len, cl1_len, cl2_len, cl3_len, cl4_len, cl5_len, cl6_len, cl7_len, cl8_len]; try omega) (by simp [zvalid, bl94_41, cl0_len, cl1_len, cl2_len, cl3_len, cl4_len, cl5_len, cl6_len, cl7_len, cl8_len]; try omega) (by simp [bl94_41, cl0_len, cl1_len, cl2_len, cl3_len, cl4_len, cl5_len, cl6_len, cl7_len, cl8_len]; try omega) rfl
set_option maxRecDepth 20000 in
set_option maxHeartbeats 2000000 in
theorem zy94_83 {S1 : zS} (hv : zvalidS (S1 ++ bl94_41 S1.length) = true) (hn : S1.length ≤ 700000) : zvalidS (S1 ++ bl94_42 S1.length) = true := zv_app (c := (6, 4, [none, none, none, none])) hv rfl
theorem ze94_84 {S1 : zS} {h : zH} (hv : zvalidS (S1 ++ bl94_42 S1.length) = true) (hn : S1.length ≤ 700000) : Zx 94 84 [zR S1.length] [zR (S1.length + 200), zR S1.length] (S1 ++ bl94_42 S1.length) h = Zx 94 85 [zR S1.length] [zR (S1.length + 200), zR (S1.length + 200), zR S1.length] (S1 ++ bl94_42 S1.length) h := Zx_next rfl rfl
set_option maxRecDepth 20000 in
set_option maxHeartbeats 2000000 in
theorem ze94_85 {S1 : zS} {h : zH} (hv : zvalidS (S1 ++ bl94_41 S1.length) = true) (hn : S1.length ≤ 700000) : ∃ h', Zx 94 85 [zR S1.length] [zR (S1.length + 200), zR (S1.length + 200), zR S1.length] (S1 ++ bl94_42 S1.length) h = Zx 94 86 [zN] [zR (S1.length + 200), zR S1.length] (S1 ++ bl94_43 S1.length) h' ∧ zvalidS (S1 ++ bl94_43 S1.length) = true ∧ (∀ o k, o < (S1.length + 200) → h' o k = h o k) := by
  have hl : (S1 ++ bl94_41 S1.length).length = (S1.length + 200) := by simp [bl94_41, cl0_len, cl1_len, cl2_len, cl3_len, cl4_len, cl5_len, cl6_len, cl7_len, cl8_len]
  obtain ⟨h1, hr, hw, hf⟩ := zc_85 (S1 := S1 ++ bl94_41 S1.length) (h := h) hv (by rw [hl]; omega)
  rw [hl, List.append_assoc, List.append_assoc] at hr
  rw [hl, List.append_assoc] at hw
  rw [hl] at hf
  have e1 : bl94_41 S1.length ++ [(6, 4, [none, none, none, none])] = bl94_42 S1.length := by simp [bl94_41, bl94_42]
  have e2 : bl94_41 S1.length ++ cl6 (S1.length + 200) = bl94_43 S1.length := by simp [bl94_41, bl94_43]
  rw [e1, e2] at hr
  rw [e2] at hw
  exact ⟨h1, Zx_ci (b := 1) (st2 := [zR (S1.length + 200), zR S1.length]) rfl rfl (by decide) rfl rfl rfl (Nat.le_of_ble_eq_true rfl) (Nat.le_of_ble_eq_true rfl) (Nat.le_of_ble_eq_true rfl) rfl hr (Or.inr (by simp [zvalid, bl94_42, cl0_len, cl1_len, cl2_len, cl3_len, cl4_len, cl5_len, cl6_len, cl7_len, cl8_len]; try omega)) rfl, hw, hf⟩
set_option maxRecDepth 20000 in
set_option maxHeartbeats 2000000 in
theorem ze94_86 {S1 : zS} {h : zH} (hv : zvalidS (S1 ++ bl94_43 S1.length) = true) (hn : S1.length ≤ 700000) : Zx 94 86 [zN] [zR (S1.length + 200), zR S1.length] (S1 ++ bl94_43 S1.length) h = Zx 94 87 [zN] [] (S1 ++ bl94_44 S1.length) h := Zm_putR0 (l := bl94_43 S1.length) (c := (9, 10, [some (S1.length + 1), some (S1.length + 26), some (S1.length + 102), some (S1.length + 103), some (S1.length + 113), some (S1.length + 171), some (S1.length + 172), some (S1.length + 191), some (S1.length + 199), none])) (f := 9) (q := (S1.length + 200)) rfl rfl rfl rfl rfl
set_option maxRecDepth 20000 in
set_option maxHeartbeats 2000000 in
theorem zy94_86 {S1 : zS} (hv : zvalidS (S1 ++ bl94_43 S1.length) = true) (hn : S1.length ≤ 700000) : zvalidS (S1 ++ bl94_44 S1.length) = true := zv_set (d := 0) (k := 9) (c := (9, 10, [some (S1.length + 1), some (S1.length + 26), some (S1.length + 102), some (S1.length + 103), some (S1.length + 113), some (S1.length + 171), some (S1.length + 172), some (S1.length + 191), some (S1.length + 199), none])) hv rfl (by simp [bl94_43, cl0_len, cl1_len, cl2_len, cl3_len, cl4_len, cl5_len, cl6_len, cl7_len, cl8_len]; try omega)
theorem ze94_87 {S1 : zS} {h : zH} : Zx 94 87 [zN] [] (S1 ++ bl94_44 S1.length) h = some (none, (S1 ++ bl94_44 S1.length), h) := Zx_ret rfl rfl
set_option maxHeartbeats 4000000 in
theorem zc_94 {S1 : zS} {h : zH} (hv : zvalidS S1 = true) (hn : S1.length ≤ 700000) : ∃ h', Zx 94 0 [zR S1.length] [] (S1 ++ ([(9, 10, [none, none, none, none, none, none, none, none, none, none])])) h = some (none, S1 ++ cl9 S1.length, h') ∧ zvalidS (S1 ++ cl9 S1.length) = true ∧ (∀ o k, o < S1.length → h' o k = h o k) ∧ (∀ k, h' (S1.length + 1) k = if k = 7 then -1 else 0) ∧ (∀ k, h' (S1.length + 102) k = 0) ∧ (∀ k, h' (S1.length + 171) k = 0) := by
  have hv0 : zvalidS (S1 ++ bl94_0 S1.length) = true := zv_app0 hv rfl
  have hv1 := zy94_3 hv0 hn
  obtain ⟨h1, e5, hv2, hf1, hg1⟩ := ze94_5 (h := (zhn h (S1.length + 1))) hv0 hn (fun k => zhn_at)
  have hv3 := zy94_6 hv2 hn
  have hv4 := zy94_9 hv3 hn
  have hv5 := zy94_12 hv4 hn
  obtain ⟨h2, e14, hv6, hf2, hg2⟩ := ze94_14 (h := (zhn (zhn h1 (S1.length + 26)) (S1.length + 27))) hv4 hn (fun k => zhn_at)
  have hv7 := zy94_15 hv6 hn
  have hv8 := zy94_18 hv7 hn
  obtain ⟨h3, e20, hv9, hf3, hg3⟩ := ze94_20 (h := (zhn h2 (S1.length + 52))) hv7 hn (fun k => zhn_at)
  have hv10 := zy94_21 hv9 hn
  have hv11 := zy94_24 hv10 hn
  obtain ⟨h4, e26, hv12, hf4, hg4⟩ := ze94_26 (h := (zhn h3 (S1.length + 77))) hv10 hn (fun k => zhn_at)
  have hv13 := zy94_27 hv12 hn
  have hv14 := zy94_28 hv13 hn
  have hv15 := zy94_31 hv14 hn
  have hv16 := zy94_32 hv15 hn
  have hv17 := zy94_34 hv16 hn
  obtain ⟨h5, e39, hv18, hf5⟩ := ze94_39 (h := (zhn (zhn h4 (S1.length + 102)) (S1.length + 103))) hv16 hn
  have hv19 := zy94_40 hv18 hn
  have hv20 := zy94_43 hv19 hn
  have hv21 := zy94_46 hv20 hn
  obtain ⟨h6, e48, hv22, hf6⟩ := ze94_48 (h := (zhn (zhn h5 (S1.length + 113)) (S1.length + 114))) hv20 hn
  have hv23 := zy94_49 hv22 hn
  have hv24 := zy94_52 hv23 hn
  obtain ⟨h7, e54, hv25, hf7⟩ := ze94_54 (h := (zhn h6 (S1.length + 133))) hv23 hn
  have hv26 := zy94_55 hv25 hn
  have hv27 := zy94_58 hv26 hn
  obtain ⟨h8, e60, hv28, hf8⟩ := ze94_60 (h := (zhn h7 (S1.length + 152))) hv26 hn
  have hv29 := zy94_61 hv28 hn
  have hv30 := zy94_62 hv29 hn
  have hv31 := zy94_65 hv30 hn
  have hv32 := zy94_66 hv31 hn
  have hv33 := zy94_68 hv32 hn
  obtain ⟨h9, e70, hv34, hf9⟩ := ze94_70 (h := (zhn (zhn h8 (S1.length + 171)) (S1.length + 172))) hv32 hn
  have hv35 := zy94_71 hv34 hn
  have hv36 := zy94_73 hv35 hn
  obtain ⟨h10, e75, hv37, hf10⟩ := ze94_75 (h := (zhn h9 (S1.length + 191))) hv35 hn
  have hv38 := zy94_76 hv37 hn
  have hv39 := zy94_78 hv38 hn
  obtain ⟨h11, e80, hv40, hf11⟩ := ze94_80 (h := (zhn h10 (S1.length + 199))) hv38 hn
  have hv41 := zy94_81 hv40 hn
  have hv42 := zy94_83 hv41 hn
  obtain ⟨h12, e85, hv43, hf12⟩ := ze94_85 (h := (zhn h11 (S1.length + 200))) hv41 hn
  have hv44 := zy94_86 hv43 hn
  refine ⟨_, (ze94_0 hv0 hn).trans ((ze94_1 hv0 hn).trans ((ze94_2 hv0 hn).trans ((ze94_3 hv0 hn).trans ((ze94_4 hv1 hn).trans (e5.trans ((ze94_6 hv2 hn).trans ((ze94_7 hv3 hn).trans ((ze94_8 hv3 hn).trans ((ze94_9 hv3 hn).trans ((ze94_10 hv4 hn).trans ((ze94_11 hv4 hn).trans ((ze94_12 hv4 hn).trans ((ze94_13 hv5 hn).trans (e14.trans ((ze94_15 hv6 hn).trans ((ze94_16 hv7 hn).trans ((ze94_17 hv7 hn).trans ((ze94_18 hv7 hn).trans ((ze94_19 hv8 hn).trans (e20.trans ((ze94_21 hv9 hn).trans ((ze94_22 hv10 hn).trans ((ze94_23 hv10 hn).trans ((ze94_24 hv10 hn).trans ((ze94_25 hv11 hn).trans (e26.trans ((ze94_27 hv12 hn).trans ((ze94_28 hv13 hn).trans ((ze94_29 hv14 hn).trans ((ze94_30 hv14 hn).trans ((ze94_31 hv14 hn).trans ((ze94_32 hv15 hn).trans ((ze94_33 hv16 hn).trans ((ze94_34 hv16 hn).trans ((ze94_35 hv17 hn).trans ((ze94_36 hv17 hn).trans ((ze94_37 hv17 hn).trans ((ze94_38 hv17 hn).trans (e39.trans ((ze94_40 hv18 hn).trans ((ze94_41 hv19 hn).trans ((ze94_42 hv19 hn).trans ((ze94_43 hv19 hn).trans ((ze94_44 hv20 hn).trans ((ze94_45 hv20 hn).trans ((ze94_46 hv20 hn).trans ((ze94_47 hv21 hn).trans (e48.trans ((ze94_49 hv22 hn).trans ((ze94_50 hv23 hn).trans ((ze94_51 hv23 hn).trans ((ze94_52 hv23 hn).trans ((ze94_53 hv24 hn).trans (e54.trans ((ze94_55 hv25 hn).trans ((ze94_56 hv26 hn).trans ((ze94_57 hv26 hn).trans ((ze94_58 hv26 hn).trans ((ze94_59 hv27 hn).trans (e60.trans ((ze94_61 hv28 hn).trans ((ze94_62 hv29 hn).trans ((ze94_63 hv30 hn).trans ((ze94_64 hv30 hn).trans ((ze94_65 hv30 hn).trans ((ze94_66 hv31 hn).trans ((ze94_67 hv32 hn).trans ((ze94_68 hv32 hn).trans ((ze94_69 hv33 hn).trans (e70.trans ((ze94_71 hv34 hn).trans ((ze94_72 hv35 hn).trans ((ze94_73 hv35 hn).trans ((ze94_74 hv36 hn).trans (e75.trans ((ze94_76 hv37 hn).trans ((ze94_77 hv38 hn).trans ((ze94_78 hv38 hn).trans ((ze94_79 hv39 hn).trans (e80.trans ((ze94_81 hv40 hn).trans ((ze94_82 hv41 hn).trans ((ze94_83 hv41 hn).trans ((ze94_84 hv42 hn).trans (e85.trans ((ze94_86 hv43 hn).trans (ze94_87))))))))))))))))))))))))))))))))))))))))))))))))))))))))))))))))))))))))))))))))))))))), hv44, fun o k ho => ?_, fun k => ?_, fun k => ?_, fun k => ?_⟩
  · rw [hf12 o k (by omega), zhn_neq (by omega), hf11 o k (by omega), zhn_neq (by omega), hf10 o k (by omega), zhn_neq (by omega), hf9 o k (by omega), zhn_neq (by omega), zhn_neq (by omega), hf8 o k (by omega), zhn_neq (by omega), hf7 o k (by omega), zhn_neq (by omega), hf6 o k (by omega), zhn_neq (by omega), zhn_neq (by omega), hf5 o k (by omega), zhn_neq (by omega), zhn_neq (by omega), hf4 o k (by omega), zhn_neq (by omega), hf3 o k (by omega), zhn_neq (by omega), hf2 o k (by omega), zhn_neq (by omega), zhn_neq (by omega), hf1 o k (by omega), zhn_neq (by omega)]
  · rw [hf12 _ k (by omega), zhn_neq (by omega), hf11 _ k (by omega), zhn_neq (by omega), hf10 _ k (by omega), zhn_neq (by omega), hf9 _ k (by omega), zhn_neq (by omega), zhn_neq (by omega), hf8 _ k (by omega), zhn_neq (by omega), hf7 _ k (by omega), zhn_neq (by omega), hf6 _ k (by omega), zhn_neq (by omega), zhn_neq (by omega), hf5 _ k (by omega), zhn_neq (by omega), zhn_neq (by omega), hf4 _ k (by omega), zhn_neq (by omega), hf3 _ k (by omega), zhn_neq (by omega), hf2 _ k (by omega), zhn_neq (by omega), zhn_neq (by omega), hg1]
  · rw [hf12 _ k (by omega), zhn_neq (by omega), hf11 _ k (by omega), zhn_neq (by omega), hf10 _ k (by omega), zhn_neq (by omega), hf9 _ k (by omega), zhn_neq (by omega), zhn_neq (by omega), hf8 _ k (by omega), zhn_neq (by omega), hf7 _ k (by omega), zhn_neq (by omega), hf6 _ k (by omega), zhn_neq (by omega), zhn_neq (by omega), hf5 _ k (by omega), zhn_neq (by omega), zhn_at]
  · rw [hf12 _ k (by omega), zhn_neq (by omega), hf11 _ k (by omega), zhn_neq (by omega), hf10 _ k (by omega), zhn_neq (by omega), hf9 _ k (by omega), zhn_neq (by omega), zhn_at]
