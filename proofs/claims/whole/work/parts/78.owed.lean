/-! ===== the calls that are owed yet ===== -/
theorem c_text (p0 : Int32) : Cl2 (f_X10_text p0) (f_X11_text p0) := sorry
theorem c_far (p0 p1 p2 p3 : Int32) : Cl2 (f_X10_far p0 p1 p2 p3) (f_X11_far p0 p1 p2 p3) := sorry
theorem c_with (p0 p1 p2 p3 : Int32) : Cl2 (f_X10_with p0 p1 p2 p3) (f_X11_with p0 p1 p2 p3) := sorry
theorem c_one (p0 : Int32) : Cl0 (f_X10_one p0) (f_X11_one p0) := sorry
theorem c_round (p0 : Int32) : Cl2 (f_X10_round p0) (f_X11_round p0) := sorry
theorem c_duel (p0 p1 p2 : Int32) : Cl2 (f_X10_duel p0 p1 p2) (f_X11_duel p0 p1 p2) := sorry
theorem c_ant (p0 p1 : Int32) : Cl2 (f_X10_ant p0 p1) (f_X11_ant p0 p1) := sorry
theorem c_apart (p0 : Int32) : Cl2 (f_X10_apart p0) (f_X11_apart p0) := sorry
theorem c_hedge : Cl2 f_X10_hedge f_X11_hedge := sorry
theorem c_pigeons (p0 : Int32) : Cl2 (f_X10_pigeons p0) (f_X11_pigeons p0) := sorry
