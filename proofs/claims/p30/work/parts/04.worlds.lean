abbrev Fig : Type := Int32 × Int32 × (Nat → Int32) × (Nat → Int32) × (Nat → Int32) × (Nat → Int32)
def f_rings (z : Fig) : Int32 := z.1
def f_corners (z : Fig) : Int32 := z.2.1
def f_sizes (z : Fig) : Nat → Int32 := z.2.2.1
def f_xs (z : Fig) : Nat → Int32 := z.2.2.2.1
def f_ys (z : Fig) : Nat → Int32 := z.2.2.2.2.1
def f_next (z : Fig) : Nat → Int32 := z.2.2.2.2.2
def fs_rings (z : Fig) (v : Int32) : Fig := (v, z.2)
def fs_corners (z : Fig) (v : Int32) : Fig := (z.1, v, z.2.2)
def fs_sizes (z : Fig) (v : Nat → Int32) : Fig := (z.1, z.2.1, v, z.2.2.2)
def fs_xs (z : Fig) (v : Nat → Int32) : Fig := (z.1, z.2.1, z.2.2.1, v, z.2.2.2.2)
def fs_ys (z : Fig) (v : Nat → Int32) : Fig := (z.1, z.2.1, z.2.2.1, z.2.2.2.1, v, z.2.2.2.2.2)
def fs_next (z : Fig) (v : Nat → Int32) : Fig := (z.1, z.2.1, z.2.2.1, z.2.2.2.1, z.2.2.2.2.1, v)
abbrev TextS : Type := (Nat → Int32) × Int32
def t_signs (z : TextS) : Nat → Int32 := z.1
def t_length (z : TextS) : Int32 := z.2
def ts_signs (z : TextS) (v : Nat → Int32) : TextS := (v, z.2)
def ts_length (z : TextS) (v : Int32) : TextS := (z.1, v)
abbrev PastS : Type := Int32 × Int32 × (Nat → Fig)
def p_oldest (z : PastS) : Int32 := z.1
def p_count (z : PastS) : Int32 := z.2.1
def p_figs (z : PastS) : Nat → Fig := z.2.2
def ps_oldest (z : PastS) (v : Int32) : PastS := (v, z.2)
def ps_count (z : PastS) (v : Int32) : PastS := (z.1, v, z.2.2)
def ps_figs (z : PastS) (v : Nat → Fig) : PastS := (z.1, z.2.1, v)
def updF (f : Nat → Fig) (k : Nat) (x : Fig) : Nat → Fig := fun j => if j = k then x else f j
abbrev wFig (a : Nat → Nat) (cy : Nat → ClassId) (z : Fig) : va_W := [(a 0, .inr (0, [.int (f_rings z), .int (f_corners z), .ref (a 1), .ref (a 2), .ref (a 3), .ref (a 4)])), (a 1, .inl (cy 0, 4, .inl (f_sizes z))), (a 2, .inl (cy 0, 40, .inl (f_xs z))), (a 3, .inl (cy 0, 40, .inl (f_ys z))), (a 4, .inl (cy 0, 40, .inl (f_next z)))]
abbrev wText (a : Nat → Nat) (cy : Nat → ClassId) (z : TextS) : va_W := [(a 0, .inr (2, [.ref (a 1), .int (t_length z)])), (a 1, .inl (cy 2, 90, .inl (t_signs z)))]
abbrev TY (cy : Nat → ClassId) : List (ClassId × FieldType) := [(cy 0, .int), (cy 1, .boolean), (cy 2, .char), (cy 3, .object "SquaredPaper$Figure")]
abbrev wIA (a : Nat) (cy : Nat → ClassId) (n : Nat) (f : Nat → Int32) : va_W := [(a, .inl (cy 0, n, .inl f))]
abbrev wPast (a : Nat → Nat) (cy : Nat → ClassId) (z : PastS) : va_W := [(a 0, .inr (1, [.ref (a 1), .int (p_oldest z), .int (p_count z)])), (a 1, .inl (cy 3, 14, .inr (.inr (.inr (.inr (fun j => some (a (2 + 5 * j))))))))] ++ wFig (fun j => a (2 + j)) cy (p_figs z 0) ++ wFig (fun j => a (7 + j)) cy (p_figs z 1) ++ wFig (fun j => a (12 + j)) cy (p_figs z 2) ++ wFig (fun j => a (17 + j)) cy (p_figs z 3) ++ wFig (fun j => a (22 + j)) cy (p_figs z 4) ++ wFig (fun j => a (27 + j)) cy (p_figs z 5) ++ wFig (fun j => a (32 + j)) cy (p_figs z 6) ++ wFig (fun j => a (37 + j)) cy (p_figs z 7) ++ wFig (fun j => a (42 + j)) cy (p_figs z 8) ++ wFig (fun j => a (47 + j)) cy (p_figs z 9) ++ wFig (fun j => a (52 + j)) cy (p_figs z 10) ++ wFig (fun j => a (57 + j)) cy (p_figs z 11) ++ wFig (fun j => a (62 + j)) cy (p_figs z 12) ++ wFig (fun j => a (67 + j)) cy (p_figs z 13)
theorem inX1 : ∀ w ∈ u_ws RX1 TX1 6, w ∈ GW := fun w hw => of_decide_eq_true (List.all_eq_true.mp (by decide +kernel : (u_ws RX1 TX1 6).all (fun w => decide (w ∈ GW)) = true) w hw)
theorem inX3 : ∀ w ∈ u_ws RX3 TX3 3, w ∈ GW := fun w hw => of_decide_eq_true (List.all_eq_true.mp (by decide +kernel : (u_ws RX3 TX3 3).all (fun w => decide (w ∈ GW)) = true) w hw)
theorem inX7 : ∀ w ∈ u_ws RX7 TX7 2, w ∈ GW := fun w hw => of_decide_eq_true (List.all_eq_true.mp (by decide +kernel : (u_ws RX7 TX7 2).all (fun w => decide (w ∈ GW)) = true) w hw)
theorem inX8 : ∀ w ∈ u_ws RX8 TX8 7, w ∈ GW := fun w hw => of_decide_eq_true (List.all_eq_true.mp (by decide +kernel : (u_ws RX8 TX8 7).all (fun w => decide (w ∈ GW)) = true) w hw)
