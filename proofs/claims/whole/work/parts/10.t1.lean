def G_X9_within (p0 : Int32) (p1 : Int32) (p2 : Int32) : Option (Int32) :=
  if p0 < p1 then
    some 0
  else
    if p2 < p0 then
      some 0
    else
      some 1
abbrev rm_X9_within : Room := { frames := 0, cells := 0, slots := 0, locals := 0 }
theorem hdS_X9_within : yX9_within.cls ≠ "java/lang/invoke/MethodHandle" ∧ yX9_within.cls ≠ "java/lang/invoke/VarHandle" ∧ (parseMethodDescriptor yX9_within.desc).map (fun d => d.parameters.length) = some 3 := by decide +kernel
set_option maxHeartbeats 4000000 in
set_option maxRecDepth 100000 in
theorem c_X9_within (l : Launch) (dC : Nat → ClassId) (dI : Nat → Nat → Nat) (cy : Nat → ClassId)  (p0 : Int32) (p1 : Int32) (p2 : Int32) (res : Int32) (h : G_X9_within p0 p1 p2 = some res) : CT l (dC, dI) (TY cy) yX9_within cX9_within 3 (some .boolean) rm_X9_within [.int p0, .int p1, .int p2] ([]) ([]) (some (.int res)) := sorry

def G_X9_many (m0 : Mod) (p1 : Int32) : Option (Int32) :=
  (rd 85 (m_state m0) (1 + p1)).bind fun v7 =>
  some v7
abbrev rm_X9_many : Room := { frames := 0, cells := 0, slots := 0, locals := 0 }
theorem hdS_X9_many : yX9_many.cls ≠ "java/lang/invoke/MethodHandle" ∧ yX9_many.cls ≠ "java/lang/invoke/VarHandle" ∧ (parseMethodDescriptor yX9_many.desc).map (fun d => d.parameters.length) = some 1 := by decide +kernel
theorem hdV_X9_many : yX9_many.cls = RX9 ∧ yX9_many.cls ≠ "java/lang/invoke/MethodHandle" ∧ yX9_many.cls ≠ "java/lang/invoke/VarHandle" ∧ (parseMethodDescriptor yX9_many.desc).map (fun d => d.parameters.length) = some 1 := ⟨rfl, hdS_X9_many⟩
set_option maxHeartbeats 4000000 in
set_option maxRecDepth 100000 in
theorem c_X9_many (l : Launch) (dC : Nat → ClassId) (dI : Nat → Nat → Nat) (cy : Nat → ClassId) (a0 : Nat → Nat) (m0 : Mod) (p1 : Int32) (res : Int32) (h : G_X9_many m0 p1 = some res) : CT l (dC, dI) (TY cy) yX9_many cX9_many 2 (some .int) rm_X9_many [.ref (a0 0), .int p1] (wMod a0 cy m0) (wMod a0 cy m0) (some (.int res)) := sorry

def G_X9_cornerMany_L4  (m0 : Mod) : Nat → Int32 → Int32 → Option (Int32)
  | 0, _, _ => none
  | n4 + 1, l2_4, l1_4 =>
    (rd 85 (m_state m0) 0).bind fun v10 =>
    if v10 ≤ l2_4 then
      some l1_4
    else
      (G_X9_many m0 l2_4).bind fun v17 =>
      (G_X9_cornerMany_L4 m0 n4) (l2_4 + 1) (l1_4 + v17)
def G_X9_cornerMany (m0 : Mod) : Option (Int32) :=
  G_X9_cornerMany_L4 m0 FU 0 0
abbrev rm_X9_cornerMany : Room := { frames := 1, cells := 0, slots := 0, locals := 21 }
theorem hdS_X9_cornerMany : yX9_cornerMany.cls ≠ "java/lang/invoke/MethodHandle" ∧ yX9_cornerMany.cls ≠ "java/lang/invoke/VarHandle" ∧ (parseMethodDescriptor yX9_cornerMany.desc).map (fun d => d.parameters.length) = some 0 := by decide +kernel
theorem hdV_X9_cornerMany : yX9_cornerMany.cls = RX9 ∧ yX9_cornerMany.cls ≠ "java/lang/invoke/MethodHandle" ∧ yX9_cornerMany.cls ≠ "java/lang/invoke/VarHandle" ∧ (parseMethodDescriptor yX9_cornerMany.desc).map (fun d => d.parameters.length) = some 0 := ⟨rfl, hdS_X9_cornerMany⟩
set_option maxHeartbeats 4000000 in
set_option maxRecDepth 100000 in
theorem c_X9_cornerMany (l : Launch) (dC : Nat → ClassId) (dI : Nat → Nat → Nat) (cy : Nat → ClassId) (a0 : Nat → Nat) (m0 : Mod) (res : Int32) (h : G_X9_cornerMany m0 = some res) : CT l (dC, dI) (TY cy) yX9_cornerMany cX9_cornerMany 3 (some .int) rm_X9_cornerMany [.ref (a0 0)] (wMod a0 cy m0) (wMod a0 cy m0) (some (.int res)) := sorry

def G_X9_next (m0 : Mod) (p1 : Int32) (p2 : Int32) : Option (Int32) :=
  (G_X9_many m0 p1).bind fun v5 =>
  if p2 + 1 = v5 then
    some 0
  else
    some (p2 + 1)
abbrev rm_X9_next : Room := { frames := 1, cells := 0, slots := 0, locals := 21 }
theorem hdS_X9_next : yX9_next.cls ≠ "java/lang/invoke/MethodHandle" ∧ yX9_next.cls ≠ "java/lang/invoke/VarHandle" ∧ (parseMethodDescriptor yX9_next.desc).map (fun d => d.parameters.length) = some 2 := by decide +kernel
theorem hdV_X9_next : yX9_next.cls = RX9 ∧ yX9_next.cls ≠ "java/lang/invoke/MethodHandle" ∧ yX9_next.cls ≠ "java/lang/invoke/VarHandle" ∧ (parseMethodDescriptor yX9_next.desc).map (fun d => d.parameters.length) = some 2 := ⟨rfl, hdS_X9_next⟩
set_option maxHeartbeats 4000000 in
set_option maxRecDepth 100000 in
theorem c_X9_next (l : Launch) (dC : Nat → ClassId) (dI : Nat → Nat → Nat) (cy : Nat → ClassId) (a0 : Nat → Nat) (m0 : Mod) (p1 : Int32) (p2 : Int32) (res : Int32) (h : G_X9_next m0 p1 p2 = some res) : CT l (dC, dI) (TY cy) yX9_next cX9_next 3 (some .int) rm_X9_next [.ref (a0 0), .int p1, .int p2] (wMod a0 cy m0) (wMod a0 cy m0) (some (.int res)) := sorry

def G_X9_x (m0 : Mod) (p1 : Int32) (p2 : Int32) : Option (Int32) :=
  (rd 85 (m_state m0) ((5 + (20 * p1)) + (2 * p2))).bind fun v14 =>
  some v14
abbrev rm_X9_x : Room := { frames := 0, cells := 0, slots := 0, locals := 0 }
theorem hdS_X9_x : yX9_x.cls ≠ "java/lang/invoke/MethodHandle" ∧ yX9_x.cls ≠ "java/lang/invoke/VarHandle" ∧ (parseMethodDescriptor yX9_x.desc).map (fun d => d.parameters.length) = some 2 := by decide +kernel
theorem hdV_X9_x : yX9_x.cls = RX9 ∧ yX9_x.cls ≠ "java/lang/invoke/MethodHandle" ∧ yX9_x.cls ≠ "java/lang/invoke/VarHandle" ∧ (parseMethodDescriptor yX9_x.desc).map (fun d => d.parameters.length) = some 2 := ⟨rfl, hdS_X9_x⟩
set_option maxHeartbeats 4000000 in
set_option maxRecDepth 100000 in
theorem c_X9_x (l : Launch) (dC : Nat → ClassId) (dI : Nat → Nat → Nat) (cy : Nat → ClassId) (a0 : Nat → Nat) (m0 : Mod) (p1 : Int32) (p2 : Int32) (res : Int32) (h : G_X9_x m0 p1 p2 = some res) : CT l (dC, dI) (TY cy) yX9_x cX9_x 3 (some .int) rm_X9_x [.ref (a0 0), .int p1, .int p2] (wMod a0 cy m0) (wMod a0 cy m0) (some (.int res)) := sorry

def G_X9_y (m0 : Mod) (p1 : Int32) (p2 : Int32) : Option (Int32) :=
  (rd 85 (m_state m0) (((5 + (20 * p1)) + (2 * p2)) + 1)).bind fun v16 =>
  some v16
abbrev rm_X9_y : Room := { frames := 0, cells := 0, slots := 0, locals := 0 }
theorem hdS_X9_y : yX9_y.cls ≠ "java/lang/invoke/MethodHandle" ∧ yX9_y.cls ≠ "java/lang/invoke/VarHandle" ∧ (parseMethodDescriptor yX9_y.desc).map (fun d => d.parameters.length) = some 2 := by decide +kernel
theorem hdV_X9_y : yX9_y.cls = RX9 ∧ yX9_y.cls ≠ "java/lang/invoke/MethodHandle" ∧ yX9_y.cls ≠ "java/lang/invoke/VarHandle" ∧ (parseMethodDescriptor yX9_y.desc).map (fun d => d.parameters.length) = some 2 := ⟨rfl, hdS_X9_y⟩
set_option maxHeartbeats 4000000 in
set_option maxRecDepth 100000 in
theorem c_X9_y (l : Launch) (dC : Nat → ClassId) (dI : Nat → Nat → Nat) (cy : Nat → ClassId) (a0 : Nat → Nat) (m0 : Mod) (p1 : Int32) (p2 : Int32) (res : Int32) (h : G_X9_y m0 p1 p2 = some res) : CT l (dC, dI) (TY cy) yX9_y cX9_y 3 (some .int) rm_X9_y [.ref (a0 0), .int p1, .int p2] (wMod a0 cy m0) (wMod a0 cy m0) (some (.int res)) := sorry

def G_X9_sumOf_L4  (m0 : Mod) : Nat → Int32 → Int32 → Int32 → Option (Int32)
  | 0, _, _, _ => none
  | n4 + 1, l3_4, l2_4, l1_4 =>
    (G_X9_many m0 l1_4).bind fun v7 =>
    if v7 ≤ l3_4 then
      some l2_4
    else
      (G_X9_next m0 l1_4 l3_4).bind fun v16 =>
      (G_X9_x m0 l1_4 l3_4).bind fun v25 =>
      (G_X9_y m0 l1_4 v16).bind fun v32 =>
      (G_X9_x m0 l1_4 v16).bind fun v40 =>
      (G_X9_y m0 l1_4 l3_4).bind fun v46 =>
      (G_X9_sumOf_L4 m0 n4) (l3_4 + 1) (l2_4 + ((v25 * v32) - (v40 * v46))) l1_4
def G_X9_sumOf (m0 : Mod) (p1 : Int32) : Option (Int32) :=
  G_X9_sumOf_L4 m0 FU 0 0 p1
abbrev rm_X9_sumOf : Room := { frames := 2, cells := 0, slots := 0, locals := 43 }
theorem hdS_X9_sumOf : yX9_sumOf.cls ≠ "java/lang/invoke/MethodHandle" ∧ yX9_sumOf.cls ≠ "java/lang/invoke/VarHandle" ∧ (parseMethodDescriptor yX9_sumOf.desc).map (fun d => d.parameters.length) = some 1 := by decide +kernel
theorem hdV_X9_sumOf : yX9_sumOf.cls = RX9 ∧ yX9_sumOf.cls ≠ "java/lang/invoke/MethodHandle" ∧ yX9_sumOf.cls ≠ "java/lang/invoke/VarHandle" ∧ (parseMethodDescriptor yX9_sumOf.desc).map (fun d => d.parameters.length) = some 1 := ⟨rfl, hdS_X9_sumOf⟩
set_option maxHeartbeats 4000000 in
set_option maxRecDepth 100000 in
theorem c_X9_sumOf (l : Launch) (dC : Nat → ClassId) (dI : Nat → Nat → Nat) (cy : Nat → ClassId) (a0 : Nat → Nat) (m0 : Mod) (p1 : Int32) (res : Int32) (h : G_X9_sumOf m0 p1 = some res) : CT l (dC, dI) (TY cy) yX9_sumOf cX9_sumOf 5 (some .int) rm_X9_sumOf [.ref (a0 0), .int p1] (wMod a0 cy m0) (wMod a0 cy m0) (some (.int res)) := sorry

def G_X9_size (p0 : Int32) : Option (Int32) :=
  if 0 ≤ p0 then
    some p0
  else
    some (-p0)
abbrev rm_X9_size : Room := { frames := 0, cells := 0, slots := 0, locals := 0 }
theorem hdS_X9_size : yX9_size.cls ≠ "java/lang/invoke/MethodHandle" ∧ yX9_size.cls ≠ "java/lang/invoke/VarHandle" ∧ (parseMethodDescriptor yX9_size.desc).map (fun d => d.parameters.length) = some 1 := by decide +kernel
set_option maxHeartbeats 4000000 in
set_option maxRecDepth 100000 in
theorem c_X9_size (l : Launch) (dC : Nat → ClassId) (dI : Nat → Nat → Nat) (cy : Nat → ClassId)  (p0 : Int32) (res : Int32) (h : G_X9_size p0 = some res) : CT l (dC, dI) (TY cy) yX9_size cX9_size 1 (some .int) rm_X9_size [.int p0] ([]) ([]) (some (.int res)) := sorry

def G_X9_area_L11  (m0 : Mod) : Nat → Int32 → Int32 → Option (Int32)
  | 0, _, _ => none
  | n11 + 1, l2_11, l1_11 =>
    (rd 85 (m_state m0) 0).bind fun v17 =>
    if v17 ≤ l2_11 then
      some l1_11
    else
      (G_X9_sumOf m0 l2_11).bind fun v24 =>
      (G_X9_size v24).bind fun v27 =>
      (G_X9_area_L11 m0 n11) (l2_11 + 1) (l1_11 - v27)
def G_X9_area (m0 : Mod) : Option (Int32) :=
  (G_X9_sumOf m0 0).bind fun v2 =>
  (G_X9_size v2).bind fun v5 =>
  G_X9_area_L11 m0 FU 1 v5
abbrev rm_X9_area : Room := { frames := 3, cells := 0, slots := 0, locals := 67 }
theorem hdS_X9_area : yX9_area.cls ≠ "java/lang/invoke/MethodHandle" ∧ yX9_area.cls ≠ "java/lang/invoke/VarHandle" ∧ (parseMethodDescriptor yX9_area.desc).map (fun d => d.parameters.length) = some 0 := by decide +kernel
theorem hdV_X9_area : yX9_area.cls = RX9 ∧ yX9_area.cls ≠ "java/lang/invoke/MethodHandle" ∧ yX9_area.cls ≠ "java/lang/invoke/VarHandle" ∧ (parseMethodDescriptor yX9_area.desc).map (fun d => d.parameters.length) = some 0 := ⟨rfl, hdS_X9_area⟩
set_option maxHeartbeats 4000000 in
set_option maxRecDepth 100000 in
theorem c_X9_area (l : Launch) (dC : Nat → ClassId) (dI : Nat → Nat → Nat) (cy : Nat → ClassId) (a0 : Nat → Nat) (m0 : Mod) (res : Int32) (h : G_X9_area m0 = some res) : CT l (dC, dI) (TY cy) yX9_area cX9_area 3 (some .int) rm_X9_area [.ref (a0 0)] (wMod a0 cy m0) (wMod a0 cy m0) (some (.int res)) := sorry

def G_X9_divisor_L10   : Nat → Int32 → Int32 → Option (Int32)
  | 0, _, _ => none
  | n10 + 1, l3_10, l2_10 =>
    if l3_10 ≤ 0 then
      some l2_10
    else
      (rmI l2_10 l3_10).bind fun v16 =>
      (G_X9_divisor_L10 n10) v16 l3_10
def G_X9_divisor (p0 : Int32) (p1 : Int32) : Option (Int32) :=
  (G_X9_size p0).bind fun v1 =>
  (G_X9_size p1).bind fun v6 =>
  G_X9_divisor_L10 FU v6 v1
abbrev rm_X9_divisor : Room := { frames := 1, cells := 0, slots := 0, locals := 20 }
theorem hdS_X9_divisor : yX9_divisor.cls ≠ "java/lang/invoke/MethodHandle" ∧ yX9_divisor.cls ≠ "java/lang/invoke/VarHandle" ∧ (parseMethodDescriptor yX9_divisor.desc).map (fun d => d.parameters.length) = some 2 := by decide +kernel
set_option maxHeartbeats 4000000 in
set_option maxRecDepth 100000 in
theorem c_X9_divisor (l : Launch) (dC : Nat → ClassId) (dI : Nat → Nat → Nat) (cy : Nat → ClassId)  (p0 : Int32) (p1 : Int32) (res : Int32) (h : G_X9_divisor p0 p1 = some res) : CT l (dC, dI) (TY cy) yX9_divisor cX9_divisor 5 (some .int) rm_X9_divisor [.int p0, .int p1] ([]) ([]) (some (.int res)) := sorry

def G_X9_pointsOf (m0 : Mod) (p1 : Int32) (p2 : Int32) : Option (Int32) :=
  (G_X9_next m0 p1 p2).bind fun v3 =>
  (G_X9_x m0 p1 v3).bind fun v10 =>
  (G_X9_x m0 p1 p2).bind fun v16 =>
  (G_X9_y m0 p1 v3).bind fun v23 =>
  (G_X9_y m0 p1 p2).bind fun v29 =>
  (G_X9_divisor (v10 - v16) (v23 - v29)).bind fun v33 =>
  some v33
abbrev rm_X9_pointsOf : Room := { frames := 2, cells := 0, slots := 0, locals := 44 }
theorem hdS_X9_pointsOf : yX9_pointsOf.cls ≠ "java/lang/invoke/MethodHandle" ∧ yX9_pointsOf.cls ≠ "java/lang/invoke/VarHandle" ∧ (parseMethodDescriptor yX9_pointsOf.desc).map (fun d => d.parameters.length) = some 2 := by decide +kernel
theorem hdV_X9_pointsOf : yX9_pointsOf.cls = RX9 ∧ yX9_pointsOf.cls ≠ "java/lang/invoke/MethodHandle" ∧ yX9_pointsOf.cls ≠ "java/lang/invoke/VarHandle" ∧ (parseMethodDescriptor yX9_pointsOf.desc).map (fun d => d.parameters.length) = some 2 := ⟨rfl, hdS_X9_pointsOf⟩
set_option maxHeartbeats 4000000 in
set_option maxRecDepth 100000 in
theorem c_X9_pointsOf (l : Launch) (dC : Nat → ClassId) (dI : Nat → Nat → Nat) (cy : Nat → ClassId) (a0 : Nat → Nat) (m0 : Mod) (p1 : Int32) (p2 : Int32) (res : Int32) (h : G_X9_pointsOf m0 p1 p2 = some res) : CT l (dC, dI) (TY cy) yX9_pointsOf cX9_pointsOf 4 (some .int) rm_X9_pointsOf [.ref (a0 0), .int p1, .int p2] (wMod a0 cy m0) (wMod a0 cy m0) (some (.int res)) := sorry

def G_X9_ringPoints_L4  (m0 : Mod) : Nat → Int32 → Int32 → Int32 → Option (Int32)
  | 0, _, _, _ => none
  | n4 + 1, l3_4, l2_4, l1_4 =>
    (G_X9_many m0 l1_4).bind fun v7 =>
    if v7 ≤ l3_4 then
      some l2_4
    else
      (G_X9_pointsOf m0 l1_4 l3_4).bind fun v17 =>
      (G_X9_ringPoints_L4 m0 n4) (l3_4 + 1) (l2_4 + v17) l1_4
def G_X9_ringPoints (m0 : Mod) (p1 : Int32) : Option (Int32) :=
  G_X9_ringPoints_L4 m0 FU 0 0 p1
abbrev rm_X9_ringPoints : Room := { frames := 3, cells := 0, slots := 0, locals := 67 }
theorem hdS_X9_ringPoints : yX9_ringPoints.cls ≠ "java/lang/invoke/MethodHandle" ∧ yX9_ringPoints.cls ≠ "java/lang/invoke/VarHandle" ∧ (parseMethodDescriptor yX9_ringPoints.desc).map (fun d => d.parameters.length) = some 1 := by decide +kernel
theorem hdV_X9_ringPoints : yX9_ringPoints.cls = RX9 ∧ yX9_ringPoints.cls ≠ "java/lang/invoke/MethodHandle" ∧ yX9_ringPoints.cls ≠ "java/lang/invoke/VarHandle" ∧ (parseMethodDescriptor yX9_ringPoints.desc).map (fun d => d.parameters.length) = some 1 := ⟨rfl, hdS_X9_ringPoints⟩
set_option maxHeartbeats 4000000 in
set_option maxRecDepth 100000 in
theorem c_X9_ringPoints (l : Launch) (dC : Nat → ClassId) (dI : Nat → Nat → Nat) (cy : Nat → ClassId) (a0 : Nat → Nat) (m0 : Mod) (p1 : Int32) (res : Int32) (h : G_X9_ringPoints m0 p1 = some res) : CT l (dC, dI) (TY cy) yX9_ringPoints cX9_ringPoints 4 (some .int) rm_X9_ringPoints [.ref (a0 0), .int p1] (wMod a0 cy m0) (wMod a0 cy m0) (some (.int res)) := sorry

def G_X9_turnOf (p0 : Int32) (p1 : Int32) (p2 : Int32) (p3 : Int32) (p4 : Int32) (p5 : Int32) : Option (Int32) :=
  if ((p2 - p0) * (p5 - p1)) - ((p3 - p1) * (p4 - p0)) ≤ 0 then
    if 0 ≤ ((p2 - p0) * (p5 - p1)) - ((p3 - p1) * (p4 - p0)) then
      some 0
    else
      some (-1)
  else
    some 1
abbrev rm_X9_turnOf : Room := { frames := 0, cells := 0, slots := 0, locals := 0 }
theorem hdS_X9_turnOf : yX9_turnOf.cls ≠ "java/lang/invoke/MethodHandle" ∧ yX9_turnOf.cls ≠ "java/lang/invoke/VarHandle" ∧ (parseMethodDescriptor yX9_turnOf.desc).map (fun d => d.parameters.length) = some 6 := by decide +kernel
set_option maxHeartbeats 4000000 in
set_option maxRecDepth 100000 in
theorem c_X9_turnOf (l : Launch) (dC : Nat → ClassId) (dI : Nat → Nat → Nat) (cy : Nat → ClassId)  (p0 : Int32) (p1 : Int32) (p2 : Int32) (p3 : Int32) (p4 : Int32) (p5 : Int32) (res : Int32) (h : G_X9_turnOf p0 p1 p2 p3 p4 p5 = some res) : CT l (dC, dI) (TY cy) yX9_turnOf cX9_turnOf 7 (some .int) rm_X9_turnOf [.int p0, .int p1, .int p2, .int p3, .int p4, .int p5] ([]) ([]) (some (.int res)) := sorry

def G_X9_isOn (p0 : Int32) (p1 : Int32) (p2 : Int32) (p3 : Int32) (p4 : Int32) (p5 : Int32) : Option (Int32) :=
  ((if p2 ≤ p0 then
      some p2
    else
      some p0) : Option (Int32)).bind fun b4 =>
  ((if p2 ≤ p0 then
      some p0
    else
      some p2) : Option (Int32)).bind fun b14 =>
  (G_X9_within p4 b4 b14).bind fun v22 =>
  ((if v22 = 0 then
      some 0
    else
      ((if p3 ≤ p1 then
          some p3
        else
          some p1) : Option (Int32)).bind fun b32 =>
      ((if p3 ≤ p1 then
          some p1
        else
          some p3) : Option (Int32)).bind fun b42 =>
      (G_X9_within p5 b32 b42).bind fun v50 =>
      if v50 = 0 then
        some 0
      else
        some 1) : Option (Int32)).bind fun b25 =>
  if b25 = 0 then
    some 0
  else
    (G_X9_turnOf p0 p1 p2 p3 p4 p5).bind fun v76 =>
    if v76 = 0 then
      some 1
    else
      some 0
abbrev rm_X9_isOn : Room := { frames := 1, cells := 0, slots := 0, locals := 26 }
theorem hdS_X9_isOn : yX9_isOn.cls ≠ "java/lang/invoke/MethodHandle" ∧ yX9_isOn.cls ≠ "java/lang/invoke/VarHandle" ∧ (parseMethodDescriptor yX9_isOn.desc).map (fun d => d.parameters.length) = some 6 := by decide +kernel
set_option maxHeartbeats 4000000 in
set_option maxRecDepth 100000 in
theorem c_X9_isOn (l : Launch) (dC : Nat → ClassId) (dI : Nat → Nat → Nat) (cy : Nat → ClassId)  (p0 : Int32) (p1 : Int32) (p2 : Int32) (p3 : Int32) (p4 : Int32) (p5 : Int32) (res : Int32) (h : G_X9_isOn p0 p1 p2 p3 p4 p5 = some res) : CT l (dC, dI) (TY cy) yX9_isOn cX9_isOn 7 (some .boolean) rm_X9_isOn [.int p0, .int p1, .int p2, .int p3, .int p4, .int p5] ([]) ([]) (some (.int res)) := sorry

def G_X9_surrounds_L6  (m0 : Mod) : Nat → Int32 → Int32 → Int32 → Int32 → Int32 → Option (Int32)
  | 0, _, _, _, _, _ => none
  | n6 + 1, l5_6, l4_6, l1_6, l2_6, l3_6 =>
    (G_X9_many m0 l1_6).bind fun v10 =>
    if v10 ≤ l5_6 then
      (bck l4_6).bind fun v180 =>
      some v180
    else
      (G_X9_x m0 l1_6 l5_6).bind fun v21 =>
      (G_X9_y m0 l1_6 l5_6).bind fun v32 =>
      (G_X9_next m0 l1_6 l5_6).bind fun v45 =>
      (G_X9_x m0 l1_6 v45).bind fun v48 =>
      (G_X9_next m0 l1_6 l5_6).bind fun v61 =>
      (G_X9_y m0 l1_6 v61).bind fun v64 =>
      ((if 2 * v64 ≤ 2 * v32 then
          if 0 ≤ (((2 * v48) - (2 * v21)) * (l3_6 - (2 * v32))) - ((l2_6 - (2 * v21)) * ((2 * v64) - (2 * v32))) then
            some 0
          else
            some 1
        else
          if (((2 * v48) - (2 * v21)) * (l3_6 - (2 * v32))) - ((l2_6 - (2 * v21)) * ((2 * v64) - (2 * v32))) ≤ 0 then
            some 0
          else
            some 1) : Option (Int32)).bind fun b97 =>
      ((if 2 * v32 ≤ l3_6 then
          some 0
        else
          some 1) : Option (Int32)).bind fun b128 =>
      ((if 2 * v64 ≤ l3_6 then
          some 0
        else
          some 1) : Option (Int32)).bind fun b139 =>
      ((if b128 = b139 then
          some l4_6
        else
          if b97 = 0 then
            some l4_6
          else
            if l4_6 = 0 then
              some 1
            else
              some 0) : Option (Int32)).bind fun b147 =>
      (G_X9_surrounds_L6 m0 n6) (l5_6 + 1) b147 l1_6 l2_6 l3_6
def G_X9_surrounds (m0 : Mod) (p1 : Int32) (p2 : Int32) (p3 : Int32) : Option (Int32) :=
  G_X9_surrounds_L6 m0 FU 0 0 p1 p2 p3
abbrev rm_X9_surrounds : Room := { frames := 2, cells := 0, slots := 0, locals := 43 }
theorem hdS_X9_surrounds : yX9_surrounds.cls ≠ "java/lang/invoke/MethodHandle" ∧ yX9_surrounds.cls ≠ "java/lang/invoke/VarHandle" ∧ (parseMethodDescriptor yX9_surrounds.desc).map (fun d => d.parameters.length) = some 3 := by decide +kernel
theorem hdV_X9_surrounds : yX9_surrounds.cls = RX9 ∧ yX9_surrounds.cls ≠ "java/lang/invoke/MethodHandle" ∧ yX9_surrounds.cls ≠ "java/lang/invoke/VarHandle" ∧ (parseMethodDescriptor yX9_surrounds.desc).map (fun d => d.parameters.length) = some 3 := ⟨rfl, hdS_X9_surrounds⟩
set_option maxHeartbeats 4000000 in
set_option maxRecDepth 100000 in
theorem c_X9_surrounds (l : Launch) (dC : Nat → ClassId) (dI : Nat → Nat → Nat) (cy : Nat → ClassId) (a0 : Nat → Nat) (m0 : Mod) (p1 : Int32) (p2 : Int32) (p3 : Int32) (res : Int32) (h : G_X9_surrounds m0 p1 p2 p3 = some res) : CT l (dC, dI) (TY cy) yX9_surrounds cX9_surrounds 12 (some .boolean) rm_X9_surrounds [.ref (a0 0), .int p1, .int p2, .int p3] (wMod a0 cy m0) (wMod a0 cy m0) (some (.int res)) := sorry

def G_X9_whereNotOn_L19  (m0 : Mod) : Nat → Int32 → Int32 → Int32 → Int32 → Option (Int32)
  | 0, _, _, _, _ => none
  | n19 + 1, l4_19, l3_19, l1_19, l2_19 =>
    (rd 85 (m_state m0) 0).bind fun v26 =>
    if v26 ≤ l4_19 then
      some l3_19
    else
      if l3_19 = 2 then
        (G_X9_surrounds m0 l4_19 l1_19 l2_19).bind fun v40 =>
        ((if v40 = 0 then
            some 2
          else
            some 3) : Option (Int32)).bind fun b43 =>
        (G_X9_whereNotOn_L19 m0 n19) (l4_19 + 1) b43 l1_19 l2_19
      else
        some l3_19
def G_X9_whereNotOn (m0 : Mod) (p1 : Int32) (p2 : Int32) : Option (Int32) :=
  (G_X9_surrounds m0 0 p1 p2).bind fun v4 =>
  ((if v4 = 0 then
      some 0
    else
      some 2) : Option (Int32)).bind fun b7 =>
  G_X9_whereNotOn_L19 m0 FU 1 b7 p1 p2
abbrev rm_X9_whereNotOn : Room := { frames := 3, cells := 0, slots := 0, locals := 74 }
theorem hdS_X9_whereNotOn : yX9_whereNotOn.cls ≠ "java/lang/invoke/MethodHandle" ∧ yX9_whereNotOn.cls ≠ "java/lang/invoke/VarHandle" ∧ (parseMethodDescriptor yX9_whereNotOn.desc).map (fun d => d.parameters.length) = some 2 := by decide +kernel
theorem hdV_X9_whereNotOn : yX9_whereNotOn.cls = RX9 ∧ yX9_whereNotOn.cls ≠ "java/lang/invoke/MethodHandle" ∧ yX9_whereNotOn.cls ≠ "java/lang/invoke/VarHandle" ∧ (parseMethodDescriptor yX9_whereNotOn.desc).map (fun d => d.parameters.length) = some 2 := ⟨rfl, hdS_X9_whereNotOn⟩
set_option maxHeartbeats 4000000 in
set_option maxRecDepth 100000 in
theorem c_X9_whereNotOn (l : Launch) (dC : Nat → ClassId) (dI : Nat → Nat → Nat) (cy : Nat → ClassId) (a0 : Nat → Nat) (m0 : Mod) (p1 : Int32) (p2 : Int32) (res : Int32) (h : G_X9_whereNotOn m0 p1 p2 = some res) : CT l (dC, dI) (TY cy) yX9_whereNotOn cX9_whereNotOn 5 (some .int) rm_X9_whereNotOn [.ref (a0 0), .int p1, .int p2] (wMod a0 cy m0) (wMod a0 cy m0) (some (.int res)) := sorry

def G_X9_where_L15 (r2 : Int32 → Int32 → Int32 → Option (Int32)) (m0 : Mod) : Nat → Int32 → Int32 → Int32 → Int32 → Option (Int32)
  | 0, _, _, _, _ => none
  | n15 + 1, l4_15, l3_15, l1_15, l2_15 =>
    (G_X9_many m0 l3_15).bind fun v19 =>
    if v19 ≤ l4_15 then
      r2 (l3_15 + 1) l1_15 l2_15
    else
      (G_X9_next m0 l3_15 l4_15).bind fun v29 =>
      (G_X9_x m0 l3_15 l4_15).bind fun v38 =>
      (G_X9_y m0 l3_15 l4_15).bind fun v45 =>
      (G_X9_x m0 l3_15 v29).bind fun v52 =>
      (G_X9_y m0 l3_15 v29).bind fun v59 =>
      (G_X9_isOn v38 v45 v52 v59 l1_15 l2_15).bind fun v64 =>
      if v64 = 0 then
        (G_X9_where_L15 r2 m0 n15) (l4_15 + 1) l3_15 l1_15 l2_15
      else
        some 1
def G_X9_where_L2  (m0 : Mod) : Nat → Int32 → Int32 → Int32 → Option (Int32)
  | 0, _, _, _ => none
  | n2 + 1, l3_2, l1_2, l2_2 =>
    (rd 85 (m_state m0) 0).bind fun v8 =>
    if v8 ≤ l3_2 then
      (G_X9_whereNotOn m0 (2 * l1_2) (2 * l2_2)).bind fun v91 =>
      some v91
    else
      G_X9_where_L15 (G_X9_where_L2 m0 n2) m0 FU 0 l3_2 l1_2 l2_2
def G_X9_where (m0 : Mod) (p1 : Int32) (p2 : Int32) : Option (Int32) :=
  G_X9_where_L2 m0 FU 0 p1 p2
abbrev rm_X9_where : Room := { frames := 4, cells := 0, slots := 0, locals := 98 }
theorem hdS_X9_where : yX9_where.cls ≠ "java/lang/invoke/MethodHandle" ∧ yX9_where.cls ≠ "java/lang/invoke/VarHandle" ∧ (parseMethodDescriptor yX9_where.desc).map (fun d => d.parameters.length) = some 2 := by decide +kernel
theorem hdV_X9_where : yX9_where.cls = RX9 ∧ yX9_where.cls ≠ "java/lang/invoke/MethodHandle" ∧ yX9_where.cls ≠ "java/lang/invoke/VarHandle" ∧ (parseMethodDescriptor yX9_where.desc).map (fun d => d.parameters.length) = some 2 := ⟨rfl, hdS_X9_where⟩
set_option maxHeartbeats 4000000 in
set_option maxRecDepth 100000 in
theorem c_X9_where (l : Launch) (dC : Nat → ClassId) (dI : Nat → Nat → Nat) (cy : Nat → ClassId) (a0 : Nat → Nat) (m0 : Mod) (p1 : Int32) (p2 : Int32) (res : Int32) (h : G_X9_where m0 p1 p2 = some res) : CT l (dC, dI) (TY cy) yX9_where cX9_where 6 (some .int) rm_X9_where [.ref (a0 0), .int p1, .int p2] (wMod a0 cy m0) (wMod a0 cy m0) (some (.int res)) := sorry

def G_X9_pointsIn_L5  (m0 : Mod) : Nat → Int32 → Int32 → Int32 → Int32 → Option (Int32)
  | 0, _, _, _, _ => none
  | n5 + 1, l4_5, l3_5, l1_5, l2_5 =>
    if 15 < l4_5 then
      some l3_5
    else
      (G_X9_where m0 l4_5 l1_5).bind fun v16 =>
      ((if v16 = 2 then
          some 1
        else
          if l2_5 = 0 then
            some 0
          else
            if v16 = 1 then
              some 1
            else
              some 0) : Option (Int32)).bind fun b25 =>
      (G_X9_pointsIn_L5 m0 n5) (l4_5 + 1) (l3_5 + b25) l1_5 l2_5
def G_X9_pointsIn (m0 : Mod) (p1 : Int32) (p2 : Int32) : Option (Int32) :=
  G_X9_pointsIn_L5 m0 FU 0 0 p1 p2
abbrev rm_X9_pointsIn : Room := { frames := 5, cells := 0, slots := 0, locals := 123 }
theorem hdS_X9_pointsIn : yX9_pointsIn.cls ≠ "java/lang/invoke/MethodHandle" ∧ yX9_pointsIn.cls ≠ "java/lang/invoke/VarHandle" ∧ (parseMethodDescriptor yX9_pointsIn.desc).map (fun d => d.parameters.length) = some 2 := by decide +kernel
theorem hdV_X9_pointsIn : yX9_pointsIn.cls = RX9 ∧ yX9_pointsIn.cls ≠ "java/lang/invoke/MethodHandle" ∧ yX9_pointsIn.cls ≠ "java/lang/invoke/VarHandle" ∧ (parseMethodDescriptor yX9_pointsIn.desc).map (fun d => d.parameters.length) = some 2 := ⟨rfl, hdS_X9_pointsIn⟩
set_option maxHeartbeats 4000000 in
set_option maxRecDepth 100000 in
theorem c_X9_pointsIn (l : Launch) (dC : Nat → ClassId) (dI : Nat → Nat → Nat) (cy : Nat → ClassId) (a0 : Nat → Nat) (m0 : Mod) (p1 : Int32) (p2 : Int32) (res : Int32) (h : G_X9_pointsIn m0 p1 p2 = some res) : CT l (dC, dI) (TY cy) yX9_pointsIn cX9_pointsIn 6 (some .int) rm_X9_pointsIn [.ref (a0 0), .int p1, .int p2] (wMod a0 cy m0) (wMod a0 cy m0) (some (.int res)) := sorry

def G_X9_inside_L4  (m0 : Mod) : Nat → Int32 → Int32 → Option (Int32)
  | 0, _, _ => none
  | n4 + 1, l2_4, l1_4 =>
    if 15 < l2_4 then
      some l1_4
    else
      (G_X9_pointsIn m0 l2_4 0).bind fun v14 =>
      (G_X9_inside_L4 m0 n4) (l2_4 + 1) (l1_4 + v14)
def G_X9_inside (m0 : Mod) : Option (Int32) :=
  G_X9_inside_L4 m0 FU 0 0
abbrev rm_X9_inside : Room := { frames := 6, cells := 0, slots := 0, locals := 148 }
theorem hdS_X9_inside : yX9_inside.cls ≠ "java/lang/invoke/MethodHandle" ∧ yX9_inside.cls ≠ "java/lang/invoke/VarHandle" ∧ (parseMethodDescriptor yX9_inside.desc).map (fun d => d.parameters.length) = some 0 := by decide +kernel
theorem hdV_X9_inside : yX9_inside.cls = RX9 ∧ yX9_inside.cls ≠ "java/lang/invoke/MethodHandle" ∧ yX9_inside.cls ≠ "java/lang/invoke/VarHandle" ∧ (parseMethodDescriptor yX9_inside.desc).map (fun d => d.parameters.length) = some 0 := ⟨rfl, hdS_X9_inside⟩
set_option maxHeartbeats 4000000 in
set_option maxRecDepth 100000 in
theorem c_X9_inside (l : Launch) (dC : Nat → ClassId) (dI : Nat → Nat → Nat) (cy : Nat → ClassId) (a0 : Nat → Nat) (m0 : Mod) (res : Int32) (h : G_X9_inside m0 = some res) : CT l (dC, dI) (TY cy) yX9_inside cX9_inside 3 (some .int) rm_X9_inside [.ref (a0 0)] (wMod a0 cy m0) (wMod a0 cy m0) (some (.int res)) := sorry

def G_X9_before (m0 : Mod) (p1 : Int32) (p2 : Int32) : Option (Int32) :=
  if p2 = 0 then
    (G_X9_many m0 p1).bind fun v6 =>
    some (v6 - 1)
  else
    some (p2 - 1)
abbrev rm_X9_before : Room := { frames := 1, cells := 0, slots := 0, locals := 21 }
theorem hdS_X9_before : yX9_before.cls ≠ "java/lang/invoke/MethodHandle" ∧ yX9_before.cls ≠ "java/lang/invoke/VarHandle" ∧ (parseMethodDescriptor yX9_before.desc).map (fun d => d.parameters.length) = some 2 := by decide +kernel
theorem hdV_X9_before : yX9_before.cls = RX9 ∧ yX9_before.cls ≠ "java/lang/invoke/MethodHandle" ∧ yX9_before.cls ≠ "java/lang/invoke/VarHandle" ∧ (parseMethodDescriptor yX9_before.desc).map (fun d => d.parameters.length) = some 2 := ⟨rfl, hdS_X9_before⟩
set_option maxHeartbeats 4000000 in
set_option maxRecDepth 100000 in
theorem c_X9_before (l : Launch) (dC : Nat → ClassId) (dI : Nat → Nat → Nat) (cy : Nat → ClassId) (a0 : Nat → Nat) (m0 : Mod) (p1 : Int32) (p2 : Int32) (res : Int32) (h : G_X9_before m0 p1 p2 = some res) : CT l (dC, dI) (TY cy) yX9_before cX9_before 3 (some .int) rm_X9_before [.ref (a0 0), .int p1, .int p2] (wMod a0 cy m0) (wMod a0 cy m0) (some (.int res)) := sorry

def G_X9_bend (m0 : Mod) (p1 : Int32) (p2 : Int32) : Option (Int32) :=
  (G_X9_before m0 p1 p2).bind fun v3 =>
  (G_X9_next m0 p1 p2).bind fun v10 =>
  (G_X9_x m0 p1 p2).bind fun v18 =>
  (G_X9_x m0 p1 v3).bind fun v24 =>
  (G_X9_y m0 p1 v10).bind fun v32 =>
  (G_X9_y m0 p1 p2).bind fun v38 =>
  (G_X9_y m0 p1 p2).bind fun v46 =>
  (G_X9_y m0 p1 v3).bind fun v52 =>
  (G_X9_x m0 p1 v10).bind fun v60 =>
  (G_X9_x m0 p1 p2).bind fun v66 =>
  some (((v18 - v24) * (v32 - v38)) - ((v46 - v52) * (v60 - v66)))
abbrev rm_X9_bend : Room := { frames := 2, cells := 0, slots := 0, locals := 43 }
theorem hdS_X9_bend : yX9_bend.cls ≠ "java/lang/invoke/MethodHandle" ∧ yX9_bend.cls ≠ "java/lang/invoke/VarHandle" ∧ (parseMethodDescriptor yX9_bend.desc).map (fun d => d.parameters.length) = some 2 := by decide +kernel
theorem hdV_X9_bend : yX9_bend.cls = RX9 ∧ yX9_bend.cls ≠ "java/lang/invoke/MethodHandle" ∧ yX9_bend.cls ≠ "java/lang/invoke/VarHandle" ∧ (parseMethodDescriptor yX9_bend.desc).map (fun d => d.parameters.length) = some 2 := ⟨rfl, hdS_X9_bend⟩
set_option maxHeartbeats 4000000 in
set_option maxRecDepth 100000 in
theorem c_X9_bend (l : Launch) (dC : Nat → ClassId) (dI : Nat → Nat → Nat) (cy : Nat → ClassId) (a0 : Nat → Nat) (m0 : Mod) (p1 : Int32) (p2 : Int32) (res : Int32) (h : G_X9_bend m0 p1 p2 = some res) : CT l (dC, dI) (TY cy) yX9_bend cX9_bend 5 (some .int) rm_X9_bend [.ref (a0 0), .int p1, .int p2] (wMod a0 cy m0) (wMod a0 cy m0) (some (.int res)) := sorry

def G_X9_kind (m0 : Mod) (p1 : Int32) (p2 : Int32) : Option (Int32) :=
  (G_X9_bend m0 p1 p2).bind fun v3 =>
  if v3 = 0 then
    some 0
  else
    ((if v3 ≤ 0 then
        some 0
      else
        some 1) : Option (Int32)).bind fun b16 =>
    (G_X9_sumOf m0 p1).bind fun v26 =>
    ((if v26 ≤ 0 then
        some 0
      else
        some 1) : Option (Int32)).bind fun b29 =>
    if b16 = b29 then
      some 1
    else
      some (-1)
abbrev rm_X9_kind : Room := { frames := 3, cells := 0, slots := 0, locals := 67 }
theorem hdS_X9_kind : yX9_kind.cls ≠ "java/lang/invoke/MethodHandle" ∧ yX9_kind.cls ≠ "java/lang/invoke/VarHandle" ∧ (parseMethodDescriptor yX9_kind.desc).map (fun d => d.parameters.length) = some 2 := by decide +kernel
theorem hdV_X9_kind : yX9_kind.cls = RX9 ∧ yX9_kind.cls ≠ "java/lang/invoke/MethodHandle" ∧ yX9_kind.cls ≠ "java/lang/invoke/VarHandle" ∧ (parseMethodDescriptor yX9_kind.desc).map (fun d => d.parameters.length) = some 2 := ⟨rfl, hdS_X9_kind⟩
set_option maxHeartbeats 4000000 in
set_option maxRecDepth 100000 in
theorem c_X9_kind (l : Launch) (dC : Nat → ClassId) (dI : Nat → Nat → Nat) (cy : Nat → ClassId) (a0 : Nat → Nat) (m0 : Mod) (p1 : Int32) (p2 : Int32) (res : Int32) (h : G_X9_kind m0 p1 p2 = some res) : CT l (dC, dI) (TY cy) yX9_kind cX9_kind 4 (some .int) rm_X9_kind [.ref (a0 0), .int p1, .int p2] (wMod a0 cy m0) (wMod a0 cy m0) (some (.int res)) := sorry

def G_X9_kindsOf_L4  (m0 : Mod) : Nat → Int32 → Int32 → Int32 → Option (Int32)
  | 0, _, _, _ => none
  | n4 + 1, l3_4, l2_4, l1_4 =>
    (G_X9_many m0 0).bind fun v7 =>
    if v7 ≤ l3_4 then
      some l2_4
    else
      (G_X9_kind m0 0 l3_4).bind fun v17 =>
      ((if v17 = l1_4 then
          some 1
        else
          some 0) : Option (Int32)).bind fun b21 =>
      (G_X9_kindsOf_L4 m0 n4) (l3_4 + 1) (l2_4 + b21) l1_4
def G_X9_kindsOf (m0 : Mod) (p1 : Int32) : Option (Int32) :=
  G_X9_kindsOf_L4 m0 FU 0 0 p1
abbrev rm_X9_kindsOf : Room := { frames := 4, cells := 0, slots := 0, locals := 90 }
theorem hdS_X9_kindsOf : yX9_kindsOf.cls ≠ "java/lang/invoke/MethodHandle" ∧ yX9_kindsOf.cls ≠ "java/lang/invoke/VarHandle" ∧ (parseMethodDescriptor yX9_kindsOf.desc).map (fun d => d.parameters.length) = some 1 := by decide +kernel
theorem hdV_X9_kindsOf : yX9_kindsOf.cls = RX9 ∧ yX9_kindsOf.cls ≠ "java/lang/invoke/MethodHandle" ∧ yX9_kindsOf.cls ≠ "java/lang/invoke/VarHandle" ∧ (parseMethodDescriptor yX9_kindsOf.desc).map (fun d => d.parameters.length) = some 1 := ⟨rfl, hdS_X9_kindsOf⟩
set_option maxHeartbeats 4000000 in
set_option maxRecDepth 100000 in
theorem c_X9_kindsOf (l : Launch) (dC : Nat → ClassId) (dI : Nat → Nat → Nat) (cy : Nat → ClassId) (a0 : Nat → Nat) (m0 : Mod) (p1 : Int32) (res : Int32) (h : G_X9_kindsOf m0 p1 = some res) : CT l (dC, dI) (TY cy) yX9_kindsOf cX9_kindsOf 4 (some .int) rm_X9_kindsOf [.ref (a0 0), .int p1] (wMod a0 cy m0) (wMod a0 cy m0) (some (.int res)) := sorry

def G_X9_findSides_L19 (r7 : Mod → Int32 → Option (Mod))  : Nat → Mod → Int32 → Int32 → Option (Mod)
  | 0, _, _, _ => none
  | n19 + 1, m0_19, l2_19, l1_19 =>
    (G_X9_many m0_19 l1_19).bind fun v22 =>
    if v22 ≤ l2_19 then
      r7 m0_19 (l1_19 + 1)
    else
      (wr 40 (m_ringOf m0_19) (m_sides m0_19) l1_19).bind fun g37 =>
      (some (ms_ringOf m0_19 g37)).bind fun z0_47 =>
      (wr 40 (m_cornerOf z0_47) (m_sides (ms_ringOf m0_19 g37)) l2_19).bind fun g47 =>
      (G_X9_x (ms_cornerOf z0_47 g47) l1_19 l2_19).bind fun v59 =>
      (some (ms_cornerOf z0_47 g47)).bind fun z0_62 =>
      (wr 40 (m_ax z0_62) (m_sides (ms_cornerOf z0_47 g47)) v59).bind fun g62 =>
      (G_X9_y (ms_ax z0_62 g62) l1_19 l2_19).bind fun v74 =>
      (some (ms_ax z0_62 g62)).bind fun z0_77 =>
      (wr 40 (m_ay z0_77) (m_sides (ms_ax z0_62 g62)) v74).bind fun g77 =>
      (G_X9_next (ms_ay z0_77 g77) l1_19 l2_19).bind fun v91 =>
      (G_X9_x (ms_ay z0_77 g77) l1_19 v91).bind fun v94 =>
      (some (ms_ay z0_77 g77)).bind fun z0_97 =>
      (wr 40 (m_bx z0_97) (m_sides (ms_ay z0_77 g77)) v94).bind fun g97 =>
      (G_X9_next (ms_bx z0_97 g97) l1_19 l2_19).bind fun v111 =>
      (G_X9_y (ms_bx z0_97 g97) l1_19 v111).bind fun v114 =>
      (some (ms_bx z0_97 g97)).bind fun z0_117 =>
      (wr 40 (m_by z0_117) (m_sides (ms_bx z0_97 g97)) v114).bind fun g117 =>
      (some (ms_by z0_117 g117)).bind fun z0_125 =>
      (G_X9_findSides_L19 r7 n19) (ms_sides z0_125 ((m_sides (ms_by z0_117 g117)) + 1)) (l2_19 + 1) l1_19
def G_X9_findSides_L7   : Nat → Mod → Int32 → Option (Mod)
  | 0, _, _ => none
  | n7 + 1, m0_7, l1_7 =>
    (rd 85 (m_state m0_7) 0).bind fun v13 =>
    if v13 ≤ l1_7 then
      some m0_7
    else
      G_X9_findSides_L19 (G_X9_findSides_L7 n7) FU m0_7 0 l1_7
def G_X9_findSides (m0 : Mod) : Option (Mod) :=
  G_X9_findSides_L7 FU (ms_sides m0 0) 0
abbrev rm_X9_findSides : Room := { frames := 2, cells := 0, slots := 0, locals := 43 }
theorem hdS_X9_findSides : yX9_findSides.cls ≠ "java/lang/invoke/MethodHandle" ∧ yX9_findSides.cls ≠ "java/lang/invoke/VarHandle" ∧ (parseMethodDescriptor yX9_findSides.desc).map (fun d => d.parameters.length) = some 0 := by decide +kernel
theorem hdV_X9_findSides : yX9_findSides.cls = RX9 ∧ yX9_findSides.cls ≠ "java/lang/invoke/MethodHandle" ∧ yX9_findSides.cls ≠ "java/lang/invoke/VarHandle" ∧ (parseMethodDescriptor yX9_findSides.desc).map (fun d => d.parameters.length) = some 0 := ⟨rfl, hdS_X9_findSides⟩
set_option maxHeartbeats 4000000 in
set_option maxRecDepth 100000 in
theorem c_X9_findSides (l : Launch) (dC : Nat → ClassId) (dI : Nat → Nat → Nat) (cy : Nat → ClassId) (a0 : Nat → Nat) (m0 : Mod) (res : Mod) (h : G_X9_findSides m0 = some res) : CT l (dC, dI) (TY cy) yX9_findSides cX9_findSides 3 none rm_X9_findSides [.ref (a0 0)] (wMod a0 cy m0) (wMod a0 cy res) none := sorry

def G_X9_isSameWay (p0 : Int32) (p1 : Int32) (p2 : Int32) (p3 : Int32) (p4 : Int32) (p5 : Int32) : Option (Int32) :=
  (G_X9_turnOf p0 p1 p2 p3 p4 p5).bind fun v8 =>
  if v8 = 0 then
    if ((p2 - p0) * (p4 - p0)) + ((p3 - p1) * (p5 - p1)) ≤ 0 then
      some 0
    else
      some 1
  else
    some 0
abbrev rm_X9_isSameWay : Room := { frames := 1, cells := 0, slots := 0, locals := 26 }
theorem hdS_X9_isSameWay : yX9_isSameWay.cls ≠ "java/lang/invoke/MethodHandle" ∧ yX9_isSameWay.cls ≠ "java/lang/invoke/VarHandle" ∧ (parseMethodDescriptor yX9_isSameWay.desc).map (fun d => d.parameters.length) = some 6 := by decide +kernel
set_option maxHeartbeats 4000000 in
set_option maxRecDepth 100000 in
theorem c_X9_isSameWay (l : Launch) (dC : Nat → ClassId) (dI : Nat → Nat → Nat) (cy : Nat → ClassId)  (p0 : Int32) (p1 : Int32) (p2 : Int32) (p3 : Int32) (p4 : Int32) (p5 : Int32) (res : Int32) (h : G_X9_isSameWay p0 p1 p2 p3 p4 p5 = some res) : CT l (dC, dI) (TY cy) yX9_isSameWay cX9_isSameWay 6 (some .boolean) rm_X9_isSameWay [.int p0, .int p1, .int p2, .int p3, .int p4, .int p5] ([]) ([]) (some (.int res)) := sorry

def G_X9_isCrossed (m0 : Mod) (p1 : Int32) (p2 : Int32) (p3 : Int32) (p4 : Int32) (p5 : Int32) : Option (Int32) :=
  (rd 40 (m_ax m0) p1).bind fun v5 =>
  (rd 40 (m_ay m0) p1).bind fun v11 =>
  (rd 40 (m_bx m0) p1).bind fun v17 =>
  (rd 40 (m_by m0) p1).bind fun v23 =>
  (G_X9_turnOf v5 v11 v17 v23 p2 p3).bind fun v26 =>
  (rd 40 (m_ax m0) p1).bind fun v34 =>
  (rd 40 (m_ay m0) p1).bind fun v40 =>
  (rd 40 (m_bx m0) p1).bind fun v46 =>
  (rd 40 (m_by m0) p1).bind fun v52 =>
  (G_X9_turnOf v34 v40 v46 v52 p4 p5).bind fun v57 =>
  (rd 40 (m_ax m0) p1).bind fun v74 =>
  (rd 40 (m_ay m0) p1).bind fun v80 =>
  (G_X9_turnOf p2 p3 p4 p5 v74 v80).bind fun v81 =>
  (rd 40 (m_bx m0) p1).bind fun v95 =>
  (rd 40 (m_by m0) p1).bind fun v101 =>
  (G_X9_turnOf p2 p3 p4 p5 v95 v101).bind fun v102 =>
  if 0 ≤ v26 * v57 then
    some 0
  else
    if 0 ≤ v81 * v102 then
      some 0
    else
      some 1
abbrev rm_X9_isCrossed : Room := { frames := 1, cells := 0, slots := 0, locals := 26 }
theorem hdS_X9_isCrossed : yX9_isCrossed.cls ≠ "java/lang/invoke/MethodHandle" ∧ yX9_isCrossed.cls ≠ "java/lang/invoke/VarHandle" ∧ (parseMethodDescriptor yX9_isCrossed.desc).map (fun d => d.parameters.length) = some 5 := by decide +kernel
theorem hdV_X9_isCrossed : yX9_isCrossed.cls = RX9 ∧ yX9_isCrossed.cls ≠ "java/lang/invoke/MethodHandle" ∧ yX9_isCrossed.cls ≠ "java/lang/invoke/VarHandle" ∧ (parseMethodDescriptor yX9_isCrossed.desc).map (fun d => d.parameters.length) = some 5 := ⟨rfl, hdS_X9_isCrossed⟩
set_option maxHeartbeats 4000000 in
set_option maxRecDepth 100000 in
theorem c_X9_isCrossed (l : Launch) (dC : Nat → ClassId) (dI : Nat → Nat → Nat) (cy : Nat → ClassId) (a0 : Nat → Nat) (m0 : Mod) (p1 : Int32) (p2 : Int32) (p3 : Int32) (p4 : Int32) (p5 : Int32) (res : Int32) (h : G_X9_isCrossed m0 p1 p2 p3 p4 p5 = some res) : CT l (dC, dI) (TY cy) yX9_isCrossed cX9_isCrossed 8 (some .boolean) rm_X9_isCrossed [.ref (a0 0), .int p1, .int p2, .int p3, .int p4, .int p5] (wMod a0 cy m0) (wMod a0 cy m0) (some (.int res)) := sorry

def G_X9_isMet (m0 : Mod) (p1 : Int32) (p2 : Int32) (p3 : Int32) (p4 : Int32) (p5 : Int32) : Option (Int32) :=
  (rd 40 (m_ax m0) p1).bind fun v5 =>
  (rd 40 (m_ay m0) p1).bind fun v11 =>
  (rd 40 (m_bx m0) p1).bind fun v17 =>
  (rd 40 (m_by m0) p1).bind fun v23 =>
  (G_X9_isOn v5 v11 v17 v23 p2 p3).bind fun v26 =>
  ((if v26 = 0 then
      (rd 40 (m_ax m0) p1).bind fun v37 =>
      (rd 40 (m_ay m0) p1).bind fun v43 =>
      (rd 40 (m_bx m0) p1).bind fun v49 =>
      (rd 40 (m_by m0) p1).bind fun v55 =>
      (G_X9_isOn v37 v43 v49 v55 p4 p5).bind fun v60 =>
      if v60 = 0 then
        some 0
      else
        some 1
    else
      some 1) : Option (Int32)).bind fun b29 =>
  if b29 = 0 then
    (rd 40 (m_ax m0) p1).bind fun v89 =>
    (rd 40 (m_ay m0) p1).bind fun v95 =>
    (G_X9_isOn p2 p3 p4 p5 v89 v95).bind fun v96 =>
    if v96 = 0 then
      (rd 40 (m_bx m0) p1).bind fun v113 =>
      (rd 40 (m_by m0) p1).bind fun v119 =>
      (G_X9_isOn p2 p3 p4 p5 v113 v119).bind fun v120 =>
      if v120 = 0 then
        (G_X9_isCrossed m0 p1 p2 p3 p4 p5).bind fun v134 =>
        if v134 = 0 then
          some 0
        else
          some 1
      else
        some 1
    else
      some 1
  else
    some 1
abbrev rm_X9_isMet : Room := { frames := 2, cells := 0, slots := 0, locals := 53 }
theorem hdS_X9_isMet : yX9_isMet.cls ≠ "java/lang/invoke/MethodHandle" ∧ yX9_isMet.cls ≠ "java/lang/invoke/VarHandle" ∧ (parseMethodDescriptor yX9_isMet.desc).map (fun d => d.parameters.length) = some 5 := by decide +kernel
theorem hdV_X9_isMet : yX9_isMet.cls = RX9 ∧ yX9_isMet.cls ≠ "java/lang/invoke/MethodHandle" ∧ yX9_isMet.cls ≠ "java/lang/invoke/VarHandle" ∧ (parseMethodDescriptor yX9_isMet.desc).map (fun d => d.parameters.length) = some 5 := ⟨rfl, hdS_X9_isMet⟩
set_option maxHeartbeats 4000000 in
set_option maxRecDepth 100000 in
theorem c_X9_isMet (l : Launch) (dC : Nat → ClassId) (dI : Nat → Nat → Nat) (cy : Nat → ClassId) (a0 : Nat → Nat) (m0 : Mod) (p1 : Int32) (p2 : Int32) (p3 : Int32) (p4 : Int32) (p5 : Int32) (res : Int32) (h : G_X9_isMet m0 p1 p2 p3 p4 p5 = some res) : CT l (dC, dI) (TY cy) yX9_isMet cX9_isMet 7 (some .boolean) rm_X9_isMet [.ref (a0 0), .int p1, .int p2, .int p3, .int p4, .int p5] (wMod a0 cy m0) (wMod a0 cy m0) (some (.int res)) := sorry

def G_X9_isInTheWay_j110  (m0 : Mod) (l7_110 : Int32) (l6_110 : Int32) (l1_110 : Int32) (l2_110 : Int32) (l3_110 : Int32) (l4_110 : Int32) (l5_110 : Int32) : Option (Int32) :=
  (rd 40 (m_ax m0) l1_110).bind fun v115 =>
  ((if v115 = l2_110 then
      (rd 40 (m_ay m0) l1_110).bind fun v125 =>
      if v125 = l3_110 then
        (rd 40 (m_bx m0) l1_110).bind fun v157 =>
        some v157
      else
        (rd 40 (m_ax m0) l1_110).bind fun v135 =>
        if v135 = l4_110 then
          (rd 40 (m_ay m0) l1_110).bind fun v146 =>
          if v146 = l5_110 then
            (rd 40 (m_bx m0) l1_110).bind fun v157 =>
            some v157
          else
            (rd 40 (m_ax m0) l1_110).bind fun v166 =>
            some v166
        else
          (rd 40 (m_ax m0) l1_110).bind fun v166 =>
          some v166
    else
      (rd 40 (m_ax m0) l1_110).bind fun v135 =>
      if v135 = l4_110 then
        (rd 40 (m_ay m0) l1_110).bind fun v146 =>
        if v146 = l5_110 then
          (rd 40 (m_bx m0) l1_110).bind fun v157 =>
          some v157
        else
          (rd 40 (m_ax m0) l1_110).bind fun v166 =>
          some v166
      else
        (rd 40 (m_ax m0) l1_110).bind fun v166 =>
        some v166) : Option (Int32)).bind fun b117 =>
  (rd 40 (m_ax m0) l1_110).bind fun v174 =>
  ((if v174 = l2_110 then
      (rd 40 (m_ay m0) l1_110).bind fun v184 =>
      if v184 = l3_110 then
        (rd 40 (m_by m0) l1_110).bind fun v216 =>
        some v216
      else
        (rd 40 (m_ax m0) l1_110).bind fun v194 =>
        if v194 = l4_110 then
          (rd 40 (m_ay m0) l1_110).bind fun v205 =>
          if v205 = l5_110 then
            (rd 40 (m_by m0) l1_110).bind fun v216 =>
            some v216
          else
            (rd 40 (m_ay m0) l1_110).bind fun v225 =>
            some v225
        else
          (rd 40 (m_ay m0) l1_110).bind fun v225 =>
          some v225
    else
      (rd 40 (m_ax m0) l1_110).bind fun v194 =>
      if v194 = l4_110 then
        (rd 40 (m_ay m0) l1_110).bind fun v205 =>
        if v205 = l5_110 then
          (rd 40 (m_by m0) l1_110).bind fun v216 =>
          some v216
        else
          (rd 40 (m_ay m0) l1_110).bind fun v225 =>
          some v225
      else
        (rd 40 (m_ay m0) l1_110).bind fun v225 =>
        some v225) : Option (Int32)).bind fun b176 =>
  if l6_110 = 0 then
    if l7_110 = 0 then
      (G_X9_isMet m0 l1_110 l2_110 l3_110 l4_110 l5_110).bind fun v276 =>
      (bck v276).bind fun v279 =>
      some v279
    else
      (G_X9_isSameWay l4_110 l5_110 l2_110 l3_110 b117 b176).bind fun v262 =>
      (bck v262).bind fun v279 =>
      some v279
  else
    (G_X9_isSameWay l2_110 l3_110 l4_110 l5_110 b117 b176).bind fun v243 =>
    (bck v243).bind fun v246 =>
    some v246
def G_X9_isInTheWay (m0 : Mod) (p1 : Int32) (p2 : Int32) (p3 : Int32) (p4 : Int32) (p5 : Int32) : Option (Int32) :=
  (rd 40 (m_ax m0) p1).bind fun v5 =>
  ((if v5 = p2 then
      (rd 40 (m_ay m0) p1).bind fun v15 =>
      if v15 = p3 then
        some 1
      else
        (rd 40 (m_bx m0) p1).bind fun v25 =>
        if v25 = p2 then
          (rd 40 (m_by m0) p1).bind fun v35 =>
          if v35 = p3 then
            some 1
          else
            some 0
        else
          some 0
    else
      (rd 40 (m_bx m0) p1).bind fun v25 =>
      if v25 = p2 then
        (rd 40 (m_by m0) p1).bind fun v35 =>
        if v35 = p3 then
          some 1
        else
          some 0
      else
        some 0) : Option (Int32)).bind fun b7 =>
  (rd 40 (m_ax m0) p1).bind fun v52 =>
  ((if v52 = p4 then
      (rd 40 (m_ay m0) p1).bind fun v63 =>
      if v63 = p5 then
        some 1
      else
        (rd 40 (m_bx m0) p1).bind fun v74 =>
        if v74 = p4 then
          (rd 40 (m_by m0) p1).bind fun v85 =>
          if v85 = p5 then
            some 1
          else
            some 0
        else
          some 0
    else
      (rd 40 (m_bx m0) p1).bind fun v74 =>
      if v74 = p4 then
        (rd 40 (m_by m0) p1).bind fun v85 =>
        if v85 = p5 then
          some 1
        else
          some 0
      else
        some 0) : Option (Int32)).bind fun b55 =>
  if b7 = 0 then
    G_X9_isInTheWay_j110 m0 b55 b7 p1 p2 p3 p4 p5
  else
    if b55 = 0 then
      G_X9_isInTheWay_j110 m0 b55 b7 p1 p2 p3 p4 p5
    else
      some 1
abbrev rm_X9_isInTheWay : Room := { frames := 3, cells := 0, slots := 0, locals := 79 }
theorem hdS_X9_isInTheWay : yX9_isInTheWay.cls ≠ "java/lang/invoke/MethodHandle" ∧ yX9_isInTheWay.cls ≠ "java/lang/invoke/VarHandle" ∧ (parseMethodDescriptor yX9_isInTheWay.desc).map (fun d => d.parameters.length) = some 5 := by decide +kernel
theorem hdV_X9_isInTheWay : yX9_isInTheWay.cls = RX9 ∧ yX9_isInTheWay.cls ≠ "java/lang/invoke/MethodHandle" ∧ yX9_isInTheWay.cls ≠ "java/lang/invoke/VarHandle" ∧ (parseMethodDescriptor yX9_isInTheWay.desc).map (fun d => d.parameters.length) = some 5 := ⟨rfl, hdS_X9_isInTheWay⟩
set_option maxHeartbeats 4000000 in
set_option maxRecDepth 100000 in
theorem c_X9_isInTheWay (l : Launch) (dC : Nat → ClassId) (dI : Nat → Nat → Nat) (cy : Nat → ClassId) (a0 : Nat → Nat) (m0 : Mod) (p1 : Int32) (p2 : Int32) (p3 : Int32) (p4 : Int32) (p5 : Int32) (res : Int32) (h : G_X9_isInTheWay m0 p1 p2 p3 p4 p5 = some res) : CT l (dC, dI) (TY cy) yX9_isInTheWay cX9_isInTheWay 10 (some .boolean) rm_X9_isInTheWay [.ref (a0 0), .int p1, .int p2, .int p3, .int p4, .int p5] (wMod a0 cy m0) (wMod a0 cy m0) (some (.int res)) := sorry

def G_X9_areSeeing_L23   : Nat → Mod → Int32 → Int32 → Int32 → Int32 → Int32 → Int32 → Option (Int32 × Mod)
  | 0, _, _, _, _, _, _, _ => none
  | n23 + 1, m0_23, l6_23, l5_23, l1_23, l2_23, l3_23, l4_23 =>
    if m_sides m0_23 ≤ l6_23 then
      if l5_23 = 0 then
        some (0, m0_23)
      else
        (G_X9_x m0_23 l1_23 l2_23).bind fun v94 =>
        (G_X9_x m0_23 l3_23 l4_23).bind fun v101 =>
        (G_X9_y m0_23 l1_23 l2_23).bind fun v108 =>
        (G_X9_y m0_23 l3_23 l4_23).bind fun v115 =>
        (G_X9_whereNotOn m0_23 (v94 + v101) (v108 + v115)).bind fun v119 =>
        if v119 = 2 then
          some (1, m0_23)
        else
          some (0, m0_23)
    else
      ((if l5_23 = 0 then
          some 0
        else
          (G_X9_x m0_23 l1_23 l2_23).bind fun v43 =>
          (G_X9_y m0_23 l1_23 l2_23).bind fun v49 =>
          (G_X9_x m0_23 l3_23 l4_23).bind fun v56 =>
          (G_X9_y m0_23 l3_23 l4_23).bind fun v63 =>
          (G_X9_isInTheWay m0_23 l6_23 v43 v49 v56 v63).bind fun v66 =>
          if v66 = 0 then
            some 1
          else
            some 0) : Option (Int32)).bind fun b34 =>
      (G_X9_areSeeing_L23 n23) m0_23 (l6_23 + 1) b34 l1_23 l2_23 l3_23 l4_23
def G_X9_areSeeing_j13   (m0_13 : Mod) (l1_13 : Int32) (l2_13 : Int32) (l3_13 : Int32) (l4_13 : Int32) : Option (Int32 × Mod) :=
  (G_X9_findSides m0_13).bind fun v14 =>
  G_X9_areSeeing_L23 FU v14 0 1 l1_13 l2_13 l3_13 l4_13
def G_X9_areSeeing (m0 : Mod) (p1 : Int32) (p2 : Int32) (p3 : Int32) (p4 : Int32) : Option (Int32 × Mod) :=
  if p1 = p3 then
    if p2 = p4 then
      some (0, m0)
    else
      G_X9_areSeeing_j13 m0 p1 p2 p3 p4
  else
    G_X9_areSeeing_j13 m0 p1 p2 p3 p4
abbrev rm_X9_areSeeing : Room := { frames := 4, cells := 0, slots := 0, locals := 108 }
theorem hdS_X9_areSeeing : yX9_areSeeing.cls ≠ "java/lang/invoke/MethodHandle" ∧ yX9_areSeeing.cls ≠ "java/lang/invoke/VarHandle" ∧ (parseMethodDescriptor yX9_areSeeing.desc).map (fun d => d.parameters.length) = some 4 := by decide +kernel
theorem hdV_X9_areSeeing : yX9_areSeeing.cls = RX9 ∧ yX9_areSeeing.cls ≠ "java/lang/invoke/MethodHandle" ∧ yX9_areSeeing.cls ≠ "java/lang/invoke/VarHandle" ∧ (parseMethodDescriptor yX9_areSeeing.desc).map (fun d => d.parameters.length) = some 4 := ⟨rfl, hdS_X9_areSeeing⟩
set_option maxHeartbeats 4000000 in
set_option maxRecDepth 100000 in
theorem c_X9_areSeeing (l : Launch) (dC : Nat → ClassId) (dI : Nat → Nat → Nat) (cy : Nat → ClassId) (a0 : Nat → Nat) (m0 : Mod) (p1 : Int32) (p2 : Int32) (p3 : Int32) (p4 : Int32) (res : Int32 × Mod) (h : G_X9_areSeeing m0 p1 p2 p3 p4 = some res) : CT l (dC, dI) (TY cy) yX9_areSeeing cX9_areSeeing 7 (some .boolean) rm_X9_areSeeing [.ref (a0 0), .int p1, .int p2, .int p3, .int p4] (wMod a0 cy m0) (wMod a0 cy res.2) (some (.int res.1)) := sorry

def G_X9_isEar (m0 : Mod) (p1 : Int32) : Option (Int32 × Mod) :=
  (G_X9_many m0 0).bind fun v2 =>
  if v2 ≤ 3 then
    some (0, m0)
  else
    (G_X9_kind m0 0 p1).bind fun v12 =>
    if v12 = 1 then
      (G_X9_before m0 0 p1).bind fun v24 =>
      (G_X9_next m0 0 p1).bind fun v31 =>
      (G_X9_areSeeing m0 0 v24 0 v31).bind fun v34 =>
      if v34.1 = 0 then
        some (0, v34.2)
      else
        some (1, v34.2)
    else
      some (0, m0)
abbrev rm_X9_isEar : Room := { frames := 5, cells := 0, slots := 0, locals := 134 }
theorem hdS_X9_isEar : yX9_isEar.cls ≠ "java/lang/invoke/MethodHandle" ∧ yX9_isEar.cls ≠ "java/lang/invoke/VarHandle" ∧ (parseMethodDescriptor yX9_isEar.desc).map (fun d => d.parameters.length) = some 1 := by decide +kernel
theorem hdV_X9_isEar : yX9_isEar.cls = RX9 ∧ yX9_isEar.cls ≠ "java/lang/invoke/MethodHandle" ∧ yX9_isEar.cls ≠ "java/lang/invoke/VarHandle" ∧ (parseMethodDescriptor yX9_isEar.desc).map (fun d => d.parameters.length) = some 1 := ⟨rfl, hdS_X9_isEar⟩
set_option maxHeartbeats 4000000 in
set_option maxRecDepth 100000 in
theorem c_X9_isEar (l : Launch) (dC : Nat → ClassId) (dI : Nat → Nat → Nat) (cy : Nat → ClassId) (a0 : Nat → Nat) (m0 : Mod) (p1 : Int32) (res : Int32 × Mod) (h : G_X9_isEar m0 p1 = some res) : CT l (dC, dI) (TY cy) yX9_isEar cX9_isEar 2 (some .boolean) rm_X9_isEar [.ref (a0 0), .int p1] (wMod a0 cy m0) (wMod a0 cy res.2) (some (.int res.1)) := sorry

def G_X9_squareOf (m0 : Mod) (p1 : Int32) (p2 : Int32) : Option (Int32) :=
  (G_X9_x m0 0 p1).bind fun v3 =>
  (G_X9_x m0 0 p2).bind fun v9 =>
  (G_X9_y m0 0 p1).bind fun v17 =>
  (G_X9_y m0 0 p2).bind fun v23 =>
  some (((v3 - v9) * (v3 - v9)) + ((v17 - v23) * (v17 - v23)))
abbrev rm_X9_squareOf : Room := { frames := 1, cells := 0, slots := 0, locals := 22 }
theorem hdS_X9_squareOf : yX9_squareOf.cls ≠ "java/lang/invoke/MethodHandle" ∧ yX9_squareOf.cls ≠ "java/lang/invoke/VarHandle" ∧ (parseMethodDescriptor yX9_squareOf.desc).map (fun d => d.parameters.length) = some 2 := by decide +kernel
theorem hdV_X9_squareOf : yX9_squareOf.cls = RX9 ∧ yX9_squareOf.cls ≠ "java/lang/invoke/MethodHandle" ∧ yX9_squareOf.cls ≠ "java/lang/invoke/VarHandle" ∧ (parseMethodDescriptor yX9_squareOf.desc).map (fun d => d.parameters.length) = some 2 := ⟨rfl, hdS_X9_squareOf⟩
set_option maxHeartbeats 4000000 in
set_option maxRecDepth 100000 in
theorem c_X9_squareOf (l : Launch) (dC : Nat → ClassId) (dI : Nat → Nat → Nat) (cy : Nat → ClassId) (a0 : Nat → Nat) (m0 : Mod) (p1 : Int32) (p2 : Int32) (res : Int32) (h : G_X9_squareOf m0 p1 p2 = some res) : CT l (dC, dI) (TY cy) yX9_squareOf cX9_squareOf 5 (some .int) rm_X9_squareOf [.ref (a0 0), .int p1, .int p2] (wMod a0 cy m0) (wMod a0 cy m0) (some (.int res)) := sorry

def G_X9_hull_L103 (r87 : Int32 → Int32 → Int32 → Int32 → Option (Int32)) (m0 : Mod) : Nat → Int32 → Int32 → Int32 → Int32 → Int32 → Option (Int32)
  | 0, _, _, _, _, _ => none
  | n103 + 1, l6_103, l5_103, l3_103, l2_103, l1_103 =>
    (G_X9_many m0 0).bind fun v107 =>
    if v107 ≤ l6_103 then
      (G_X9_x m0 0 l3_103).bind fun v209 =>
      (G_X9_y m0 0 l5_103).bind fun v216 =>
      (G_X9_x m0 0 l5_103).bind fun v224 =>
      (G_X9_y m0 0 l3_103).bind fun v230 =>
      ((if l5_103 = l1_103 then
          some 0
        else
          some 1) : Option (Int32)).bind fun b242 =>
      r87 b242 l5_103 (l2_103 + ((v209 * v216) - (v224 * v230))) l1_103
    else
      (G_X9_x m0 0 l3_103).bind fun v116 =>
      (G_X9_y m0 0 l3_103).bind fun v122 =>
      (G_X9_x m0 0 l5_103).bind fun v129 =>
      (G_X9_y m0 0 l5_103).bind fun v136 =>
      (G_X9_x m0 0 l6_103).bind fun v143 =>
      (G_X9_y m0 0 l6_103).bind fun v150 =>
      (G_X9_turnOf v116 v122 v129 v136 v143 v150).bind fun v153 =>
      (G_X9_squareOf m0 l3_103 l6_103).bind fun v162 =>
      (G_X9_squareOf m0 l3_103 l5_103).bind fun v169 =>
      ((if v153 < 0 then
          some l6_103
        else
          if v153 = 0 then
            if v162 - v169 ≤ 0 then
              some l5_103
            else
              some l6_103
          else
            some l5_103) : Option (Int32)).bind fun b177 =>
      (G_X9_hull_L103 r87 m0 n103) (l6_103 + 1) b177 l3_103 l2_103 l1_103
def G_X9_hull_L87  (m0 : Mod) : Nat → Int32 → Int32 → Int32 → Int32 → Option (Int32)
  | 0, _, _, _, _ => none
  | n87 + 1, l4_87, l3_87, l2_87, l1_87 =>
    if l4_87 = 0 then
      (G_X9_size l2_87).bind fun v256 =>
      some v256
    else
      (G_X9_next m0 0 l3_87).bind fun v95 =>
      G_X9_hull_L103 (G_X9_hull_L87 m0 n87) m0 FU 0 v95 l3_87 l2_87 l1_87
def G_X9_hull_L4  (m0 : Mod) : Nat → Int32 → Int32 → Option (Int32)
  | 0, _, _ => none
  | n4 + 1, l2_4, l1_4 =>
    (G_X9_many m0 0).bind fun v7 =>
    if v7 ≤ l2_4 then
      G_X9_hull_L87 m0 FU 1 l1_4 0 l1_4
    else
      (G_X9_y m0 0 l2_4).bind fun v16 =>
      (G_X9_y m0 0 l1_4).bind fun v22 =>
      ((if v16 < v22 then
          some 1
        else
          (G_X9_y m0 0 l2_4).bind fun v31 =>
          (G_X9_y m0 0 l1_4).bind fun v37 =>
          if v31 = v37 then
            (G_X9_x m0 0 l2_4).bind fun v46 =>
            (G_X9_x m0 0 l1_4).bind fun v52 =>
            if v52 ≤ v46 then
              some 0
            else
              some 1
          else
            some 0) : Option (Int32)).bind fun b25 =>
      ((if b25 = 0 then
          some l1_4
        else
          some l2_4) : Option (Int32)).bind fun b65 =>
      (G_X9_hull_L4 m0 n4) (l2_4 + 1) b65
def G_X9_hull (m0 : Mod) : Option (Int32) :=
  G_X9_hull_L4 m0 FU 1 0
abbrev rm_X9_hull : Room := { frames := 2, cells := 0, slots := 0, locals := 46 }
theorem hdS_X9_hull : yX9_hull.cls ≠ "java/lang/invoke/MethodHandle" ∧ yX9_hull.cls ≠ "java/lang/invoke/VarHandle" ∧ (parseMethodDescriptor yX9_hull.desc).map (fun d => d.parameters.length) = some 0 := by decide +kernel
theorem hdV_X9_hull : yX9_hull.cls = RX9 ∧ yX9_hull.cls ≠ "java/lang/invoke/MethodHandle" ∧ yX9_hull.cls ≠ "java/lang/invoke/VarHandle" ∧ (parseMethodDescriptor yX9_hull.desc).map (fun d => d.parameters.length) = some 0 := ⟨rfl, hdS_X9_hull⟩
set_option maxHeartbeats 4000000 in
set_option maxRecDepth 100000 in
theorem c_X9_hull (l : Launch) (dC : Nat → ClassId) (dI : Nat → Nat → Nat) (cy : Nat → ClassId) (a0 : Nat → Nat) (m0 : Mod) (res : Int32) (h : G_X9_hull m0 = some res) : CT l (dC, dI) (TY cy) yX9_hull cX9_hull 9 (some .int) rm_X9_hull [.ref (a0 0)] (wMod a0 cy m0) (wMod a0 cy m0) (some (.int res)) := sorry

def G_X9_seenBy_L19 (r5 : Mod → Int32 → Int32 → Int32 → Int32 → Option (Int32 × Mod))  : Nat → Mod → Int32 → Int32 → Int32 → Int32 → Int32 → Option (Int32 × Mod)
  | 0, _, _, _, _, _, _ => none
  | n19 + 1, m0_19, l5_19, l4_19, l3_19, l1_19, l2_19 =>
    (G_X9_many m0_19 l4_19).bind fun v24 =>
    if v24 ≤ l5_19 then
      r5 m0_19 (l4_19 + 1) l3_19 l1_19 l2_19
    else
      (G_X9_areSeeing m0_19 l1_19 l2_19 l4_19 l5_19).bind fun v38 =>
      ((if v38.1 = 0 then
          some 0
        else
          some 1) : Option (Int32)).bind fun b41 =>
      (G_X9_seenBy_L19 r5 n19) v38.2 (l5_19 + 1) l4_19 (l3_19 + b41) l1_19 l2_19
def G_X9_seenBy_L5   : Nat → Mod → Int32 → Int32 → Int32 → Int32 → Option (Int32 × Mod)
  | 0, _, _, _, _, _ => none
  | n5 + 1, m0_5, l4_5, l3_5, l1_5, l2_5 =>
    (rd 85 (m_state m0_5) 0).bind fun v12 =>
    if v12 ≤ l4_5 then
      some (l3_5, m0_5)
    else
      G_X9_seenBy_L19 (G_X9_seenBy_L5 n5) FU m0_5 0 l4_5 l3_5 l1_5 l2_5
def G_X9_seenBy (m0 : Mod) (p1 : Int32) (p2 : Int32) : Option (Int32 × Mod) :=
  G_X9_seenBy_L5 FU m0 0 0 p1 p2
abbrev rm_X9_seenBy : Room := { frames := 5, cells := 0, slots := 0, locals := 134 }
theorem hdS_X9_seenBy : yX9_seenBy.cls ≠ "java/lang/invoke/MethodHandle" ∧ yX9_seenBy.cls ≠ "java/lang/invoke/VarHandle" ∧ (parseMethodDescriptor yX9_seenBy.desc).map (fun d => d.parameters.length) = some 2 := by decide +kernel
theorem hdV_X9_seenBy : yX9_seenBy.cls = RX9 ∧ yX9_seenBy.cls ≠ "java/lang/invoke/MethodHandle" ∧ yX9_seenBy.cls ≠ "java/lang/invoke/VarHandle" ∧ (parseMethodDescriptor yX9_seenBy.desc).map (fun d => d.parameters.length) = some 2 := ⟨rfl, hdS_X9_seenBy⟩
set_option maxHeartbeats 4000000 in
set_option maxRecDepth 100000 in
theorem c_X9_seenBy (l : Launch) (dC : Nat → ClassId) (dI : Nat → Nat → Nat) (cy : Nat → ClassId) (a0 : Nat → Nat) (m0 : Mod) (p1 : Int32) (p2 : Int32) (res : Int32 × Mod) (h : G_X9_seenBy m0 p1 p2 = some res) : CT l (dC, dI) (TY cy) yX9_seenBy cX9_seenBy 6 (some .int) rm_X9_seenBy [.ref (a0 0), .int p1, .int p2] (wMod a0 cy m0) (wMod a0 cy res.2) (some (.int res.1)) := sorry

def G_X9_about_L95   : Nat → Mod → Int32 → Int32 → Option (Int32 × Mod)
  | 0, _, _, _ => none
  | n95 + 1, m0_95, l3_95, l2_95 =>
    (rd 85 (m_state m0_95) 0).bind fun v101 =>
    if v101 ≤ l3_95 then
      some (l2_95, m0_95)
    else
      (G_X9_ringPoints m0_95 l3_95).bind fun v108 =>
      (G_X9_about_L95 n95) m0_95 (l3_95 + 1) (l2_95 + v108)
def G_X9_about_L140   : Nat → Mod → Int32 → Int32 → Option (Int32 × Mod)
  | 0, _, _, _ => none
  | n140 + 1, m0_140, l3_140, l2_140 =>
    (G_X9_many m0_140 0).bind fun v143 =>
    if v143 ≤ l3_140 then
      some (l2_140, m0_140)
    else
      (G_X9_isEar m0_140 l3_140).bind fun v152 =>
      ((if v152.1 = 0 then
          some 0
        else
          some 1) : Option (Int32)).bind fun b155 =>
      (G_X9_about_L140 n140) v152.2 (l3_140 + 1) (l2_140 + b155)
def G_X9_about_L193 (r180 : Mod → Int32 → Int32 → Option (Int32 × Mod))  : Nat → Mod → Int32 → Int32 → Int32 → Option (Int32 × Mod)
  | 0, _, _, _, _ => none
  | n193 + 1, m0_193, l4_193, l3_193, l2_193 =>
    (G_X9_many m0_193 l3_193).bind fun v197 =>
    if v197 ≤ l4_193 then
      r180 m0_193 (l3_193 + 1) l2_193
    else
      (G_X9_seenBy m0_193 l3_193 l4_193).bind fun v208 =>
      (G_X9_about_L193 r180 n193) v208.2 (l4_193 + 1) l3_193 (l2_193 + v208.1)
def G_X9_about_L180   : Nat → Mod → Int32 → Int32 → Option (Int32 × Mod)
  | 0, _, _, _ => none
  | n180 + 1, m0_180, l3_180, l2_180 =>
    (rd 85 (m_state m0_180) 0).bind fun v186 =>
    if v186 ≤ l3_180 then
      some (l2_180 / 2, m0_180)
    else
      G_X9_about_L193 (G_X9_about_L180 n180) FU m0_180 0 l3_180 l2_180
def G_X9_about (m0 : Mod) (p1 : Int32) : Option (Int32 × Mod) :=
  (G_X9_within p1 0 9).bind fun v5 =>
  ((if v5 = 0 then
      some 1
    else
      some 0) : Option (Int32)).bind fun b8 =>
  if p1 = 0 then
    (rd 85 (m_state (ms_thrown m0 b8)) 0).bind fun v81 =>
    some (v81, ms_thrown m0 b8)
  else
  if p1 = 1 then
    (G_X9_cornerMany (ms_thrown m0 b8)).bind fun v84 =>
    some (v84, ms_thrown m0 b8)
  else
  if p1 = 2 then
    (G_X9_area (ms_thrown m0 b8)).bind fun v89 =>
    some (v89, ms_thrown m0 b8)
  else
  if p1 = 3 then
    G_X9_about_L95 FU (ms_thrown m0 b8) 0 0
  else
  if p1 = 4 then
    (G_X9_inside (ms_thrown m0 b8)).bind fun v122 =>
    some (v122, ms_thrown m0 b8)
  else
  if p1 = 5 then
    (G_X9_kindsOf (ms_thrown m0 b8) 1).bind fun v128 =>
    some (v128, ms_thrown m0 b8)
  else
  if p1 = 6 then
    (G_X9_kindsOf (ms_thrown m0 b8) (-1)).bind fun v134 =>
    some (v134, ms_thrown m0 b8)
  else
  if p1 = 7 then
    G_X9_about_L140 FU (ms_thrown m0 b8) 0 0
  else
  if p1 = 8 then
    (G_X9_hull (ms_thrown m0 b8)).bind fun v174 =>
    some (v174, ms_thrown m0 b8)
  else
  if p1 = 9 then
    G_X9_about_L180 FU (ms_thrown m0 b8) 0 0
  else
  some (0, ms_thrown m0 b8)
abbrev rm_X9_about : Room := { frames := 7, cells := 0, slots := 0, locals := 170 }
theorem hdS_X9_about : yX9_about.cls ≠ "java/lang/invoke/MethodHandle" ∧ yX9_about.cls ≠ "java/lang/invoke/VarHandle" ∧ (parseMethodDescriptor yX9_about.desc).map (fun d => d.parameters.length) = some 1 := by decide +kernel
theorem hdV_X9_about : yX9_about.cls = RX9 ∧ yX9_about.cls ≠ "java/lang/invoke/MethodHandle" ∧ yX9_about.cls ≠ "java/lang/invoke/VarHandle" ∧ (parseMethodDescriptor yX9_about.desc).map (fun d => d.parameters.length) = some 1 := ⟨rfl, hdS_X9_about⟩
set_option maxHeartbeats 4000000 in
set_option maxRecDepth 100000 in
theorem c_X9_about (l : Launch) (dC : Nat → ClassId) (dI : Nat → Nat → Nat) (cy : Nat → ClassId) (a0 : Nat → Nat) (m0 : Mod) (p1 : Int32) (res : Int32 × Mod) (h : G_X9_about m0 p1 = some res) : CT l (dC, dI) (TY cy) yX9_about cX9_about 5 (some .int) rm_X9_about [.ref (a0 0), .int p1] (wMod a0 cy m0) (wMod a0 cy res.2) (some (.int res.1)) := sorry

def G_X9_copy_L3  (n0 : Nat) (n1 : Nat) (w0 : Nat → Int32) : Nat → (Nat → Int32) → Int32 → Int32 → Int32 → Option ((Nat → Int32))
  | 0, _, _, _, _ => none
  | n3 + 1, w1_3, l4_3, l1_3, l3_3 =>
    if 85 ≤ l4_3 then
      some w1_3
    else
      (rd n0 w0 (l1_3 + l4_3)).bind fun v20 =>
      (wr n1 w1_3 (l3_3 + l4_3) v20).bind fun g21 =>
      (G_X9_copy_L3 n0 n1 w0 n3) g21 (l4_3 + 1) l1_3 l3_3
def G_X9_copy (n0 : Nat) (n1 : Nat) (w0 : Nat → Int32) (w1 : Nat → Int32) (p1 : Int32) (p3 : Int32) : Option ((Nat → Int32)) :=
  G_X9_copy_L3 n0 n1 w0 FU w1 0 p1 p3
abbrev rm_X9_copy : Room := { frames := 0, cells := 0, slots := 0, locals := 0 }
theorem hdS_X9_copy : yX9_copy.cls ≠ "java/lang/invoke/MethodHandle" ∧ yX9_copy.cls ≠ "java/lang/invoke/VarHandle" ∧ (parseMethodDescriptor yX9_copy.desc).map (fun d => d.parameters.length) = some 4 := by decide +kernel
set_option maxHeartbeats 4000000 in
set_option maxRecDepth 100000 in
theorem c_X9_copy (l : Launch) (dC : Nat → ClassId) (dI : Nat → Nat → Nat) (cy : Nat → ClassId) (a0 : Nat) (a1 : Nat) (n0 : Nat) (n1 : Nat) (w0 : Nat → Int32) (w1 : Nat → Int32) (p1 : Int32) (p3 : Int32) (res : (Nat → Int32)) (h : G_X9_copy n0 n1 w0 w1 p1 p3 = some res) : CT l (dC, dI) (TY cy) yX9_copy cX9_copy 5 none rm_X9_copy [.ref a0, .int p1, .ref a1, .int p3] (wIA a0 cy n0 w0 ++ wIA a1 cy n1 w1) (wIA a0 cy n0 w0 ++ wIA a1 cy n1 res) none := sorry

def G_X9_begin (m0 : Mod) : Option (Mod) :=
  (G_X9_copy 85 85 (m_state m0) (m_kept m0) 0 0).bind fun v10 =>
  some (ms_kept m0 v10)
abbrev rm_X9_begin : Room := { frames := 1, cells := 0, slots := 0, locals := 24 }
theorem hdS_X9_begin : yX9_begin.cls ≠ "java/lang/invoke/MethodHandle" ∧ yX9_begin.cls ≠ "java/lang/invoke/VarHandle" ∧ (parseMethodDescriptor yX9_begin.desc).map (fun d => d.parameters.length) = some 0 := by decide +kernel
theorem hdV_X9_begin : yX9_begin.cls = RX9 ∧ yX9_begin.cls ≠ "java/lang/invoke/MethodHandle" ∧ yX9_begin.cls ≠ "java/lang/invoke/VarHandle" ∧ (parseMethodDescriptor yX9_begin.desc).map (fun d => d.parameters.length) = some 0 := ⟨rfl, hdS_X9_begin⟩
set_option maxHeartbeats 4000000 in
set_option maxRecDepth 100000 in
theorem c_X9_begin (l : Launch) (dC : Nat → ClassId) (dI : Nat → Nat → Nat) (cy : Nat → ClassId) (a0 : Nat → Nat) (m0 : Mod) (res : Mod) (h : G_X9_begin m0 = some res) : CT l (dC, dI) (TY cy) yX9_begin cX9_begin 1 none rm_X9_begin [.ref (a0 0)] (wMod a0 cy m0) (wMod a0 cy res) none := sorry

def G_X9_setCorner (m0 : Mod) (p1 : Int32) (p2 : Int32) (p3 : Int32) (p4 : Int32) : Option (Mod) :=
  (wr 85 (m_state m0) ((5 + (20 * p1)) + (2 * p2)) p3).bind fun g15 =>
  (some (ms_state m0 g15)).bind fun z0_34 =>
  (wr 85 (m_state z0_34) (((5 + (20 * p1)) + (2 * p2)) + 1) p4).bind fun g34 =>
  some (ms_state z0_34 g34)
abbrev rm_X9_setCorner : Room := { frames := 0, cells := 0, slots := 0, locals := 0 }
theorem hdS_X9_setCorner : yX9_setCorner.cls ≠ "java/lang/invoke/MethodHandle" ∧ yX9_setCorner.cls ≠ "java/lang/invoke/VarHandle" ∧ (parseMethodDescriptor yX9_setCorner.desc).map (fun d => d.parameters.length) = some 4 := by decide +kernel
theorem hdV_X9_setCorner : yX9_setCorner.cls = RX9 ∧ yX9_setCorner.cls ≠ "java/lang/invoke/MethodHandle" ∧ yX9_setCorner.cls ≠ "java/lang/invoke/VarHandle" ∧ (parseMethodDescriptor yX9_setCorner.desc).map (fun d => d.parameters.length) = some 4 := ⟨rfl, hdS_X9_setCorner⟩
set_option maxHeartbeats 4000000 in
set_option maxRecDepth 100000 in
theorem c_X9_setCorner (l : Launch) (dC : Nat → ClassId) (dI : Nat → Nat → Nat) (cy : Nat → ClassId) (a0 : Nat → Nat) (m0 : Mod) (p1 : Int32) (p2 : Int32) (p3 : Int32) (p4 : Int32) (res : Mod) (h : G_X9_setCorner m0 p1 p2 p3 p4 = some res) : CT l (dC, dI) (TY cy) yX9_setCorner cX9_setCorner 5 none rm_X9_setCorner [.ref (a0 0), .int p1, .int p2, .int p3, .int p4] (wMod a0 cy m0) (wMod a0 cy res) none := sorry

def G_X9_isNext (m0 : Mod) (p1 : Int32) (p2 : Int32) : Option (Int32) :=
  (rd 40 (m_ringOf m0) p1).bind fun v5 =>
  (rd 40 (m_ringOf m0) p2).bind fun v11 =>
  if v5 = v11 then
    (rd 40 (m_ringOf m0) p1).bind fun v21 =>
    (rd 40 (m_cornerOf m0) p1).bind fun v27 =>
    (G_X9_next m0 v21 v27).bind fun v28 =>
    (rd 40 (m_cornerOf m0) p2).bind fun v36 =>
    if v28 = v36 then
      some 1
    else
      some 0
  else
    some 0
abbrev rm_X9_isNext : Room := { frames := 2, cells := 0, slots := 0, locals := 43 }
theorem hdS_X9_isNext : yX9_isNext.cls ≠ "java/lang/invoke/MethodHandle" ∧ yX9_isNext.cls ≠ "java/lang/invoke/VarHandle" ∧ (parseMethodDescriptor yX9_isNext.desc).map (fun d => d.parameters.length) = some 2 := by decide +kernel
theorem hdV_X9_isNext : yX9_isNext.cls = RX9 ∧ yX9_isNext.cls ≠ "java/lang/invoke/MethodHandle" ∧ yX9_isNext.cls ≠ "java/lang/invoke/VarHandle" ∧ (parseMethodDescriptor yX9_isNext.desc).map (fun d => d.parameters.length) = some 2 := ⟨rfl, hdS_X9_isNext⟩
set_option maxHeartbeats 4000000 in
set_option maxRecDepth 100000 in
theorem c_X9_isNext (l : Launch) (dC : Nat → ClassId) (dI : Nat → Nat → Nat) (cy : Nat → ClassId) (a0 : Nat → Nat) (m0 : Mod) (p1 : Int32) (p2 : Int32) (res : Int32) (h : G_X9_isNext m0 p1 p2 = some res) : CT l (dC, dI) (TY cy) yX9_isNext cX9_isNext 3 (some .boolean) rm_X9_isNext [.ref (a0 0), .int p1, .int p2] (wMod a0 cy m0) (wMod a0 cy m0) (some (.int res)) := sorry

def G_X9_areTouching (m0 : Mod) (p1 : Int32) (p2 : Int32) : Option (Int32) :=
  (G_X9_isNext m0 p1 p2).bind fun v3 =>
  if v3 = 0 then
    (G_X9_isNext m0 p2 p1).bind fun v52 =>
    if v52 = 0 then
      (rd 40 (m_ax m0) p2).bind fun v105 =>
      (rd 40 (m_ay m0) p2).bind fun v111 =>
      (rd 40 (m_bx m0) p2).bind fun v117 =>
      (rd 40 (m_by m0) p2).bind fun v123 =>
      (G_X9_isMet m0 p1 v105 v111 v117 v123).bind fun v124 =>
      (bck v124).bind fun v127 =>
      some v127
    else
      (rd 40 (m_bx m0) p2).bind fun v63 =>
      (rd 40 (m_by m0) p2).bind fun v69 =>
      (rd 40 (m_ax m0) p2).bind fun v75 =>
      (rd 40 (m_ay m0) p2).bind fun v81 =>
      (rd 40 (m_bx m0) p1).bind fun v87 =>
      (rd 40 (m_by m0) p1).bind fun v93 =>
      (G_X9_isSameWay v63 v69 v75 v81 v87 v93).bind fun v94 =>
      (bck v94).bind fun v97 =>
      some v97
  else
    (rd 40 (m_bx m0) p1).bind fun v14 =>
    (rd 40 (m_by m0) p1).bind fun v20 =>
    (rd 40 (m_ax m0) p1).bind fun v26 =>
    (rd 40 (m_ay m0) p1).bind fun v32 =>
    (rd 40 (m_bx m0) p2).bind fun v38 =>
    (rd 40 (m_by m0) p2).bind fun v44 =>
    (G_X9_isSameWay v14 v20 v26 v32 v38 v44).bind fun v45 =>
    (bck v45).bind fun v48 =>
    some v48
abbrev rm_X9_areTouching : Room := { frames := 3, cells := 0, slots := 0, locals := 79 }
theorem hdS_X9_areTouching : yX9_areTouching.cls ≠ "java/lang/invoke/MethodHandle" ∧ yX9_areTouching.cls ≠ "java/lang/invoke/VarHandle" ∧ (parseMethodDescriptor yX9_areTouching.desc).map (fun d => d.parameters.length) = some 2 := by decide +kernel
theorem hdV_X9_areTouching : yX9_areTouching.cls = RX9 ∧ yX9_areTouching.cls ≠ "java/lang/invoke/MethodHandle" ∧ yX9_areTouching.cls ≠ "java/lang/invoke/VarHandle" ∧ (parseMethodDescriptor yX9_areTouching.desc).map (fun d => d.parameters.length) = some 2 := ⟨rfl, hdS_X9_areTouching⟩
set_option maxHeartbeats 4000000 in
set_option maxRecDepth 100000 in
theorem c_X9_areTouching (l : Launch) (dC : Nat → ClassId) (dI : Nat → Nat → Nat) (cy : Nat → ClassId) (a0 : Nat → Nat) (m0 : Mod) (p1 : Int32) (p2 : Int32) (res : Int32) (h : G_X9_areTouching m0 p1 p2 = some res) : CT l (dC, dI) (TY cy) yX9_areTouching cX9_areTouching 3 (some .boolean) rm_X9_areTouching [.ref (a0 0), .int p1, .int p2] (wMod a0 cy m0) (wMod a0 cy m0) (some (.int res)) := sorry

def G_X9_isRule5_L28 (r16 : Int32 → Int32 → Int32 → Option (Int32)) (m0 : Mod) : Nat → Int32 → Int32 → Int32 → Int32 → Option (Int32)
  | 0, _, _, _, _ => none
  | n28 + 1, l4_28, l3_28, l2_28, l1_28 =>
    (rd 85 (m_state m0) 0).bind fun v35 =>
    if v35 ≤ l4_28 then
      r16 (l3_28 + 1) l2_28 l1_28
    else
      ((if l1_28 = 0 then
          some 0
        else
          if l4_28 = l2_28 then
            some 1
          else
            (G_X9_x m0 l2_28 l3_28).bind fun v56 =>
            (G_X9_y m0 l2_28 l3_28).bind fun v64 =>
            (G_X9_surrounds m0 l4_28 (2 * v56) (2 * v64)).bind fun v68 =>
            ((if l4_28 = 0 then
                some 1
              else
                some 0) : Option (Int32)).bind fun b73 =>
            if v68 = b73 then
              some 1
            else
              some 0) : Option (Int32)).bind fun b40 =>
      (G_X9_isRule5_L28 r16 m0 n28) (l4_28 + 1) l3_28 l2_28 b40
def G_X9_isRule5_L16 (r4 : Int32 → Int32 → Option (Int32)) (m0 : Mod) : Nat → Int32 → Int32 → Int32 → Option (Int32)
  | 0, _, _, _ => none
  | n16 + 1, l3_16, l2_16, l1_16 =>
    (G_X9_many m0 l2_16).bind fun v19 =>
    if v19 ≤ l3_16 then
      r4 (l2_16 + 1) l1_16
    else
      G_X9_isRule5_L28 (G_X9_isRule5_L16 r4 m0 n16) m0 FU 0 l3_16 l2_16 l1_16
def G_X9_isRule5_L4  (m0 : Mod) : Nat → Int32 → Int32 → Option (Int32)
  | 0, _, _ => none
  | n4 + 1, l2_4, l1_4 =>
    (rd 85 (m_state m0) 0).bind fun v10 =>
    if v10 ≤ l2_4 then
      (bck l1_4).bind fun v109 =>
      some v109
    else
      G_X9_isRule5_L16 (G_X9_isRule5_L4 m0 n4) m0 FU 0 l2_4 l1_4
def G_X9_isRule5 (m0 : Mod) : Option (Int32) :=
  G_X9_isRule5_L4 m0 FU 1 1
abbrev rm_X9_isRule5 : Room := { frames := 3, cells := 0, slots := 0, locals := 74 }
theorem hdS_X9_isRule5 : yX9_isRule5.cls ≠ "java/lang/invoke/MethodHandle" ∧ yX9_isRule5.cls ≠ "java/lang/invoke/VarHandle" ∧ (parseMethodDescriptor yX9_isRule5.desc).map (fun d => d.parameters.length) = some 0 := by decide +kernel
theorem hdV_X9_isRule5 : yX9_isRule5.cls = RX9 ∧ yX9_isRule5.cls ≠ "java/lang/invoke/MethodHandle" ∧ yX9_isRule5.cls ≠ "java/lang/invoke/VarHandle" ∧ (parseMethodDescriptor yX9_isRule5.desc).map (fun d => d.parameters.length) = some 0 := ⟨rfl, hdS_X9_isRule5⟩
set_option maxHeartbeats 4000000 in
set_option maxRecDepth 100000 in
theorem c_X9_isRule5 (l : Launch) (dC : Nat → ClassId) (dI : Nat → Nat → Nat) (cy : Nat → ClassId) (a0 : Nat → Nat) (m0 : Mod) (res : Int32) (h : G_X9_isRule5 m0 = some res) : CT l (dC, dI) (TY cy) yX9_isRule5 cX9_isRule5 5 (some .boolean) rm_X9_isRule5 [.ref (a0 0)] (wMod a0 cy m0) (wMod a0 cy m0) (some (.int res)) := sorry

def G_X9_broken_L117 (r106 : Mod → Int32 → Int32 → Int32 → Option (Int32 × Mod))  : Nat → Mod → Int32 → Int32 → Int32 → Int32 → Option (Int32 × Mod)
  | 0, _, _, _, _, _ => none
  | n117 + 1, m0_117, l4_117, l3_117, l2_117, l1_117 =>
    if l3_117 ≤ l4_117 then
      r106 m0_117 (l3_117 + 1) l2_117 l1_117
    else
      ((if l1_117 = 0 then
          (rd 40 (m_ax m0_117) l4_117).bind fun v135 =>
          (rd 40 (m_ay m0_117) l4_117).bind fun v142 =>
          (rd 40 (m_bx m0_117) l4_117).bind fun v149 =>
          (rd 40 (m_by m0_117) l4_117).bind fun v156 =>
          (G_X9_isCrossed m0_117 l3_117 v135 v142 v149 v156).bind fun v157 =>
          if v157 = 0 then
            some 0
          else
            some 1
        else
          some 1) : Option (Int32)).bind fun b124 =>
      ((if l2_117 = 0 then
          (G_X9_areTouching m0_117 l3_117 l4_117).bind fun v177 =>
          if v177 = 0 then
            some 0
          else
            some 1
        else
          some 1) : Option (Int32)).bind fun b170 =>
      (G_X9_broken_L117 r106 n117) m0_117 (l4_117 + 1) l3_117 b170 b124
def G_X9_broken_L106   : Nat → Mod → Int32 → Int32 → Int32 → Option (Int32 × Mod)
  | 0, _, _, _, _ => none
  | n106 + 1, m0_106, l3_106, l2_106, l1_106 =>
    if m_sides m0_106 ≤ l3_106 then
      if l1_106 = 0 then
        if l2_106 = 0 then
          (G_X9_isRule5 m0_106).bind fun v218 =>
          if v218 = 0 then
            some (5, m0_106)
          else
            some (0, m0_106)
        else
          some (4, m0_106)
      else
        some (3, m0_106)
    else
      G_X9_broken_L117 (G_X9_broken_L106 n106) FU m0_106 0 l3_106 l2_106 l1_106
def G_X9_broken_j94 (r54 : Mod → Int32 → Option (Int32 × Mod))  (m0_94 : Mod) (l1_94 : Int32) : Option (Int32 × Mod) :=
  r54 m0_94 (l1_94 + 1)
def G_X9_broken_L54   : Nat → Mod → Int32 → Option (Int32 × Mod)
  | 0, _, _ => none
  | n54 + 1, m0_54, l1_54 =>
    if m_sides m0_54 ≤ l1_54 then
      G_X9_broken_L106 FU m0_54 0 0 0
    else
      (rd 40 (m_ax m0_54) l1_54).bind fun v67 =>
      (rd 40 (m_bx m0_54) l1_54).bind fun v73 =>
      if v67 = v73 then
        (rd 40 (m_ay m0_54) l1_54).bind fun v82 =>
        (rd 40 (m_by m0_54) l1_54).bind fun v88 =>
        if v82 = v88 then
          some (2, m0_54)
        else
          G_X9_broken_j94 (G_X9_broken_L54 n54) m0_54 l1_54
      else
        G_X9_broken_j94 (G_X9_broken_L54 n54) m0_54 l1_54
def G_X9_broken_L6   : Nat → Mod → Int32 → Option (Int32 × Mod)
  | 0, _, _ => none
  | n6 + 1, m0_6, l1_6 =>
    if m_sides m0_6 ≤ l1_6 then
      G_X9_broken_L54 FU m0_6 0
    else
      (rd 40 (m_ax m0_6) l1_6).bind fun v19 =>
      (G_X9_within v19 0 15).bind fun v23 =>
      if v23 = 0 then
        some (1, m0_6)
      else
        (rd 40 (m_ay m0_6) l1_6).bind fun v34 =>
        (G_X9_within v34 0 15).bind fun v38 =>
        if v38 = 0 then
          some (1, m0_6)
        else
          (G_X9_broken_L6 n6) m0_6 (l1_6 + 1)
def G_X9_broken (m0 : Mod) : Option (Int32 × Mod) :=
  (G_X9_findSides m0).bind fun v1 =>
  G_X9_broken_L6 FU v1 0
abbrev rm_X9_broken : Room := { frames := 4, cells := 0, slots := 0, locals := 101 }
theorem hdS_X9_broken : yX9_broken.cls ≠ "java/lang/invoke/MethodHandle" ∧ yX9_broken.cls ≠ "java/lang/invoke/VarHandle" ∧ (parseMethodDescriptor yX9_broken.desc).map (fun d => d.parameters.length) = some 0 := by decide +kernel
theorem hdV_X9_broken : yX9_broken.cls = RX9 ∧ yX9_broken.cls ≠ "java/lang/invoke/MethodHandle" ∧ yX9_broken.cls ≠ "java/lang/invoke/VarHandle" ∧ (parseMethodDescriptor yX9_broken.desc).map (fun d => d.parameters.length) = some 0 := ⟨rfl, hdS_X9_broken⟩
set_option maxHeartbeats 4000000 in
set_option maxRecDepth 100000 in
theorem c_X9_broken (l : Launch) (dC : Nat → ClassId) (dI : Nat → Nat → Nat) (cy : Nat → ClassId) (a0 : Nat → Nat) (m0 : Mod) (res : Int32 × Mod) (h : G_X9_broken m0 = some res) : CT l (dC, dI) (TY cy) yX9_broken cX9_broken 5 (some .int) rm_X9_broken [.ref (a0 0)] (wMod a0 cy m0) (wMod a0 cy res.2) (some (.int res.1)) := sorry

def G_X9_end_j30   (m0_30 : Mod) (l1_30 : Int32) : Option (Int32 × Mod) :=
  if l1_30 = 0 then
    some (2, m0_30)
  else
    some (0, m0_30)
def G_X9_end (m0 : Mod) : Option (Int32 × Mod) :=
  (G_X9_broken m0).bind fun v1 =>
  ((if v1.1 = 0 then
      some 1
    else
      some 0) : Option (Int32)).bind fun b4 =>
  if b4 = 0 then
    (G_X9_copy 85 85 (m_kept v1.2) (m_state v1.2) 0 0).bind fun v27 =>
    G_X9_end_j30 (ms_state v1.2 v27) b4
  else
    G_X9_end_j30 v1.2 b4
abbrev rm_X9_end : Room := { frames := 5, cells := 0, slots := 0, locals := 125 }
theorem hdS_X9_end : yX9_end.cls ≠ "java/lang/invoke/MethodHandle" ∧ yX9_end.cls ≠ "java/lang/invoke/VarHandle" ∧ (parseMethodDescriptor yX9_end.desc).map (fun d => d.parameters.length) = some 0 := by decide +kernel
theorem hdV_X9_end : yX9_end.cls = RX9 ∧ yX9_end.cls ≠ "java/lang/invoke/MethodHandle" ∧ yX9_end.cls ≠ "java/lang/invoke/VarHandle" ∧ (parseMethodDescriptor yX9_end.desc).map (fun d => d.parameters.length) = some 0 := ⟨rfl, hdS_X9_end⟩
set_option maxHeartbeats 4000000 in
set_option maxRecDepth 100000 in
theorem c_X9_end (l : Launch) (dC : Nat → ClassId) (dI : Nat → Nat → Nat) (cy : Nat → ClassId) (a0 : Nat → Nat) (m0 : Mod) (res : Int32 × Mod) (h : G_X9_end m0 = some res) : CT l (dC, dI) (TY cy) yX9_end cX9_end 2 (some .int) rm_X9_end [.ref (a0 0)] (wMod a0 cy m0) (wMod a0 cy res.2) (some (.int res.1)) := sorry

def G_X9_tryHole (m0 : Mod) (p1 : Int32) (p2 : Int32) : Option (Int32 × Mod) :=
  (G_X9_within p1 0 14).bind fun v4 =>
  if v4 = 0 then
    some (1, m0)
  else
    (G_X9_within p2 0 14).bind fun v14 =>
    if v14 = 0 then
      some (1, m0)
    else
      (rd 85 (m_state m0) 0).bind fun v27 =>
      if v27 = 4 then
        some (2, m0)
      else
        (G_X9_begin m0).bind fun v37 =>
        (rd 85 (m_state v37) 0).bind fun v46 =>
        (wr 85 (m_state v37) 0 (v46 + 1)).bind fun g49 =>
        (some (ms_state v37 g49)).bind fun z0_58 =>
        (wr 85 (m_state z0_58) (1 + v27) 3).bind fun g58 =>
        (G_X9_setCorner (ms_state z0_58 g58) v27 0 p1 p2).bind fun v64 =>
        (G_X9_setCorner v64 v27 1 (p1 + 1) p2).bind fun v74 =>
        (G_X9_setCorner v74 v27 2 p1 (p2 + 1)).bind fun v84 =>
        (G_X9_end v84).bind fun v88 =>
        some (v88.1, v88.2)
abbrev rm_X9_tryHole : Room := { frames := 6, cells := 0, slots := 0, locals := 146 }
theorem hdS_X9_tryHole : yX9_tryHole.cls ≠ "java/lang/invoke/MethodHandle" ∧ yX9_tryHole.cls ≠ "java/lang/invoke/VarHandle" ∧ (parseMethodDescriptor yX9_tryHole.desc).map (fun d => d.parameters.length) = some 2 := by decide +kernel
theorem hdV_X9_tryHole : yX9_tryHole.cls = RX9 ∧ yX9_tryHole.cls ≠ "java/lang/invoke/MethodHandle" ∧ yX9_tryHole.cls ≠ "java/lang/invoke/VarHandle" ∧ (parseMethodDescriptor yX9_tryHole.desc).map (fun d => d.parameters.length) = some 2 := ⟨rfl, hdS_X9_tryHole⟩
set_option maxHeartbeats 4000000 in
set_option maxRecDepth 100000 in
theorem c_X9_tryHole (l : Launch) (dC : Nat → ClassId) (dI : Nat → Nat → Nat) (cy : Nat → ClassId) (a0 : Nat → Nat) (m0 : Mod) (p1 : Int32) (p2 : Int32) (res : Int32 × Mod) (h : G_X9_tryHole m0 p1 p2 = some res) : CT l (dC, dI) (TY cy) yX9_tryHole cX9_tryHole 4 (some .int) rm_X9_tryHole [.ref (a0 0), .int p1, .int p2] (wMod a0 cy m0) (wMod a0 cy res.2) (some (.int res.1)) := sorry

def G_X9_remember_j49   (m0_49 : Mod) : Option (Mod) :=
  (G_X9_copy 85 1190 (m_kept m0_49) (m_history m0_49) 0 ((m_remembered m0_49) * 85)).bind fun v65 =>
  (some (ms_history m0_49 v65)).bind fun z0_75 =>
  some (ms_remembered z0_75 ((m_remembered (ms_history m0_49 v65)) + 1))
def G_X9_remember_L11   : Nat → Mod → Int32 → Option (Mod)
  | 0, _, _ => none
  | n11 + 1, m0_11, l1_11 =>
    if 1105 ≤ l1_11 then
      G_X9_remember_j49 (ms_remembered m0_11 ((m_remembered m0_11) - 1))
    else
      (rd 1190 (m_history m0_11) (l1_11 + 85)).bind fun v31 =>
      (wr 1190 (m_history m0_11) l1_11 v31).bind fun g32 =>
      (G_X9_remember_L11 n11) (ms_history m0_11 g32) (l1_11 + 1)
def G_X9_remember (m0 : Mod) : Option (Mod) :=
  if m_remembered m0 = 14 then
    G_X9_remember_L11 FU m0 0
  else
    G_X9_remember_j49 m0
abbrev rm_X9_remember : Room := { frames := 1, cells := 0, slots := 0, locals := 24 }
theorem hdS_X9_remember : yX9_remember.cls ≠ "java/lang/invoke/MethodHandle" ∧ yX9_remember.cls ≠ "java/lang/invoke/VarHandle" ∧ (parseMethodDescriptor yX9_remember.desc).map (fun d => d.parameters.length) = some 0 := by decide +kernel
theorem hdV_X9_remember : yX9_remember.cls = RX9 ∧ yX9_remember.cls ≠ "java/lang/invoke/MethodHandle" ∧ yX9_remember.cls ≠ "java/lang/invoke/VarHandle" ∧ (parseMethodDescriptor yX9_remember.desc).map (fun d => d.parameters.length) = some 0 := ⟨rfl, hdS_X9_remember⟩
set_option maxHeartbeats 4000000 in
set_option maxRecDepth 100000 in
theorem c_X9_remember (l : Launch) (dC : Nat → ClassId) (dI : Nat → Nat → Nat) (cy : Nat → ClassId) (a0 : Nat → Nat) (m0 : Mod) (res : Mod) (h : G_X9_remember m0 = some res) : CT l (dC, dI) (TY cy) yX9_remember cX9_remember 2 none rm_X9_remember [.ref (a0 0)] (wMod a0 cy m0) (wMod a0 cy res) none := sorry

def G_X9_addHole (m0 : Mod) (p1 : Int32) (p2 : Int32) : Option (Int32 × Mod) :=
  (G_X9_tryHole m0 p1 p2).bind fun v4 =>
  if m_thrown (ms_thrown v4.2 v4.1) ≤ 0 then
    (G_X9_remember (ms_thrown v4.2 v4.1)).bind fun v20 =>
    (rd 85 (m_state v20) 0).bind fun v28 =>
    some (v28 - 1, v20)
  else
    some (0, ms_thrown v4.2 v4.1)
abbrev rm_X9_addHole : Room := { frames := 7, cells := 0, slots := 0, locals := 169 }
theorem hdS_X9_addHole : yX9_addHole.cls ≠ "java/lang/invoke/MethodHandle" ∧ yX9_addHole.cls ≠ "java/lang/invoke/VarHandle" ∧ (parseMethodDescriptor yX9_addHole.desc).map (fun d => d.parameters.length) = some 2 := by decide +kernel
theorem hdV_X9_addHole : yX9_addHole.cls = RX9 ∧ yX9_addHole.cls ≠ "java/lang/invoke/MethodHandle" ∧ yX9_addHole.cls ≠ "java/lang/invoke/VarHandle" ∧ (parseMethodDescriptor yX9_addHole.desc).map (fun d => d.parameters.length) = some 2 := ⟨rfl, hdS_X9_addHole⟩
set_option maxHeartbeats 4000000 in
set_option maxRecDepth 100000 in
theorem c_X9_addHole (l : Launch) (dC : Nat → ClassId) (dI : Nat → Nat → Nat) (cy : Nat → ClassId) (a0 : Nat → Nat) (m0 : Mod) (p1 : Int32) (p2 : Int32) (res : Int32 × Mod) (h : G_X9_addHole m0 p1 p2 = some res) : CT l (dC, dI) (TY cy) yX9_addHole cX9_addHole 3 (some .int) rm_X9_addHole [.ref (a0 0), .int p1, .int p2] (wMod a0 cy m0) (wMod a0 cy res.2) (some (.int res.1)) := sorry

def G_X9_append (m0 : Mod) (p1 : Int32) : Option (Int32 × Mod) :=
  (G_X9_within p1 0 255).bind fun v6 =>
  ((if v6 = 0 then
      some 1
    else
      if m_textLength m0 = 90 then
        some 2
      else
        some 0) : Option (Int32)).bind fun b9 =>
  if m_thrown (ms_thrown m0 b9) ≤ 0 then
    (some (ms_thrown m0 b9)).bind fun z0_51 =>
    (wr 90 (m_text z0_51) (m_textLength (ms_thrown m0 b9)) p1).bind fun g51 =>
    (some (ms_text z0_51 g51)).bind fun z0_59 =>
    some (m_textLength (ms_textLength z0_59 ((m_textLength (ms_text z0_51 g51)) + 1)), ms_textLength z0_59 ((m_textLength (ms_text z0_51 g51)) + 1))
  else
    some (0, ms_thrown m0 b9)
abbrev rm_X9_append : Room := { frames := 1, cells := 0, slots := 0, locals := 22 }
theorem hdS_X9_append : yX9_append.cls ≠ "java/lang/invoke/MethodHandle" ∧ yX9_append.cls ≠ "java/lang/invoke/VarHandle" ∧ (parseMethodDescriptor yX9_append.desc).map (fun d => d.parameters.length) = some 1 := by decide +kernel
theorem hdV_X9_append : yX9_append.cls = RX9 ∧ yX9_append.cls ≠ "java/lang/invoke/MethodHandle" ∧ yX9_append.cls ≠ "java/lang/invoke/VarHandle" ∧ (parseMethodDescriptor yX9_append.desc).map (fun d => d.parameters.length) = some 1 := ⟨rfl, hdS_X9_append⟩
set_option maxHeartbeats 4000000 in
set_option maxRecDepth 100000 in
theorem c_X9_append (l : Launch) (dC : Nat → ClassId) (dI : Nat → Nat → Nat) (cy : Nat → ClassId) (a0 : Nat → Nat) (m0 : Mod) (p1 : Int32) (res : Int32 × Mod) (h : G_X9_append m0 p1 = some res) : CT l (dC, dI) (TY cy) yX9_append cX9_append 2 (some .int) rm_X9_append [.ref (a0 0), .int p1] (wMod a0 cy m0) (wMod a0 cy res.2) (some (.int res.1)) := sorry

def G_X9_stepX (p0 : Int32) : Option (Int32) :=
  if p0 = 0 then
    some 1
  else
    if p0 = 2 then
      some (-1)
    else
      some 0
abbrev rm_X9_stepX : Room := { frames := 0, cells := 0, slots := 0, locals := 0 }
theorem hdS_X9_stepX : yX9_stepX.cls ≠ "java/lang/invoke/MethodHandle" ∧ yX9_stepX.cls ≠ "java/lang/invoke/VarHandle" ∧ (parseMethodDescriptor yX9_stepX.desc).map (fun d => d.parameters.length) = some 1 := by decide +kernel
set_option maxHeartbeats 4000000 in
set_option maxRecDepth 100000 in
theorem c_X9_stepX (l : Launch) (dC : Nat → ClassId) (dI : Nat → Nat → Nat) (cy : Nat → ClassId)  (p0 : Int32) (res : Int32) (h : G_X9_stepX p0 = some res) : CT l (dC, dI) (TY cy) yX9_stepX cX9_stepX 1 (some .int) rm_X9_stepX [.int p0] ([]) ([]) (some (.int res)) := sorry

def G_X9_stepY (p0 : Int32) : Option (Int32) :=
  if p0 = 1 then
    some 1
  else
    if p0 = 3 then
      some (-1)
    else
      some 0
abbrev rm_X9_stepY : Room := { frames := 0, cells := 0, slots := 0, locals := 0 }
theorem hdS_X9_stepY : yX9_stepY.cls ≠ "java/lang/invoke/MethodHandle" ∧ yX9_stepY.cls ≠ "java/lang/invoke/VarHandle" ∧ (parseMethodDescriptor yX9_stepY.desc).map (fun d => d.parameters.length) = some 1 := by decide +kernel
set_option maxHeartbeats 4000000 in
set_option maxRecDepth 100000 in
theorem c_X9_stepY (l : Launch) (dC : Nat → ClassId) (dI : Nat → Nat → Nat) (cy : Nat → ClassId)  (p0 : Int32) (res : Int32) (h : G_X9_stepY p0 = some res) : CT l (dC, dI) (TY cy) yX9_stepY cX9_stepY 1 (some .int) rm_X9_stepY [.int p0] ([]) ([]) (some (.int res)) := sorry

def G_X9_isRing (m0 : Mod) (p1 : Int32) : Option (Int32) :=
  (rd 85 (m_state m0) 0).bind fun v7 =>
  (G_X9_within p1 0 (v7 - 1)).bind fun v10 =>
  (bck v10).bind fun v13 =>
  some v13
abbrev rm_X9_isRing : Room := { frames := 1, cells := 0, slots := 0, locals := 22 }
theorem hdS_X9_isRing : yX9_isRing.cls ≠ "java/lang/invoke/MethodHandle" ∧ yX9_isRing.cls ≠ "java/lang/invoke/VarHandle" ∧ (parseMethodDescriptor yX9_isRing.desc).map (fun d => d.parameters.length) = some 1 := by decide +kernel
theorem hdV_X9_isRing : yX9_isRing.cls = RX9 ∧ yX9_isRing.cls ≠ "java/lang/invoke/MethodHandle" ∧ yX9_isRing.cls ≠ "java/lang/invoke/VarHandle" ∧ (parseMethodDescriptor yX9_isRing.desc).map (fun d => d.parameters.length) = some 1 := ⟨rfl, hdS_X9_isRing⟩
set_option maxHeartbeats 4000000 in
set_option maxRecDepth 100000 in
theorem c_X9_isRing (l : Launch) (dC : Nat → ClassId) (dI : Nat → Nat → Nat) (cy : Nat → ClassId) (a0 : Nat → Nat) (m0 : Mod) (p1 : Int32) (res : Int32) (h : G_X9_isRing m0 p1 = some res) : CT l (dC, dI) (TY cy) yX9_isRing cX9_isRing 2 (some .boolean) rm_X9_isRing [.ref (a0 0), .int p1] (wMod a0 cy m0) (wMod a0 cy m0) (some (.int res)) := sorry

def G_X9_isCorner (m0 : Mod) (p1 : Int32) (p2 : Int32) : Option (Int32) :=
  (G_X9_isRing m0 p1).bind fun v2 =>
  if v2 = 0 then
    some 0
  else
    (G_X9_many m0 p1).bind fun v12 =>
    (G_X9_within p2 0 (v12 - 1)).bind fun v17 =>
    if v17 = 0 then
      some 0
    else
      some 1
abbrev rm_X9_isCorner : Room := { frames := 2, cells := 0, slots := 0, locals := 43 }
theorem hdS_X9_isCorner : yX9_isCorner.cls ≠ "java/lang/invoke/MethodHandle" ∧ yX9_isCorner.cls ≠ "java/lang/invoke/VarHandle" ∧ (parseMethodDescriptor yX9_isCorner.desc).map (fun d => d.parameters.length) = some 2 := by decide +kernel
theorem hdV_X9_isCorner : yX9_isCorner.cls = RX9 ∧ yX9_isCorner.cls ≠ "java/lang/invoke/MethodHandle" ∧ yX9_isCorner.cls ≠ "java/lang/invoke/VarHandle" ∧ (parseMethodDescriptor yX9_isCorner.desc).map (fun d => d.parameters.length) = some 2 := ⟨rfl, hdS_X9_isCorner⟩
set_option maxHeartbeats 4000000 in
set_option maxRecDepth 100000 in
theorem c_X9_isCorner (l : Launch) (dC : Nat → ClassId) (dI : Nat → Nat → Nat) (cy : Nat → ClassId) (a0 : Nat → Nat) (m0 : Mod) (p1 : Int32) (p2 : Int32) (res : Int32) (h : G_X9_isCorner m0 p1 p2 = some res) : CT l (dC, dI) (TY cy) yX9_isCorner cX9_isCorner 3 (some .boolean) rm_X9_isCorner [.ref (a0 0), .int p1, .int p2] (wMod a0 cy m0) (wMod a0 cy m0) (some (.int res)) := sorry

def G_X9_tryMove (m0 : Mod) (p1 : Int32) (p2 : Int32) (p3 : Int32) (p4 : Int32) : Option (Int32 × Mod) :=
  (G_X9_isCorner m0 p1 p2).bind fun v3 =>
  if v3 = 0 then
    some (1, m0)
  else
    (G_X9_begin m0).bind fun v12 =>
    (G_X9_setCorner v12 p1 p2 p3 p4).bind fun v21 =>
    (G_X9_end v21).bind fun v25 =>
    some (v25.1, v25.2)
abbrev rm_X9_tryMove : Room := { frames := 6, cells := 0, slots := 0, locals := 146 }
theorem hdS_X9_tryMove : yX9_tryMove.cls ≠ "java/lang/invoke/MethodHandle" ∧ yX9_tryMove.cls ≠ "java/lang/invoke/VarHandle" ∧ (parseMethodDescriptor yX9_tryMove.desc).map (fun d => d.parameters.length) = some 4 := by decide +kernel
theorem hdV_X9_tryMove : yX9_tryMove.cls = RX9 ∧ yX9_tryMove.cls ≠ "java/lang/invoke/MethodHandle" ∧ yX9_tryMove.cls ≠ "java/lang/invoke/VarHandle" ∧ (parseMethodDescriptor yX9_tryMove.desc).map (fun d => d.parameters.length) = some 4 := ⟨rfl, hdS_X9_tryMove⟩
set_option maxHeartbeats 4000000 in
set_option maxRecDepth 100000 in
theorem c_X9_tryMove (l : Launch) (dC : Nat → ClassId) (dI : Nat → Nat → Nat) (cy : Nat → ClassId) (a0 : Nat → Nat) (m0 : Mod) (p1 : Int32) (p2 : Int32) (p3 : Int32) (p4 : Int32) (res : Int32 × Mod) (h : G_X9_tryMove m0 p1 p2 p3 p4 = some res) : CT l (dC, dI) (TY cy) yX9_tryMove cX9_tryMove 5 (some .int) rm_X9_tryMove [.ref (a0 0), .int p1, .int p2, .int p3, .int p4] (wMod a0 cy m0) (wMod a0 cy res.2) (some (.int res.1)) := sorry

def G_X9_isStepped (m0 : Mod) (p1 : Int32) (p2 : Int32) : Option (Int32 × Mod) :=
  (G_X9_x m0 0 p1).bind fun v6 =>
  (G_X9_stepX p2).bind fun v10 =>
  (G_X9_y m0 0 p1).bind fun v17 =>
  (G_X9_stepY p2).bind fun v21 =>
  (G_X9_tryMove m0 0 p1 (v6 + v10) (v17 + v21)).bind fun v25 =>
  if v25.1 = 0 then
    some (1, v25.2)
  else
    some (0, v25.2)
abbrev rm_X9_isStepped : Room := { frames := 7, cells := 0, slots := 0, locals := 170 }
theorem hdS_X9_isStepped : yX9_isStepped.cls ≠ "java/lang/invoke/MethodHandle" ∧ yX9_isStepped.cls ≠ "java/lang/invoke/VarHandle" ∧ (parseMethodDescriptor yX9_isStepped.desc).map (fun d => d.parameters.length) = some 2 := by decide +kernel
theorem hdV_X9_isStepped : yX9_isStepped.cls = RX9 ∧ yX9_isStepped.cls ≠ "java/lang/invoke/MethodHandle" ∧ yX9_isStepped.cls ≠ "java/lang/invoke/VarHandle" ∧ (parseMethodDescriptor yX9_isStepped.desc).map (fun d => d.parameters.length) = some 2 := ⟨rfl, hdS_X9_isStepped⟩
set_option maxHeartbeats 4000000 in
set_option maxRecDepth 100000 in
theorem c_X9_isStepped (l : Launch) (dC : Nat → ClassId) (dI : Nat → Nat → Nat) (cy : Nat → ClassId) (a0 : Nat → Nat) (m0 : Mod) (p1 : Int32) (p2 : Int32) (res : Int32 × Mod) (h : G_X9_isStepped m0 p1 p2 = some res) : CT l (dC, dI) (TY cy) yX9_isStepped cX9_isStepped 3 (some .boolean) rm_X9_isStepped [.ref (a0 0), .int p1, .int p2] (wMod a0 cy m0) (wMod a0 cy res.2) (some (.int res.1)) := sorry

def G_X9_bestMove_j105 (r24 : Mod → Int32 → Int32 → Int32 → Int32 → Option (Int32 × Mod))  (m0_105 : Mod) (l4_105 : Int32) (l3_105 : Int32) (l2_105 : Int32) (l1_105 : Int32) : Option (Int32 × Mod) :=
  r24 m0_105 (l4_105 + 1) l3_105 l2_105 l1_105
def G_X9_bestMove_L24 (r12 : Mod → Int32 → Int32 → Int32 → Option (Int32 × Mod))  : Nat → Mod → Int32 → Int32 → Int32 → Int32 → Option (Int32 × Mod)
  | 0, _, _, _, _, _ => none
  | n24 + 1, m0_24, l4_24, l3_24, l2_24, l1_24 =>
    if 4 ≤ l4_24 then
      r12 m0_24 (l3_24 + 1) l2_24 l1_24
    else
      (G_X9_isStepped m0_24 l3_24 l4_24).bind fun v34 =>
      if v34.1 = 0 then
        G_X9_bestMove_j105 (G_X9_bestMove_L24 r12 n24) v34.2 l4_24 l3_24 l2_24 l1_24
      else
        ((if l1_24 = (-9) then
            some 1
          else
            (G_X9_area v34.2).bind fun v47 =>
            if v47 ≤ l2_24 then
              some 0
            else
              some 1) : Option (Int32)).bind fun b43 =>
        ((if b43 = 0 then
            some l1_24
          else
            some ((10 * l3_24) + l4_24)) : Option (Int32)).bind fun b63 =>
        ((if b43 = 0 then
            some l2_24
          else
            (G_X9_area v34.2).bind fun v84 =>
            some v84) : Option (Int32)).bind fun b80 =>
        (G_X9_copy 85 85 (m_kept v34.2) (m_state v34.2) 0 0).bind fun v102 =>
        G_X9_bestMove_j105 (G_X9_bestMove_L24 r12 n24) (ms_state v34.2 v102) l4_24 l3_24 b80 b63
def G_X9_bestMove_L12   : Nat → Mod → Int32 → Int32 → Int32 → Option (Int32 × Mod)
  | 0, _, _, _, _ => none
  | n12 + 1, m0_12, l3_12, l2_12, l1_12 =>
    (G_X9_many m0_12 0).bind fun v15 =>
    if v15 ≤ l3_12 then
      some (l1_12, m0_12)
    else
      G_X9_bestMove_L24 (G_X9_bestMove_L12 n12) FU m0_12 0 l3_12 l2_12 l1_12
def G_X9_bestMove (m0 : Mod) : Option (Int32 × Mod) :=
  G_X9_bestMove_L12 FU (ms_thrown m0 0) 0 0 (-9)
abbrev rm_X9_bestMove : Room := { frames := 8, cells := 0, slots := 0, locals := 192 }
theorem hdS_X9_bestMove : yX9_bestMove.cls ≠ "java/lang/invoke/MethodHandle" ∧ yX9_bestMove.cls ≠ "java/lang/invoke/VarHandle" ∧ (parseMethodDescriptor yX9_bestMove.desc).map (fun d => d.parameters.length) = some 0 := by decide +kernel
theorem hdV_X9_bestMove : yX9_bestMove.cls = RX9 ∧ yX9_bestMove.cls ≠ "java/lang/invoke/MethodHandle" ∧ yX9_bestMove.cls ≠ "java/lang/invoke/VarHandle" ∧ (parseMethodDescriptor yX9_bestMove.desc).map (fun d => d.parameters.length) = some 0 := ⟨rfl, hdS_X9_bestMove⟩
set_option maxHeartbeats 4000000 in
set_option maxRecDepth 100000 in
theorem c_X9_bestMove (l : Launch) (dC : Nat → ClassId) (dI : Nat → Nat → Nat) (cy : Nat → ClassId) (a0 : Nat → Nat) (m0 : Mod) (res : Int32 × Mod) (h : G_X9_bestMove m0 = some res) : CT l (dC, dI) (TY cy) yX9_bestMove cX9_bestMove 6 (some .int) rm_X9_bestMove [.ref (a0 0)] (wMod a0 cy m0) (wMod a0 cy res.2) (some (.int res.1)) := sorry

def G_X9_clearText (m0 : Mod) : Option (Int32 × Mod) :=
  (some (ms_thrown m0 0)).bind fun z0_12 =>
  some (m_textLength (ms_thrown m0 0), ms_textLength z0_12 0)
abbrev rm_X9_clearText : Room := { frames := 0, cells := 0, slots := 0, locals := 0 }
theorem hdS_X9_clearText : yX9_clearText.cls ≠ "java/lang/invoke/MethodHandle" ∧ yX9_clearText.cls ≠ "java/lang/invoke/VarHandle" ∧ (parseMethodDescriptor yX9_clearText.desc).map (fun d => d.parameters.length) = some 0 := by decide +kernel
theorem hdV_X9_clearText : yX9_clearText.cls = RX9 ∧ yX9_clearText.cls ≠ "java/lang/invoke/MethodHandle" ∧ yX9_clearText.cls ≠ "java/lang/invoke/VarHandle" ∧ (parseMethodDescriptor yX9_clearText.desc).map (fun d => d.parameters.length) = some 0 := ⟨rfl, hdS_X9_clearText⟩
set_option maxHeartbeats 4000000 in
set_option maxRecDepth 100000 in
theorem c_X9_clearText (l : Launch) (dC : Nat → ClassId) (dI : Nat → Nat → Nat) (cy : Nat → ClassId) (a0 : Nat → Nat) (m0 : Mod) (res : Int32 × Mod) (h : G_X9_clearText m0 = some res) : CT l (dC, dI) (TY cy) yX9_clearText cX9_clearText 2 (some .int) rm_X9_clearText [.ref (a0 0)] (wMod a0 cy m0) (wMod a0 cy res.2) (some (.int res.1)) := sorry

def G_X9_tryInsert_L34   : Nat → Mod → Int32 → Int32 → Int32 → Int32 → Int32 → Option (Int32 × Mod)
  | 0, _, _, _, _, _, _ => none
  | n34 + 1, m0_34, l5_34, l1_34, l2_34, l3_34, l4_34 =>
    if l5_34 ≤ l2_34 + 1 then
      (G_X9_setCorner m0_34 l1_34 (l2_34 + 1) l3_34 l4_34).bind fun v81 =>
      (rd 85 (m_state v81) (1 + l1_34)).bind fun v92 =>
      (wr 85 (m_state v81) (1 + l1_34) (v92 + 1)).bind fun g95 =>
      (G_X9_end (ms_state v81 g95)).bind fun v97 =>
      some (v97.1, v97.2)
    else
      (G_X9_x m0_34 l1_34 (l5_34 - 1)).bind fun v52 =>
      (G_X9_y m0_34 l1_34 (l5_34 - 1)).bind fun v61 =>
      (G_X9_setCorner m0_34 l1_34 l5_34 v52 v61).bind fun v64 =>
      (G_X9_tryInsert_L34 n34) v64 (l5_34 + (-1)) l1_34 l2_34 l3_34 l4_34
def G_X9_tryInsert (m0 : Mod) (p1 : Int32) (p2 : Int32) (p3 : Int32) (p4 : Int32) : Option (Int32 × Mod) :=
  (G_X9_isCorner m0 p1 p2).bind fun v3 =>
  if v3 = 0 then
    some (1, m0)
  else
    (G_X9_many m0 p1).bind fun v13 =>
    if v13 = 10 then
      some (2, m0)
    else
      (G_X9_begin m0).bind fun v24 =>
      (G_X9_many v24 p1).bind fun v29 =>
      G_X9_tryInsert_L34 FU v24 v29 p1 p2 p3 p4
abbrev rm_X9_tryInsert : Room := { frames := 6, cells := 0, slots := 0, locals := 146 }
theorem hdS_X9_tryInsert : yX9_tryInsert.cls ≠ "java/lang/invoke/MethodHandle" ∧ yX9_tryInsert.cls ≠ "java/lang/invoke/VarHandle" ∧ (parseMethodDescriptor yX9_tryInsert.desc).map (fun d => d.parameters.length) = some 4 := by decide +kernel
theorem hdV_X9_tryInsert : yX9_tryInsert.cls = RX9 ∧ yX9_tryInsert.cls ≠ "java/lang/invoke/MethodHandle" ∧ yX9_tryInsert.cls ≠ "java/lang/invoke/VarHandle" ∧ (parseMethodDescriptor yX9_tryInsert.desc).map (fun d => d.parameters.length) = some 4 := ⟨rfl, hdS_X9_tryInsert⟩
set_option maxHeartbeats 4000000 in
set_option maxRecDepth 100000 in
theorem c_X9_tryInsert (l : Launch) (dC : Nat → ClassId) (dI : Nat → Nat → Nat) (cy : Nat → ClassId) (a0 : Nat → Nat) (m0 : Mod) (p1 : Int32) (p2 : Int32) (p3 : Int32) (p4 : Int32) (res : Int32 × Mod) (h : G_X9_tryInsert m0 p1 p2 p3 p4 = some res) : CT l (dC, dI) (TY cy) yX9_tryInsert cX9_tryInsert 6 (some .int) rm_X9_tryInsert [.ref (a0 0), .int p1, .int p2, .int p3, .int p4] (wMod a0 cy m0) (wMod a0 cy res.2) (some (.int res.1)) := sorry

def G_X9_tryRemove_L28   : Nat → Mod → Int32 → Int32 → Option (Int32 × Mod)
  | 0, _, _, _ => none
  | n28 + 1, m0_28, l3_28, l1_28 =>
    (G_X9_many m0_28 l1_28).bind fun v33 =>
    if v33 ≤ l3_28 + 1 then
      (rd 85 (m_state m0_28) (1 + l1_28)).bind fun v75 =>
      (wr 85 (m_state m0_28) (1 + l1_28) (v75 - 1)).bind fun g78 =>
      (G_X9_end (ms_state m0_28 g78)).bind fun v80 =>
      some (v80.1, v80.2)
    else
      (G_X9_x m0_28 l1_28 (l3_28 + 1)).bind fun v47 =>
      (G_X9_y m0_28 l1_28 (l3_28 + 1)).bind fun v55 =>
      (G_X9_setCorner m0_28 l1_28 l3_28 v47 v55).bind fun v58 =>
      (G_X9_tryRemove_L28 n28) v58 (l3_28 + 1) l1_28
def G_X9_tryRemove (m0 : Mod) (p1 : Int32) (p2 : Int32) : Option (Int32 × Mod) :=
  (G_X9_isCorner m0 p1 p2).bind fun v3 =>
  if v3 = 0 then
    some (1, m0)
  else
    (G_X9_many m0 p1).bind fun v13 =>
    if v13 = 3 then
      some (2, m0)
    else
      (G_X9_begin m0).bind fun v23 =>
      G_X9_tryRemove_L28 FU v23 p2 p1
abbrev rm_X9_tryRemove : Room := { frames := 6, cells := 0, slots := 0, locals := 146 }
theorem hdS_X9_tryRemove : yX9_tryRemove.cls ≠ "java/lang/invoke/MethodHandle" ∧ yX9_tryRemove.cls ≠ "java/lang/invoke/VarHandle" ∧ (parseMethodDescriptor yX9_tryRemove.desc).map (fun d => d.parameters.length) = some 2 := by decide +kernel
theorem hdV_X9_tryRemove : yX9_tryRemove.cls = RX9 ∧ yX9_tryRemove.cls ≠ "java/lang/invoke/MethodHandle" ∧ yX9_tryRemove.cls ≠ "java/lang/invoke/VarHandle" ∧ (parseMethodDescriptor yX9_tryRemove.desc).map (fun d => d.parameters.length) = some 2 := ⟨rfl, hdS_X9_tryRemove⟩
set_option maxHeartbeats 4000000 in
set_option maxRecDepth 100000 in
theorem c_X9_tryRemove (l : Launch) (dC : Nat → ClassId) (dI : Nat → Nat → Nat) (cy : Nat → ClassId) (a0 : Nat → Nat) (m0 : Mod) (p1 : Int32) (p2 : Int32) (res : Int32 × Mod) (h : G_X9_tryRemove m0 p1 p2 = some res) : CT l (dC, dI) (TY cy) yX9_tryRemove cX9_tryRemove 4 (some .int) rm_X9_tryRemove [.ref (a0 0), .int p1, .int p2] (wMod a0 cy m0) (wMod a0 cy res.2) (some (.int res.1)) := sorry

def G_X9_tryShift_L43 (r30 : Mod → Int32 → Int32 → Int32 → Option (Int32 × Mod))  : Nat → Mod → Int32 → Int32 → Int32 → Int32 → Option (Int32 × Mod)
  | 0, _, _, _, _, _ => none
  | n43 + 1, m0_43, l4_43, l3_43, l1_43, l2_43 =>
    (G_X9_many m0_43 l3_43).bind fun v47 =>
    if v47 ≤ l4_43 then
      r30 m0_43 (l3_43 + 1) l1_43 l2_43
    else
      (G_X9_x m0_43 l3_43 l4_43).bind fun v61 =>
      (G_X9_y m0_43 l3_43 l4_43).bind fun v70 =>
      (G_X9_setCorner m0_43 l3_43 l4_43 (v61 + l1_43) (v70 + l2_43)).bind fun v75 =>
      (G_X9_tryShift_L43 r30 n43) v75 (l4_43 + 1) l3_43 l1_43 l2_43
def G_X9_tryShift_L30   : Nat → Mod → Int32 → Int32 → Int32 → Option (Int32 × Mod)
  | 0, _, _, _, _ => none
  | n30 + 1, m0_30, l3_30, l1_30, l2_30 =>
    (rd 85 (m_state m0_30) 0).bind fun v36 =>
    if v36 ≤ l3_30 then
      (G_X9_end m0_30).bind fun v91 =>
      some (v91.1, v91.2)
    else
      G_X9_tryShift_L43 (G_X9_tryShift_L30 n30) FU m0_30 0 l3_30 l1_30 l2_30
def G_X9_tryShift (m0 : Mod) (p1 : Int32) (p2 : Int32) : Option (Int32 × Mod) :=
  (G_X9_within p1 (-15) 15).bind fun v5 =>
  if v5 = 0 then
    some (1, m0)
  else
    (G_X9_within p2 (-15) 15).bind fun v16 =>
    if v16 = 0 then
      some (1, m0)
    else
      (G_X9_begin m0).bind fun v25 =>
      G_X9_tryShift_L30 FU v25 0 p1 p2
abbrev rm_X9_tryShift : Room := { frames := 6, cells := 0, slots := 0, locals := 146 }
theorem hdS_X9_tryShift : yX9_tryShift.cls ≠ "java/lang/invoke/MethodHandle" ∧ yX9_tryShift.cls ≠ "java/lang/invoke/VarHandle" ∧ (parseMethodDescriptor yX9_tryShift.desc).map (fun d => d.parameters.length) = some 2 := by decide +kernel
theorem hdV_X9_tryShift : yX9_tryShift.cls = RX9 ∧ yX9_tryShift.cls ≠ "java/lang/invoke/MethodHandle" ∧ yX9_tryShift.cls ≠ "java/lang/invoke/VarHandle" ∧ (parseMethodDescriptor yX9_tryShift.desc).map (fun d => d.parameters.length) = some 2 := ⟨rfl, hdS_X9_tryShift⟩
set_option maxHeartbeats 4000000 in
set_option maxRecDepth 100000 in
theorem c_X9_tryShift (l : Launch) (dC : Nat → ClassId) (dI : Nat → Nat → Nat) (cy : Nat → ClassId) (a0 : Nat → Nat) (m0 : Mod) (p1 : Int32) (p2 : Int32) (res : Int32 × Mod) (h : G_X9_tryShift m0 p1 p2 = some res) : CT l (dC, dI) (TY cy) yX9_tryShift cX9_tryShift 5 (some .int) rm_X9_tryShift [.ref (a0 0), .int p1, .int p2] (wMod a0 cy m0) (wMod a0 cy res.2) (some (.int res.1)) := sorry

def G_X9_turned_L18 (r6 : Mod → Int32 → Int32 → Option (Mod))  : Nat → Mod → Int32 → Int32 → Int32 → Option (Mod)
  | 0, _, _, _, _ => none
  | n18 + 1, m0_18, l3_18, l2_18, l1_18 =>
    (G_X9_many m0_18 l2_18).bind fun v21 =>
    if v21 ≤ l3_18 then
      r6 m0_18 (l2_18 + 1) l1_18
    else
      (G_X9_x m0_18 l2_18 l3_18).bind fun v30 =>
      (G_X9_y m0_18 l2_18 l3_18).bind fun v38 =>
      ((if l1_18 = 0 then
          some (15 - v38)
        else
          some (15 - v30)) : Option (Int32)).bind fun b47 =>
      ((if l1_18 = 0 then
          some v30
        else
          some v38) : Option (Int32)).bind fun b64 =>
      (G_X9_setCorner m0_18 l2_18 l3_18 b47 b64).bind fun v74 =>
      (G_X9_turned_L18 r6 n18) v74 (l3_18 + 1) l2_18 l1_18
def G_X9_turned_L6   : Nat → Mod → Int32 → Int32 → Option (Mod)
  | 0, _, _, _ => none
  | n6 + 1, m0_6, l2_6, l1_6 =>
    (rd 85 (m_state m0_6) 0).bind fun v12 =>
    if v12 ≤ l2_6 then
      some m0_6
    else
      G_X9_turned_L18 (G_X9_turned_L6 n6) FU m0_6 0 l2_6 l1_6
def G_X9_turned (m0 : Mod) (p1 : Int32) : Option (Mod) :=
  (G_X9_begin m0).bind fun v1 =>
  G_X9_turned_L6 FU v1 0 p1
abbrev rm_X9_turned : Room := { frames := 2, cells := 0, slots := 0, locals := 44 }
theorem hdS_X9_turned : yX9_turned.cls ≠ "java/lang/invoke/MethodHandle" ∧ yX9_turned.cls ≠ "java/lang/invoke/VarHandle" ∧ (parseMethodDescriptor yX9_turned.desc).map (fun d => d.parameters.length) = some 1 := by decide +kernel
theorem hdV_X9_turned : yX9_turned.cls = RX9 ∧ yX9_turned.cls ≠ "java/lang/invoke/MethodHandle" ∧ yX9_turned.cls ≠ "java/lang/invoke/VarHandle" ∧ (parseMethodDescriptor yX9_turned.desc).map (fun d => d.parameters.length) = some 1 := ⟨rfl, hdS_X9_turned⟩
set_option maxHeartbeats 4000000 in
set_option maxRecDepth 100000 in
theorem c_X9_turned (l : Launch) (dC : Nat → ClassId) (dI : Nat → Nat → Nat) (cy : Nat → ClassId) (a0 : Nat → Nat) (m0 : Mod) (p1 : Int32) (res : Mod) (h : G_X9_turned m0 p1 = some res) : CT l (dC, dI) (TY cy) yX9_turned cX9_turned 6 none rm_X9_turned [.ref (a0 0), .int p1] (wMod a0 cy m0) (wMod a0 cy res) none := sorry

def G_X9_isTurned_j19   (m0_19 : Mod) (l1_19 : Int32) : Option (Int32 × Mod) :=
  if 2 ≤ l1_19 then
    some (0, m0_19)
  else
    some (1, m0_19)
def G_X9_isTurned (m0 : Mod) (p1 : Int32) : Option (Int32 × Mod) :=
  if 2 ≤ p1 then
    G_X9_isTurned_j19 m0 p1
  else
    ((if p1 = 1 then
        some 1
      else
        some 0) : Option (Int32)).bind fun b8 =>
    (G_X9_turned m0 b8).bind fun v16 =>
    G_X9_isTurned_j19 v16 p1
abbrev rm_X9_isTurned : Room := { frames := 3, cells := 0, slots := 0, locals := 69 }
theorem hdS_X9_isTurned : yX9_isTurned.cls ≠ "java/lang/invoke/MethodHandle" ∧ yX9_isTurned.cls ≠ "java/lang/invoke/VarHandle" ∧ (parseMethodDescriptor yX9_isTurned.desc).map (fun d => d.parameters.length) = some 1 := by decide +kernel
theorem hdV_X9_isTurned : yX9_isTurned.cls = RX9 ∧ yX9_isTurned.cls ≠ "java/lang/invoke/MethodHandle" ∧ yX9_isTurned.cls ≠ "java/lang/invoke/VarHandle" ∧ (parseMethodDescriptor yX9_isTurned.desc).map (fun d => d.parameters.length) = some 1 := ⟨rfl, hdS_X9_isTurned⟩
set_option maxHeartbeats 4000000 in
set_option maxRecDepth 100000 in
theorem c_X9_isTurned (l : Launch) (dC : Nat → ClassId) (dI : Nat → Nat → Nat) (cy : Nat → ClassId) (a0 : Nat → Nat) (m0 : Mod) (p1 : Int32) (res : Int32 × Mod) (h : G_X9_isTurned m0 p1 = some res) : CT l (dC, dI) (TY cy) yX9_isTurned cX9_isTurned 2 (some .boolean) rm_X9_isTurned [.ref (a0 0), .int p1] (wMod a0 cy m0) (wMod a0 cy res.2) (some (.int res.1)) := sorry

def G_X9_isPoint (p0 : Int32) (p1 : Int32) : Option (Int32) :=
  (G_X9_within p0 0 15).bind fun v4 =>
  if v4 = 0 then
    some 0
  else
    (G_X9_within p1 0 15).bind fun v14 =>
    if v14 = 0 then
      some 0
    else
      some 1
abbrev rm_X9_isPoint : Room := { frames := 1, cells := 0, slots := 0, locals := 22 }
theorem hdS_X9_isPoint : yX9_isPoint.cls ≠ "java/lang/invoke/MethodHandle" ∧ yX9_isPoint.cls ≠ "java/lang/invoke/VarHandle" ∧ (parseMethodDescriptor yX9_isPoint.desc).map (fun d => d.parameters.length) = some 2 := by decide +kernel
set_option maxHeartbeats 4000000 in
set_option maxRecDepth 100000 in
theorem c_X9_isPoint (l : Launch) (dC : Nat → ClassId) (dI : Nat → Nat → Nat) (cy : Nat → ClassId)  (p0 : Int32) (p1 : Int32) (res : Int32) (h : G_X9_isPoint p0 p1 = some res) : CT l (dC, dI) (TY cy) yX9_isPoint cX9_isPoint 2 (some .boolean) rm_X9_isPoint [.int p0, .int p1] ([]) ([]) (some (.int res)) := sorry

def G_X9_commands (m0 : Mod) (p1 : Int32) : Option (Int32 × Mod) :=
  if p1 / 100000 = 1 then
    (G_X9_tryMove m0 0 ((p1 / 10000) - (p1 / 10000) / 10 * 10) ((p1 / 100) - (p1 / 100) / 100 * 100) (p1 - p1 / 100 * 100)).bind fun v95 =>
    if v95.1 = 0 then
      some (1, v95.2)
    else
      some (0, v95.2)
  else
  if p1 / 100000 = 2 then
    (G_X9_tryInsert m0 0 ((p1 / 10000) - (p1 / 10000) / 10 * 10) ((p1 / 100) - (p1 / 100) / 100 * 100) (p1 - p1 / 100 * 100)).bind fun v114 =>
    if v114.1 = 0 then
      some (1, v114.2)
    else
      some (0, v114.2)
  else
  if p1 / 100000 = 3 then
    if p1 - p1 / 1000 * 1000 = 0 then
      (G_X9_tryRemove m0 ((p1 / 10000) - (p1 / 10000) / 10 * 10) ((p1 / 1000) - (p1 / 1000) / 10 * 10)).bind fun v137 =>
      if v137.1 = 0 then
        some (1, v137.2)
      else
        some (0, v137.2)
    else
      some (0, m0)
  else
  if p1 / 100000 = 4 then
    if p1 - p1 / 10 * 10 = 0 then
      (G_X9_tryHole m0 ((p1 / 1000) - (p1 / 1000) / 100 * 100) ((p1 / 10) - (p1 / 10) / 100 * 100)).bind fun v172 =>
      if v172.1 = 0 then
        some (1, v172.2)
      else
        some (0, v172.2)
    else
      some (0, m0)
  else
  if p1 / 100000 = 5 then
    if (p1 / 10000) - (p1 / 10000) / 10 * 10 = 0 then
      (G_X9_tryShift m0 (((p1 / 100) - (p1 / 100) / 100 * 100) - 15) ((p1 - p1 / 100 * 100) - 15)).bind fun v199 =>
      if v199.1 = 0 then
        some (1, v199.2)
      else
        some (0, v199.2)
    else
      some (0, m0)
  else
  if p1 / 100000 = 6 then
    if p1 - p1 / 10000 * 10000 = 0 then
      (G_X9_isTurned m0 ((p1 / 10000) - (p1 / 10000) / 10 * 10)).bind fun v221 =>
      if v221.1 = 0 then
        some (0, v221.2)
      else
        some (1, v221.2)
    else
      some (0, m0)
  else
  if p1 / 100000 = 7 then
    if (p1 / 10000) - (p1 / 10000) / 10 * 10 = 0 then
      if (p1 / 1000) - (p1 / 1000) / 10 * 10 = 0 then
        (G_X9_area m0).bind fun v242 =>
        if v242 < p1 - p1 / 1000 * 1000 then
          some (0, m0)
        else
          some (1, m0)
      else
        some (0, m0)
    else
      some (0, m0)
  else
  if p1 / 100000 = 8 then
    (G_X9_isPoint ((p1 / 1000) - (p1 / 1000) / 100 * 100) ((p1 / 10) - (p1 / 10) / 100 * 100)).bind fun v274 =>
    if v274 = 0 then
      some (0, m0)
    else
      (G_X9_where m0 ((p1 / 1000) - (p1 / 1000) / 100 * 100) ((p1 / 10) - (p1 / 10) / 100 * 100)).bind fun v296 =>
      if v296 = p1 - p1 / 10 * 10 then
        some (1, m0)
      else
        some (0, m0)
  else
  if p1 / 100000 = 9 then
    if (p1 / 10000) - (p1 / 10000) / 10 * 10 = 0 then
      if (p1 / 1000) - (p1 / 1000) / 10 * 10 = 0 then
        (G_X9_inside m0).bind fun v321 =>
        if p1 - p1 / 1000 * 1000 < v321 then
          some (0, m0)
        else
          some (1, m0)
      else
        some (0, m0)
    else
      some (0, m0)
  else
  some (0, m0)
abbrev rm_X9_commands : Room := { frames := 7, cells := 0, slots := 0, locals := 171 }
theorem hdS_X9_commands : yX9_commands.cls ≠ "java/lang/invoke/MethodHandle" ∧ yX9_commands.cls ≠ "java/lang/invoke/VarHandle" ∧ (parseMethodDescriptor yX9_commands.desc).map (fun d => d.parameters.length) = some 1 := by decide +kernel
theorem hdV_X9_commands : yX9_commands.cls = RX9 ∧ yX9_commands.cls ≠ "java/lang/invoke/MethodHandle" ∧ yX9_commands.cls ≠ "java/lang/invoke/VarHandle" ∧ (parseMethodDescriptor yX9_commands.desc).map (fun d => d.parameters.length) = some 1 := ⟨rfl, hdS_X9_commands⟩
set_option maxHeartbeats 4000000 in
set_option maxRecDepth 100000 in
theorem c_X9_commands (l : Launch) (dC : Nat → ClassId) (dI : Nat → Nat → Nat) (cy : Nat → ClassId) (a0 : Nat → Nat) (m0 : Mod) (p1 : Int32) (res : Int32 × Mod) (h : G_X9_commands m0 p1 = some res) : CT l (dC, dI) (TY cy) yX9_commands cX9_commands 6 (some .boolean) rm_X9_commands [.ref (a0 0), .int p1] (wMod a0 cy m0) (wMod a0 cy res.2) (some (.int res.1)) := sorry

def G_X9_corner (m0 : Mod) (p1 : Int32) (p2 : Int32) (p3 : Int32) : Option (Int32 × Mod) :=
  (G_X9_isCorner m0 p1 p2).bind fun v4 =>
  ((if v4 = 0 then
      some 1
    else
      (G_X9_within p3 0 5).bind fun v17 =>
      if v17 = 0 then
        some 2
      else
        some 0) : Option (Int32)).bind fun b7 =>
  if m_thrown (ms_thrown m0 b7) ≤ 0 then
    if p3 = 0 then
      (G_X9_x (ms_thrown m0 b7) p1 p2).bind fun v79 =>
      some (v79, ms_thrown m0 b7)
    else
    if p3 = 1 then
      (G_X9_y (ms_thrown m0 b7) p1 p2).bind fun v86 =>
      some (v86, ms_thrown m0 b7)
    else
    if p3 = 2 then
      (G_X9_kind (ms_thrown m0 b7) p1 p2).bind fun v93 =>
      some (v93, ms_thrown m0 b7)
    else
    if p3 = 3 then
      (G_X9_seenBy (ms_thrown m0 b7) p1 p2).bind fun v100 =>
      some (v100.1, v100.2)
    else
    if p3 = 4 then
      (G_X9_bend (ms_thrown m0 b7) p1 p2).bind fun v107 =>
      (G_X9_size v107).bind fun v110 =>
      some (v110, ms_thrown m0 b7)
    else
    (G_X9_pointsOf (ms_thrown m0 b7) p1 p2).bind fun v117 =>
    some (v117, ms_thrown m0 b7)
  else
    some (0, ms_thrown m0 b7)
abbrev rm_X9_corner : Room := { frames := 6, cells := 0, slots := 0, locals := 159 }
theorem hdS_X9_corner : yX9_corner.cls ≠ "java/lang/invoke/MethodHandle" ∧ yX9_corner.cls ≠ "java/lang/invoke/VarHandle" ∧ (parseMethodDescriptor yX9_corner.desc).map (fun d => d.parameters.length) = some 3 := by decide +kernel
theorem hdV_X9_corner : yX9_corner.cls = RX9 ∧ yX9_corner.cls ≠ "java/lang/invoke/MethodHandle" ∧ yX9_corner.cls ≠ "java/lang/invoke/VarHandle" ∧ (parseMethodDescriptor yX9_corner.desc).map (fun d => d.parameters.length) = some 3 := ⟨rfl, hdS_X9_corner⟩
set_option maxHeartbeats 4000000 in
set_option maxRecDepth 100000 in
theorem c_X9_corner (l : Launch) (dC : Nat → ClassId) (dI : Nat → Nat → Nat) (cy : Nat → ClassId) (a0 : Nat → Nat) (m0 : Mod) (p1 : Int32) (p2 : Int32) (p3 : Int32) (res : Int32 × Mod) (h : G_X9_corner m0 p1 p2 p3 = some res) : CT l (dC, dI) (TY cy) yX9_corner cX9_corner 4 (some .int) rm_X9_corner [.ref (a0 0), .int p1, .int p2, .int p3] (wMod a0 cy m0) (wMod a0 cy res.2) (some (.int res.1)) := sorry

def G_X9_cut (m0 : Mod) (p1 : Int32) : Option (Int32 × Mod) :=
  (G_X9_isCorner m0 0 p1).bind fun v4 =>
  ((if v4 = 0 then
      some 1
    else
      some 0) : Option (Int32)).bind fun b7 =>
  if m_thrown (ms_thrown m0 b7) ≤ 0 then
    (G_X9_isEar (ms_thrown m0 b7) p1).bind fun v29 =>
    if v29.1 = 0 then
      some ((-9), v29.2)
    else
      (G_X9_bend v29.2 0 p1).bind fun v38 =>
      (G_X9_size v38).bind fun v41 =>
      some (v41, v29.2)
  else
    some (0, ms_thrown m0 b7)
abbrev rm_X9_cut : Room := { frames := 6, cells := 0, slots := 0, locals := 155 }
theorem hdS_X9_cut : yX9_cut.cls ≠ "java/lang/invoke/MethodHandle" ∧ yX9_cut.cls ≠ "java/lang/invoke/VarHandle" ∧ (parseMethodDescriptor yX9_cut.desc).map (fun d => d.parameters.length) = some 1 := by decide +kernel
theorem hdV_X9_cut : yX9_cut.cls = RX9 ∧ yX9_cut.cls ≠ "java/lang/invoke/MethodHandle" ∧ yX9_cut.cls ≠ "java/lang/invoke/VarHandle" ∧ (parseMethodDescriptor yX9_cut.desc).map (fun d => d.parameters.length) = some 1 := ⟨rfl, hdS_X9_cut⟩
set_option maxHeartbeats 4000000 in
set_option maxRecDepth 100000 in
theorem c_X9_cut (l : Launch) (dC : Nat → ClassId) (dI : Nat → Nat → Nat) (cy : Nat → ClassId) (a0 : Nat → Nat) (m0 : Mod) (p1 : Int32) (res : Int32 × Mod) (h : G_X9_cut m0 p1 = some res) : CT l (dC, dI) (TY cy) yX9_cut cX9_cut 2 (some .int) rm_X9_cut [.ref (a0 0), .int p1] (wMod a0 cy m0) (wMod a0 cy res.2) (some (.int res.1)) := sorry

def G_X9_cuttings_j150 (r41 : Mod → Int32 → Int32 → Int32 → Option (Int32 × Mod))  (m0_150 : Mod) (l6_150 : Int32) (l4_150 : Int32) (l3_150 : Int32) (l2_150 : Int32) (l1_150 : Int32) : Option (Int32 × Mod) :=
  (wr 100 (m_cuts m0_150) ((10 * l3_150) + l4_150) l6_150).bind fun g163 =>
  r41 (ms_cuts m0_150 g163) (l3_150 + 1) l2_150 l1_150
def G_X9_cuttings_L101 (r41 : Mod → Int32 → Int32 → Int32 → Option (Int32 × Mod))  : Nat → Mod → Int32 → Int32 → Int32 → Int32 → Int32 → Int32 → Int32 → Option (Int32 × Mod)
  | 0, _, _, _, _, _, _, _, _ => none
  | n101 + 1, m0_101, l7_101, l6_101, l5_101, l4_101, l3_101, l2_101, l1_101 =>
    if l4_101 ≤ l7_101 then
      G_X9_cuttings_j150 r41 m0_101 l6_101 l4_101 l3_101 l2_101 l1_101
    else
      if l5_101 = 0 then
        G_X9_cuttings_j150 r41 m0_101 l6_101 l4_101 l3_101 l2_101 l1_101
      else
        (rd 100 (m_cuts m0_101) ((10 * l3_101) + l7_101)).bind fun v126 =>
        (rd 100 (m_cuts m0_101) ((10 * l7_101) + l4_101)).bind fun v139 =>
        (G_X9_cuttings_L101 r41 n101) m0_101 (l7_101 + 1) (l6_101 + (v126 * v139)) l5_101 l4_101 l3_101 l2_101 l1_101
def G_X9_cuttings_L41 (r34 : Mod → Int32 → Int32 → Option (Int32 × Mod))  : Nat → Mod → Int32 → Int32 → Int32 → Option (Int32 × Mod)
  | 0, _, _, _, _ => none
  | n41 + 1, m0_41, l3_41, l2_41, l1_41 =>
    if l1_41 ≤ l3_41 + l2_41 then
      r34 m0_41 (l2_41 + 1) l1_41
    else
      ((if l2_41 = 1 then
          some (1, m0_41)
        else
          if l2_41 = l1_41 - 1 then
            some (1, m0_41)
          else
            (G_X9_areSeeing m0_41 0 l3_41 0 (l3_41 + l2_41)).bind fun v71 =>
            if v71.1 = 0 then
              some (0, v71.2)
            else
              some (1, v71.2)) : Option (Int32 × Mod)).bind fun b55 =>
      ((if l2_41 = 1 then
          some 1
        else
          some 0) : Option (Int32)).bind fun b86 =>
      G_X9_cuttings_L101 (G_X9_cuttings_L41 r34 n41) FU b55.2 (l3_41 + 1) b86 b55.1 (l3_41 + l2_41) l3_41 l2_41 l1_41
def G_X9_cuttings_L34   : Nat → Mod → Int32 → Int32 → Option (Int32 × Mod)
  | 0, _, _, _ => none
  | n34 + 1, m0_34, l2_34, l1_34 =>
    if l1_34 ≤ l2_34 then
      (rd 100 (m_cuts m0_34) (l1_34 - 1)).bind fun v183 =>
      some (v183, m0_34)
    else
      G_X9_cuttings_L41 (G_X9_cuttings_L34 n34) FU m0_34 0 l2_34 l1_34
def G_X9_cuttings (m0 : Mod) : Option (Int32 × Mod) :=
  (rd 85 (m_state (ms_thrown m0 0)) 0).bind fun v10 =>
  if 1 < v10 then
    some ((-9), ms_thrown m0 0)
  else
    (G_X9_kindsOf (ms_thrown m0 0) 0).bind fun v17 =>
    if v17 ≤ 0 then
      (G_X9_many (ms_thrown m0 0) 0).bind fun v28 =>
      G_X9_cuttings_L34 FU (ms_thrown m0 0) 1 v28
    else
      some ((-9), ms_thrown m0 0)
abbrev rm_X9_cuttings : Room := { frames := 5, cells := 0, slots := 0, locals := 134 }
theorem hdS_X9_cuttings : yX9_cuttings.cls ≠ "java/lang/invoke/MethodHandle" ∧ yX9_cuttings.cls ≠ "java/lang/invoke/VarHandle" ∧ (parseMethodDescriptor yX9_cuttings.desc).map (fun d => d.parameters.length) = some 0 := by decide +kernel
theorem hdV_X9_cuttings : yX9_cuttings.cls = RX9 ∧ yX9_cuttings.cls ≠ "java/lang/invoke/MethodHandle" ∧ yX9_cuttings.cls ≠ "java/lang/invoke/VarHandle" ∧ (parseMethodDescriptor yX9_cuttings.desc).map (fun d => d.parameters.length) = some 0 := ⟨rfl, hdS_X9_cuttings⟩
set_option maxHeartbeats 4000000 in
set_option maxRecDepth 100000 in
theorem c_X9_cuttings (l : Launch) (dC : Nat → ClassId) (dI : Nat → Nat → Nat) (cy : Nat → ClassId) (a0 : Nat → Nat) (m0 : Mod) (res : Int32 × Mod) (h : G_X9_cuttings m0 = some res) : CT l (dC, dI) (TY cy) yX9_cuttings cX9_cuttings 8 (some .int) rm_X9_cuttings [.ref (a0 0)] (wMod a0 cy m0) (wMod a0 cy res.2) (some (.int res.1)) := sorry

def G_X9_dropHole_L69 (r40 : Mod → Int32 → Option (Int32 × Mod))  : Nat → Mod → Int32 → Int32 → Option (Int32 × Mod)
  | 0, _, _, _ => none
  | n69 + 1, m0_69, l3_69, l2_69 =>
    if 10 ≤ l3_69 then
      r40 m0_69 (l2_69 + 1)
    else
      (G_X9_x m0_69 (l2_69 + 1) l3_69).bind fun v83 =>
      (G_X9_y m0_69 (l2_69 + 1) l3_69).bind fun v91 =>
      (G_X9_setCorner m0_69 l2_69 l3_69 v83 v91).bind fun v94 =>
      (G_X9_dropHole_L69 r40 n69) v94 (l3_69 + 1) l2_69
def G_X9_dropHole_L40   : Nat → Mod → Int32 → Option (Int32 × Mod)
  | 0, _, _ => none
  | n40 + 1, m0_40, l2_40 =>
    (rd 85 (m_state m0_40) 0).bind fun v48 =>
    if v48 ≤ l2_40 + 1 then
      (rd 85 (m_state m0_40) 0).bind fun v115 =>
      (wr 85 (m_state m0_40) 0 (v115 - 1)).bind fun g118 =>
      (G_X9_remember (ms_state m0_40 g118)).bind fun v120 =>
      (G_X9_area v120).bind fun v124 =>
      some (v124, v120)
    else
      (G_X9_many m0_40 (l2_40 + 1)).bind fun v63 =>
      (wr 85 (m_state m0_40) (1 + l2_40) v63).bind fun g66 =>
      G_X9_dropHole_L69 (G_X9_dropHole_L40 n40) FU (ms_state m0_40 g66) 0 l2_40
def G_X9_dropHole (m0 : Mod) (p1 : Int32) : Option (Int32 × Mod) :=
  (G_X9_isRing m0 p1).bind fun v3 =>
  ((if v3 = 0 then
      some 1
    else
      if p1 = 0 then
        some 2
      else
        some 0) : Option (Int32)).bind fun b6 =>
  if m_thrown (ms_thrown m0 b6) ≤ 0 then
    (G_X9_begin (ms_thrown m0 b6)).bind fun v35 =>
    G_X9_dropHole_L40 FU v35 p1
  else
    some (0, ms_thrown m0 b6)
abbrev rm_X9_dropHole : Room := { frames := 4, cells := 0, slots := 0, locals := 89 }
theorem hdS_X9_dropHole : yX9_dropHole.cls ≠ "java/lang/invoke/MethodHandle" ∧ yX9_dropHole.cls ≠ "java/lang/invoke/VarHandle" ∧ (parseMethodDescriptor yX9_dropHole.desc).map (fun d => d.parameters.length) = some 1 := by decide +kernel
theorem hdV_X9_dropHole : yX9_dropHole.cls = RX9 ∧ yX9_dropHole.cls ≠ "java/lang/invoke/MethodHandle" ∧ yX9_dropHole.cls ≠ "java/lang/invoke/VarHandle" ∧ (parseMethodDescriptor yX9_dropHole.desc).map (fun d => d.parameters.length) = some 1 := ⟨rfl, hdS_X9_dropHole⟩
set_option maxHeartbeats 4000000 in
set_option maxRecDepth 100000 in
theorem c_X9_dropHole (l : Launch) (dC : Nat → ClassId) (dI : Nat → Nat → Nat) (cy : Nat → ClassId) (a0 : Nat → Nat) (m0 : Mod) (p1 : Int32) (res : Int32 × Mod) (h : G_X9_dropHole m0 p1 = some res) : CT l (dC, dI) (TY cy) yX9_dropHole cX9_dropHole 4 (some .int) rm_X9_dropHole [.ref (a0 0), .int p1] (wMod a0 cy m0) (wMod a0 cy res.2) (some (.int res.1)) := sorry

def G_X9_isLetter (m0 : Mod) (p1 : Int32) : Option (Int32) :=
  if m_textLength m0 ≤ p1 then
    some 0
  else
    (rd 90 (m_text m0) p1).bind fun v13 =>
    (G_X9_within v13 97 112).bind fun v18 =>
    if v18 = 0 then
      some 0
    else
      some 1
abbrev rm_X9_isLetter : Room := { frames := 1, cells := 0, slots := 0, locals := 22 }
theorem hdS_X9_isLetter : yX9_isLetter.cls ≠ "java/lang/invoke/MethodHandle" ∧ yX9_isLetter.cls ≠ "java/lang/invoke/VarHandle" ∧ (parseMethodDescriptor yX9_isLetter.desc).map (fun d => d.parameters.length) = some 1 := by decide +kernel
theorem hdV_X9_isLetter : yX9_isLetter.cls = RX9 ∧ yX9_isLetter.cls ≠ "java/lang/invoke/MethodHandle" ∧ yX9_isLetter.cls ≠ "java/lang/invoke/VarHandle" ∧ (parseMethodDescriptor yX9_isLetter.desc).map (fun d => d.parameters.length) = some 1 := ⟨rfl, hdS_X9_isLetter⟩
set_option maxHeartbeats 4000000 in
set_option maxRecDepth 100000 in
theorem c_X9_isLetter (l : Launch) (dC : Nat → ClassId) (dI : Nat → Nat → Nat) (cy : Nat → ClassId) (a0 : Nat → Nat) (m0 : Mod) (p1 : Int32) (res : Int32) (h : G_X9_isLetter m0 p1 = some res) : CT l (dC, dI) (TY cy) yX9_isLetter cX9_isLetter 2 (some .boolean) rm_X9_isLetter [.ref (a0 0), .int p1] (wMod a0 cy m0) (wMod a0 cy m0) (some (.int res)) := sorry

def G_X9_readText_j223 (r29 : Mod → Int32 → Option (Int32 × Mod))  (m0_223 : Mod) (l5_223 : Int32) (l3_223 : Int32) (l1_223 : Int32) : Option (Int32 × Mod) :=
  (rd 85 (m_state m0_223) 0).bind fun v229 =>
  (wr 85 (m_state m0_223) 0 (v229 + 1)).bind fun g232 =>
  (G_X9_broken (ms_state m0_223 g232)).bind fun v234 =>
  if v234.1 ≤ 0 then
    if l5_223 = 0 then
      r29 v234.2 (l1_223 + 1)
    else
      some ((-9), v234.2)
  else
    some (l3_223, v234.2)
def G_X9_readText_j123 (r29 : Mod → Int32 → Option (Int32 × Mod))  (m0_123 : Mod) (l3_123 : Int32) (l2_123 : Int32) (l1_123 : Int32) : Option (Int32 × Mod) :=
  (G_X9_isLetter m0_123 l1_123).bind fun v125 =>
  ((if v125 = 0 then
      some 0
    else
      (G_X9_many m0_123 l2_123).bind fun v133 =>
      if 10 ≤ v133 then
        some 0
      else
        some 1) : Option (Int32)).bind fun b128 =>
  if b128 = 0 then
    ((if l1_123 = m_textLength m0_123 then
        some 1
      else
        some 0) : Option (Int32)).bind fun b162 =>
    ((if b162 = 0 then
        (rd 90 (m_text m0_123) l1_123).bind fun v182 =>
        if v182 = 47 then
          if 4 ≤ l2_123 + 1 then
            some 0
          else
            some 1
        else
          some 0
      else
        some 0) : Option (Int32)).bind fun b174 =>
    (G_X9_many m0_123 l2_123).bind fun v204 =>
    if v204 < 3 then
      some (l1_123, m0_123)
    else
      if b162 = 0 then
        if b174 = 0 then
          some (l1_123, m0_123)
        else
          G_X9_readText_j223 r29 m0_123 b162 l3_123 l1_123
      else
        G_X9_readText_j223 r29 m0_123 b162 l3_123 l1_123
  else
    some (l1_123 + 1, m0_123)
def G_X9_readText_L47 (r29 : Mod → Int32 → Option (Int32 × Mod))  : Nat → Mod → Int32 → Int32 → Int32 → Option (Int32 × Mod)
  | 0, _, _, _, _ => none
  | n47 + 1, m0_47, l3_47, l2_47, l1_47 =>
    (G_X9_isLetter m0_47 l1_47).bind fun v49 =>
    if v49 = 0 then
      G_X9_readText_j123 r29 m0_47 l3_47 l2_47 l1_47
    else
      (G_X9_isLetter m0_47 (l1_47 + 1)).bind fun v59 =>
      if v59 = 0 then
        G_X9_readText_j123 r29 m0_47 l3_47 l2_47 l1_47
      else
        (G_X9_many m0_47 l2_47).bind fun v67 =>
        if 10 ≤ v67 then
          G_X9_readText_j123 r29 m0_47 l3_47 l2_47 l1_47
        else
          (G_X9_many m0_47 l2_47).bind fun v79 =>
          (rd 90 (m_text m0_47) l1_47).bind fun v87 =>
          (rd 90 (m_text m0_47) (l1_47 + 1)).bind fun v98 =>
          (G_X9_setCorner m0_47 l2_47 v79 (v87 - 97) (v98 - 97)).bind fun v102 =>
          (rd 85 (m_state v102) (1 + l2_47)).bind fun v113 =>
          (wr 85 (m_state v102) (1 + l2_47) (v113 + 1)).bind fun g116 =>
          (G_X9_readText_L47 r29 n47) (ms_state v102 g116) l3_47 l2_47 (l1_47 + 2)
def G_X9_readText_L29   : Nat → Mod → Int32 → Option (Int32 × Mod)
  | 0, _, _ => none
  | n29 + 1, m0_29, l1_29 =>
    (rd 85 (m_state m0_29) 0).bind fun v34 =>
    (wr 85 (m_state m0_29) (1 + v34) 0).bind fun g46 =>
    G_X9_readText_L47 (G_X9_readText_L29 n29) FU (ms_state m0_29 g46) l1_29 v34 l1_29
def G_X9_readText (m0 : Mod) : Option (Int32 × Mod) :=
  (wr 85 (m_state m0) 0 0).bind fun g6 =>
  if m_textLength (ms_state m0 g6) = 0 then
    some (0, ms_state m0 g6)
  else
    (rd 90 (m_text (ms_state m0 g6)) 0).bind fun v19 =>
    if v19 = 70 then
      G_X9_readText_L29 FU (ms_state m0 g6) 1
    else
      some (0, ms_state m0 g6)
abbrev rm_X9_readText : Room := { frames := 5, cells := 0, slots := 0, locals := 125 }
theorem hdS_X9_readText : yX9_readText.cls ≠ "java/lang/invoke/MethodHandle" ∧ yX9_readText.cls ≠ "java/lang/invoke/VarHandle" ∧ (parseMethodDescriptor yX9_readText.desc).map (fun d => d.parameters.length) = some 0 := by decide +kernel
theorem hdV_X9_readText : yX9_readText.cls = RX9 ∧ yX9_readText.cls ≠ "java/lang/invoke/MethodHandle" ∧ yX9_readText.cls ≠ "java/lang/invoke/VarHandle" ∧ (parseMethodDescriptor yX9_readText.desc).map (fun d => d.parameters.length) = some 0 := ⟨rfl, hdS_X9_readText⟩
set_option maxHeartbeats 4000000 in
set_option maxRecDepth 100000 in
theorem c_X9_readText (l : Launch) (dC : Nat → ClassId) (dI : Nat → Nat → Nat) (cy : Nat → ClassId) (a0 : Nat → Nat) (m0 : Mod) (res : Int32 × Mod) (h : G_X9_readText m0 = some res) : CT l (dC, dI) (TY cy) yX9_readText cX9_readText 7 (some .int) rm_X9_readText [.ref (a0 0)] (wMod a0 cy m0) (wMod a0 cy res.2) (some (.int res.1)) := sorry

def G_X9_errorPosition (m0 : Mod) : Option (Int32 × Mod) :=
  (some (ms_thrown m0 0)).bind fun z0_15 =>
  (G_X9_copy 85 85 (m_state (z0_15)) (m_kept (z0_15)) 0 0).bind fun v15 =>
  (G_X9_readText (ms_kept z0_15 v15)).bind fun v19 =>
  (G_X9_copy 85 85 (m_kept v19.2) (m_state v19.2) 0 0).bind fun v33 =>
  some (v19.1, ms_state v19.2 v33)
abbrev rm_X9_errorPosition : Room := { frames := 6, cells := 0, slots := 0, locals := 151 }
theorem hdS_X9_errorPosition : yX9_errorPosition.cls ≠ "java/lang/invoke/MethodHandle" ∧ yX9_errorPosition.cls ≠ "java/lang/invoke/VarHandle" ∧ (parseMethodDescriptor yX9_errorPosition.desc).map (fun d => d.parameters.length) = some 0 := by decide +kernel
theorem hdV_X9_errorPosition : yX9_errorPosition.cls = RX9 ∧ yX9_errorPosition.cls ≠ "java/lang/invoke/MethodHandle" ∧ yX9_errorPosition.cls ≠ "java/lang/invoke/VarHandle" ∧ (parseMethodDescriptor yX9_errorPosition.desc).map (fun d => d.parameters.length) = some 0 := ⟨rfl, hdS_X9_errorPosition⟩
set_option maxHeartbeats 4000000 in
set_option maxRecDepth 100000 in
theorem c_X9_errorPosition (l : Launch) (dC : Nat → ClassId) (dI : Nat → Nat → Nat) (cy : Nat → ClassId) (a0 : Nat → Nat) (m0 : Mod) (res : Int32 × Mod) (h : G_X9_errorPosition m0 = some res) : CT l (dC, dI) (TY cy) yX9_errorPosition cX9_errorPosition 2 (some .int) rm_X9_errorPosition [.ref (a0 0)] (wMod a0 cy m0) (wMod a0 cy res.2) (some (.int res.1)) := sorry

def G_X9_greatestX_L16 (r4 : Int32 → Int32 → Option (Int32)) (m0 : Mod) : Nat → Int32 → Int32 → Int32 → Option (Int32)
  | 0, _, _, _ => none
  | n16 + 1, l3_16, l2_16, l1_16 =>
    (G_X9_many m0 l2_16).bind fun v19 =>
    if v19 ≤ l3_16 then
      r4 (l2_16 + 1) l1_16
    else
      (G_X9_x m0 l2_16 l3_16).bind fun v28 =>
      ((if v28 ≤ l1_16 then
          some l1_16
        else
          (G_X9_x m0 l2_16 l3_16).bind fun v38 =>
          some v38) : Option (Int32)).bind fun b32 =>
      (G_X9_greatestX_L16 r4 m0 n16) (l3_16 + 1) l2_16 b32
def G_X9_greatestX_L4  (m0 : Mod) : Nat → Int32 → Int32 → Option (Int32)
  | 0, _, _ => none
  | n4 + 1, l2_4, l1_4 =>
    (rd 85 (m_state m0) 0).bind fun v10 =>
    if v10 ≤ l2_4 then
      some l1_4
    else
      G_X9_greatestX_L16 (G_X9_greatestX_L4 m0 n4) m0 FU 0 l2_4 l1_4
def G_X9_greatestX (m0 : Mod) : Option (Int32) :=
  G_X9_greatestX_L4 m0 FU 0 0
abbrev rm_X9_greatestX : Room := { frames := 1, cells := 0, slots := 0, locals := 22 }
theorem hdS_X9_greatestX : yX9_greatestX.cls ≠ "java/lang/invoke/MethodHandle" ∧ yX9_greatestX.cls ≠ "java/lang/invoke/VarHandle" ∧ (parseMethodDescriptor yX9_greatestX.desc).map (fun d => d.parameters.length) = some 0 := by decide +kernel
theorem hdV_X9_greatestX : yX9_greatestX.cls = RX9 ∧ yX9_greatestX.cls ≠ "java/lang/invoke/MethodHandle" ∧ yX9_greatestX.cls ≠ "java/lang/invoke/VarHandle" ∧ (parseMethodDescriptor yX9_greatestX.desc).map (fun d => d.parameters.length) = some 0 := ⟨rfl, hdS_X9_greatestX⟩
set_option maxHeartbeats 4000000 in
set_option maxRecDepth 100000 in
theorem c_X9_greatestX (l : Launch) (dC : Nat → ClassId) (dI : Nat → Nat → Nat) (cy : Nat → ClassId) (a0 : Nat → Nat) (m0 : Mod) (res : Int32) (h : G_X9_greatestX m0 = some res) : CT l (dC, dI) (TY cy) yX9_greatestX cX9_greatestX 4 (some .int) rm_X9_greatestX [.ref (a0 0)] (wMod a0 cy m0) (wMod a0 cy m0) (some (.int res)) := sorry

def G_X9_inRow (m0 : Mod) (p1 : Int32) (p2 : Int32) : Option (Int32 × Mod) :=
  (G_X9_within p1 0 15).bind fun v5 =>
  ((if v5 = 0 then
      some 1
    else
      some 0) : Option (Int32)).bind fun b8 =>
  if m_thrown (ms_thrown m0 b8) ≤ 0 then
    (G_X9_pointsIn (ms_thrown m0 b8) p1 p2).bind fun v33 =>
    some (v33, ms_thrown m0 b8)
  else
    some (0, ms_thrown m0 b8)
abbrev rm_X9_inRow : Room := { frames := 6, cells := 0, slots := 0, locals := 148 }
theorem hdS_X9_inRow : yX9_inRow.cls ≠ "java/lang/invoke/MethodHandle" ∧ yX9_inRow.cls ≠ "java/lang/invoke/VarHandle" ∧ (parseMethodDescriptor yX9_inRow.desc).map (fun d => d.parameters.length) = some 2 := by decide +kernel
theorem hdV_X9_inRow : yX9_inRow.cls = RX9 ∧ yX9_inRow.cls ≠ "java/lang/invoke/MethodHandle" ∧ yX9_inRow.cls ≠ "java/lang/invoke/VarHandle" ∧ (parseMethodDescriptor yX9_inRow.desc).map (fun d => d.parameters.length) = some 2 := ⟨rfl, hdS_X9_inRow⟩
set_option maxHeartbeats 4000000 in
set_option maxRecDepth 100000 in
theorem c_X9_inRow (l : Launch) (dC : Nat → ClassId) (dI : Nat → Nat → Nat) (cy : Nat → ClassId) (a0 : Nat → Nat) (m0 : Mod) (p1 : Int32) (p2 : Int32) (res : Int32 × Mod) (h : G_X9_inRow m0 p1 p2 = some res) : CT l (dC, dI) (TY cy) yX9_inRow cX9_inRow 3 (some .int) rm_X9_inRow [.ref (a0 0), .int p1, .int p2] (wMod a0 cy m0) (wMod a0 cy res.2) (some (.int res.1)) := sorry

def G_X9_insert (m0 : Mod) (p1 : Int32) (p2 : Int32) (p3 : Int32) (p4 : Int32) : Option (Int32 × Mod) :=
  (G_X9_tryInsert m0 p1 p2 p3 p4).bind fun v7 =>
  if m_thrown (ms_thrown v7.2 v7.1) ≤ 0 then
    (G_X9_remember (ms_thrown v7.2 v7.1)).bind fun v23 =>
    (G_X9_area v23).bind fun v27 =>
    some (v27, v23)
  else
    some (0, ms_thrown v7.2 v7.1)
abbrev rm_X9_insert : Room := { frames := 7, cells := 0, slots := 0, locals := 171 }
theorem hdS_X9_insert : yX9_insert.cls ≠ "java/lang/invoke/MethodHandle" ∧ yX9_insert.cls ≠ "java/lang/invoke/VarHandle" ∧ (parseMethodDescriptor yX9_insert.desc).map (fun d => d.parameters.length) = some 4 := by decide +kernel
theorem hdV_X9_insert : yX9_insert.cls = RX9 ∧ yX9_insert.cls ≠ "java/lang/invoke/MethodHandle" ∧ yX9_insert.cls ≠ "java/lang/invoke/VarHandle" ∧ (parseMethodDescriptor yX9_insert.desc).map (fun d => d.parameters.length) = some 4 := ⟨rfl, hdS_X9_insert⟩
set_option maxHeartbeats 4000000 in
set_option maxRecDepth 100000 in
theorem c_X9_insert (l : Launch) (dC : Nat → ClassId) (dI : Nat → Nat → Nat) (cy : Nat → ClassId) (a0 : Nat → Nat) (m0 : Mod) (p1 : Int32) (p2 : Int32) (p3 : Int32) (p4 : Int32) (res : Int32 × Mod) (h : G_X9_insert m0 p1 p2 p3 p4 = some res) : CT l (dC, dI) (TY cy) yX9_insert cX9_insert 5 (some .int) rm_X9_insert [.ref (a0 0), .int p1, .int p2, .int p3, .int p4] (wMod a0 cy m0) (wMod a0 cy res.2) (some (.int res.1)) := sorry

def G_X9_isSlot (p0 : Int32) : Option (Int32) :=
  if p0 = 0 then
    some 1
  else
    if p0 = 1 then
      some 1
    else
      some 0
abbrev rm_X9_isSlot : Room := { frames := 0, cells := 0, slots := 0, locals := 0 }
theorem hdS_X9_isSlot : yX9_isSlot.cls ≠ "java/lang/invoke/MethodHandle" ∧ yX9_isSlot.cls ≠ "java/lang/invoke/VarHandle" ∧ (parseMethodDescriptor yX9_isSlot.desc).map (fun d => d.parameters.length) = some 1 := by decide +kernel
set_option maxHeartbeats 4000000 in
set_option maxRecDepth 100000 in
theorem c_X9_isSlot (l : Launch) (dC : Nat → ClassId) (dI : Nat → Nat → Nat) (cy : Nat → ClassId)  (p0 : Int32) (res : Int32) (h : G_X9_isSlot p0 = some res) : CT l (dC, dI) (TY cy) yX9_isSlot cX9_isSlot 1 (some .boolean) rm_X9_isSlot [.int p0] ([]) ([]) (some (.int res)) := sorry

def G_X9_lengthOf (m0 : Mod) (p1 : Int32) (p2 : Int32) : Option (Int32) :=
  (G_X9_next m0 p1 p2).bind fun v3 =>
  (G_X9_x m0 p1 v3).bind fun v10 =>
  (G_X9_x m0 p1 p2).bind fun v16 =>
  (G_X9_y m0 p1 v3).bind fun v25 =>
  (G_X9_y m0 p1 p2).bind fun v31 =>
  some (((v10 - v16) * (v10 - v16)) + ((v25 - v31) * (v25 - v31)))
abbrev rm_X9_lengthOf : Room := { frames := 2, cells := 0, slots := 0, locals := 43 }
theorem hdS_X9_lengthOf : yX9_lengthOf.cls ≠ "java/lang/invoke/MethodHandle" ∧ yX9_lengthOf.cls ≠ "java/lang/invoke/VarHandle" ∧ (parseMethodDescriptor yX9_lengthOf.desc).map (fun d => d.parameters.length) = some 2 := by decide +kernel
theorem hdV_X9_lengthOf : yX9_lengthOf.cls = RX9 ∧ yX9_lengthOf.cls ≠ "java/lang/invoke/MethodHandle" ∧ yX9_lengthOf.cls ≠ "java/lang/invoke/VarHandle" ∧ (parseMethodDescriptor yX9_lengthOf.desc).map (fun d => d.parameters.length) = some 2 := ⟨rfl, hdS_X9_lengthOf⟩
set_option maxHeartbeats 4000000 in
set_option maxRecDepth 100000 in
theorem c_X9_lengthOf (l : Launch) (dC : Nat → ClassId) (dI : Nat → Nat → Nat) (cy : Nat → ClassId) (a0 : Nat → Nat) (m0 : Mod) (p1 : Int32) (p2 : Int32) (res : Int32) (h : G_X9_lengthOf m0 p1 p2 = some res) : CT l (dC, dI) (TY cy) yX9_lengthOf cX9_lengthOf 6 (some .int) rm_X9_lengthOf [.ref (a0 0), .int p1, .int p2] (wMod a0 cy m0) (wMod a0 cy m0) (some (.int res)) := sorry

def G_X9_load (m0 : Mod) : Option (Int32 × Mod) :=
  (G_X9_copy 85 85 (m_state m0) (m_kept m0) 0 0).bind fun v10 =>
  (G_X9_readText (ms_kept m0 v10)).bind fun v15 =>
  ((if v15.1 = (-9) then
      some 0
    else
      some 1) : Option (Int32)).bind fun b20 =>
  if m_thrown (ms_thrown v15.2 b20) ≤ 0 then
    (some (ms_thrown v15.2 b20)).bind fun z0_55 =>
    (some (ms_remembered z0_55 0)).bind fun z0_64 =>
    (wr 2 (m_isSaved z0_64) 0 0).bind fun g64 =>
    (some (ms_isSaved z0_64 g64)).bind fun z0_71 =>
    (wr 2 (m_isSaved z0_71) 1 0).bind fun g71 =>
    (rd 85 (m_state (ms_isSaved z0_71 g71)) 0).bind fun v77 =>
    some (v77, ms_isSaved z0_71 g71)
  else
    (some (ms_thrown v15.2 b20)).bind fun z0_48 =>
    (G_X9_copy 85 85 (m_kept (z0_48)) (m_state (z0_48)) 0 0).bind fun v48 =>
    some (0, ms_state z0_48 v48)
abbrev rm_X9_load : Room := { frames := 6, cells := 0, slots := 0, locals := 151 }
theorem hdS_X9_load : yX9_load.cls ≠ "java/lang/invoke/MethodHandle" ∧ yX9_load.cls ≠ "java/lang/invoke/VarHandle" ∧ (parseMethodDescriptor yX9_load.desc).map (fun d => d.parameters.length) = some 0 := by decide +kernel
theorem hdV_X9_load : yX9_load.cls = RX9 ∧ yX9_load.cls ≠ "java/lang/invoke/MethodHandle" ∧ yX9_load.cls ≠ "java/lang/invoke/VarHandle" ∧ (parseMethodDescriptor yX9_load.desc).map (fun d => d.parameters.length) = some 0 := ⟨rfl, hdS_X9_load⟩
set_option maxHeartbeats 4000000 in
set_option maxRecDepth 100000 in
theorem c_X9_load (l : Launch) (dC : Nat → ClassId) (dI : Nat → Nat → Nat) (cy : Nat → ClassId) (a0 : Nat → Nat) (m0 : Mod) (res : Int32 × Mod) (h : G_X9_load m0 = some res) : CT l (dC, dI) (TY cy) yX9_load cX9_load 1 (some .int) rm_X9_load [.ref (a0 0)] (wMod a0 cy m0) (wMod a0 cy res.2) (some (.int res.1)) := sorry

def G_X9_longest_L4  (m0 : Mod) : Nat → Int32 → Int32 → Int32 → Option (Int32)
  | 0, _, _, _ => none
  | n4 + 1, l3_4, l2_4, l1_4 =>
    (G_X9_many m0 l1_4).bind fun v7 =>
    if v7 ≤ l3_4 then
      some l2_4
    else
      (G_X9_lengthOf m0 l1_4 l3_4).bind fun v16 =>
      (G_X9_lengthOf m0 l1_4 l2_4).bind fun v22 =>
      ((if v16 ≤ v22 then
          some l2_4
        else
          some l3_4) : Option (Int32)).bind fun b25 =>
      (G_X9_longest_L4 m0 n4) (l3_4 + 1) b25 l1_4
def G_X9_longest (m0 : Mod) (p1 : Int32) : Option (Int32) :=
  G_X9_longest_L4 m0 FU 1 0 p1
abbrev rm_X9_longest : Room := { frames := 3, cells := 0, slots := 0, locals := 68 }
theorem hdS_X9_longest : yX9_longest.cls ≠ "java/lang/invoke/MethodHandle" ∧ yX9_longest.cls ≠ "java/lang/invoke/VarHandle" ∧ (parseMethodDescriptor yX9_longest.desc).map (fun d => d.parameters.length) = some 1 := by decide +kernel
theorem hdV_X9_longest : yX9_longest.cls = RX9 ∧ yX9_longest.cls ≠ "java/lang/invoke/MethodHandle" ∧ yX9_longest.cls ≠ "java/lang/invoke/VarHandle" ∧ (parseMethodDescriptor yX9_longest.desc).map (fun d => d.parameters.length) = some 1 := ⟨rfl, hdS_X9_longest⟩
set_option maxHeartbeats 4000000 in
set_option maxRecDepth 100000 in
theorem c_X9_longest (l : Launch) (dC : Nat → ClassId) (dI : Nat → Nat → Nat) (cy : Nat → ClassId) (a0 : Nat → Nat) (m0 : Mod) (p1 : Int32) (res : Int32) (h : G_X9_longest m0 p1 = some res) : CT l (dC, dI) (TY cy) yX9_longest cX9_longest 4 (some .int) rm_X9_longest [.ref (a0 0), .int p1] (wMod a0 cy m0) (wMod a0 cy m0) (some (.int res)) := sorry

def G_X9_mirror (m0 : Mod) : Option (Int32 × Mod) :=
  (G_X9_turned (ms_thrown m0 0) 1).bind fun v7 =>
  (G_X9_remember v7).bind fun v11 =>
  (G_X9_greatestX v11).bind fun v15 =>
  some (v15, v11)
abbrev rm_X9_mirror : Room := { frames := 3, cells := 0, slots := 0, locals := 69 }
theorem hdS_X9_mirror : yX9_mirror.cls ≠ "java/lang/invoke/MethodHandle" ∧ yX9_mirror.cls ≠ "java/lang/invoke/VarHandle" ∧ (parseMethodDescriptor yX9_mirror.desc).map (fun d => d.parameters.length) = some 0 := by decide +kernel
theorem hdV_X9_mirror : yX9_mirror.cls = RX9 ∧ yX9_mirror.cls ≠ "java/lang/invoke/MethodHandle" ∧ yX9_mirror.cls ≠ "java/lang/invoke/VarHandle" ∧ (parseMethodDescriptor yX9_mirror.desc).map (fun d => d.parameters.length) = some 0 := ⟨rfl, hdS_X9_mirror⟩
set_option maxHeartbeats 4000000 in
set_option maxRecDepth 100000 in
theorem c_X9_mirror (l : Launch) (dC : Nat → ClassId) (dI : Nat → Nat → Nat) (cy : Nat → ClassId) (a0 : Nat → Nat) (m0 : Mod) (res : Int32 × Mod) (h : G_X9_mirror m0 = some res) : CT l (dC, dI) (TY cy) yX9_mirror cX9_mirror 1 (some .int) rm_X9_mirror [.ref (a0 0)] (wMod a0 cy m0) (wMod a0 cy res.2) (some (.int res.1)) := sorry

def G_X9_move (m0 : Mod) (p1 : Int32) (p2 : Int32) (p3 : Int32) (p4 : Int32) : Option (Int32 × Mod) :=
  (G_X9_tryMove m0 p1 p2 p3 p4).bind fun v7 =>
  if m_thrown (ms_thrown v7.2 v7.1) ≤ 0 then
    (G_X9_remember (ms_thrown v7.2 v7.1)).bind fun v23 =>
    (G_X9_area v23).bind fun v27 =>
    some (v27, v23)
  else
    some (0, ms_thrown v7.2 v7.1)
abbrev rm_X9_move : Room := { frames := 7, cells := 0, slots := 0, locals := 170 }
theorem hdS_X9_move : yX9_move.cls ≠ "java/lang/invoke/MethodHandle" ∧ yX9_move.cls ≠ "java/lang/invoke/VarHandle" ∧ (parseMethodDescriptor yX9_move.desc).map (fun d => d.parameters.length) = some 4 := by decide +kernel
theorem hdV_X9_move : yX9_move.cls = RX9 ∧ yX9_move.cls ≠ "java/lang/invoke/MethodHandle" ∧ yX9_move.cls ≠ "java/lang/invoke/VarHandle" ∧ (parseMethodDescriptor yX9_move.desc).map (fun d => d.parameters.length) = some 4 := ⟨rfl, hdS_X9_move⟩
set_option maxHeartbeats 4000000 in
set_option maxRecDepth 100000 in
theorem c_X9_move (l : Launch) (dC : Nat → ClassId) (dI : Nat → Nat → Nat) (cy : Nat → ClassId) (a0 : Nat → Nat) (m0 : Mod) (p1 : Int32) (p2 : Int32) (p3 : Int32) (p4 : Int32) (res : Int32 × Mod) (h : G_X9_move m0 p1 p2 p3 p4 = some res) : CT l (dC, dI) (TY cy) yX9_move cX9_move 5 (some .int) rm_X9_move [.ref (a0 0), .int p1, .int p2, .int p3, .int p4] (wMod a0 cy m0) (wMod a0 cy res.2) (some (.int res.1)) := sorry

def G_X9_point (m0 : Mod) (p1 : Int32) (p2 : Int32) : Option (Int32 × Mod) :=
  (G_X9_isPoint p1 p2).bind fun v3 =>
  ((if v3 = 0 then
      some 1
    else
      some 0) : Option (Int32)).bind fun b6 =>
  if m_thrown (ms_thrown m0 b6) ≤ 0 then
    (G_X9_where (ms_thrown m0 b6) p1 p2).bind fun v31 =>
    some (v31, ms_thrown m0 b6)
  else
    some (0, ms_thrown m0 b6)
abbrev rm_X9_point : Room := { frames := 5, cells := 0, slots := 0, locals := 123 }
theorem hdS_X9_point : yX9_point.cls ≠ "java/lang/invoke/MethodHandle" ∧ yX9_point.cls ≠ "java/lang/invoke/VarHandle" ∧ (parseMethodDescriptor yX9_point.desc).map (fun d => d.parameters.length) = some 2 := by decide +kernel
theorem hdV_X9_point : yX9_point.cls = RX9 ∧ yX9_point.cls ≠ "java/lang/invoke/MethodHandle" ∧ yX9_point.cls ≠ "java/lang/invoke/VarHandle" ∧ (parseMethodDescriptor yX9_point.desc).map (fun d => d.parameters.length) = some 2 := ⟨rfl, hdS_X9_point⟩
set_option maxHeartbeats 4000000 in
set_option maxRecDepth 100000 in
theorem c_X9_point (l : Launch) (dC : Nat → ClassId) (dI : Nat → Nat → Nat) (cy : Nat → ClassId) (a0 : Nat → Nat) (m0 : Mod) (p1 : Int32) (p2 : Int32) (res : Int32 × Mod) (h : G_X9_point m0 p1 p2 = some res) : CT l (dC, dI) (TY cy) yX9_point cX9_point 3 (some .int) rm_X9_point [.ref (a0 0), .int p1, .int p2] (wMod a0 cy m0) (wMod a0 cy res.2) (some (.int res.1)) := sorry

def G_X9_remove (m0 : Mod) (p1 : Int32) (p2 : Int32) : Option (Int32 × Mod) :=
  (G_X9_tryRemove m0 p1 p2).bind fun v4 =>
  if m_thrown (ms_thrown v4.2 v4.1) ≤ 0 then
    (G_X9_remember (ms_thrown v4.2 v4.1)).bind fun v20 =>
    (G_X9_area v20).bind fun v24 =>
    some (v24, v20)
  else
    some (0, ms_thrown v4.2 v4.1)
abbrev rm_X9_remove : Room := { frames := 7, cells := 0, slots := 0, locals := 169 }
theorem hdS_X9_remove : yX9_remove.cls ≠ "java/lang/invoke/MethodHandle" ∧ yX9_remove.cls ≠ "java/lang/invoke/VarHandle" ∧ (parseMethodDescriptor yX9_remove.desc).map (fun d => d.parameters.length) = some 2 := by decide +kernel
theorem hdV_X9_remove : yX9_remove.cls = RX9 ∧ yX9_remove.cls ≠ "java/lang/invoke/MethodHandle" ∧ yX9_remove.cls ≠ "java/lang/invoke/VarHandle" ∧ (parseMethodDescriptor yX9_remove.desc).map (fun d => d.parameters.length) = some 2 := ⟨rfl, hdS_X9_remove⟩
set_option maxHeartbeats 4000000 in
set_option maxRecDepth 100000 in
theorem c_X9_remove (l : Launch) (dC : Nat → ClassId) (dI : Nat → Nat → Nat) (cy : Nat → ClassId) (a0 : Nat → Nat) (m0 : Mod) (p1 : Int32) (p2 : Int32) (res : Int32 × Mod) (h : G_X9_remove m0 p1 p2 = some res) : CT l (dC, dI) (TY cy) yX9_remove cX9_remove 3 (some .int) rm_X9_remove [.ref (a0 0), .int p1, .int p2] (wMod a0 cy m0) (wMod a0 cy res.2) (some (.int res.1)) := sorry

def G_X9_restore (m0 : Mod) (p1 : Int32) : Option (Int32 × Mod) :=
  (G_X9_isSlot p1).bind fun v2 =>
  ((if v2 = 0 then
      some 1
    else
      (rd 2 (m_isSaved m0) p1).bind fun v17 =>
      if v17 = 1 then
        some 0
      else
        some 2) : Option (Int32)).bind fun b5 =>
  if m_thrown (ms_thrown m0 b5) ≤ 0 then
    (some (ms_thrown m0 b5)).bind fun z0_52 =>
    (G_X9_copy 170 85 (m_slots (z0_52)) (m_state (z0_52)) (85 * p1) 0).bind fun v52 =>
    (some (ms_state z0_52 v52)).bind fun z0_57 =>
    (G_X9_cornerMany (ms_remembered z0_57 0)).bind fun v61 =>
    some (v61, ms_remembered z0_57 0)
  else
    some (0, ms_thrown m0 b5)
abbrev rm_X9_restore : Room := { frames := 2, cells := 0, slots := 0, locals := 43 }
theorem hdS_X9_restore : yX9_restore.cls ≠ "java/lang/invoke/MethodHandle" ∧ yX9_restore.cls ≠ "java/lang/invoke/VarHandle" ∧ (parseMethodDescriptor yX9_restore.desc).map (fun d => d.parameters.length) = some 1 := by decide +kernel
theorem hdV_X9_restore : yX9_restore.cls = RX9 ∧ yX9_restore.cls ≠ "java/lang/invoke/MethodHandle" ∧ yX9_restore.cls ≠ "java/lang/invoke/VarHandle" ∧ (parseMethodDescriptor yX9_restore.desc).map (fun d => d.parameters.length) = some 1 := ⟨rfl, hdS_X9_restore⟩
set_option maxHeartbeats 4000000 in
set_option maxRecDepth 100000 in
theorem c_X9_restore (l : Launch) (dC : Nat → ClassId) (dI : Nat → Nat → Nat) (cy : Nat → ClassId) (a0 : Nat → Nat) (m0 : Mod) (p1 : Int32) (res : Int32 × Mod) (h : G_X9_restore m0 p1 = some res) : CT l (dC, dI) (TY cy) yX9_restore cX9_restore 2 (some .int) rm_X9_restore [.ref (a0 0), .int p1] (wMod a0 cy m0) (wMod a0 cy res.2) (some (.int res.1)) := sorry

def G_X9_ring (m0 : Mod) (p1 : Int32) (p2 : Int32) : Option (Int32 × Mod) :=
  (G_X9_isRing m0 p1).bind fun v3 =>
  ((if v3 = 0 then
      some 1
    else
      (G_X9_within p2 0 5).bind fun v16 =>
      if v16 = 0 then
        some 2
      else
        some 0) : Option (Int32)).bind fun b6 =>
  if m_thrown (ms_thrown m0 b6) ≤ 0 then
    if p2 = 0 then
      (G_X9_many (ms_thrown m0 b6) p1).bind fun v78 =>
      some (v78, ms_thrown m0 b6)
    else
    if p2 = 1 then
      (G_X9_sumOf (ms_thrown m0 b6) p1).bind fun v84 =>
      (G_X9_size v84).bind fun v87 =>
      some (v87, ms_thrown m0 b6)
    else
    if p2 = 2 then
      (G_X9_sumOf (ms_thrown m0 b6) p1).bind fun v93 =>
      if v93 ≤ 0 then
        some (0, ms_thrown m0 b6)
      else
        some (1, ms_thrown m0 b6)
    else
    if p2 = 3 then
      (G_X9_ringPoints (ms_thrown m0 b6) p1).bind fun v107 =>
      some (v107, ms_thrown m0 b6)
    else
    if p2 = 4 then
      (G_X9_longest (ms_thrown m0 b6) p1).bind fun v113 =>
      some (v113, ms_thrown m0 b6)
    else
    (G_X9_longest (ms_thrown m0 b6) p1).bind fun v121 =>
    (G_X9_lengthOf (ms_thrown m0 b6) p1 v121).bind fun v124 =>
    some (v124, ms_thrown m0 b6)
  else
    some (0, ms_thrown m0 b6)
abbrev rm_X9_ring : Room := { frames := 4, cells := 0, slots := 0, locals := 91 }
theorem hdS_X9_ring : yX9_ring.cls ≠ "java/lang/invoke/MethodHandle" ∧ yX9_ring.cls ≠ "java/lang/invoke/VarHandle" ∧ (parseMethodDescriptor yX9_ring.desc).map (fun d => d.parameters.length) = some 2 := by decide +kernel
theorem hdV_X9_ring : yX9_ring.cls = RX9 ∧ yX9_ring.cls ≠ "java/lang/invoke/MethodHandle" ∧ yX9_ring.cls ≠ "java/lang/invoke/VarHandle" ∧ (parseMethodDescriptor yX9_ring.desc).map (fun d => d.parameters.length) = some 2 := ⟨rfl, hdS_X9_ring⟩
set_option maxHeartbeats 4000000 in
set_option maxRecDepth 100000 in
theorem c_X9_ring (l : Launch) (dC : Nat → ClassId) (dI : Nat → Nat → Nat) (cy : Nat → ClassId) (a0 : Nat → Nat) (m0 : Mod) (p1 : Int32) (p2 : Int32) (res : Int32 × Mod) (h : G_X9_ring m0 p1 p2 = some res) : CT l (dC, dI) (TY cy) yX9_ring cX9_ring 3 (some .int) rm_X9_ring [.ref (a0 0), .int p1, .int p2] (wMod a0 cy m0) (wMod a0 cy res.2) (some (.int res.1)) := sorry

def G_X9_runScript_j148   (m0_148 : Mod) (l6_148 : Int32) : Option (Int32 × Mod) :=
  (G_X9_copy 85 85 (m_scriptKept m0_148) (m_state m0_148) 0 0).bind fun v158 =>
  some (l6_148, ms_state m0_148 v158)
def G_X9_runScript_L96   : Nat → Mod → Int32 → Int32 → Int32 → Int32 → Int64 → Option (Int32 × Mod)
  | 0, _, _, _, _, _, _ => none
  | n96 + 1, m0_96, l9_96, l7_96, l6_96, l1_96, l2_96 =>
    if l1_96 ≤ l9_96 then
      G_X9_runScript_j148 m0_96 l6_96
    else
      if l6_96 = (-9) then
        (dvL l2_96 l7_96).bind fun v113 =>
        (G_X9_commands m0_96 ((v113 - v113 / 1000000 * 1000000).toInt32)).bind fun v119 =>
        ((if v119.1 = 0 then
            some l9_96
          else
            some (-9)) : Option (Int32)).bind fun b122 =>
        (G_X9_runScript_L96 n96) v119.2 (l9_96 + 1) (l7_96 / 1000000) b122 l1_96 l2_96
      else
        G_X9_runScript_j148 m0_96 l6_96
def G_X9_runScript (m0 : Mod) (p1 : Int32) (p2 : Int64) : Option (Int32 × Mod) :=
  ((if p1 = 1 then
      some 1000000
    else
      if p1 = 2 then
        some 1000000000000
      else
        some 1000000000000000000) : Option (Int32)).bind fun b2 =>
  ((if p1 < 1 then
      some 1
    else
      if 3 < p1 then
        some 1
      else
        if lg_cmp p2 0 < 0 then
          some 1
        else
          if lg_cmp p2 b2 < 0 then
            some 0
          else
            some 1) : Option (Int32)).bind fun b30 =>
  if m_thrown (ms_thrown m0 b30) ≤ 0 then
    (some (ms_thrown m0 b30)).bind fun z0_78 =>
    (G_X9_copy 85 85 (m_state (z0_78)) (m_scriptKept (z0_78)) 0 0).bind fun v78 =>
    G_X9_runScript_L96 FU (ms_scriptKept z0_78 v78) 0 (b2 / 1000000) (-9) p1 p2
  else
    some (0, ms_thrown m0 b30)
abbrev rm_X9_runScript : Room := { frames := 8, cells := 0, slots := 0, locals := 196 }
theorem hdS_X9_runScript : yX9_runScript.cls ≠ "java/lang/invoke/MethodHandle" ∧ yX9_runScript.cls ≠ "java/lang/invoke/VarHandle" ∧ (parseMethodDescriptor yX9_runScript.desc).map (fun d => d.parameters.length) = some 2 := by decide +kernel
theorem hdV_X9_runScript : yX9_runScript.cls = RX9 ∧ yX9_runScript.cls ≠ "java/lang/invoke/MethodHandle" ∧ yX9_runScript.cls ≠ "java/lang/invoke/VarHandle" ∧ (parseMethodDescriptor yX9_runScript.desc).map (fun d => d.parameters.length) = some 2 := ⟨rfl, hdS_X9_runScript⟩
set_option maxHeartbeats 4000000 in
set_option maxRecDepth 100000 in
theorem c_X9_runScript (l : Launch) (dC : Nat → ClassId) (dI : Nat → Nat → Nat) (cy : Nat → ClassId) (a0 : Nat → Nat) (m0 : Mod) (p1 : Int32) (p2 : Int64) (res : Int32 × Mod) (h : G_X9_runScript m0 p1 p2 = some res) : CT l (dC, dI) (TY cy) yX9_runScript cX9_runScript 10 (some .int) rm_X9_runScript [.ref (a0 0), .int p1, .long p2] (wMod a0 cy m0) (wMod a0 cy res.2) (some (.int res.1)) := sorry

def G_X9_save (m0 : Mod) (p1 : Int32) : Option (Int32 × Mod) :=
  (G_X9_isSlot p1).bind fun v2 =>
  ((if v2 = 0 then
      some 1
    else
      some 0) : Option (Int32)).bind fun b5 =>
  if m_thrown (ms_thrown m0 b5) ≤ 0 then
    (some (ms_thrown m0 b5)).bind fun z0_38 =>
    (G_X9_copy 85 170 (m_state (z0_38)) (m_slots (z0_38)) 0 (85 * p1)).bind fun v38 =>
    (some (ms_slots z0_38 v38)).bind fun z0_47 =>
    (wr 2 (m_isSaved z0_47) p1 1).bind fun g47 =>
    (G_X9_cornerMany (ms_isSaved z0_47 g47)).bind fun v49 =>
    some (v49, ms_isSaved z0_47 g47)
  else
    some (0, ms_thrown m0 b5)
abbrev rm_X9_save : Room := { frames := 2, cells := 0, slots := 0, locals := 43 }
theorem hdS_X9_save : yX9_save.cls ≠ "java/lang/invoke/MethodHandle" ∧ yX9_save.cls ≠ "java/lang/invoke/VarHandle" ∧ (parseMethodDescriptor yX9_save.desc).map (fun d => d.parameters.length) = some 1 := by decide +kernel
theorem hdV_X9_save : yX9_save.cls = RX9 ∧ yX9_save.cls ≠ "java/lang/invoke/MethodHandle" ∧ yX9_save.cls ≠ "java/lang/invoke/VarHandle" ∧ (parseMethodDescriptor yX9_save.desc).map (fun d => d.parameters.length) = some 1 := ⟨rfl, hdS_X9_save⟩
set_option maxHeartbeats 4000000 in
set_option maxRecDepth 100000 in
theorem c_X9_save (l : Launch) (dC : Nat → ClassId) (dI : Nat → Nat → Nat) (cy : Nat → ClassId) (a0 : Nat → Nat) (m0 : Mod) (p1 : Int32) (res : Int32 × Mod) (h : G_X9_save m0 p1 = some res) : CT l (dC, dI) (TY cy) yX9_save cX9_save 2 (some .int) rm_X9_save [.ref (a0 0), .int p1] (wMod a0 cy m0) (wMod a0 cy res.2) (some (.int res.1)) := sorry

def G_X9_sees (m0 : Mod) (p1 : Int32) (p2 : Int32) (p3 : Int32) (p4 : Int32) : Option (Int32 × Mod) :=
  (G_X9_isCorner m0 p1 p2).bind fun v4 =>
  ((if v4 = 0 then
      some 1
    else
      (G_X9_isCorner m0 p3 p4).bind fun v14 =>
      if v14 = 0 then
        some 1
      else
        some 0) : Option (Int32)).bind fun b7 =>
  if m_thrown (ms_thrown m0 b7) = 0 then
    (G_X9_areSeeing (ms_thrown m0 b7) p1 p2 p3 p4).bind fun v41 =>
    if v41.1 = 0 then
      some (0, v41.2)
    else
      some (1, v41.2)
  else
    some (0, ms_thrown m0 b7)
abbrev rm_X9_sees : Room := { frames := 5, cells := 0, slots := 0, locals := 134 }
theorem hdS_X9_sees : yX9_sees.cls ≠ "java/lang/invoke/MethodHandle" ∧ yX9_sees.cls ≠ "java/lang/invoke/VarHandle" ∧ (parseMethodDescriptor yX9_sees.desc).map (fun d => d.parameters.length) = some 4 := by decide +kernel
theorem hdV_X9_sees : yX9_sees.cls = RX9 ∧ yX9_sees.cls ≠ "java/lang/invoke/MethodHandle" ∧ yX9_sees.cls ≠ "java/lang/invoke/VarHandle" ∧ (parseMethodDescriptor yX9_sees.desc).map (fun d => d.parameters.length) = some 4 := ⟨rfl, hdS_X9_sees⟩
set_option maxHeartbeats 4000000 in
set_option maxRecDepth 100000 in
theorem c_X9_sees (l : Launch) (dC : Nat → ClassId) (dI : Nat → Nat → Nat) (cy : Nat → ClassId) (a0 : Nat → Nat) (m0 : Mod) (p1 : Int32) (p2 : Int32) (p3 : Int32) (p4 : Int32) (res : Int32 × Mod) (h : G_X9_sees m0 p1 p2 p3 p4 = some res) : CT l (dC, dI) (TY cy) yX9_sees cX9_sees 5 (some .boolean) rm_X9_sees [.ref (a0 0), .int p1, .int p2, .int p3, .int p4] (wMod a0 cy m0) (wMod a0 cy res.2) (some (.int res.1)) := sorry

def G_X9_shift (m0 : Mod) (p1 : Int32) (p2 : Int32) : Option (Int32 × Mod) :=
  (G_X9_tryShift m0 p1 p2).bind fun v4 =>
  if m_thrown (ms_thrown v4.2 v4.1) ≤ 0 then
    (G_X9_remember (ms_thrown v4.2 v4.1)).bind fun v20 =>
    (G_X9_greatestX v20).bind fun v24 =>
    some (v24, v20)
  else
    some (0, ms_thrown v4.2 v4.1)
abbrev rm_X9_shift : Room := { frames := 7, cells := 0, slots := 0, locals := 170 }
theorem hdS_X9_shift : yX9_shift.cls ≠ "java/lang/invoke/MethodHandle" ∧ yX9_shift.cls ≠ "java/lang/invoke/VarHandle" ∧ (parseMethodDescriptor yX9_shift.desc).map (fun d => d.parameters.length) = some 2 := by decide +kernel
theorem hdV_X9_shift : yX9_shift.cls = RX9 ∧ yX9_shift.cls ≠ "java/lang/invoke/MethodHandle" ∧ yX9_shift.cls ≠ "java/lang/invoke/VarHandle" ∧ (parseMethodDescriptor yX9_shift.desc).map (fun d => d.parameters.length) = some 2 := ⟨rfl, hdS_X9_shift⟩
set_option maxHeartbeats 4000000 in
set_option maxRecDepth 100000 in
theorem c_X9_shift (l : Launch) (dC : Nat → ClassId) (dI : Nat → Nat → Nat) (cy : Nat → ClassId) (a0 : Nat → Nat) (m0 : Mod) (p1 : Int32) (p2 : Int32) (res : Int32 × Mod) (h : G_X9_shift m0 p1 p2 = some res) : CT l (dC, dI) (TY cy) yX9_shift cX9_shift 3 (some .int) rm_X9_shift [.ref (a0 0), .int p1, .int p2] (wMod a0 cy m0) (wMod a0 cy res.2) (some (.int res.1)) := sorry

def G_X9_simulate_L50   : Nat → Mod → Int32 → Int32 → Int64 → Int32 → Option (Int32 × Mod)
  | 0, _, _, _, _, _ => none
  | n50 + 1, m0_50, l7_50, l6_50, l4_50, l3_50 =>
    if l3_50 ≤ l7_50 then
      (G_X9_area m0_50).bind fun v120 =>
      (G_X9_copy 85 85 (m_scriptKept m0_50) (m_state m0_50) 0 0).bind fun v136 =>
      some ((1000 * l6_50) + v120, ms_state m0_50 v136)
    else
      (G_X9_many m0_50 0).bind fun v85 =>
      (rmI ((((((l4_50 * 6364136223846793005) + 1442695040888963407).toUInt64 >>> ((33 : Int32).toInt64.toUInt64 &&& Int64.toUInt64 63)).toInt64).toInt32) / 4) v85).bind fun v88 =>
      (G_X9_isStepped m0_50 v88 ((((((l4_50 * 6364136223846793005) + 1442695040888963407).toUInt64 >>> ((33 : Int32).toInt64.toUInt64 &&& Int64.toUInt64 63)).toInt64).toInt32) - (((((l4_50 * 6364136223846793005) + 1442695040888963407).toUInt64 >>> ((33 : Int32).toInt64.toUInt64 &&& Int64.toUInt64 63)).toInt64).toInt32) / 4 * 4)).bind fun v93 =>
      ((if v93.1 = 0 then
          some 0
        else
          some 1) : Option (Int32)).bind fun b96 =>
      (G_X9_simulate_L50 n50) v93.2 (l7_50 + 1) (l6_50 + b96) ((l4_50 * 6364136223846793005) + 1442695040888963407) l3_50
def G_X9_simulate (m0 : Mod) (p1 : Int64) (p3 : Int32) : Option (Int32 × Mod) :=
  (G_X9_within p3 1 60).bind fun v5 =>
  ((if v5 = 0 then
      some 1
    else
      some 0) : Option (Int32)).bind fun b8 =>
  if m_thrown (ms_thrown m0 b8) ≤ 0 then
    (some (ms_thrown m0 b8)).bind fun z0_38 =>
    (G_X9_copy 85 85 (m_state (z0_38)) (m_scriptKept (z0_38)) 0 0).bind fun v38 =>
    G_X9_simulate_L50 FU (ms_scriptKept z0_38 v38) 0 0 p1 p3
  else
    some (0, ms_thrown m0 b8)
abbrev rm_X9_simulate : Room := { frames := 8, cells := 0, slots := 0, locals := 192 }
theorem hdS_X9_simulate : yX9_simulate.cls ≠ "java/lang/invoke/MethodHandle" ∧ yX9_simulate.cls ≠ "java/lang/invoke/VarHandle" ∧ (parseMethodDescriptor yX9_simulate.desc).map (fun d => d.parameters.length) = some 2 := by decide +kernel
theorem hdV_X9_simulate : yX9_simulate.cls = RX9 ∧ yX9_simulate.cls ≠ "java/lang/invoke/MethodHandle" ∧ yX9_simulate.cls ≠ "java/lang/invoke/VarHandle" ∧ (parseMethodDescriptor yX9_simulate.desc).map (fun d => d.parameters.length) = some 2 := ⟨rfl, hdS_X9_simulate⟩
set_option maxHeartbeats 4000000 in
set_option maxRecDepth 100000 in
theorem c_X9_simulate (l : Launch) (dC : Nat → ClassId) (dI : Nat → Nat → Nat) (cy : Nat → ClassId) (a0 : Nat → Nat) (m0 : Mod) (p1 : Int64) (p3 : Int32) (res : Int32 × Mod) (h : G_X9_simulate m0 p1 p3 = some res) : CT l (dC, dI) (TY cy) yX9_simulate cX9_simulate 9 (some .int) rm_X9_simulate [.ref (a0 0), .long p1, .int p3] (wMod a0 cy m0) (wMod a0 cy res.2) (some (.int res.1)) := sorry

def G_X9_thrown (m0 : Mod) : Option (Int32) :=
  some (m_thrown m0)
abbrev rm_X9_thrown : Room := { frames := 0, cells := 0, slots := 0, locals := 0 }
theorem hdS_X9_thrown : yX9_thrown.cls ≠ "java/lang/invoke/MethodHandle" ∧ yX9_thrown.cls ≠ "java/lang/invoke/VarHandle" ∧ (parseMethodDescriptor yX9_thrown.desc).map (fun d => d.parameters.length) = some 0 := by decide +kernel
theorem hdV_X9_thrown : yX9_thrown.cls = RX9 ∧ yX9_thrown.cls ≠ "java/lang/invoke/MethodHandle" ∧ yX9_thrown.cls ≠ "java/lang/invoke/VarHandle" ∧ (parseMethodDescriptor yX9_thrown.desc).map (fun d => d.parameters.length) = some 0 := ⟨rfl, hdS_X9_thrown⟩
set_option maxHeartbeats 4000000 in
set_option maxRecDepth 100000 in
theorem c_X9_thrown (l : Launch) (dC : Nat → ClassId) (dI : Nat → Nat → Nat) (cy : Nat → ClassId) (a0 : Nat → Nat) (m0 : Mod) (res : Int32) (h : G_X9_thrown m0 = some res) : CT l (dC, dI) (TY cy) yX9_thrown cX9_thrown 1 (some .int) rm_X9_thrown [.ref (a0 0)] (wMod a0 cy m0) (wMod a0 cy m0) (some (.int res)) := sorry

def G_X9_turn (m0 : Mod) : Option (Int32 × Mod) :=
  (G_X9_turned (ms_thrown m0 0) 0).bind fun v7 =>
  (G_X9_remember v7).bind fun v11 =>
  (G_X9_greatestX v11).bind fun v15 =>
  some (v15, v11)
abbrev rm_X9_turn : Room := { frames := 3, cells := 0, slots := 0, locals := 69 }
theorem hdS_X9_turn : yX9_turn.cls ≠ "java/lang/invoke/MethodHandle" ∧ yX9_turn.cls ≠ "java/lang/invoke/VarHandle" ∧ (parseMethodDescriptor yX9_turn.desc).map (fun d => d.parameters.length) = some 0 := by decide +kernel
theorem hdV_X9_turn : yX9_turn.cls = RX9 ∧ yX9_turn.cls ≠ "java/lang/invoke/MethodHandle" ∧ yX9_turn.cls ≠ "java/lang/invoke/VarHandle" ∧ (parseMethodDescriptor yX9_turn.desc).map (fun d => d.parameters.length) = some 0 := ⟨rfl, hdS_X9_turn⟩
set_option maxHeartbeats 4000000 in
set_option maxRecDepth 100000 in
theorem c_X9_turn (l : Launch) (dC : Nat → ClassId) (dI : Nat → Nat → Nat) (cy : Nat → ClassId) (a0 : Nat → Nat) (m0 : Mod) (res : Int32 × Mod) (h : G_X9_turn m0 = some res) : CT l (dC, dI) (TY cy) yX9_turn cX9_turn 1 (some .int) rm_X9_turn [.ref (a0 0)] (wMod a0 cy m0) (wMod a0 cy res.2) (some (.int res.1)) := sorry

def G_X9_undo (m0 : Mod) : Option (Int32 × Mod) :=
  ((if m_remembered m0 ≤ 0 then
      some 1
    else
      some 0) : Option (Int32)).bind fun b5 =>
  if m_thrown (ms_thrown m0 b5) ≤ 0 then
    (some (ms_thrown m0 b5)).bind fun z0_32 =>
    (some (ms_remembered z0_32 ((m_remembered (ms_thrown m0 b5)) - 1))).bind fun z0_51 =>
    (G_X9_copy 1190 85 (m_history (z0_51)) (m_state (z0_51)) ((m_remembered (ms_remembered z0_32 ((m_remembered (ms_thrown m0 b5)) - 1))) * 85) 0).bind fun v51 =>
    some (m_remembered (ms_state z0_51 v51), ms_state z0_51 v51)
  else
    some (0, ms_thrown m0 b5)
abbrev rm_X9_undo : Room := { frames := 1, cells := 0, slots := 0, locals := 24 }
theorem hdS_X9_undo : yX9_undo.cls ≠ "java/lang/invoke/MethodHandle" ∧ yX9_undo.cls ≠ "java/lang/invoke/VarHandle" ∧ (parseMethodDescriptor yX9_undo.desc).map (fun d => d.parameters.length) = some 0 := by decide +kernel
theorem hdV_X9_undo : yX9_undo.cls = RX9 ∧ yX9_undo.cls ≠ "java/lang/invoke/MethodHandle" ∧ yX9_undo.cls ≠ "java/lang/invoke/VarHandle" ∧ (parseMethodDescriptor yX9_undo.desc).map (fun d => d.parameters.length) = some 0 := ⟨rfl, hdS_X9_undo⟩
set_option maxHeartbeats 4000000 in
set_option maxRecDepth 100000 in
theorem c_X9_undo (l : Launch) (dC : Nat → ClassId) (dI : Nat → Nat → Nat) (cy : Nat → ClassId) (a0 : Nat → Nat) (m0 : Mod) (res : Int32 × Mod) (h : G_X9_undo m0 = some res) : CT l (dC, dI) (TY cy) yX9_undo cX9_undo 1 (some .int) rm_X9_undo [.ref (a0 0)] (wMod a0 cy m0) (wMod a0 cy res.2) (some (.int res.1)) := sorry

def G_X9_whyNot (m0 : Mod) (p1 : Int32) (p2 : Int32) (p3 : Int32) (p4 : Int32) : Option (Int32 × Mod) :=
  (G_X9_isCorner m0 p1 p2).bind fun v4 =>
  ((if v4 = 0 then
      some 1
    else
      some 0) : Option (Int32)).bind fun b7 =>
  if m_thrown (ms_thrown m0 b7) ≤ 0 then
    (G_X9_begin (ms_thrown m0 b7)).bind fun v28 =>
    (G_X9_setCorner v28 p1 p2 p3 p4).bind fun v37 =>
    (G_X9_broken v37).bind fun v41 =>
    (G_X9_copy 85 85 (m_kept v41.2) (m_state v41.2) 0 0).bind fun v56 =>
    some (v41.1, ms_state v41.2 v56)
  else
    some (0, ms_thrown m0 b7)
abbrev rm_X9_whyNot : Room := { frames := 5, cells := 0, slots := 0, locals := 125 }
theorem hdS_X9_whyNot : yX9_whyNot.cls ≠ "java/lang/invoke/MethodHandle" ∧ yX9_whyNot.cls ≠ "java/lang/invoke/VarHandle" ∧ (parseMethodDescriptor yX9_whyNot.desc).map (fun d => d.parameters.length) = some 4 := by decide +kernel
theorem hdV_X9_whyNot : yX9_whyNot.cls = RX9 ∧ yX9_whyNot.cls ≠ "java/lang/invoke/MethodHandle" ∧ yX9_whyNot.cls ≠ "java/lang/invoke/VarHandle" ∧ (parseMethodDescriptor yX9_whyNot.desc).map (fun d => d.parameters.length) = some 4 := ⟨rfl, hdS_X9_whyNot⟩
set_option maxHeartbeats 4000000 in
set_option maxRecDepth 100000 in
theorem c_X9_whyNot (l : Launch) (dC : Nat → ClassId) (dI : Nat → Nat → Nat) (cy : Nat → ClassId) (a0 : Nat → Nat) (m0 : Mod) (p1 : Int32) (p2 : Int32) (p3 : Int32) (p4 : Int32) (res : Int32 × Mod) (h : G_X9_whyNot m0 p1 p2 p3 p4 = some res) : CT l (dC, dI) (TY cy) yX9_whyNot cX9_whyNot 6 (some .int) rm_X9_whyNot [.ref (a0 0), .int p1, .int p2, .int p3, .int p4] (wMod a0 cy m0) (wMod a0 cy res.2) (some (.int res.1)) := sorry

def G_X1_hasRing (f0 : Fig) (p1 : Int32) : Option (Int32) :=
  if p1 < 0 then
    some 0
  else
    if f_rings f0 ≤ p1 then
      some 0
    else
      some 1
abbrev rm_X1_hasRing : Room := { frames := 0, cells := 0, slots := 0, locals := 0 }
theorem hdS_X1_hasRing : yX1_hasRing.cls ≠ "java/lang/invoke/MethodHandle" ∧ yX1_hasRing.cls ≠ "java/lang/invoke/VarHandle" ∧ (parseMethodDescriptor yX1_hasRing.desc).map (fun d => d.parameters.length) = some 1 := by decide +kernel
theorem hdV_X1_hasRing : yX1_hasRing.cls = RX1 ∧ yX1_hasRing.cls ≠ "java/lang/invoke/MethodHandle" ∧ yX1_hasRing.cls ≠ "java/lang/invoke/VarHandle" ∧ (parseMethodDescriptor yX1_hasRing.desc).map (fun d => d.parameters.length) = some 1 := ⟨rfl, hdS_X1_hasRing⟩
set_option maxHeartbeats 4000000 in
set_option maxRecDepth 100000 in
theorem c_X1_hasRing (l : Launch) (dC : Nat → ClassId) (dI : Nat → Nat → Nat) (cy : Nat → ClassId) (a0 : Nat → Nat) (f0 : Fig) (p1 : Int32) (res : Int32) (h : G_X1_hasRing f0 p1 = some res) : CT l (dC, dI) (TY cy) yX1_hasRing cX1_hasRing 2 (some .boolean) rm_X1_hasRing [.ref (a0 0), .int p1] (wFig a0 cy f0) (wFig a0 cy f0) (some (.int res)) := sorry

def G_X1_hasCorner (f0 : Fig) (p1 : Int32) (p2 : Int32) : Option (Int32) :=
  (G_X1_hasRing f0 p1).bind fun v2 =>
  if v2 = 0 then
    some 0
  else
    if p2 < 0 then
      some 0
    else
      (rd 4 (f_sizes f0) p1).bind fun v18 =>
      if v18 ≤ p2 then
        some 0
      else
        some 1
abbrev rm_X1_hasCorner : Room := { frames := 1, cells := 0, slots := 0, locals := 21 }
theorem hdS_X1_hasCorner : yX1_hasCorner.cls ≠ "java/lang/invoke/MethodHandle" ∧ yX1_hasCorner.cls ≠ "java/lang/invoke/VarHandle" ∧ (parseMethodDescriptor yX1_hasCorner.desc).map (fun d => d.parameters.length) = some 2 := by decide +kernel
theorem hdV_X1_hasCorner : yX1_hasCorner.cls = RX1 ∧ yX1_hasCorner.cls ≠ "java/lang/invoke/MethodHandle" ∧ yX1_hasCorner.cls ≠ "java/lang/invoke/VarHandle" ∧ (parseMethodDescriptor yX1_hasCorner.desc).map (fun d => d.parameters.length) = some 2 := ⟨rfl, hdS_X1_hasCorner⟩
set_option maxHeartbeats 4000000 in
set_option maxRecDepth 100000 in
theorem c_X1_hasCorner (l : Launch) (dC : Nat → ClassId) (dI : Nat → Nat → Nat) (cy : Nat → ClassId) (a0 : Nat → Nat) (f0 : Fig) (p1 : Int32) (p2 : Int32) (res : Int32) (h : G_X1_hasCorner f0 p1 p2 = some res) : CT l (dC, dI) (TY cy) yX1_hasCorner cX1_hasCorner 3 (some .boolean) rm_X1_hasCorner [.ref (a0 0), .int p1, .int p2] (wFig a0 cy f0) (wFig a0 cy f0) (some (.int res)) := sorry

def G_X1_sizeOf (f0 : Fig) (p1 : Int32) : Option (Int32) :=
  (G_X1_hasRing f0 p1).bind fun v2 =>
  if v2 = 0 then
    some 0
  else
    (rd 4 (f_sizes f0) p1).bind fun v13 =>
    some v13
abbrev rm_X1_sizeOf : Room := { frames := 1, cells := 0, slots := 0, locals := 21 }
theorem hdS_X1_sizeOf : yX1_sizeOf.cls ≠ "java/lang/invoke/MethodHandle" ∧ yX1_sizeOf.cls ≠ "java/lang/invoke/VarHandle" ∧ (parseMethodDescriptor yX1_sizeOf.desc).map (fun d => d.parameters.length) = some 1 := by decide +kernel
theorem hdV_X1_sizeOf : yX1_sizeOf.cls = RX1 ∧ yX1_sizeOf.cls ≠ "java/lang/invoke/MethodHandle" ∧ yX1_sizeOf.cls ≠ "java/lang/invoke/VarHandle" ∧ (parseMethodDescriptor yX1_sizeOf.desc).map (fun d => d.parameters.length) = some 1 := ⟨rfl, hdS_X1_sizeOf⟩
set_option maxHeartbeats 4000000 in
set_option maxRecDepth 100000 in
theorem c_X1_sizeOf (l : Launch) (dC : Nat → ClassId) (dI : Nat → Nat → Nat) (cy : Nat → ClassId) (a0 : Nat → Nat) (f0 : Fig) (p1 : Int32) (res : Int32) (h : G_X1_sizeOf f0 p1 = some res) : CT l (dC, dI) (TY cy) yX1_sizeOf cX1_sizeOf 2 (some .int) rm_X1_sizeOf [.ref (a0 0), .int p1] (wFig a0 cy f0) (wFig a0 cy f0) (some (.int res)) := sorry

def G_X1_firstOf_L4  (f0 : Fig) : Nat → Int32 → Int32 → Int32 → Option (Int32)
  | 0, _, _, _ => none
  | n4 + 1, l3_4, l2_4, l1_4 =>
    if l1_4 ≤ l3_4 then
      some l2_4
    else
      if f_rings f0 ≤ l3_4 then
        some l2_4
      else
        (rd 4 (f_sizes f0) l3_4).bind fun v23 =>
        (G_X1_firstOf_L4 f0 n4) (l3_4 + 1) (l2_4 + v23) l1_4
def G_X1_firstOf (f0 : Fig) (p1 : Int32) : Option (Int32) :=
  G_X1_firstOf_L4 f0 FU 0 0 p1
abbrev rm_X1_firstOf : Room := { frames := 0, cells := 0, slots := 0, locals := 0 }
theorem hdS_X1_firstOf : yX1_firstOf.cls ≠ "java/lang/invoke/MethodHandle" ∧ yX1_firstOf.cls ≠ "java/lang/invoke/VarHandle" ∧ (parseMethodDescriptor yX1_firstOf.desc).map (fun d => d.parameters.length) = some 1 := by decide +kernel
theorem hdV_X1_firstOf : yX1_firstOf.cls = RX1 ∧ yX1_firstOf.cls ≠ "java/lang/invoke/MethodHandle" ∧ yX1_firstOf.cls ≠ "java/lang/invoke/VarHandle" ∧ (parseMethodDescriptor yX1_firstOf.desc).map (fun d => d.parameters.length) = some 1 := ⟨rfl, hdS_X1_firstOf⟩
set_option maxHeartbeats 4000000 in
set_option maxRecDepth 100000 in
theorem c_X1_firstOf (l : Launch) (dC : Nat → ClassId) (dI : Nat → Nat → Nat) (cy : Nat → ClassId) (a0 : Nat → Nat) (f0 : Fig) (p1 : Int32) (res : Int32) (h : G_X1_firstOf f0 p1 = some res) : CT l (dC, dI) (TY cy) yX1_firstOf cX1_firstOf 4 (some .int) rm_X1_firstOf [.ref (a0 0), .int p1] (wFig a0 cy f0) (wFig a0 cy f0) (some (.int res)) := sorry

def G_X1_at (f0 : Fig) (p1 : Int32) (p2 : Int32) : Option (Int32) :=
  (G_X1_firstOf f0 p1).bind fun v2 =>
  some (v2 + p2)
abbrev rm_X1_at : Room := { frames := 1, cells := 0, slots := 0, locals := 23 }
theorem hdS_X1_at : yX1_at.cls ≠ "java/lang/invoke/MethodHandle" ∧ yX1_at.cls ≠ "java/lang/invoke/VarHandle" ∧ (parseMethodDescriptor yX1_at.desc).map (fun d => d.parameters.length) = some 2 := by decide +kernel
theorem hdV_X1_at : yX1_at.cls = RX1 ∧ yX1_at.cls ≠ "java/lang/invoke/MethodHandle" ∧ yX1_at.cls ≠ "java/lang/invoke/VarHandle" ∧ (parseMethodDescriptor yX1_at.desc).map (fun d => d.parameters.length) = some 2 := ⟨rfl, hdS_X1_at⟩
set_option maxHeartbeats 4000000 in
set_option maxRecDepth 100000 in
theorem c_X1_at (l : Launch) (dC : Nat → ClassId) (dI : Nat → Nat → Nat) (cy : Nat → ClassId) (a0 : Nat → Nat) (f0 : Fig) (p1 : Int32) (p2 : Int32) (res : Int32) (h : G_X1_at f0 p1 p2 = some res) : CT l (dC, dI) (TY cy) yX1_at cX1_at 3 (some .int) rm_X1_at [.ref (a0 0), .int p1, .int p2] (wFig a0 cy f0) (wFig a0 cy f0) (some (.int res)) := sorry

def G_X1_place (f0 : Fig) (p1 : Int32) (p2 : Int32) (p3 : Int32) : Option (Fig) :=
  if p1 < 0 then
    some f0
  else
    if f_corners f0 ≤ p1 then
      some f0
    else
      (wr 40 (f_xs f0) p1 p2).bind fun g18 =>
      (some (fs_xs f0 g18)).bind fun z0_25 =>
      (wr 40 (f_ys z0_25) p1 p3).bind fun g25 =>
      some (fs_ys z0_25 g25)
abbrev rm_X1_place : Room := { frames := 0, cells := 0, slots := 0, locals := 0 }
theorem hdS_X1_place : yX1_place.cls ≠ "java/lang/invoke/MethodHandle" ∧ yX1_place.cls ≠ "java/lang/invoke/VarHandle" ∧ (parseMethodDescriptor yX1_place.desc).map (fun d => d.parameters.length) = some 3 := by decide +kernel
theorem hdV_X1_place : yX1_place.cls = RX1 ∧ yX1_place.cls ≠ "java/lang/invoke/MethodHandle" ∧ yX1_place.cls ≠ "java/lang/invoke/VarHandle" ∧ (parseMethodDescriptor yX1_place.desc).map (fun d => d.parameters.length) = some 3 := ⟨rfl, hdS_X1_place⟩
set_option maxHeartbeats 4000000 in
set_option maxRecDepth 100000 in
theorem c_X1_place (l : Launch) (dC : Nat → ClassId) (dI : Nat → Nat → Nat) (cy : Nat → ClassId) (a0 : Nat → Nat) (f0 : Fig) (p1 : Int32) (p2 : Int32) (p3 : Int32) (res : Fig) (h : G_X1_place f0 p1 p2 p3 = some res) : CT l (dC, dI) (TY cy) yX1_place cX1_place 4 none rm_X1_place [.ref (a0 0), .int p1, .int p2, .int p3] (wFig a0 cy f0) (wFig a0 cy res) none := sorry

def G_X1_relink_L24 (r4 : Fig → Int32 → Int32 → Option (Fig))  : Nat → Fig → Int32 → Int32 → Int32 → Int32 → Option (Fig)
  | 0, _, _, _, _, _ => none
  | n24 + 1, f0_24, l4_24, l3_24, l2_24, l1_24 =>
    if l3_24 ≤ l4_24 then
      r4 f0_24 (l2_24 + 1) l3_24
    else
      ((if l3_24 ≤ l4_24 + 1 then
          some l1_24
        else
          some (l4_24 + 1)) : Option (Int32)).bind fun b41 =>
      (wr 40 (f_next f0_24) l4_24 b41).bind fun g52 =>
      (G_X1_relink_L24 r4 n24) (fs_next f0_24 g52) (l4_24 + 1) l3_24 l2_24 l1_24
def G_X1_relink_L4   : Nat → Fig → Int32 → Int32 → Option (Fig)
  | 0, _, _, _ => none
  | n4 + 1, f0_4, l2_4, l1_4 =>
    if f_rings f0_4 ≤ l2_4 then
      some f0_4
    else
      (rd 4 (f_sizes f0_4) l2_4).bind fun v18 =>
      G_X1_relink_L24 (G_X1_relink_L4 n4) FU f0_4 l1_4 (l1_4 + v18) l2_4 l1_4
def G_X1_relink (f0 : Fig) : Option (Fig) :=
  G_X1_relink_L4 FU f0 0 0
abbrev rm_X1_relink : Room := { frames := 0, cells := 0, slots := 0, locals := 0 }
theorem hdS_X1_relink : yX1_relink.cls ≠ "java/lang/invoke/MethodHandle" ∧ yX1_relink.cls ≠ "java/lang/invoke/VarHandle" ∧ (parseMethodDescriptor yX1_relink.desc).map (fun d => d.parameters.length) = some 0 := by decide +kernel
theorem hdV_X1_relink : yX1_relink.cls = RX1 ∧ yX1_relink.cls ≠ "java/lang/invoke/MethodHandle" ∧ yX1_relink.cls ≠ "java/lang/invoke/VarHandle" ∧ (parseMethodDescriptor yX1_relink.desc).map (fun d => d.parameters.length) = some 0 := ⟨rfl, hdS_X1_relink⟩
set_option maxHeartbeats 4000000 in
set_option maxRecDepth 100000 in
theorem c_X1_relink (l : Launch) (dC : Nat → ClassId) (dI : Nat → Nat → Nat) (cy : Nat → ClassId) (a0 : Nat → Nat) (f0 : Fig) (res : Fig) (h : G_X1_relink f0 = some res) : CT l (dC, dI) (TY cy) yX1_relink cX1_relink 5 none rm_X1_relink [.ref (a0 0)] (wFig a0 cy f0) (wFig a0 cy res) none := by
  refine CT.mk_v (own := RX1) ⟨by decide, rfl⟩ (Nat.le_of_ble_eq_true rfl) ?_
  intro p e s mm args below meth cd A Q hx hb hml hown htg hN hK hA hP hD hS hE ls hl
  have hl : lv_has ls 5 [(0, .ref (a0 0))] := hl
  replace h : _ = some res := h
  unfold G_X1_relink at h
  obtain ⟨H, hH⟩ : ∃ H, H = s.heap := ⟨_, rfl⟩
  obtain ⟨locs, hlocs⟩ : ∃ locs : List Loc, locs = [] := ⟨_, rfl⟩
  rw [← hlocs] at hS ⊢
  have hS : va_S A s.heap H locs := by rw [hH]; exact hS
  rw [← hH] at hP ⊢
  refine lv_iconst (v := 0) hx hb dX1_relink_0 (by decide) ?_
  refine lv_istore_n (lv' := [(1, .int 0), (0, .ref (a0 0))]) hx hb dX1_relink_1 rfl hl (by decide) rfl (fun ls hl => ?_)
  refine lv_iconst (v := 0) hx hb dX1_relink_2 (by decide) ?_
  refine lv_istore_n (lv' := [(2, .int 0), (1, .int 0), (0, .ref (a0 0))]) hx hb dX1_relink_3 rfl hl (by decide) rfl (fun ls hl => ?_)
  have hL4 : ∀ (n4 : Nat) (f0_4 : Fig) (l2_4 : Int32) (l1_4 : Int32) (H : Heap) (locs : List Loc) (ls : Array Slot), G_X1_relink_L4 n4 f0_4 l2_4 l1_4 = some res → va_P (dC, dI) vwCl (wFig a0 cy f0_4) H → va_D A (wFig a0 cy f0_4) → va_S A s.heap H locs → lv_has ls 5 [(2, .int l2_4), (1, .int l1_4), (0, .ref (a0 0))] → W p l e rm_X1_relink s mm args below meth cd H locs 0 0 Q (F0 mm 4 ls []) := by
    intro n4
    induction n4 with
    | zero => intro f0_4 l2_4 l1_4 H locs ls h; exact absurd h (by simp [G_X1_relink_L4])
    | succ n4 ih4 =>
      intro f0_4 l2_4 l1_4 H locs ls h hP hD hS hl
      rw [G_X1_relink_L4] at h
      refine lv_iload_n hx hb dX1_relink_4 rfl (lv_at hl 0 rfl) ?_
      refine lv_aload_n hx hb dX1_relink_5 rfl (lv_at hl 2 rfl) ?_
      refine va_get (D := (dC, dI)) (ci := 0) (v := .int (f_rings f0_4)) (C := RX1) (T := TX1) (N := 6) hx hb htg inX1 hown hK hP 0 rfl rfl 0 (by decide) (htg _ gw91) (fun _ h9 => h9) rfl dX1_relink_6 ?_
      refine lv_icmp_ge (tgt := 67) hx hb dX1_relink_9 (by decide) (fun c9 => ?_) (fun c9 => ?_)
      · replace h := if_t h c9
        obtain rfl := Option.some.inj h
        exact hE H locs 67 ls hP hD hS dX1_relink_67
      replace h := if_f h c9
      refine lv_iload_n hx hb dX1_relink_12 rfl (lv_at hl 1 rfl) ?_
      refine lv_aload_n hx hb dX1_relink_13 rfl (lv_at hl 2 rfl) ?_
      refine va_get (D := (dC, dI)) (ci := 0) (v := .ref (a0 1)) (C := RX1) (T := TX1) (N := 6) hx hb htg inX1 hown hK hP 0 rfl rfl 2 (by decide) (htg _ gw102) (fun _ h9 => h9) rfl dX1_relink_14 ?_
      refine lv_iload_n hx hb dX1_relink_17 rfl (lv_at hl 0 rfl) ?_
      obtain ⟨v18, e18, h⟩ := bnd h
      refine x_iald (v := v18) hx hb hK hP 1 0 rfl rfl e18 dX1_relink_18 ?_
      refine lv_iadd hx hb dX1_relink_19 ?_
      refine lv_istore_n (lv' := [(3, .int (l1_4 + v18)), (2, .int l2_4), (1, .int l1_4), (0, .ref (a0 0))]) hx hb dX1_relink_20 rfl hl (by decide) rfl (fun ls hl => ?_)
      refine lv_iload_n hx hb dX1_relink_21 rfl (lv_at hl 2 rfl) ?_
      refine lv_istore (lv' := [(4, .int l1_4), (3, .int (l1_4 + v18)), (2, .int l2_4), (1, .int l1_4), (0, .ref (a0 0))]) hx hb dX1_relink_22 hl (by decide) rfl (fun ls hl => ?_)
      have hL24 : ∀ (n24 : Nat) (f0_24 : Fig) (l4_24 : Int32) (l3_24 : Int32) (l2_24 : Int32) (l1_24 : Int32) (H : Heap) (locs : List Loc) (ls : Array Slot), G_X1_relink_L24 (G_X1_relink_L4 n4) n24 f0_24 l4_24 l3_24 l2_24 l1_24 = some res → va_P (dC, dI) vwCl (wFig a0 cy f0_24) H → va_D A (wFig a0 cy f0_24) → va_S A s.heap H locs → lv_has ls 5 [(4, .int l4_24), (3, .int l3_24), (2, .int l2_24), (1, .int l1_24), (0, .ref (a0 0))] → W p l e rm_X1_relink s mm args below meth cd H locs 0 0 Q (F0 mm 24 ls []) := by
        intro n24
        induction n24 with
        | zero => intro f0_24 l4_24 l3_24 l2_24 l1_24 H locs ls h; exact absurd h (by simp [G_X1_relink_L24])
        | succ n24 ih24 =>
          intro f0_24 l4_24 l3_24 l2_24 l1_24 H locs ls h hP hD hS hl
          rw [G_X1_relink_L24] at h
          refine lv_iload hx hb dX1_relink_24 (lv_at hl 0 rfl) ?_
          refine lv_iload_n hx hb dX1_relink_26 rfl (lv_at hl 1 rfl) ?_
          refine lv_icmp_ge (tgt := 59) hx hb dX1_relink_27 (by decide) (fun c27 => ?_) (fun c27 => ?_)
          · replace h := if_t h c27
            refine lv_iload_n hx hb dX1_relink_59 rfl (lv_at hl 1 rfl) ?_
            refine lv_istore_n (lv' := [(1, .int l3_24), (4, .int l4_24), (3, .int l3_24), (2, .int l2_24), (0, .ref (a0 0))]) hx hb dX1_relink_60 rfl hl (by decide) rfl (fun ls hl => ?_)
            refine lv_iinc (v := l2_24 + 1) (lv' := [(2, .int (l2_24 + 1)), (1, .int l3_24), (4, .int l4_24), (3, .int l3_24), (0, .ref (a0 0))]) hx hb dX1_relink_61 hl (k := 3) rfl rfl (by decide) rfl (fun ls hl => ?_)
            refine lv_goto (tgt := 4) hx hb dX1_relink_64 (by decide) ?_
            exact ih4 f0_24 (l2_24 + 1) l3_24 H locs ls h hP hD hS (lv_sub hl [0, 1, 4] rfl)
          replace h := if_f h c27
          refine lv_aload_n hx hb dX1_relink_30 rfl (lv_at hl 4 rfl) ?_
          refine va_get (D := (dC, dI)) (ci := 0) (v := .ref (a0 4)) (C := RX1) (T := TX1) (N := 6) hx hb htg inX1 hown hK hP 0 rfl rfl 5 (by decide) (htg _ gw105) (fun _ h9 => h9) rfl dX1_relink_31 ?_
          refine lv_iload hx hb dX1_relink_34 (lv_at hl 0 rfl) ?_
          refine lv_iload hx hb dX1_relink_36 (lv_at hl 0 rfl) ?_
          refine lv_iconst (v := 1) hx hb dX1_relink_38 (by decide) ?_
          refine lv_iadd hx hb dX1_relink_39 ?_
          refine lv_iload_n hx hb dX1_relink_40 rfl (lv_at hl 1 rfl) ?_
          obtain ⟨b41, e41, h⟩ := bnd h
          have hr52 : ∀ (H : Heap) (locs : List Loc) (ls : Array Slot), va_P (dC, dI) vwCl (wFig a0 cy f0_24) H → va_D A (wFig a0 cy f0_24) → va_S A s.heap H locs → lv_has ls 5 [(4, .int l4_24), (3, .int l3_24), (2, .int l2_24), (1, .int l1_24), (0, .ref (a0 0))] → W p l e rm_X1_relink s mm args below meth cd H locs 0 0 Q (F0 mm 52 ls [.int b41, .int l4_24, .ref (a0 4)]) := by
            intro H locs ls hP hD hS hl
            obtain ⟨g52, e52, h⟩ := bnd h
            refine x_iast (g := g52) hx hb hK hP hD hS 4 0 rfl rfl e52 dX1_relink_52 (fun H locs hP hD hS => ?_)
            have hP : va_P (dC, dI) vwCl (wFig a0 cy (fs_next f0_24 g52)) H := hP
            have hD : va_D A (wFig a0 cy (fs_next f0_24 g52)) := hD
            refine lv_iinc (v := l4_24 + 1) (lv' := [(4, .int (l4_24 + 1)), (3, .int l3_24), (2, .int l2_24), (1, .int l1_24), (0, .ref (a0 0))]) hx hb dX1_relink_53 hl (k := 0) rfl rfl (by decide) rfl (fun ls hl => ?_)
            refine lv_goto (tgt := 24) hx hb dX1_relink_56 (by decide) ?_
            exact ih24 (fs_next f0_24 g52) (l4_24 + 1) l3_24 l2_24 l1_24 H locs ls h hP hD hS (lv_sub hl [0, 1, 2, 3, 4] rfl)
          have h := e41
          clear e41
          refine lv_icmp_ge (tgt := 51) hx hb dX1_relink_41 (by decide) (fun c41 => ?_) (fun c41 => ?_)
          · replace h := if_t h c41
            refine lv_iload_n hx hb dX1_relink_51 rfl (lv_at hl 3 rfl) ?_
            obtain rfl := Option.some.inj h
            exact hr52 H locs ls hP hD hS hl
          replace h := if_f h c41
          refine lv_iload hx hb dX1_relink_44 (lv_at hl 0 rfl) ?_
          refine lv_iconst (v := 1) hx hb dX1_relink_46 (by decide) ?_
          refine lv_iadd hx hb dX1_relink_47 ?_
          refine lv_goto (tgt := 52) hx hb dX1_relink_48 (by decide) ?_
          obtain rfl := Option.some.inj h
          exact hr52 H locs ls hP hD hS hl
      exact hL24 FU f0_4 l1_4 (l1_4 + v18) l2_4 l1_4 H locs ls h hP hD hS (lv_sub hl [0, 1, 2, 3, 4] rfl)
  exact hL4 FU f0 0 0 H locs ls h hP hD hS (lv_sub hl [0, 1, 2] rfl)
