/-! THE MODEL'S LOOP: between two, and what shuts -/
def cmpT (T : Int) : Int := if T = 3 then 10 else if T = 14 then 11 else if T = 4 then 12 else if T = 15 then 13 else if T = 5 then 14 else if T = 6 then 15 else -1
def btw_ (T : Int) (π : List Int) : Int := if T = 7 then 6 else if T = 8 then 7 else if T = 9 then 8 else if T = 10 then 9 else if opW π = 42 then (if cmpd π = true then (if T = 41 then 21 else if T = 40 then 22 else -1) else cmpT T) else -1
def prt_ (T x : Int) (k : Bool) : Int := if x = 40 then (if T = 12 then 0 else -1) else if x = 42 then (if T = 37 ∧ k = true then 43 else -1) else if x = 43 then (if T = 38 then 44 else -1) else if x = 44 then (if T = 39 then 0 else -1) else -1
theorem tk_n {L q : Nat} {B : Int → Int} {m : Mm} (hT : TPE B L) (h : MTk B L m q) {x : Int × Int} (hx : x ∈ sgP) : m 400 10 = x.2 ↔ tkT B L q = x.1 := by
  rw [h.2.2.2.1]
  exact (tk_s (q := q) hT.2 hx).symm
theorem c_Mo_compareOf {d L q : Nat} {B : Int → Int} {m : Mm} (hT : TPE B L) (h : MTk B L m q) : Cl d k_Mo_compareOf [(18, 400)] m (some (0, cmpT (tkT B L q)), m) := by
  have s3 := tk_n hT h (x := (3, 60)) (by decide)
  have s14 := tk_n hT h (x := (14, 4)) (by decide)
  have s4 := tk_n hT h (x := (4, 62)) (by decide)
  have s15 := tk_n hT h (x := (15, 5)) (by decide)
  have s5 := tk_n hT h (x := (5, 61)) (by decide)
  have s6 := tk_n hT h (x := (6, 35)) (by decide)
  unfold cmpT
  refine cl_Mo_compareOf (b_Mo_compareOf ⟨fun z1 => ⟨fun z2 => ⟨fun z3 => ⟨fun z4 => ⟨fun z5 => ⟨fun z6 => ?_, fun z6 => ?_⟩, fun z5 => ?_⟩, fun z4 => ?_⟩, fun z3 => ?_⟩, fun z2 => ?_⟩, fun z1 => ?_⟩)
  · rw [if_neg (fun y => z1 (s3.mpr y)), if_neg (fun y => z2 (s14.mpr y)), if_neg (fun y => z3 (s4.mpr y)), if_neg (fun y => z4 (s15.mpr y)), if_neg (fun y => z5 (s5.mpr y)), if_neg (fun y => z6 (s6.mpr y))]
  · rw [if_neg (fun y => z1 (s3.mpr y)), if_neg (fun y => z2 (s14.mpr y)), if_neg (fun y => z3 (s4.mpr y)), if_neg (fun y => z4 (s15.mpr y)), if_neg (fun y => z5 (s5.mpr y)), if_pos (s6.mp (Classical.not_not.mp z6))]
  · rw [if_neg (fun y => z1 (s3.mpr y)), if_neg (fun y => z2 (s14.mpr y)), if_neg (fun y => z3 (s4.mpr y)), if_neg (fun y => z4 (s15.mpr y)), if_pos (s5.mp (Classical.not_not.mp z5))]
  · rw [if_neg (fun y => z1 (s3.mpr y)), if_neg (fun y => z2 (s14.mpr y)), if_neg (fun y => z3 (s4.mpr y)), if_pos (s15.mp (Classical.not_not.mp z4))]
  · rw [if_neg (fun y => z1 (s3.mpr y)), if_neg (fun y => z2 (s14.mpr y)), if_pos (s4.mp (Classical.not_not.mp z3))]
  · rw [if_neg (fun y => z1 (s3.mpr y)), if_pos (s14.mp (Classical.not_not.mp z2))]
  · rw [if_pos (s3.mp (Classical.not_not.mp z1))]
theorem c_Mo_betweenOf {d L q : Nat} {B : Int → Int} {m : Mm} {π : List Int} (hT : TPE B L) (h : MTk B L m q) (hP : PIL m π) (hl : π.length ≤ 160) : Cl (d + 2) k_Mo_betweenOf [(18, 400)] m (some (0, btw_ (tkT B L q) π), m) := by
  have s7 := tk_n hT h (x := (7, 43)) (by decide)
  have s8 := tk_n hT h (x := (8, 45)) (by decide)
  have s9 := tk_n hT h (x := (9, 42)) (by decide)
  have s10 := tk_n hT h (x := (10, 47)) (by decide)
  have w41 := isW_m (d := d + 1) (i := 25) hT h (by decide) rfl
  have w40 := isW_m (d := d + 1) (i := 24) hT h (by decide) rfl
  rw [show (16 : Int) + ((25 : Nat) : Int) = 41 from rfl] at w41
  rw [show (16 : Int) + ((24 : Nat) : Int) = 40 from rfl] at w40
  unfold btw_
  refine cl_Mo_betweenOf (b_Mo_betweenOf ⟨fun z1 => ⟨fun z2 => ⟨fun z3 => ⟨fun z4 => ?_, fun z4 => ?_⟩, fun z3 => ?_⟩, fun z2 => ?_⟩, fun z1 => ?_⟩)
  · rw [if_neg (fun y => z1 (s7.mpr y)), if_neg (fun y => z2 (s8.mpr y)), if_neg (fun y => z3 (s9.mpr y)), if_neg (fun y => z4 (s10.mpr y))]
    refine ⟨_, _, c_Mo_openNow hP hl, fun z5 => ?_, fun z5 => by rw [if_neg z5]⟩
    rw [if_pos z5]
    refine ⟨_, _, c_Mo_isCompared hP hl, fun z6 => ?_, fun z6 => ?_⟩
    · rw [ite_z1] at z6
      rw [if_pos z6]
      refine ⟨_, _, c_Mo_w3 (by decide), _, _, w41, fun z7 => ⟨_, _, c_Mo_w2 (by decide), _, _, w40, fun z8 => ?_, fun z8 => ?_⟩, fun z7 => ?_⟩
      · rw [ite_z] at z7 z8
        rw [if_neg z7, if_neg z8]
      · rw [ite_z] at z7
        rw [ite_z1] at z8
        rw [if_neg z7, if_pos z8]
      · rw [ite_z1] at z7
        rw [if_pos z7]
    · rw [Classical.not_not, ite_z] at z6
      rw [if_neg z6]
      exact ⟨_, _, c_Mo_compareOf hT h, rfl⟩
  · rw [if_neg (fun y => z1 (s7.mpr y)), if_neg (fun y => z2 (s8.mpr y)), if_neg (fun y => z3 (s9.mpr y)), if_pos (s10.mp (Classical.not_not.mp z4))]
  · rw [if_neg (fun y => z1 (s7.mpr y)), if_neg (fun y => z2 (s8.mpr y)), if_pos (s9.mp (Classical.not_not.mp z3))]
  · rw [if_neg (fun y => z1 (s7.mpr y)), if_pos (s8.mp (Classical.not_not.mp z2))]
  · rw [if_pos (s7.mp (Classical.not_not.mp z1))]
theorem c_Mo_partOf {d L q : Nat} {B : Int → Int} {m : Mm} {π : List Int} {x : Int} (hT : TPE B L) (h : MTk B L m q) (hP : PIL m π) (hl : π.length ≤ 160) : Cl (d + 3) k_Mo_partOf [(18, 400), (0, x)] m (some (0, prt_ (tkT B L q) x (cmpd π)), m) := by
  have s12 := tk_n hT h (x := (12, 41)) (by decide)
  have w37 := isW_m (d := d + 2) (i := 21) hT h (by decide) rfl
  have w38 := isW_m (d := d + 2) (i := 22) hT h (by decide) rfl
  have w39 := isW_m (d := d + 2) (i := 23) hT h (by decide) rfl
  rw [show (16 : Int) + ((21 : Nat) : Int) = 37 from rfl] at w37
  rw [show (16 : Int) + ((22 : Nat) : Int) = 38 from rfl] at w38
  rw [show (16 : Int) + ((23 : Nat) : Int) = 39 from rfl] at w39
  unfold prt_
  refine cl_Mo_partOf (b_Mo_partOf ⟨fun z => ⟨fun z2 => ?_, fun z2 => ?_⟩, fun z => ⟨fun z2 => ?_, fun z2 => ⟨fun z3 => ?_, fun z3 => ⟨fun z4 => ?_, fun z4 => ⟨fun z5 => ?_, fun z5 => ?_⟩⟩⟩⟩⟩)
  · rw [if_pos z, if_neg (fun y => z2 (s12.mpr y))]
  · rw [if_pos z, if_pos (s12.mp (Classical.not_not.mp z2))]
  · rw [if_neg z, if_neg (by omega), if_neg (by omega), if_neg (by omega)]
  · rw [if_neg z, if_pos z3]
    refine ⟨_, _, c_Mo_w4 (by decide), _, _, w37, fun z6 => ?_, fun z6 => ⟨_, _, c_Mo_isCompared hP hl, fun z7 => ?_, fun z7 => ?_⟩⟩
    · rw [ite_z] at z6
      rw [if_neg (fun y => z6 y.1)]
    · rw [ite_z] at z7
      rw [if_neg (fun y => z7 y.2)]
    · rw [ite_z1] at z6 z7
      rw [if_pos ⟨z6, z7⟩]
  · rw [if_neg z, if_neg z3, if_pos z4]
    refine ⟨_, _, c_Mo_w4 (by decide), _, _, w38, fun z6 => ?_, fun z6 => ?_⟩
    · rw [ite_z] at z6
      rw [if_neg z6]
    · rw [ite_z1] at z6
      rw [if_pos z6]
  · rw [if_neg z, if_neg z3, if_neg z4, if_pos z5]
    refine ⟨_, _, c_Mo_w3 (by decide), _, _, w39, fun z6 => ?_, fun z6 => ?_⟩
    · rw [ite_z] at z6
      rw [if_neg z6]
    · rw [ite_z1] at z6
      rw [if_pos z6]
  · rw [if_neg z, if_neg z3, if_neg z4, if_neg z5]
