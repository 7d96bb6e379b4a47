def fX3_init (σ : tw_St) (a : Nat) : Option (tw_St) :=
  (tw_is σ 3 a).bind fun _ =>
  (tw_pP (tw_new σ 20 60) 3 a 1 σ.1).bind fun σ9 =>
  some σ9
def rmX3_init : Room := { frames := 1, cells := 1, slots := 60, locals := 16 }
def fX6_init (σ : tw_St) (a : Nat) : Option (tw_St) :=
  (tw_is σ 6 a).bind fun _ =>
  (tw_wI (tw_new σ 20 3) 20 σ.1 0 0).bind fun σ11 =>
  (tw_wI σ11 20 σ.1 1 3).bind fun σ15 =>
  (tw_wI σ15 20 σ.1 2 4).bind fun σ19 =>
  (tw_pP σ19 6 a 0 σ.1).bind fun σ20 =>
  (fX3_init (tw_new (tw_new σ20 25 2) 3 2) ((tw_new σ20 25 2).1)).bind fun σ34 =>
  (tw_wP σ34 25 3 σ20.1 0 ((tw_new σ20 25 2).1)).bind fun σ37 =>
  (fX3_init (tw_new σ37 3 2) σ37.1).bind fun σ44 =>
  (tw_wP σ44 25 3 σ20.1 1 σ37.1).bind fun σ47 =>
  (tw_pP σ47 6 a 1 σ20.1).bind fun σ48 =>
  (tw_pP (tw_grid σ48 2 12) 6 a 2 σ48.1).bind fun σ59 =>
  some σ59
def rmX6_init : Room := { frames := 2, cells := 9, slots := 155, locals := 36 }
def fX2_init (σ : tw_St) (a : Nat) : Option (tw_St) :=
  (tw_is σ 2 a).bind fun _ =>
  (tw_pP (tw_new σ 20 100) 2 a 2 σ.1).bind fun σ9 =>
  (tw_pP (tw_new σ9 20 12) 2 a 3 σ9.1).bind fun σ17 =>
  some σ17
def rmX2_init : Room := { frames := 1, cells := 2, slots := 112, locals := 16 }
def fX5_init (σ : tw_St) (a : Nat) (r1 : Nat) : Option (tw_St) :=
  (tw_is σ 5 a).bind fun _ =>
  (fX2_init (tw_new (tw_new σ 26 2) 2 4) ((tw_new σ 26 2).1)).bind fun σ15 =>
  (tw_wP σ15 26 2 σ.1 0 ((tw_new σ 26 2).1)).bind fun σ18 =>
  (fX2_init (tw_new σ18 2 4) σ18.1).bind fun σ25 =>
  (tw_wP σ25 26 2 σ.1 1 σ18.1).bind fun σ28 =>
  (tw_pP σ28 5 a 0 σ.1).bind fun σ29 =>
  (tw_pP (tw_new σ29 20 2) 5 a 1 σ29.1).bind fun σ36 =>
  (tw_pP (tw_new σ36 20 2) 5 a 2 σ36.1).bind fun σ43 =>
  (tw_pP (tw_grid σ43 2 100) 5 a 3 σ43.1).bind fun σ54 =>
  (tw_pP (tw_grid σ54 2 100) 5 a 4 σ54.1).bind fun σ65 =>
  (tw_pP (tw_grid σ65 2 5) 5 a 5 σ65.1).bind fun σ75 =>
  (tw_pP (tw_new σ75 20 2) 5 a 7 σ75.1).bind fun σ82 =>
  (tw_pP (tw_grid σ82 2 4) 5 a 8 σ82.1).bind fun σ92 =>
  (tw_pP (tw_new σ92 20 2) 5 a 9 σ92.1).bind fun σ99 =>
  (tw_pP (tw_new σ99 20 2) 5 a 10 σ99.1).bind fun σ106 =>
  (tw_pP σ106 5 a 6 r1).bind fun σ111 =>
  some σ111
def rmX5_init : Room := { frames := 2, cells := 24, slots := 670, locals := 36 }
def fX1_init (σ : tw_St) (a : Nat) : Option (tw_St) :=
  (tw_is σ 1 a).bind fun _ =>
  (tw_pP (tw_new σ 21 80) 1 a 1 σ.1).bind fun σ9 =>
  some σ9
def rmX1_init : Room := { frames := 1, cells := 1, slots := 80, locals := 16 }
def fX4_init (σ : tw_St) (a : Nat) (r1 : Nat) : Option (tw_St) :=
  (tw_is σ 4 a).bind fun _ =>
  (fX3_init (tw_new σ 3 2) σ.1).bind fun σ9 =>
  (tw_pP σ9 4 a 0 σ.1).bind fun σ12 =>
  (tw_pP σ12 4 a 2 r1).bind fun σ17 =>
  some σ17
def rmX4_init : Room := { frames := 2, cells := 2, slots := 62, locals := 36 }
def fX0_init (σ : tw_St) (a : Nat) : Option (tw_St) :=
  (tw_is σ 0 a).bind fun _ =>
  (tw_pP (tw_new σ 24 6) 0 a 2 σ.1).bind fun σ10 =>
  (tw_gP σ10 0 a 2).bind fun v22 =>
  (fX6_init (tw_new σ10 6 3) σ10.1).bind fun σ30 =>
  (tw_wP σ30 24 6 v22 0 σ10.1).bind fun σ33 =>
  (tw_gP σ33 0 a 2).bind fun v22 =>
  (fX6_init (tw_new σ33 6 3) σ33.1).bind fun σ30 =>
  (tw_wP σ30 24 6 v22 1 σ33.1).bind fun σ33 =>
  (tw_gP σ33 0 a 2).bind fun v22 =>
  (fX6_init (tw_new σ33 6 3) σ33.1).bind fun σ30 =>
  (tw_wP σ30 24 6 v22 2 σ33.1).bind fun σ33 =>
  (tw_gP σ33 0 a 2).bind fun v22 =>
  (fX6_init (tw_new σ33 6 3) σ33.1).bind fun σ30 =>
  (tw_wP σ30 24 6 v22 3 σ33.1).bind fun σ33 =>
  (tw_gP σ33 0 a 2).bind fun v22 =>
  (fX6_init (tw_new σ33 6 3) σ33.1).bind fun σ30 =>
  (tw_wP σ30 24 6 v22 4 σ33.1).bind fun σ33 =>
  (tw_gP σ33 0 a 2).bind fun v22 =>
  (fX6_init (tw_new σ33 6 3) σ33.1).bind fun σ30 =>
  (tw_wP σ30 24 6 v22 5 σ33.1).bind fun σ33 =>
  some σ33
def rmX0_init : Room := { frames := 3, cells := 61, slots := 954, locals := 56 }
def fX7_init (σ : tw_St) (a : Nat) : Option (tw_St) :=
  (tw_is σ 7 a).bind fun _ =>
  (fX6_init (tw_new σ 6 3) σ.1).bind fun σ9 =>
  (tw_pP σ9 7 a 0 σ.1).bind fun σ12 =>
  (tw_gP (tw_new σ12 5 12) 7 a 0).bind fun v21 =>
  (fX5_init (tw_new σ12 5 12) σ12.1 v21).bind fun σ24 =>
  (tw_pP σ24 7 a 1 σ12.1).bind fun σ27 =>
  (fX6_init (tw_new σ27 6 3) σ27.1).bind fun σ35 =>
  (tw_pP σ35 7 a 2 σ27.1).bind fun σ38 =>
  (tw_gP (tw_new σ38 5 12) 7 a 2).bind fun v47 =>
  (fX5_init (tw_new σ38 5 12) σ38.1 v47).bind fun σ50 =>
  (tw_pP σ50 7 a 3 σ38.1).bind fun σ53 =>
  (fX1_init (tw_new σ53 1 2) σ53.1).bind fun σ61 =>
  (tw_pP σ61 7 a 4 σ53.1).bind fun σ64 =>
  (tw_gP (tw_new σ64 4 4) 7 a 4).bind fun v73 =>
  (fX4_init (tw_new σ64 4 4) σ64.1 v73).bind fun σ76 =>
  (tw_pP σ76 7 a 5 σ64.1).bind fun σ79 =>
  (fX0_init (tw_new σ79 0 3) σ79.1).bind fun σ87 =>
  (tw_pP σ87 7 a 6 σ79.1).bind fun σ90 =>
  (tw_pP (tw_new σ90 24 2) 7 a 7 σ90.1).bind fun σ98 =>
  (tw_gP σ98 7 a 7).bind fun v109 =>
  (fX6_init (tw_new σ98 6 3) σ98.1).bind fun σ117 =>
  (tw_wP σ117 24 6 v109 0 σ98.1).bind fun σ120 =>
  (tw_gP σ120 7 a 7).bind fun v109 =>
  (fX6_init (tw_new σ120 6 3) σ120.1).bind fun σ117 =>
  (tw_wP σ117 24 6 v109 1 σ120.1).bind fun σ120 =>
  (tw_pP (tw_new σ120 22 2) 7 a 8 σ120.1).bind fun σ131 =>
  some σ131
def rmX7_init : Room := { frames := 4, cells := 159, slots := 3105, locals := 77 }
def fX3_copyFrom (σ : tw_St) (a : Nat) (r1 : Nat) : Option (tw_St) :=
  (tw_is σ 3 a).bind fun _ =>
  (tw_gI σ 3 r1 0).bind fun v2 =>
  (tw_pI σ 3 a 0 v2).bind fun σ5 =>
  (tw_gP σ5 3 r1 1).bind fun v9 =>
  (tw_gP σ5 3 a 1).bind fun v14 =>
  (tw_cp σ5 v9 0 v14 0 60).bind fun σ20 =>
  some σ20
def rmX3_copyFrom : Room := { frames := 1, cells := 0, slots := 0, locals := 18 }
def fX6_copyFrom_h16 (k16 : (tw_St → Nat → Nat → Int32 → Option (tw_St))) (σ : tw_St) (a0 : Nat) (a1 : Nat) (x2 : Int32) : Option (tw_St) :=
  if 2 ≤ x2 then
    some σ
  else
    (tw_gP σ 6 a0 1).bind fun v22 =>
    (tw_aP σ 25 v22 x2).bind fun v26 =>
    (tw_gP σ 6 a1 1).bind fun v28 =>
    (tw_aP σ 25 v28 x2).bind fun v32 =>
    (fX3_copyFrom σ v26 v32).bind fun σ33 =>
    (tw_gP σ33 6 a1 2).bind fun v37 =>
    (tw_aP σ33 23 v37 x2).bind fun v41 =>
    (tw_gP σ33 6 a0 2).bind fun v44 =>
    (tw_aP σ33 23 v44 x2).bind fun v48 =>
    (tw_cp σ33 v41 0 v48 0 12).bind fun σ52 =>
    k16 σ52 a0 a1 (x2 + 1)
def fX6_copyFrom_l16 (n : Nat) : tw_St → Nat → Nat → Int32 → Option (tw_St) := tw_it (fun _ _ _ _ => none) (fX6_copyFrom_h16) n
def fX6_copyFrom (σ : tw_St) (a : Nat) (r1 : Nat) : Option (tw_St) :=
  (tw_is σ 6 a).bind fun _ =>
  (tw_gP σ 6 r1 0).bind fun v1 =>
  (tw_gP σ 6 a 0).bind fun v6 =>
  (tw_cp σ v1 0 v6 0 3).bind fun σ11 =>
  fX6_copyFrom_l16 tw_F σ11 a r1 0
def rmX6_copyFrom : Room := { frames := 2, cells := 0, slots := 0, locals := 39 }
def fX0_record (σ : tw_St) (a : Nat) (r1 : Nat) : Option (tw_St) :=
  (tw_is σ 0 a).bind fun _ =>
  (tw_gP σ 0 a 2).bind fun v1 =>
  (tw_gI σ 0 a 1).bind fun v5 =>
  (tw_gI σ 0 a 0).bind fun v9 =>
  (tw_aP σ 24 v1 ((v5 + v9) - (v5 + v9) / 6 * 6)).bind fun v16 =>
  (fX6_copyFrom σ v16 r1).bind fun σ18 =>
  (tw_gI σ18 0 a 0).bind fun v22 =>
  if 6 ≤ v22 then
    (tw_gI σ18 0 a 1).bind fun v45 =>
    (tw_pI σ18 0 a 1 ((v45 + 1) - (v45 + 1) / 6 * 6)).bind fun σ53 =>
    some σ53
  else
    (tw_gI σ18 0 a 0).bind fun v32 =>
    (tw_pI σ18 0 a 0 (v32 + 1)).bind fun σ37 =>
    some σ37
def rmX0_record : Room := { frames := 3, cells := 0, slots := 0, locals := 61 }
def fX3_told (σ : tw_St) (a : Nat) (x1 : Int32) (x2 : Int32) : Option (Int32) :=
  (tw_is σ 3 a).bind fun _ =>
  if x1 < 0 then
    some (-6)
  else
    (tw_gI σ 3 a 0).bind fun v6 =>
    if v6 ≤ x1 then
      some (-6)
    else
      if x2 < 0 then
        some (-6)
      else
        if x2 < 5 then
          (tw_gP σ 3 a 1).bind fun v25 =>
          (tw_aI σ 20 v25 ((x1 * 5) + x2)).bind fun v33 =>
          some v33
        else
          some (-6)
def rmX3_told : Room := { frames := 0, cells := 0, slots := 0, locals := 0 }
def fX2_valueOf (σ : tw_St) (a : Nat) (x1 : Int32) : Option (Int32) :=
  (tw_is σ 2 a).bind fun _ =>
  if x1 < 0 then
    some 0
  else
    if 4 ≤ x1 then
      some 0
    else
      (tw_gP σ 2 a 3).bind fun v10 =>
      (tw_aI σ 20 v10 x1).bind fun v14 =>
      some v14
def rmX2_valueOf : Room := { frames := 0, cells := 0, slots := 0, locals := 0 }
def fJ9_floorMod (σ : tw_St) (x0 : Int32) (x1 : Int32) : Option (Int32) :=
  if x1 = 0 then none else
  if 0 ≤ (x0 ^^^ x1) then
    some (x0 - x0 / x1 * x1)
  else
    if (x0 - x0 / x1 * x1) = 0 then
      some (x0 - x0 / x1 * x1)
    else
      some ((x0 - x0 / x1 * x1) + x1)
def rmJ9_floorMod : Room := { frames := 0, cells := 0, slots := 0, locals := 0 }
def fX2_give (σ : tw_St) (a : Nat) (x1 : Int32) (x2 : Int32) : Option (tw_St) :=
  (tw_is σ 2 a).bind fun _ =>
  if x1 < 0 then
    some σ
  else
    if 4 ≤ x1 then
      some σ
    else
      (tw_gP σ 2 a 3).bind fun v10 =>
      (fJ9_floorMod σ x2 1000).bind fun v18 =>
      (tw_wI σ 20 v10 x1 v18).bind fun σ21 =>
      some σ21
def rmX2_give : Room := { frames := 1, cells := 0, slots := 0, locals := 22 }
def fX2_placeOfCell (σ : tw_St) (x0 : Int32) : Option (Int32) :=
  (fJ9_floorMod σ x0 8).bind fun v4 =>
  some (4 + v4)
def rmX2_placeOfCell : Room := { frames := 1, cells := 0, slots := 0, locals := 22 }
def fX2_stepOver_b190 (σ : tw_St) (x2 : Int32) : Option (Int32 × tw_St) :=
  some ((x2 + 1), σ)
def fX2_stepOver (σ : tw_St) (a : Nat) (r1 : Nat) (x2 : Int32) : Option (Int32 × tw_St) :=
  (tw_is σ 2 a).bind fun _ =>
  (fX3_told σ r1 x2 1).bind fun v3 =>
  (fX3_told σ r1 x2 2).bind fun v11 =>
  (fX2_valueOf σ a v11).bind fun v14 =>
  (fX3_told σ r1 x2 3).bind fun v23 =>
  (fX2_valueOf σ a v23).bind fun v26 =>
  (fX3_told σ r1 x2 4).bind fun v34 =>
  (fX3_told σ r1 x2 0).bind fun v42 =>
  if v42 = 0 then
    (fX2_give σ a v3 v34).bind fun σ92 =>
    fX2_stepOver_b190 σ92 x2
  else
  if v42 = 1 then
    (fX2_give σ a v3 (v14 + v26)).bind fun σ105 =>
    fX2_stepOver_b190 σ105 x2
  else
  if v42 = 2 then
    (fX2_give σ a v3 (v14 - v26)).bind fun σ118 =>
    fX2_stepOver_b190 σ118 x2
  else
  if v42 = 3 then
    (fX2_give σ a v3 (v14 * v26)).bind fun σ131 =>
    fX2_stepOver_b190 σ131 x2
  else
  if v42 = 4 then
    (tw_gP σ 2 a 3).bind fun v140 =>
    (fX2_placeOfCell σ v14).bind fun v145 =>
    (tw_aI σ 20 v140 v145).bind fun v148 =>
    (fX2_give σ a v3 v148).bind fun σ149 =>
    fX2_stepOver_b190 σ149 x2
  else
  if v42 = 5 then
    (tw_gP σ 2 a 3).bind fun v156 =>
    (fX2_valueOf σ a v3).bind fun v161 =>
    (fX2_placeOfCell σ v161).bind fun v164 =>
    (tw_wI σ 20 v156 v164 v14).bind fun σ169 =>
    fX2_stepOver_b190 σ169 x2
  else
  if v42 = 6 then
    (fX2_valueOf σ a v3).bind fun v175 =>
    if v175 = 0 then
      some ((x2 + 1), σ)
    else
      some (v34, σ)
  else
    fX2_stepOver_b190 σ x2
def rmX2_stepOver : Room := { frames := 2, cells := 0, slots := 0, locals := 44 }
def fX2_follow_b80 (σ : tw_St) (z0 : Int32) (z1 : Nat) : Option (tw_St) :=
  (tw_bz z0).bind fun _ =>
  (tw_pI σ 2 z1 1 z0).bind fun σ80 =>
  some σ80
def fX2_follow_b66 (σ : tw_St) (a0 : Nat) (a1 : Nat) (x3 : Int32) : Option (tw_St) :=
  (tw_gI σ 3 a1 0).bind fun v69 =>
  if v69 ≤ x3 then
    fX2_follow_b80 σ 0 a0
  else
    fX2_follow_b80 σ 1 a0
def fX2_follow_h19 (k19 : (tw_St → Nat → Nat → Int32 → Option (tw_St))) (σ : tw_St) (a0 : Nat) (a1 : Nat) (x3 : Int32) : Option (tw_St) :=
  (tw_gI σ 2 a0 0).bind fun v20 =>
  if 100 ≤ v20 then
    fX2_follow_b66 σ a0 a1 x3
  else
    (tw_gI σ 3 a1 0).bind fun v30 =>
    if v30 ≤ x3 then
      fX2_follow_b66 σ a0 a1 x3
    else
      (tw_gP σ 2 a0 2).bind fun v37 =>
      (tw_gI σ 2 a0 0).bind fun v41 =>
      (tw_wI σ 20 v37 v41 x3).bind fun σ45 =>
      (tw_gI σ45 2 a0 0).bind fun v48 =>
      (tw_pI σ45 2 a0 0 (v48 + 1)).bind fun σ53 =>
      (fX2_stepOver σ53 a0 a1 x3).bind fun q59 =>
      k19 q59.2 a0 a1 q59.1
def fX2_follow_l19 (n : Nat) : tw_St → Nat → Nat → Int32 → Option (tw_St) := tw_it (fun _ _ _ _ => none) (fX2_follow_h19) n
def fX2_follow (σ : tw_St) (a : Nat) (r1 : Nat) (r2 : Nat) : Option (tw_St) :=
  (tw_is σ 2 a).bind fun _ =>
  (tw_gP σ 2 a 3).bind fun v3 =>
  (tw_cp σ r2 0 v3 0 12).bind fun σ9 =>
  (tw_pI σ9 2 a 0 0).bind fun σ14 =>
  fX2_follow_l19 tw_F σ14 a r1 0
def rmX2_follow : Room := { frames := 3, cells := 0, slots := 0, locals := 70 }
def fX5_follow_h2 (k2 : (tw_St → Nat → Int32 → Option (tw_St))) (σ : tw_St) (a0 : Nat) (x1 : Int32) : Option (tw_St) :=
  if 2 ≤ x1 then
    some σ
  else
    (tw_gP σ 5 a0 0).bind fun v8 =>
    (tw_aP σ 26 v8 x1).bind fun v12 =>
    (tw_gP σ 5 a0 6).bind fun v14 =>
    (tw_gP σ 6 v14 1).bind fun v17 =>
    (tw_aP σ 25 v17 x1).bind fun v21 =>
    (tw_gP σ 5 a0 6).bind fun v23 =>
    (tw_gP σ 6 v23 2).bind fun v26 =>
    (tw_aP σ 23 v26 x1).bind fun v30 =>
    (fX2_follow σ v12 v21 v30).bind fun σ31 =>
    k2 σ31 a0 (x1 + 1)
def fX5_follow_l2 (n : Nat) : tw_St → Nat → Int32 → Option (tw_St) := tw_it (fun _ _ _ => none) (fX5_follow_h2) n
def fX5_follow (σ : tw_St) (a : Nat) : Option (tw_St) :=
  (tw_is σ 5 a).bind fun _ =>
  fX5_follow_l2 tw_F σ a 0
def rmX5_follow : Room := { frames := 4, cells := 0, slots := 0, locals := 93 }
def fX5_clear_b85 (k22 : (tw_St → Nat → Int32 → Option (tw_St))) (σ : tw_St) (a0 : Nat) (x1 : Int32) : Option (tw_St) :=
  k22 σ a0 (x1 + 1)
def fX5_clear_h65 (k22 : (tw_St → Nat → Int32 → Option (tw_St))) (k65 : (tw_St → Nat → Int32 → Int32 → Option (tw_St))) (σ : tw_St) (a0 : Nat) (x1 : Int32) (x2 : Int32) : Option (tw_St) :=
  if 4 ≤ x2 then
    fX5_clear_b85 k22 σ a0 x1
  else
    (tw_gP σ 5 a0 8).bind fun v71 =>
    (tw_aP σ 23 v71 x1).bind fun v75 =>
    (tw_wI σ 20 v75 x2 0).bind fun σ78 =>
    k65 σ78 a0 x1 (x2 + 1)
def fX5_clear_l65 (k22 : (tw_St → Nat → Int32 → Option (tw_St))) (n : Nat) : tw_St → Nat → Int32 → Int32 → Option (tw_St) := tw_it (fun _ _ _ _ => none) (fX5_clear_h65 k22) n
def fX5_clear_b63 (k22 : (tw_St → Nat → Int32 → Option (tw_St))) (σ : tw_St) (a0 : Nat) (x1 : Int32) : Option (tw_St) :=
  fX5_clear_l65 k22 tw_F σ a0 x1 0
def fX5_clear_h43 (k22 : (tw_St → Nat → Int32 → Option (tw_St))) (k43 : (tw_St → Nat → Int32 → Int32 → Option (tw_St))) (σ : tw_St) (a0 : Nat) (x1 : Int32) (x2 : Int32) : Option (tw_St) :=
  if 5 ≤ x2 then
    fX5_clear_b63 k22 σ a0 x1
  else
    (tw_gP σ 5 a0 5).bind fun v49 =>
    (tw_aP σ 23 v49 x1).bind fun v53 =>
    (tw_wI σ 20 v53 x2 0).bind fun σ56 =>
    k43 σ56 a0 x1 (x2 + 1)
def fX5_clear_l43 (k22 : (tw_St → Nat → Int32 → Option (tw_St))) (n : Nat) : tw_St → Nat → Int32 → Int32 → Option (tw_St) := tw_it (fun _ _ _ _ => none) (fX5_clear_h43 k22) n
def fX5_clear_h22 (k22 : (tw_St → Nat → Int32 → Option (tw_St))) (σ : tw_St) (a0 : Nat) (x1 : Int32) : Option (tw_St) :=
  if 2 ≤ x1 then
    some σ
  else
    (tw_gP σ 5 a0 1).bind fun v28 =>
    (tw_wI σ 20 v28 x1 0).bind fun σ33 =>
    (tw_gP σ33 5 a0 2).bind fun v35 =>
    (tw_wI σ33 20 v35 x1 0).bind fun σ40 =>
    fX5_clear_l43 k22 tw_F σ40 a0 x1 0
def fX5_clear_l22 (n : Nat) : tw_St → Nat → Int32 → Option (tw_St) := tw_it (fun _ _ _ => none) (fX5_clear_h22) n
def fX5_clear_b20 (σ : tw_St) (a0 : Nat) : Option (tw_St) :=
  fX5_clear_l22 tw_F σ a0 0
def fX5_clear_h2 (k2 : (tw_St → Nat → Int32 → Option (tw_St))) (σ : tw_St) (a0 : Nat) (x1 : Int32) : Option (tw_St) :=
  if 2 ≤ x1 then
    fX5_clear_b20 σ a0
  else
    (tw_gP σ 5 a0 9).bind fun v8 =>
    (tw_wI σ 20 v8 x1 0).bind fun σ13 =>
    k2 σ13 a0 (x1 + 1)
def fX5_clear_l2 (n : Nat) : tw_St → Nat → Int32 → Option (tw_St) := tw_it (fun _ _ _ => none) (fX5_clear_h2) n
def fX5_clear (σ : tw_St) (a : Nat) : Option (tw_St) :=
  (tw_is σ 5 a).bind fun _ =>
  fX5_clear_l2 tw_F σ a 0
def rmX5_clear : Room := { frames := 0, cells := 0, slots := 0, locals := 0 }
def fX5_hasStep (σ : tw_St) (a : Nat) (x1 : Int32) : Option (Int32) :=
  (tw_is σ 5 a).bind fun _ =>
  (tw_gP σ 5 a 1).bind fun v1 =>
  (tw_aI σ 20 v1 x1).bind fun v5 =>
  (tw_gP σ 5 a 0).bind fun v7 =>
  (tw_aP σ 26 v7 x1).bind fun v11 =>
  (tw_gI σ 2 v11 0).bind fun v12 =>
  if v12 ≤ v5 then
    some 0
  else
    some 1
def rmX5_hasStep : Room := { frames := 0, cells := 0, slots := 0, locals := 0 }
def fX5_isReady_b21 (σ : tw_St) : Option (Int32) :=
  some 1
def fX5_isReady (σ : tw_St) (a : Nat) (x1 : Int32) (x2 : Int32) (x3 : Int32) : Option (Int32) :=
  (tw_is σ 5 a).bind fun _ =>
  if x2 < 0 then
    fX5_isReady_b21 σ
  else
    if 4 ≤ x2 then
      fX5_isReady_b21 σ
    else
      (tw_gP σ 5 a 8).bind fun v10 =>
      (tw_aP σ 23 v10 x1).bind fun v14 =>
      (tw_aI σ 20 v14 x2).bind fun v16 =>
      if x3 < v16 then
        some 0
      else
        fX5_isReady_b21 σ
def rmX5_isReady : Room := { frames := 0, cells := 0, slots := 0, locals := 0 }
def fX3_roomOf (σ : tw_St) (a : Nat) (x1 : Int32) : Option (Int32) :=
  (tw_is σ 3 a).bind fun _ =>
  (fX3_told σ a x1 0).bind fun v3 =>
  if v3 = 3 then
    some 0
  else
  if v3 = 4 then
    some 1
  else
  if v3 = 5 then
    some 1
  else
    some (-6)
def rmX3_roomOf : Room := { frames := 1, cells := 0, slots := 0, locals := 22 }
def fX5_hindranceOf_b72 (σ : tw_St) (a0 : Nat) (x1 : Int32) (x2 : Int32) (a3 : Nat) (x4 : Int32) : Option (Int32) :=
  (fX3_roomOf σ a3 x4).bind fun v75 =>
  if v75 = (-6) then
    some 0
  else
    (tw_gI σ 5 a0 11).bind fun v90 =>
    if v75 = v90 then
      some 0
    else
      (tw_gP σ 5 a0 9).bind fun v97 =>
      (tw_aI σ 20 v97 v75).bind fun v102 =>
      if x2 < v102 then
        (tw_gP σ 5 a0 10).bind fun v110 =>
        (tw_aI σ 20 v110 v75).bind fun v115 =>
        if v115 = x1 then
          some 2
        else
          some 3
      else
        some 0
def fX5_hindranceOf_h41 (k41 : (tw_St → Nat → Int32 → Int32 → Nat → Int32 → Int32 → Option (Int32))) (σ : tw_St) (a0 : Nat) (x1 : Int32) (x2 : Int32) (a3 : Nat) (x4 : Int32) (x5 : Int32) : Option (Int32) :=
  if 3 < x5 then
    fX5_hindranceOf_b72 σ a0 x1 x2 a3 x4
  else
    (fX3_told σ a3 x4 x5).bind fun v54 =>
    (fX5_isReady σ a0 x1 v54 x2).bind fun v58 =>
    if v58 = 0 then
      some 1
    else
      k41 σ a0 x1 x2 a3 x4 (x5 + 1)
def fX5_hindranceOf_l41 (n : Nat) : tw_St → Nat → Int32 → Int32 → Nat → Int32 → Int32 → Option (Int32) := tw_it (fun _ _ _ _ _ _ _ => none) (fX5_hindranceOf_h41) n
def fX5_hindranceOf (σ : tw_St) (a : Nat) (x1 : Int32) (x2 : Int32) : Option (Int32) :=
  (tw_is σ 5 a).bind fun _ =>
  (fX5_hasStep σ a x1).bind fun v2 =>
  if v2 = 0 then
    some 5
  else
    (tw_gP σ 5 a 6).bind fun v11 =>
    (tw_gP σ 6 v11 1).bind fun v14 =>
    (tw_aP σ 25 v14 x1).bind fun v18 =>
    (tw_gP σ 5 a 0).bind fun v21 =>
    (tw_aP σ 26 v21 x1).bind fun v25 =>
    (tw_gP σ 2 v25 2).bind fun v26 =>
    (tw_gP σ 5 a 1).bind fun v30 =>
    (tw_aI σ 20 v30 x1).bind fun v34 =>
    (tw_aI σ 20 v26 v34).bind fun v35 =>
    fX5_hindranceOf_l41 tw_F σ a x1 x2 v18 v35 1
def rmX5_hindranceOf : Room := { frames := 2, cells := 0, slots := 0, locals := 43 }
def fX5_latestStart (σ : tw_St) (a : Nat) (x1 : Int32) : Option (Int32) :=
  (tw_is σ 5 a).bind fun _ =>
  (tw_gP σ 5 a 1).bind fun v1 =>
  (tw_aI σ 20 v1 x1).bind fun v5 =>
  if v5 ≤ 0 then
    some (-6)
  else
    (tw_gP σ 5 a 3).bind fun v12 =>
    (tw_aP σ 23 v12 x1).bind fun v16 =>
    (tw_aI σ 20 v16 (v5 - 1)).bind fun v20 =>
    some v20
def rmX5_latestStart : Room := { frames := 0, cells := 0, slots := 0, locals := 0 }
def fX5_starterNow_b96 (σ : tw_St) (x2 : Int32) (x3 : Int32) (x4 : Int32) (x5 : Int32) : Option (Int32) :=
  if x4 = 0 then
    if x5 = 0 then
      some (-6)
    else
      some x3
  else
    some x2
def fX5_starterNow_b52 (σ : tw_St) (a0 : Nat) (x2 : Int32) (x3 : Int32) (x4 : Int32) (z0 : Int32) : Option (Int32) :=
  if x4 = 0 then
    fX5_starterNow_b96 σ x2 x3 x4 z0
  else
    if z0 = 0 then
      fX5_starterNow_b96 σ x2 x3 x4 z0
    else
      (tw_gP σ 5 a0 6).bind fun v65 =>
      (tw_gP σ 6 v65 0).bind fun v68 =>
      (tw_aI σ 20 v68 0).bind fun v72 =>
      if v72 = 2 then
        (fX5_latestStart σ a0 x3).bind fun v79 =>
        (fX5_latestStart σ a0 x2).bind fun v84 =>
        if v84 ≤ v79 then
          some x2
        else
          some x3
      else
        fX5_starterNow_b96 σ x2 x3 x4 z0
def fX5_starterNow_b51 (σ : tw_St) (a0 : Nat) (x2 : Int32) (x3 : Int32) (x4 : Int32) : Option (Int32) :=
  fX5_starterNow_b52 σ a0 x2 x3 x4 0
def fX5_starterNow_b24 (σ : tw_St) (a0 : Nat) (x2 : Int32) (x3 : Int32) (z0 : Int32) : Option (Int32) :=
  (tw_gP σ 5 a0 7).bind fun v27 =>
  (tw_aI σ 20 v27 x3).bind fun v31 =>
  if v31 = 0 then
    (tw_gP σ 5 a0 6).bind fun v36 =>
    (tw_gP σ 6 v36 0).bind fun v39 =>
    (tw_aI σ 20 v39 0).bind fun v43 =>
    if v43 = 0 then
      fX5_starterNow_b51 σ a0 x2 x3 z0
    else
      fX5_starterNow_b52 σ a0 x2 x3 z0 1
  else
    fX5_starterNow_b51 σ a0 x2 x3 z0
def fX5_starterNow (σ : tw_St) (a : Nat) (x1 : Int32) : Option (Int32) :=
  (tw_is σ 5 a).bind fun _ =>
  (fJ9_floorMod σ x1 2).bind fun v2 =>
  (tw_gP σ 5 a 7).bind fun v11 =>
  (tw_aI σ 20 v11 v2).bind fun v15 =>
  if v15 = 0 then
    fX5_starterNow_b24 σ a v2 (1 - v2) 1
  else
    fX5_starterNow_b24 σ a v2 (1 - v2) 0
def rmX5_starterNow : Room := { frames := 1, cells := 0, slots := 0, locals := 22 }
def fX6_ticksFor (σ : tw_St) (a : Nat) (x1 : Int32) : Option (Int32) :=
  (tw_is σ 6 a).bind fun _ =>
  if x1 = 0 then
    (tw_gP σ 6 a 0).bind fun v5 =>
    (tw_aI σ 20 v5 1).bind fun v9 =>
    some v9
  else
    if x1 = 1 then
      (tw_gP σ 6 a 0).bind fun v17 =>
      (tw_aI σ 20 v17 2).bind fun v21 =>
      some v21
    else
      some 1
def rmX6_ticksFor : Room := { frames := 0, cells := 0, slots := 0, locals := 0 }
def fJ9_max (σ : tw_St) (x0 : Int32) (x1 : Int32) : Option (Int32) :=
  if x0 < x1 then
    some x1
  else
    some x0
def rmJ9_max : Room := { frames := 0, cells := 0, slots := 0, locals := 0 }
def fX3_givenBy_b18 (σ : tw_St) : Option (Int32) :=
  some (-6)
def fX3_givenBy (σ : tw_St) (a : Nat) (x1 : Int32) : Option (Int32) :=
  (tw_is σ 3 a).bind fun _ =>
  (fX3_told σ a x1 0).bind fun v3 =>
  if v3 = 5 then
    fX3_givenBy_b18 σ
  else
    if v3 = 6 then
      fX3_givenBy_b18 σ
    else
      (fX3_told σ a x1 1).bind fun v26 =>
      some v26
def rmX3_givenBy : Room := { frames := 1, cells := 0, slots := 0, locals := 22 }
def fX5_start_b132 (σ : tw_St) (a0 : Nat) (x1 : Int32) (x5 : Int32) (x6 : Int32) : Option (tw_St) :=
  if x5 = (-6) then
    some σ
  else
    (tw_gP σ 5 a0 9).bind fun v140 =>
    (tw_wI σ 20 v140 x5 x6).bind fun σ147 =>
    (tw_gP σ147 5 a0 10).bind fun v149 =>
    (tw_wI σ147 20 v149 x5 x1).bind fun σ155 =>
    some σ155
def fX5_start (σ : tw_St) (a : Nat) (x1 : Int32) (x2 : Int32) : Option (tw_St) :=
  (tw_is σ 5 a).bind fun _ =>
  (tw_gP σ 5 a 1).bind fun v1 =>
  (tw_aI σ 20 v1 x1).bind fun v5 =>
  (tw_gP σ 5 a 0).bind fun v8 =>
  (tw_aP σ 26 v8 x1).bind fun v12 =>
  (tw_gP σ 2 v12 2).bind fun v13 =>
  (tw_aI σ 20 v13 v5).bind fun v17 =>
  (tw_gP σ 5 a 6).bind fun v21 =>
  (tw_gP σ 6 v21 1).bind fun v24 =>
  (tw_aP σ 25 v24 x1).bind fun v28 =>
  (fX3_roomOf σ v28 v17).bind fun v31 =>
  (tw_gP σ 5 a 6).bind fun v38 =>
  (fX6_ticksFor σ v38 v31).bind fun v43 =>
  (tw_gP σ 5 a 3).bind fun v50 =>
  (tw_aP σ 23 v50 x1).bind fun v54 =>
  (tw_wI σ 20 v54 v5 x2).bind fun σ57 =>
  (tw_gP σ57 5 a 4).bind fun v59 =>
  (tw_aP σ57 23 v59 x1).bind fun v63 =>
  (tw_wI σ57 20 v63 v5 (x2 + v43)).bind fun σ67 =>
  (tw_gP σ67 5 a 1).bind fun v69 =>
  (tw_wI σ67 20 v69 x1 (v5 + 1)).bind fun σ76 =>
  (tw_gP σ76 5 a 2).bind fun v78 =>
  (tw_gP σ76 5 a 2).bind fun v83 =>
  (tw_aI σ76 20 v83 x1).bind fun v87 =>
  (fJ9_max σ76 v87 (x2 + v43)).bind fun v90 =>
  (tw_wI σ76 20 v78 x1 v90).bind fun σ93 =>
  (tw_gP σ93 5 a 6).bind fun v95 =>
  (tw_gP σ93 6 v95 1).bind fun v98 =>
  (tw_aP σ93 25 v98 x1).bind fun v102 =>
  (fX3_givenBy σ93 v102 v17).bind fun v105 =>
  if v105 < 0 then
    fX5_start_b132 σ93 a x1 v31 (x2 + v43)
  else
    if 4 ≤ v105 then
      fX5_start_b132 σ93 a x1 v31 (x2 + v43)
    else
      (tw_gP σ93 5 a 8).bind fun v122 =>
      (tw_aP σ93 23 v122 x1).bind fun v126 =>
      (tw_wI σ93 20 v126 v105 (x2 + v43)).bind fun σ131 =>
      fX5_start_b132 σ131 a x1 v31 (x2 + v43)
def rmX5_start : Room := { frames := 2, cells := 0, slots := 0, locals := 44 }
def fX5_playTick_b87 (σ : tw_St) (a0 : Nat) (x1 : Int32) (x2 : Int32) : Option (tw_St) :=
  if x2 = (-6) then
    some σ
  else
    (fX5_start σ a0 x2 x1).bind fun σ96 =>
    some σ96
def fX5_playTick_b81 (k33 : (tw_St → Nat → Int32 → Int32 → Int32 → Option (tw_St))) (σ : tw_St) (a0 : Nat) (x1 : Int32) (x2 : Int32) (x3 : Int32) : Option (tw_St) :=
  k33 σ a0 x1 x2 (x3 + 1)
def fX5_playTick_b76 (k33 : (tw_St → Nat → Int32 → Int32 → Int32 → Option (tw_St))) (σ : tw_St) (a0 : Nat) (x1 : Int32) (x2 : Int32) (x3 : Int32) (z0 : Int32) (z1 : Nat) : Option (tw_St) :=
  (tw_aI σ 20 z1 z0).bind fun v77 =>
  (tw_wI σ 20 z1 z0 (v77 + 1)).bind fun σ80 =>
  fX5_playTick_b81 k33 σ80 a0 x1 x2 x3
def fX5_playTick_h33 (k33 : (tw_St → Nat → Int32 → Int32 → Int32 → Option (tw_St))) (σ : tw_St) (a0 : Nat) (x1 : Int32) (x2 : Int32) (x3 : Int32) : Option (tw_St) :=
  if 2 ≤ x3 then
    fX5_playTick_b87 σ a0 x1 x2
  else
    if x3 = x2 then
      fX5_playTick_b81 k33 σ a0 x1 x2 x3
    else
      (fX5_hasStep σ a0 x3).bind fun v45 =>
      if v45 = 0 then
        fX5_playTick_b81 k33 σ a0 x1 x2 x3
      else
        (tw_gP σ 5 a0 7).bind fun v52 =>
        (tw_aI σ 20 v52 x3).bind fun v56 =>
        (tw_gP σ 5 a0 5).bind fun v60 =>
        (tw_aP σ 23 v60 x3).bind fun v64 =>
        if v56 = 0 then
          fX5_playTick_b76 k33 σ a0 x1 x2 x3 4 v64
        else
          fX5_playTick_b76 k33 σ a0 x1 x2 x3 v56 v64
def fX5_playTick_l33 (n : Nat) : tw_St → Nat → Int32 → Int32 → Int32 → Option (tw_St) := tw_it (fun _ _ _ _ _ => none) (fX5_playTick_h33) n
def fX5_playTick_b25 (σ : tw_St) (a0 : Nat) (x1 : Int32) : Option (tw_St) :=
  (fX5_starterNow σ a0 x1).bind fun v27 =>
  fX5_playTick_l33 tw_F σ a0 x1 v27 0
def fX5_playTick_h2 (k2 : (tw_St → Nat → Int32 → Int32 → Option (tw_St))) (σ : tw_St) (a0 : Nat) (x1 : Int32) (x2 : Int32) : Option (tw_St) :=
  if 2 ≤ x2 then
    fX5_playTick_b25 σ a0 x1
  else
    (tw_gP σ 5 a0 7).bind fun v8 =>
    (fX5_hindranceOf σ a0 x2 x1).bind fun v15 =>
    (tw_wI σ 20 v8 x2 v15).bind fun σ18 =>
    k2 σ18 a0 x1 (x2 + 1)
def fX5_playTick_l2 (n : Nat) : tw_St → Nat → Int32 → Int32 → Option (tw_St) := tw_it (fun _ _ _ _ => none) (fX5_playTick_h2) n
def fX5_playTick (σ : tw_St) (a : Nat) (x1 : Int32) : Option (tw_St) :=
  (tw_is σ 5 a).bind fun _ =>
  fX5_playTick_l2 tw_F σ a x1 0
def rmX5_playTick : Room := { frames := 3, cells := 0, slots := 0, locals := 71 }
def fX5_schedule_b34 (k11 : (tw_St → Nat → Int32 → Option (tw_St))) (σ : tw_St) (a0 : Nat) (x2 : Int32) : Option (tw_St) :=
  (fX5_playTick σ a0 x2).bind fun σ36 =>
  k11 σ36 a0 (x2 + 1)
def fX5_schedule_h11 (k11 : (tw_St → Nat → Int32 → Option (tw_St))) (σ : tw_St) (a0 : Nat) (x2 : Int32) : Option (tw_St) :=
  if 4096 ≤ x2 then
    some σ
  else
    (fX5_hasStep σ a0 0).bind fun v20 =>
    if v20 = 0 then
      (fX5_hasStep σ a0 1).bind fun v28 =>
      if v28 = 0 then
        some σ
      else
        fX5_schedule_b34 k11 σ a0 x2
    else
      fX5_schedule_b34 k11 σ a0 x2
def fX5_schedule_l11 (n : Nat) : tw_St → Nat → Int32 → Option (tw_St) := tw_it (fun _ _ _ => none) (fX5_schedule_h11) n
def fX5_schedule (σ : tw_St) (a : Nat) (x1 : Int32) : Option (tw_St) :=
  (tw_is σ 5 a).bind fun _ =>
  (tw_pI σ 5 a 11 x1).bind fun σ2 =>
  (fX5_clear σ2 a).bind fun σ6 =>
  fX5_schedule_l11 tw_F σ6 a 0
def rmX5_schedule : Room := { frames := 4, cells := 0, slots := 0, locals := 95 }
def fX5_play (σ : tw_St) (a : Nat) (x1 : Int32) : Option (tw_St) :=
  (tw_is σ 5 a).bind fun _ =>
  (fX5_follow σ a).bind fun σ1 =>
  (fX5_schedule σ1 a x1).bind fun σ6 =>
  some σ6
def rmX5_play : Room := { frames := 5, cells := 0, slots := 0, locals := 117 }
def fX7_set (σ : tw_St) (a : Nat) (x1 : Int32) (x2 : Int32) : Option (Int32 × tw_St) :=
  (tw_is σ 7 a).bind fun _ =>
  if x1 < 0 then
    some ((-2), σ)
  else
    if 3 ≤ x1 then
      some ((-2), σ)
    else
      (tw_lo x1).bind fun v14 =>
      if x2 < v14 then
        some ((-2), σ)
      else
        (tw_hi x1).bind fun v23 =>
        if x2 ≤ v23 then
          (tw_gP σ 7 a 0).bind fun v31 =>
          (tw_gP σ 6 v31 0).bind fun v34 =>
          (tw_aI σ 20 v34 x1).bind fun v38 =>
          (tw_gP σ 7 a 6).bind fun v41 =>
          (tw_gP σ 7 a 0).bind fun v45 =>
          (fX0_record σ v41 v45).bind fun σ48 =>
          (tw_gP σ48 7 a 0).bind fun v52 =>
          (tw_gP σ48 6 v52 0).bind fun v55 =>
          (tw_wI σ48 20 v55 x1 x2).bind fun σ60 =>
          (tw_gP σ60 7 a 1).bind fun v62 =>
          (fX5_play σ60 v62 (-6)).bind fun σ67 =>
          some (v38, σ67)
        else
          some ((-2), σ)
def rmX7_set : Room := { frames := 6, cells := 0, slots := 0, locals := 138 }
def fX1_charactersIn_b60 (σ : tw_St) (y2 : Int64) (x4 : Int32) : Option (Int32) :=
  if (lg_cmp y2 0) = 0 then
    some x4
  else
    some 0
def fX1_charactersIn_h5 (k5 : (tw_St → Int64 → Int32 → Option (Int32))) (σ : tw_St) (y2 : Int64) (x4 : Int32) : Option (Int32) :=
  if 8 ≤ x4 then
    fX1_charactersIn_b60 σ y2 x4
  else
    if (lg_cmp (y2 &&& 255) 0) = 0 then
      fX1_charactersIn_b60 σ y2 x4
    else
      if (lg_cmp (y2 &&& 255) 33) < 0 then
        some 0
      else
        if (lg_cmp (y2 &&& 255) 126) ≤ 0 then
          k5 σ ((y2.toUInt64 >>> ((8 : Int32).toInt64.toUInt64 &&& Int64.toUInt64 63)).toInt64) (x4 + 1)
        else
          some 0
def fX1_charactersIn_l5 (n : Nat) : tw_St → Int64 → Int32 → Option (Int32) := tw_it (fun _ _ _ => none) (fX1_charactersIn_h5) n
def fX1_charactersIn (σ : tw_St) (y0 : Int64) : Option (Int32) :=
  fX1_charactersIn_l5 tw_F σ y0 0
def rmX1_charactersIn : Room := { frames := 0, cells := 0, slots := 0, locals := 0 }
def fX1_append_h5 (k5 : (tw_St → Nat → Int64 → Int32 → Option (tw_St))) (σ : tw_St) (a0 : Nat) (y1 : Int64) (x4 : Int32) : Option (tw_St) :=
  if x4 < 0 then
    some σ
  else
    (tw_gI σ 1 a0 0).bind fun v11 =>
    if 80 ≤ v11 then
      some σ
    else
      (tw_gP σ 1 a0 1).bind fun v20 =>
      (tw_gI σ 1 a0 0).bind fun v24 =>
      (tw_bc (((((y1.toUInt64 >>> ((8 * x4).toInt64.toUInt64 &&& Int64.toUInt64 63)).toInt64 &&& 255).toInt32).toUInt32 % 65536).toInt32)).bind fun _ =>
      (tw_wI σ 21 v20 v24 (((((y1.toUInt64 >>> ((8 * x4).toInt64.toUInt64 &&& Int64.toUInt64 63)).toInt64 &&& 255).toInt32).toUInt32 % 65536).toInt32)).bind fun σ40 =>
      (tw_gI σ40 1 a0 0).bind fun v43 =>
      (tw_pI σ40 1 a0 0 (v43 + 1)).bind fun σ48 =>
      k5 σ48 a0 y1 (x4 + (-1))
def fX1_append_l5 (n : Nat) : tw_St → Nat → Int64 → Int32 → Option (tw_St) := tw_it (fun _ _ _ _ => none) (fX1_append_h5) n
def fX1_append (σ : tw_St) (a : Nat) (y1 : Int64) (x3 : Int32) : Option (tw_St) :=
  (tw_is σ 1 a).bind fun _ =>
  fX1_append_l5 tw_F σ a y1 (x3 - 1)
def rmX1_append : Room := { frames := 0, cells := 0, slots := 0, locals := 0 }
def fX7_put (σ : tw_St) (a : Nat) (y1 : Int64) : Option (Int32 × tw_St) :=
  (tw_is σ 7 a).bind fun _ =>
  (fX1_charactersIn σ y1).bind fun v1 =>
  if v1 = 0 then
    some ((-2), σ)
  else
    (tw_gP σ 7 a 4).bind fun v13 =>
    (tw_gI σ 1 v13 0).bind fun v16 =>
    if (v16 + v1) ≤ 80 then
      (tw_gP σ 7 a 4).bind fun v30 =>
      (fX1_append σ v30 y1 v1).bind fun σ35 =>
      (tw_gP σ35 7 a 4).bind fun v39 =>
      (tw_gI σ35 1 v39 0).bind fun v42 =>
      some (v42, σ35)
    else
      some ((-4), σ)
def rmX7_put : Room := { frames := 1, cells := 0, slots := 0, locals := 26 }
def fX7_wipe (σ : tw_St) (a : Nat) : Option (Int32 × tw_St) :=
  (tw_is σ 7 a).bind fun _ =>
  (tw_gP σ 7 a 4).bind fun v1 =>
  (tw_gI σ 1 v1 0).bind fun v4 =>
  (tw_gP σ 7 a 4).bind fun v9 =>
  (tw_pI σ 1 v9 0 0).bind fun σ13 =>
  some (v4, σ13)
def rmX7_wipe : Room := { frames := 0, cells := 0, slots := 0, locals := 0 }
def fX1_charAt (σ : tw_St) (a : Nat) (x1 : Int32) : Option (Int32) :=
  (tw_is σ 1 a).bind fun _ =>
  if x1 < 0 then
    some 0
  else
    (tw_gI σ 1 a 0).bind fun v6 =>
    if v6 ≤ x1 then
      some 0
    else
      if 80 ≤ x1 then
        some 0
      else
        (tw_gP σ 1 a 1).bind fun v19 =>
        (tw_aI σ 21 v19 x1).bind fun v23 =>
        (tw_bc v23).bind fun _ =>
        some v23
def rmX1_charAt : Room := { frames := 0, cells := 0, slots := 0, locals := 0 }
def fX4_take (σ : tw_St) (a : Nat) (x1 : Int32) : Option (Int32 × tw_St) :=
  (tw_is σ 4 a).bind fun _ =>
  (tw_gP σ 4 a 2).bind fun v1 =>
  (tw_gI σ 4 a 3).bind fun v5 =>
  (fX1_charAt σ v1 v5).bind fun v8 =>
  if v8 = x1 then
    (tw_gI σ 4 a 3).bind fun v19 =>
    (tw_pI σ 4 a 3 (v19 + 1)).bind fun σ24 =>
    some (1, σ24)
  else
    some (0, σ)
def rmX4_take : Room := { frames := 1, cells := 0, slots := 0, locals := 21 }
def fX4_takeFrom (σ : tw_St) (a : Nat) (x1 : Int32) (x2 : Int32) : Option (Int32 × tw_St) :=
  (tw_is σ 4 a).bind fun _ =>
  (tw_gP σ 4 a 2).bind fun v1 =>
  (tw_gI σ 4 a 3).bind fun v5 =>
  (fX1_charAt σ v1 v5).bind fun v8 =>
  if (v8 - x1) < 0 then
    some ((-6), σ)
  else
    if (v8 - x1) < x2 then
      (tw_gI σ 4 a 3).bind fun v28 =>
      (tw_pI σ 4 a 3 (v28 + 1)).bind fun σ33 =>
      some ((v8 - x1), σ33)
    else
      some ((-6), σ)
def rmX4_takeFrom : Room := { frames := 1, cells := 0, slots := 0, locals := 21 }
def fX4_takeRegister (σ : tw_St) (a : Nat) : Option (Int32 × tw_St) :=
  (tw_is σ 4 a).bind fun _ =>
  (fX4_takeFrom σ a 97 4).bind fun q4 =>
  some (q4.1, q4.2)
def rmX4_takeRegister : Room := { frames := 2, cells := 0, slots := 0, locals := 44 }
def fX3_add (σ : tw_St) (a : Nat) (x1 : Int32) (x2 : Int32) (x3 : Int32) (x4 : Int32) (x5 : Int32) : Option (tw_St) :=
  (tw_is σ 3 a).bind fun _ =>
  (tw_gI σ 3 a 0).bind fun v1 =>
  if v1 < 0 then
    some σ
  else
    (tw_gI σ 3 a 0).bind fun v8 =>
    if v8 < 12 then
      (tw_gI σ 3 a 0).bind fun v18 =>
      (tw_gP σ 3 a 1).bind fun v26 =>
      (tw_wI σ 20 v26 ((v18 * 5) + 0) x1).bind fun σ34 =>
      (tw_gP σ34 3 a 1).bind fun v36 =>
      (tw_wI σ34 20 v36 ((v18 * 5) + 1) x2).bind fun σ44 =>
      (tw_gP σ44 3 a 1).bind fun v46 =>
      (tw_wI σ44 20 v46 ((v18 * 5) + 2) x3).bind fun σ54 =>
      (tw_gP σ54 3 a 1).bind fun v56 =>
      (tw_wI σ54 20 v56 ((v18 * 5) + 3) x4).bind fun σ65 =>
      (tw_gP σ65 3 a 1).bind fun v67 =>
      (tw_wI σ65 20 v67 ((v18 * 5) + 4) x5).bind fun σ76 =>
      (tw_gI σ76 3 a 0).bind fun v79 =>
      (tw_pI σ76 3 a 0 (v79 + 1)).bind fun σ84 =>
      some σ84
    else
      some σ
def rmX3_add : Room := { frames := 0, cells := 0, slots := 0, locals := 0 }
def fX4_readStore (σ : tw_St) (a : Nat) : Option (Int32 × tw_St) :=
  (tw_is σ 4 a).bind fun _ =>
  (fX4_takeRegister σ a).bind fun q1 =>
  if q1.1 = (-6) then
    some (0, q1.2)
  else
    (fX4_take q1.2 a 93).bind fun q14 =>
    if q14.1 = 0 then
      some (0, q14.2)
    else
      (fX4_take q14.2 a 61).bind fun q23 =>
      if q23.1 = 0 then
        some (0, q23.2)
      else
        (fX4_takeRegister q23.2 a).bind fun q32 =>
        if q32.1 = (-6) then
          some (0, q32.2)
        else
          (tw_gP q32.2 4 a 0).bind fun v45 =>
          (fX3_add q32.2 v45 5 q1.1 q32.1 (-6) (-6)).bind fun σ55 =>
          some (1, σ55)
def rmX4_readStore : Room := { frames := 3, cells := 0, slots := 0, locals := 64 }
def fX4_readNumber_b50 (σ : tw_St) (a0 : Nat) (x1 : Int32) (x2 : Int32) (x3 : Int32) : Option (Int32 × tw_St) :=
  (tw_gP σ 4 a0 0).bind fun v51 =>
  (fX3_add σ v51 x1 x2 (-6) (-6) x3).bind fun σ61 =>
  some (1, σ61)
def fX4_readNumber_b49 (σ : tw_St) (a0 : Nat) (x1 : Int32) (x2 : Int32) (z0 : Int32) : Option (Int32 × tw_St) :=
  fX4_readNumber_b50 σ a0 x1 x2 z0
def fX4_readNumber (σ : tw_St) (a : Nat) (x1 : Int32) (x2 : Int32) : Option (Int32 × tw_St) :=
  (tw_is σ 4 a).bind fun _ =>
  (fX4_takeFrom σ a 48 10).bind fun q5 =>
  if q5.1 = (-6) then
    some (0, q5.2)
  else
    if q5.1 ≤ 0 then
      fX4_readNumber_b50 q5.2 a x1 x2 q5.1
    else
      (fX4_takeFrom q5.2 a 48 10).bind fun q26 =>
      if q26.1 = (-6) then
        fX4_readNumber_b49 q26.2 a x1 x2 q5.1
      else
        fX4_readNumber_b49 q26.2 a x1 x2 ((q5.1 * 10) + q26.1)
def rmX4_readNumber : Room := { frames := 2, cells := 0, slots := 0, locals := 44 }
def fX4_readLoad (σ : tw_St) (a : Nat) (x1 : Int32) : Option (Int32 × tw_St) :=
  (tw_is σ 4 a).bind fun _ =>
  (fX4_takeRegister σ a).bind fun q1 =>
  if q1.1 = (-6) then
    some (0, q1.2)
  else
    (fX4_take q1.2 a 93).bind fun q14 =>
    if q14.1 = 0 then
      some (0, q14.2)
    else
      (tw_gP q14.2 4 a 0).bind fun v23 =>
      (fX3_add q14.2 v23 4 x1 q1.1 (-6) (-6)).bind fun σ33 =>
      some (1, σ33)
def rmX4_readLoad : Room := { frames := 3, cells := 0, slots := 0, locals := 64 }
def fX4_takeSign (σ : tw_St) (a : Nat) : Option (Int32 × tw_St) :=
  (tw_is σ 4 a).bind fun _ =>
  (fX4_take σ a 43).bind fun q3 =>
  if q3.1 = 0 then
    (fX4_take q3.2 a 45).bind fun q14 =>
    if q14.1 = 0 then
      (fX4_take q14.2 a 42).bind fun q25 =>
      if q25.1 = 0 then
        some ((-6), q25.2)
      else
        some (3, q25.2)
    else
      some (2, q14.2)
  else
    some (1, q3.2)
def rmX4_takeSign : Room := { frames := 2, cells := 0, slots := 0, locals := 42 }
def fX4_readGiven (σ : tw_St) (a : Nat) (x1 : Int32) : Option (Int32 × tw_St) :=
  (tw_is σ 4 a).bind fun _ =>
  (fX4_take σ a 91).bind fun q3 =>
  if q3.1 = 0 then
    (fX4_takeRegister q3.2 a).bind fun q16 =>
    if q16.1 = (-6) then
      (fX4_readNumber q16.2 a 0 x1).bind fun q29 =>
      (tw_bz q29.1).bind fun _ =>
      some (q29.1, q29.2)
    else
      (fX4_takeSign q16.2 a).bind fun q34 =>
      if q34.1 = (-6) then
        some (0, q34.2)
      else
        (fX4_takeRegister q34.2 a).bind fun q47 =>
        if q47.1 = (-6) then
          some (0, q47.2)
        else
          (tw_gP q47.2 4 a 0).bind fun v62 =>
          (fX3_add q47.2 v62 q34.1 x1 q16.1 q47.1 (-6)).bind fun σ72 =>
          some (1, σ72)
  else
    (fX4_readLoad q3.2 a x1).bind fun q11 =>
    (tw_bz q11.1).bind fun _ =>
    some (q11.1, q11.2)
def rmX4_readGiven : Room := { frames := 4, cells := 0, slots := 0, locals := 86 }
def fX4_readOrder (σ : tw_St) (a : Nat) : Option (Int32 × tw_St) :=
  (tw_is σ 4 a).bind fun _ =>
  (fX4_take σ a 91).bind fun q3 =>
  if q3.1 = 0 then
    (fX4_takeRegister q3.2 a).bind fun q15 =>
    if q15.1 = (-6) then
      some (0, q15.2)
    else
      (fX4_take q15.2 a 63).bind fun q30 =>
      if q30.1 = 0 then
        (fX4_take q30.2 a 61).bind fun q47 =>
        if q47.1 = 0 then
          some (0, q47.2)
        else
          (fX4_readGiven q47.2 a q15.1).bind fun q55 =>
          if q55.1 = 0 then
            some (0, q55.2)
          else
            some (1, q55.2)
      else
        (fX4_readNumber q30.2 a 6 q15.1).bind fun q40 =>
        (tw_bz q40.1).bind fun _ =>
        some (q40.1, q40.2)
  else
    (fX4_readStore q3.2 a).bind fun q10 =>
    (tw_bz q10.1).bind fun _ =>
    some (q10.1, q10.2)
def rmX4_readOrder : Room := { frames := 5, cells := 0, slots := 0, locals := 110 }
def fX4_read_b85 (σ : tw_St) (a0 : Nat) : Option (Int32 × tw_St) :=
  (tw_gI σ 4 a0 3).bind fun v86 =>
  some (v86, σ)
def fX4_read_b74 (σ : tw_St) (a0 : Nat) : Option (Int32 × tw_St) :=
  (tw_gI σ 4 a0 3).bind fun v75 =>
  some (v75, σ)
def fX4_read_b33 (σ : tw_St) (a0 : Nat) : Option (Int32 × tw_St) :=
  (tw_gI σ 4 a0 3).bind fun v34 =>
  some (v34, σ)
def fX4_read_h20 (k20 : (tw_St → Nat → Int32 → Option (Int32 × tw_St))) (σ : tw_St) (a0 : Nat) (x1 : Int32) : Option (Int32 × tw_St) :=
  if 80 < x1 then
    fX4_read_b85 σ a0
  else
    (fX4_readOrder σ a0).bind fun q27 =>
    if q27.1 = 0 then
      fX4_read_b33 q27.2 a0
    else
      (tw_gI q27.2 4 a0 1).bind fun v40 =>
      (tw_pI q27.2 4 a0 1 (v40 + 1)).bind fun σ45 =>
      (tw_gI σ45 4 a0 3).bind fun v49 =>
      (tw_gP σ45 4 a0 2).bind fun v53 =>
      (tw_gI σ45 1 v53 0).bind fun v56 =>
      if v49 = v56 then
        some ((-6), σ45)
      else
        (fX4_take σ45 a0 59).bind fun q68 =>
        if q68.1 = 0 then
          fX4_read_b74 q68.2 a0
        else
          k20 q68.2 a0 (x1 + 1)
def fX4_read_l20 (n : Nat) : tw_St → Nat → Int32 → Option (Int32 × tw_St) := tw_it (fun _ _ _ => none) (fX4_read_h20) n
def fX4_read (σ : tw_St) (a : Nat) : Option (Int32 × tw_St) :=
  (tw_is σ 4 a).bind fun _ =>
  (tw_gP σ 4 a 0).bind fun v1 =>
  (tw_pI σ 3 v1 0 0).bind fun σ5 =>
  (tw_pI σ5 4 a 1 0).bind fun σ10 =>
  (tw_pI σ10 4 a 3 0).bind fun σ15 =>
  fX4_read_l20 tw_F σ15 a 0
def rmX4_read : Room := { frames := 6, cells := 0, slots := 0, locals := 131 }
def fX7_fault (σ : tw_St) (a : Nat) : Option (Int32 × tw_St) :=
  (tw_is σ 7 a).bind fun _ =>
  (tw_gP σ 7 a 5).bind fun v1 =>
  (fX4_read σ v1).bind fun q4 =>
  some (q4.1, q4.2)
def rmX7_fault : Room := { frames := 7, cells := 0, slots := 0, locals := 152 }
def fX7_isThread (σ : tw_St) (x0 : Int32) : Option (Int32) :=
  if x0 < 0 then
    some 0
  else
    if 2 ≤ x0 then
      some 0
    else
      some 1
def rmX7_isThread : Room := { frames := 0, cells := 0, slots := 0, locals := 0 }
def fX7_program (σ : tw_St) (a : Nat) (x1 : Int32) : Option (Int32 × tw_St) :=
  (tw_is σ 7 a).bind fun _ =>
  (fX7_isThread σ x1).bind fun v1 =>
  if v1 = 0 then
    some ((-1), σ)
  else
    (tw_gP σ 7 a 5).bind fun v10 =>
    (fX4_read σ v10).bind fun q13 =>
    if q13.1 = (-6) then
      (tw_gP q13.2 7 a 5).bind fun v25 =>
      (tw_gI q13.2 4 v25 1).bind fun v28 =>
      if v28 ≤ 12 then
        (tw_gP q13.2 7 a 6).bind fun v40 =>
        (tw_gP q13.2 7 a 0).bind fun v44 =>
        (fX0_record q13.2 v40 v44).bind fun σ47 =>
        (tw_gP σ47 7 a 0).bind fun v51 =>
        (tw_gP σ47 6 v51 1).bind fun v54 =>
        (tw_aP σ47 25 v54 x1).bind fun v58 =>
        (tw_gP σ47 7 a 5).bind fun v60 =>
        (tw_gP σ47 4 v60 0).bind fun v63 =>
        (fX3_copyFrom σ47 v58 v63).bind fun σ66 =>
        (tw_gP σ66 7 a 4).bind fun v70 =>
        (tw_pI σ66 1 v70 0 0).bind fun σ74 =>
        (tw_gP σ74 7 a 1).bind fun v78 =>
        (fX5_play σ74 v78 (-6)).bind fun σ83 =>
        (tw_gP σ83 7 a 0).bind fun v87 =>
        (tw_gP σ83 6 v87 1).bind fun v90 =>
        (tw_aP σ83 25 v90 x1).bind fun v94 =>
        (tw_gI σ83 3 v94 0).bind fun v95 =>
        some (v95, σ83)
      else
        some ((-4), q13.2)
    else
      some ((-3), q13.2)
def rmX7_program : Room := { frames := 7, cells := 0, slots := 0, locals := 152 }
def fX7_drop (σ : tw_St) (a : Nat) (x1 : Int32) : Option (Int32 × tw_St) :=
  (tw_is σ 7 a).bind fun _ =>
  (fX7_isThread σ x1).bind fun v1 =>
  if v1 = 0 then
    some ((-1), σ)
  else
    (tw_gP σ 7 a 0).bind fun v10 =>
    (tw_gP σ 6 v10 1).bind fun v13 =>
    (tw_aP σ 25 v13 x1).bind fun v17 =>
    (tw_gI σ 3 v17 0).bind fun v18 =>
    (tw_gP σ 7 a 6).bind fun v23 =>
    (tw_gP σ 7 a 0).bind fun v27 =>
    (fX0_record σ v23 v27).bind fun σ30 =>
    (tw_gP σ30 7 a 0).bind fun v34 =>
    (tw_gP σ30 6 v34 1).bind fun v37 =>
    (tw_aP σ30 25 v37 x1).bind fun v41 =>
    (tw_pI σ30 3 v41 0 0).bind fun σ43 =>
    (tw_gP σ43 7 a 1).bind fun v47 =>
    (fX5_play σ43 v47 (-6)).bind fun σ52 =>
    some (v18, σ52)
def rmX7_drop : Room := { frames := 6, cells := 0, slots := 0, locals := 138 }
def fX7_first (σ : tw_St) (a : Nat) (x1 : Int32) (x2 : Int32) (x3 : Int32) : Option (Int32 × tw_St) :=
  (tw_is σ 7 a).bind fun _ =>
  (fX7_isThread σ x1).bind fun v1 =>
  if v1 = 0 then
    some ((-1), σ)
  else
    if x2 < 0 then
      some ((-1), σ)
    else
      if x2 < 12 then
        if x3 < 0 then
          some ((-2), σ)
        else
          if x3 < 1000 then
            (tw_gP σ 7 a 0).bind fun v34 =>
            (tw_gP σ 6 v34 2).bind fun v37 =>
            (tw_aP σ 23 v37 x1).bind fun v41 =>
            (tw_aI σ 20 v41 x2).bind fun v43 =>
            (tw_gP σ 7 a 6).bind fun v47 =>
            (tw_gP σ 7 a 0).bind fun v51 =>
            (fX0_record σ v47 v51).bind fun σ54 =>
            (tw_gP σ54 7 a 0).bind fun v58 =>
            (tw_gP σ54 6 v58 2).bind fun v61 =>
            (tw_aP σ54 23 v61 x1).bind fun v65 =>
            (tw_wI σ54 20 v65 x2 x3).bind fun σ68 =>
            (tw_gP σ68 7 a 1).bind fun v70 =>
            (fX5_play σ68 v70 (-6)).bind fun σ75 =>
            some (v43, σ75)
          else
            some ((-2), σ)
      else
        some ((-1), σ)
def rmX7_first : Room := { frames := 6, cells := 0, slots := 0, locals := 138 }
def fX6_exchangeThreads (σ : tw_St) (a : Nat) : Option (tw_St) :=
  (tw_is σ 6 a).bind fun _ =>
  (tw_gP σ 6 a 1).bind fun v1 =>
  (tw_aP σ 25 v1 0).bind fun v5 =>
  (tw_gP σ 6 a 1).bind fun v8 =>
  (tw_gP σ 6 a 1).bind fun v13 =>
  (tw_aP σ 25 v13 1).bind fun v17 =>
  (tw_wP σ 25 3 v8 0 v17).bind fun σ18 =>
  (tw_gP σ18 6 a 1).bind fun v20 =>
  (tw_wP σ18 25 3 v20 1 v5).bind fun σ25 =>
  (tw_gP σ25 6 a 2).bind fun v27 =>
  (tw_aP σ25 23 v27 0).bind fun v31 =>
  (tw_gP σ25 6 a 2).bind fun v34 =>
  (tw_gP σ25 6 a 2).bind fun v39 =>
  (tw_aP σ25 23 v39 1).bind fun v43 =>
  (tw_wP σ25 23 20 v34 0 v43).bind fun σ44 =>
  (tw_gP σ44 6 a 2).bind fun v46 =>
  (tw_wP σ44 23 20 v46 1 v31).bind fun σ51 =>
  some σ51
def rmX6_exchangeThreads : Room := { frames := 0, cells := 0, slots := 0, locals := 0 }
def fX5_length (σ : tw_St) (a : Nat) : Option (Int32) :=
  (tw_is σ 5 a).bind fun _ =>
  (tw_gP σ 5 a 2).bind fun v1 =>
  (tw_aI σ 20 v1 0).bind fun v5 =>
  (tw_gP σ 5 a 2).bind fun v7 =>
  (tw_aI σ 20 v7 1).bind fun v11 =>
  (fJ9_max σ v5 v11).bind fun v12 =>
  some v12
def rmX5_length : Room := { frames := 1, cells := 0, slots := 0, locals := 21 }
def fX7_exchange (σ : tw_St) (a : Nat) : Option (Int32 × tw_St) :=
  (tw_is σ 7 a).bind fun _ =>
  (tw_gP σ 7 a 6).bind fun v1 =>
  (tw_gP σ 7 a 0).bind fun v5 =>
  (fX0_record σ v1 v5).bind fun σ8 =>
  (tw_gP σ8 7 a 0).bind fun v12 =>
  (fX6_exchangeThreads σ8 v12).bind fun σ15 =>
  (tw_gP σ15 7 a 1).bind fun v19 =>
  (fX5_play σ15 v19 (-6)).bind fun σ24 =>
  (tw_gP σ24 7 a 1).bind fun v28 =>
  (fX5_length σ24 v28).bind fun v31 =>
  some (v31, σ24)
def rmX7_exchange : Room := { frames := 6, cells := 0, slots := 0, locals := 138 }
def fX7_ofOrder (σ : tw_St) (a : Nat) (x1 : Int32) (x2 : Int32) (x3 : Int32) : Option (Int32) :=
  (tw_is σ 7 a).bind fun _ =>
  (fX7_isThread σ x1).bind fun v1 =>
  if v1 = 0 then
    some (-1)
  else
    if x2 < 0 then
      some (-1)
    else
      (tw_gP σ 7 a 0).bind fun v13 =>
      (tw_gP σ 6 v13 1).bind fun v16 =>
      (tw_aP σ 25 v16 x1).bind fun v20 =>
      (tw_gI σ 3 v20 0).bind fun v21 =>
      if x2 < v21 then
        if x3 < 0 then
          some (-2)
        else
          if x3 < 5 then
            (tw_gP σ 7 a 0).bind fun v42 =>
            (tw_gP σ 6 v42 1).bind fun v45 =>
            (tw_aP σ 25 v45 x1).bind fun v49 =>
            (fX3_told σ v49 x2 x3).bind fun v52 =>
            some v52
          else
            some (-2)
      else
        some (-1)
def rmX7_ofOrder : Room := { frames := 1, cells := 0, slots := 0, locals := 22 }
def fX5_stepsIn_b47 (k5 : (tw_St → Nat → Int32 → Int32 → Int32 → Int32 → Option (Int32))) (σ : tw_St) (a0 : Nat) (x1 : Int32) (x2 : Int32) (x3 : Int32) (x4 : Int32) : Option (Int32) :=
  k5 σ a0 x1 x2 x3 (x4 + 1)
def fX5_stepsIn_h5 (k5 : (tw_St → Nat → Int32 → Int32 → Int32 → Int32 → Option (Int32))) (σ : tw_St) (a0 : Nat) (x1 : Int32) (x2 : Int32) (x3 : Int32) (x4 : Int32) : Option (Int32) :=
  (tw_gP σ 5 a0 1).bind fun v8 =>
  (tw_aI σ 20 v8 x1).bind fun v12 =>
  if v12 ≤ x4 then
    some x3
  else
    (tw_gP σ 5 a0 6).bind fun v17 =>
    (tw_gP σ 6 v17 1).bind fun v20 =>
    (tw_aP σ 25 v20 x1).bind fun v24 =>
    (tw_gP σ 5 a0 0).bind fun v26 =>
    (tw_aP σ 26 v26 x1).bind fun v30 =>
    (tw_gP σ 2 v30 2).bind fun v31 =>
    (tw_aI σ 20 v31 x4).bind fun v36 =>
    (fX3_roomOf σ v24 v36).bind fun v37 =>
    if v37 = x2 then
      fX5_stepsIn_b47 k5 σ a0 x1 x2 (x3 + 1) x4
    else
      fX5_stepsIn_b47 k5 σ a0 x1 x2 x3 x4
def fX5_stepsIn_l5 (n : Nat) : tw_St → Nat → Int32 → Int32 → Int32 → Int32 → Option (Int32) := tw_it (fun _ _ _ _ _ _ => none) (fX5_stepsIn_h5) n
def fX5_stepsIn (σ : tw_St) (a : Nat) (x1 : Int32) (x2 : Int32) : Option (Int32) :=
  (tw_is σ 5 a).bind fun _ =>
  fX5_stepsIn_l5 tw_F σ a x1 x2 0 0
def rmX5_stepsIn : Room := { frames := 2, cells := 0, slots := 0, locals := 43 }
def fX7_ofThread (σ : tw_St) (a : Nat) (x1 : Int32) (x2 : Int32) : Option (Int32) :=
  (tw_is σ 7 a).bind fun _ =>
  (fX7_isThread σ x1).bind fun v1 =>
  if v1 = 0 then
    some (-1)
  else
    if x2 = 0 then
      (tw_gP σ 7 a 0).bind fun v69 =>
      (tw_gP σ 6 v69 1).bind fun v72 =>
      (tw_aP σ 25 v72 x1).bind fun v76 =>
      (tw_gI σ 3 v76 0).bind fun v77 =>
      some v77
    else
    if x2 = 1 then
      (tw_gP σ 7 a 1).bind fun v82 =>
      (tw_gP σ 5 v82 1).bind fun v85 =>
      (tw_aI σ 20 v85 x1).bind fun v89 =>
      some v89
    else
    if x2 = 2 then
      (tw_gP σ 7 a 1).bind fun v92 =>
      (tw_gP σ 5 v92 2).bind fun v95 =>
      (tw_aI σ 20 v95 x1).bind fun v99 =>
      some v99
    else
    if x2 = 3 then
      (tw_gP σ 7 a 1).bind fun v102 =>
      (tw_gP σ 5 v102 0).bind fun v105 =>
      (tw_aP σ 26 v105 x1).bind fun v109 =>
      (tw_gI σ 2 v109 1).bind fun v110 =>
      if v110 = 0 then
        some 0
      else
        some 1
    else
    if x2 = 4 then
      (tw_gP σ 7 a 1).bind fun v123 =>
      (tw_gP σ 5 v123 5).bind fun v126 =>
      (tw_aP σ 23 v126 x1).bind fun v130 =>
      (tw_aI σ 20 v130 1).bind fun v132 =>
      some v132
    else
    if x2 = 5 then
      (tw_gP σ 7 a 1).bind fun v135 =>
      (tw_gP σ 5 v135 5).bind fun v138 =>
      (tw_aP σ 23 v138 x1).bind fun v142 =>
      (tw_aI σ 20 v142 2).bind fun v144 =>
      some v144
    else
    if x2 = 6 then
      (tw_gP σ 7 a 1).bind fun v147 =>
      (tw_gP σ 5 v147 5).bind fun v150 =>
      (tw_aP σ 23 v150 x1).bind fun v154 =>
      (tw_aI σ 20 v154 3).bind fun v156 =>
      some v156
    else
    if x2 = 7 then
      (tw_gP σ 7 a 1).bind fun v159 =>
      (tw_gP σ 5 v159 5).bind fun v162 =>
      (tw_aP σ 23 v162 x1).bind fun v166 =>
      (tw_aI σ 20 v166 4).bind fun v168 =>
      some v168
    else
    if x2 = 8 then
      (tw_gP σ 7 a 1).bind fun v171 =>
      (fX5_latestStart σ v171 x1).bind fun v175 =>
      some v175
    else
    if x2 = 9 then
      (tw_gP σ 7 a 1).bind fun v180 =>
      (fX5_stepsIn σ v180 x1 0).bind fun v185 =>
      some v185
    else
    if x2 = 10 then
      (tw_gP σ 7 a 1).bind fun v190 =>
      (fX5_stepsIn σ v190 x1 1).bind fun v195 =>
      some v195
    else
      some (-2)
def rmX7_ofThread : Room := { frames := 3, cells := 0, slots := 0, locals := 67 }
def fX7_last (σ : tw_St) (a : Nat) (x1 : Int32) (x2 : Int32) : Option (Int32) :=
  (tw_is σ 7 a).bind fun _ =>
  (fX7_isThread σ x1).bind fun v1 =>
  if v1 = 0 then
    some (-1)
  else
    if x2 < 0 then
      some (-1)
    else
      if x2 < 12 then
        (tw_gP σ 7 a 1).bind fun v20 =>
        (tw_gP σ 5 v20 0).bind fun v23 =>
        (tw_aP σ 26 v23 x1).bind fun v27 =>
        (tw_gP σ 2 v27 3).bind fun v28 =>
        (tw_aI σ 20 v28 x2).bind fun v32 =>
        some v32
      else
        some (-1)
def rmX7_last : Room := { frames := 1, cells := 0, slots := 0, locals := 20 }
def fX5_waitAhead_b20 (σ : tw_St) (a0 : Nat) (x1 : Int32) (x2 : Int32) (z0 : Int32) : Option (Int32) :=
  (tw_gP σ 5 a0 3).bind fun v22 =>
  (tw_aP σ 23 v22 x1).bind fun v26 =>
  (tw_aI σ 20 v26 x2).bind fun v28 =>
  some (v28 - z0)
def fX5_waitAhead (σ : tw_St) (a : Nat) (x1 : Int32) (x2 : Int32) : Option (Int32) :=
  (tw_is σ 5 a).bind fun _ =>
  if x2 ≤ 0 then
    fX5_waitAhead_b20 σ a x1 x2 0
  else
    (tw_gP σ 5 a 3).bind fun v5 =>
    (tw_aP σ 23 v5 x1).bind fun v9 =>
    (tw_aI σ 20 v9 (x2 - 1)).bind fun v13 =>
    fX5_waitAhead_b20 σ a x1 x2 (v13 + 1)
def rmX5_waitAhead : Room := { frames := 0, cells := 0, slots := 0, locals := 0 }
def fX7_ofStep (σ : tw_St) (a : Nat) (x1 : Int32) (x2 : Int32) (x3 : Int32) : Option (Int32) :=
  (tw_is σ 7 a).bind fun _ =>
  (fX7_isThread σ x1).bind fun v1 =>
  if v1 = 0 then
    some (-1)
  else
    if x2 < 0 then
      some (-1)
    else
      (tw_gP σ 7 a 1).bind fun v13 =>
      (tw_gP σ 5 v13 1).bind fun v16 =>
      (tw_aI σ 20 v16 x1).bind fun v20 =>
      if x2 < v20 then
        if x3 = 0 then
          (tw_gP σ 7 a 1).bind fun v57 =>
          (tw_gP σ 5 v57 3).bind fun v60 =>
          (tw_aP σ 23 v60 x1).bind fun v64 =>
          (tw_aI σ 20 v64 x2).bind fun v66 =>
          some v66
        else
        if x3 = 1 then
          (tw_gP σ 7 a 1).bind fun v69 =>
          (tw_gP σ 5 v69 0).bind fun v72 =>
          (tw_aP σ 26 v72 x1).bind fun v76 =>
          (tw_gP σ 2 v76 2).bind fun v77 =>
          (tw_aI σ 20 v77 x2).bind fun v81 =>
          some v81
        else
        if x3 = 2 then
          (tw_gP σ 7 a 1).bind fun v84 =>
          (tw_gP σ 5 v84 4).bind fun v87 =>
          (tw_aP σ 23 v87 x1).bind fun v91 =>
          (tw_aI σ 20 v91 x2).bind fun v93 =>
          some v93
        else
        if x3 = 3 then
          (tw_gP σ 7 a 1).bind fun v96 =>
          (fX5_waitAhead σ v96 x1 x2).bind fun v101 =>
          some v101
        else
          some (-2)
      else
        some (-1)
def rmX7_ofStep : Room := { frames := 1, cells := 0, slots := 0, locals := 23 }
def fX5_starterIn_b39 (k2 : (tw_St → Nat → Int32 → Int32 → Option (Int32))) (σ : tw_St) (a0 : Nat) (x1 : Int32) (x2 : Int32) : Option (Int32) :=
  k2 σ a0 x1 (x2 + 1)
def fX5_starterIn_h9 (k2 : (tw_St → Nat → Int32 → Int32 → Option (Int32))) (k9 : (tw_St → Nat → Int32 → Int32 → Int32 → Option (Int32))) (σ : tw_St) (a0 : Nat) (x1 : Int32) (x2 : Int32) (x3 : Int32) : Option (Int32) :=
  (tw_gP σ 5 a0 1).bind fun v11 =>
  (tw_aI σ 20 v11 x2).bind fun v15 =>
  if v15 ≤ x3 then
    fX5_starterIn_b39 k2 σ a0 x1 x2
  else
    (tw_gP σ 5 a0 3).bind fun v20 =>
    (tw_aP σ 23 v20 x2).bind fun v24 =>
    (tw_aI σ 20 v24 x3).bind fun v26 =>
    if v26 = x1 then
      some x2
    else
      k9 σ a0 x1 x2 (x3 + 1)
def fX5_starterIn_l9 (k2 : (tw_St → Nat → Int32 → Int32 → Option (Int32))) (n : Nat) : tw_St → Nat → Int32 → Int32 → Int32 → Option (Int32) := tw_it (fun _ _ _ _ _ => none) (fX5_starterIn_h9 k2) n
def fX5_starterIn_h2 (k2 : (tw_St → Nat → Int32 → Int32 → Option (Int32))) (σ : tw_St) (a0 : Nat) (x1 : Int32) (x2 : Int32) : Option (Int32) :=
  if 2 ≤ x2 then
    some (-6)
  else
    fX5_starterIn_l9 k2 tw_F σ a0 x1 x2 0
def fX5_starterIn_l2 (n : Nat) : tw_St → Nat → Int32 → Int32 → Option (Int32) := tw_it (fun _ _ _ _ => none) (fX5_starterIn_h2) n
def fX5_starterIn (σ : tw_St) (a : Nat) (x1 : Int32) : Option (Int32) :=
  (tw_is σ 5 a).bind fun _ =>
  fX5_starterIn_l2 tw_F σ a x1 0
def rmX5_starterIn : Room := { frames := 0, cells := 0, slots := 0, locals := 0 }
def fX5_userIn_b95 (k2 : (tw_St → Nat → Int32 → Int32 → Int32 → Option (Int32))) (σ : tw_St) (a0 : Nat) (x1 : Int32) (x2 : Int32) (x3 : Int32) : Option (Int32) :=
  k2 σ a0 x1 x2 (x3 + 1)
def fX5_userIn_b89 (k2 : (tw_St → Nat → Int32 → Int32 → Int32 → Option (Int32))) (k10 : (tw_St → Nat → Int32 → Int32 → Int32 → Int32 → Option (Int32))) (σ : tw_St) (a0 : Nat) (x1 : Int32) (x2 : Int32) (x3 : Int32) (x4 : Int32) : Option (Int32) :=
  k10 σ a0 x1 x2 x3 (x4 + 1)
def fX5_userIn_b52 (k2 : (tw_St → Nat → Int32 → Int32 → Int32 → Option (Int32))) (k10 : (tw_St → Nat → Int32 → Int32 → Int32 → Int32 → Option (Int32))) (σ : tw_St) (a0 : Nat) (x1 : Int32) (x2 : Int32) (x3 : Int32) (x4 : Int32) (z0 : Int32) : Option (Int32) :=
  if z0 = 0 then
    fX5_userIn_b89 k2 k10 σ a0 x1 x2 x3 x4
  else
    (tw_gP σ 5 a0 6).bind fun v60 =>
    (tw_gP σ 6 v60 1).bind fun v63 =>
    (tw_aP σ 25 v63 x3).bind fun v67 =>
    (tw_gP σ 5 a0 0).bind fun v69 =>
    (tw_aP σ 26 v69 x3).bind fun v73 =>
    (tw_gP σ 2 v73 2).bind fun v74 =>
    (tw_aI σ 20 v74 x4).bind fun v79 =>
    (fX3_roomOf σ v67 v79).bind fun v80 =>
    if v80 = x2 then
      some x3
    else
      fX5_userIn_b89 k2 k10 σ a0 x1 x2 x3 x4
def fX5_userIn_b51 (k2 : (tw_St → Nat → Int32 → Int32 → Int32 → Option (Int32))) (k10 : (tw_St → Nat → Int32 → Int32 → Int32 → Int32 → Option (Int32))) (σ : tw_St) (a0 : Nat) (x1 : Int32) (x2 : Int32) (x3 : Int32) (x4 : Int32) : Option (Int32) :=
  fX5_userIn_b52 k2 k10 σ a0 x1 x2 x3 x4 0
def fX5_userIn_h10 (k2 : (tw_St → Nat → Int32 → Int32 → Int32 → Option (Int32))) (k10 : (tw_St → Nat → Int32 → Int32 → Int32 → Int32 → Option (Int32))) (σ : tw_St) (a0 : Nat) (x1 : Int32) (x2 : Int32) (x3 : Int32) (x4 : Int32) : Option (Int32) :=
  (tw_gP σ 5 a0 1).bind fun v13 =>
  (tw_aI σ 20 v13 x3).bind fun v17 =>
  if v17 ≤ x4 then
    fX5_userIn_b95 k2 σ a0 x1 x2 x3
  else
    (tw_gP σ 5 a0 3).bind fun v22 =>
    (tw_aP σ 23 v22 x3).bind fun v26 =>
    (tw_aI σ 20 v26 x4).bind fun v29 =>
    if x1 < v29 then
      fX5_userIn_b51 k2 k10 σ a0 x1 x2 x3 x4
    else
      (tw_gP σ 5 a0 4).bind fun v36 =>
      (tw_aP σ 23 v36 x3).bind fun v40 =>
      (tw_aI σ 20 v40 x4).bind fun v43 =>
      if v43 ≤ x1 then
        fX5_userIn_b51 k2 k10 σ a0 x1 x2 x3 x4
      else
        fX5_userIn_b52 k2 k10 σ a0 x1 x2 x3 x4 1
def fX5_userIn_l10 (k2 : (tw_St → Nat → Int32 → Int32 → Int32 → Option (Int32))) (n : Nat) : tw_St → Nat → Int32 → Int32 → Int32 → Int32 → Option (Int32) := tw_it (fun _ _ _ _ _ _ => none) (fX5_userIn_h10 k2) n
def fX5_userIn_h2 (k2 : (tw_St → Nat → Int32 → Int32 → Int32 → Option (Int32))) (σ : tw_St) (a0 : Nat) (x1 : Int32) (x2 : Int32) (x3 : Int32) : Option (Int32) :=
  if 2 ≤ x3 then
    some (-6)
  else
    fX5_userIn_l10 k2 tw_F σ a0 x1 x2 x3 0
def fX5_userIn_l2 (n : Nat) : tw_St → Nat → Int32 → Int32 → Int32 → Option (Int32) := tw_it (fun _ _ _ _ _ => none) (fX5_userIn_h2) n
def fX5_userIn (σ : tw_St) (a : Nat) (x1 : Int32) (x2 : Int32) : Option (Int32) :=
  (tw_is σ 5 a).bind fun _ =>
  fX5_userIn_l2 tw_F σ a x1 x2 0
def rmX5_userIn : Room := { frames := 2, cells := 0, slots := 0, locals := 43 }
def fX7_at (σ : tw_St) (a : Nat) (x1 : Int32) (x2 : Int32) : Option (Int32) :=
  (tw_is σ 7 a).bind fun _ =>
  if 0 ≤ x1 then
    if x2 = 0 then
      (tw_gP σ 7 a 1).bind fun v37 =>
      (fX5_starterIn σ v37 x1).bind fun v41 =>
      some v41
    else
    if x2 = 1 then
      (tw_gP σ 7 a 1).bind fun v46 =>
      (fX5_userIn σ v46 x1 0).bind fun v51 =>
      some v51
    else
    if x2 = 2 then
      (tw_gP σ 7 a 1).bind fun v56 =>
      (fX5_userIn σ v56 x1 1).bind fun v61 =>
      some v61
    else
      some (-2)
  else
    some (-2)
def rmX7_at : Room := { frames := 3, cells := 0, slots := 0, locals := 68 }
def fX5_ticksIn (σ : tw_St) (a : Nat) (x1 : Int32) : Option (Int32) :=
  (tw_is σ 5 a).bind fun _ =>
  (fX5_stepsIn σ a 0 x1).bind fun v3 =>
  (fX5_stepsIn σ a 1 x1).bind fun v9 =>
  (tw_gP σ 5 a 6).bind fun v14 =>
  (fX6_ticksFor σ v14 x1).bind fun v18 =>
  some ((v3 + v9) * v18)
def rmX5_ticksIn : Room := { frames := 3, cells := 0, slots := 0, locals := 67 }
def fX7_count (σ : tw_St) (a : Nat) (x1 : Int32) : Option (Int32) :=
  (tw_is σ 7 a).bind fun _ =>
  if x1 = 0 then
    (tw_gP σ 7 a 1).bind fun v57 =>
    (fX5_length σ v57).bind fun v60 =>
    some v60
  else
  if x1 = 1 then
    (tw_gP σ 7 a 1).bind fun v65 =>
    (tw_gP σ 5 v65 1).bind fun v68 =>
    (tw_aI σ 20 v68 0).bind fun v72 =>
    (tw_gP σ 7 a 1).bind fun v74 =>
    (tw_gP σ 5 v74 1).bind fun v77 =>
    (tw_aI σ 20 v77 1).bind fun v81 =>
    some (v72 + v81)
  else
  if x1 = 2 then
    (tw_gP σ 7 a 1).bind fun v85 =>
    (fX5_length σ v85).bind fun v88 =>
    (tw_gP σ 7 a 1).bind fun v92 =>
    (tw_gP σ 5 v92 1).bind fun v95 =>
    (tw_aI σ 20 v95 0).bind fun v99 =>
    (tw_gP σ 7 a 1).bind fun v102 =>
    (tw_gP σ 5 v102 1).bind fun v105 =>
    (tw_aI σ 20 v105 1).bind fun v109 =>
    some ((v88 - v99) - v109)
  else
  if x1 = 3 then
    (tw_gP σ 7 a 1).bind fun v113 =>
    (fX5_ticksIn σ v113 0).bind fun v117 =>
    some v117
  else
  if x1 = 4 then
    (tw_gP σ 7 a 1).bind fun v122 =>
    (fX5_ticksIn σ v122 1).bind fun v126 =>
    some v126
  else
  if x1 = 5 then
    (tw_gP σ 7 a 4).bind fun v131 =>
    (tw_gI σ 1 v131 0).bind fun v134 =>
    some v134
  else
  if x1 = 6 then
    (tw_gP σ 7 a 6).bind fun v139 =>
    (tw_gI σ 0 v139 0).bind fun v142 =>
    some v142
  else
  if x1 = 7 then
    (tw_gP σ 7 a 0).bind fun v147 =>
    (tw_gP σ 6 v147 0).bind fun v150 =>
    (tw_aI σ 20 v150 0).bind fun v154 =>
    some v154
  else
  if x1 = 8 then
    (tw_gP σ 7 a 0).bind fun v157 =>
    (tw_gP σ 6 v157 0).bind fun v160 =>
    (tw_aI σ 20 v160 1).bind fun v164 =>
    some v164
  else
  if x1 = 9 then
    (tw_gP σ 7 a 0).bind fun v167 =>
    (tw_gP σ 6 v167 0).bind fun v170 =>
    (tw_aI σ 20 v170 2).bind fun v174 =>
    some v174
  else
    some (-2)
def rmX7_count : Room := { frames := 4, cells := 0, slots := 0, locals := 88 }
def fX7_alone (σ : tw_St) (a : Nat) (x1 : Int32) : Option (Int32 × tw_St) :=
  (tw_is σ 7 a).bind fun _ =>
  (fX7_isThread σ x1).bind fun v1 =>
  if v1 = 0 then
    some ((-1), σ)
  else
    (tw_gP σ 7 a 2).bind fun v10 =>
    (tw_gP σ 7 a 0).bind fun v14 =>
    (fX6_copyFrom σ v10 v14).bind fun σ17 =>
    (tw_gP σ17 7 a 2).bind fun v21 =>
    (tw_gP σ17 6 v21 1).bind fun v24 =>
    (tw_aP σ17 25 v24 (1 - x1)).bind fun v30 =>
    (tw_pI σ17 3 v30 0 0).bind fun σ32 =>
    (tw_gP σ32 7 a 3).bind fun v36 =>
    (fX5_play σ32 v36 (-6)).bind fun σ41 =>
    (tw_gP σ41 7 a 3).bind fun v45 =>
    (fX5_length σ41 v45).bind fun v48 =>
    some (v48, σ41)
def rmX7_alone : Room := { frames := 6, cells := 0, slots := 0, locals := 138 }
def fX7_lengthByTurns (σ : tw_St) (a : Nat) (x1 : Int32) : Option (Int32 × tw_St) :=
  (tw_is σ 7 a).bind fun _ =>
  (tw_gP σ 7 a 2).bind fun v1 =>
  (tw_gP σ 7 a 0).bind fun v5 =>
  (fX6_copyFrom σ v1 v5).bind fun σ8 =>
  (tw_gP σ8 7 a 2).bind fun v12 =>
  (tw_gP σ8 6 v12 0).bind fun v15 =>
  (tw_wI σ8 20 v15 0 x1).bind fun σ20 =>
  (tw_gP σ20 7 a 3).bind fun v22 =>
  (fX5_play σ20 v22 (-6)).bind fun σ27 =>
  (tw_gP σ27 7 a 3).bind fun v31 =>
  (fX5_length σ27 v31).bind fun v34 =>
  some (v34, σ27)
def rmX7_lengthByTurns : Room := { frames := 6, cells := 0, slots := 0, locals := 138 }
def fX7_lengthWith (σ : tw_St) (a : Nat) (x1 : Int32) : Option (Int32 × tw_St) :=
  (tw_is σ 7 a).bind fun _ =>
  (tw_lo 0).bind fun v5 =>
  if x1 < v5 then
    some ((-2), σ)
  else
    (tw_hi 0).bind fun v14 =>
    if x1 ≤ v14 then
      (fX7_lengthByTurns σ a x1).bind fun q23 =>
      some (q23.1, q23.2)
    else
      some ((-2), σ)
def rmX7_lengthWith : Room := { frames := 7, cells := 0, slots := 0, locals := 159 }
def fX7_bestTurns_b43 (k16 : (tw_St → Nat → Int32 → Int32 → Int32 → Option (Int32 × tw_St))) (σ : tw_St) (a0 : Nat) (x1 : Int32) (x2 : Int32) (x3 : Int32) : Option (Int32 × tw_St) :=
  k16 σ a0 x1 x2 (x3 + 1)
def fX7_bestTurns_h16 (k16 : (tw_St → Nat → Int32 → Int32 → Int32 → Option (Int32 × tw_St))) (σ : tw_St) (a0 : Nat) (x1 : Int32) (x2 : Int32) (x3 : Int32) : Option (Int32 × tw_St) :=
  (tw_hi 0).bind fun v21 =>
  if v21 < x3 then
    some (x1, σ)
  else
    (fX7_lengthByTurns σ a0 x3).bind fun q27 =>
    if x2 ≤ q27.1 then
      fX7_bestTurns_b43 k16 q27.2 a0 x1 x2 x3
    else
      fX7_bestTurns_b43 k16 q27.2 a0 x3 q27.1 x3
def fX7_bestTurns_l16 (n : Nat) : tw_St → Nat → Int32 → Int32 → Int32 → Option (Int32 × tw_St) := tw_it (fun _ _ _ _ _ => none) (fX7_bestTurns_h16) n
def fX7_bestTurns (σ : tw_St) (a : Nat) : Option (Int32 × tw_St) :=
  (tw_is σ 7 a).bind fun _ =>
  (tw_lo 0).bind fun v4 =>
  (fX7_lengthByTurns σ a v4).bind fun q8 =>
  fX7_bestTurns_l16 tw_F q8.2 a v4 q8.1 (v4 + 1)
def rmX7_bestTurns : Room := { frames := 7, cells := 0, slots := 0, locals := 159 }
def fX7_lengthWithout_b12 (σ : tw_St) (a0 : Nat) (x1 : Int32) : Option (Int32 × tw_St) :=
  (tw_gP σ 7 a0 2).bind fun v13 =>
  (tw_gP σ 7 a0 0).bind fun v17 =>
  (fX6_copyFrom σ v13 v17).bind fun σ20 =>
  (tw_gP σ20 7 a0 3).bind fun v24 =>
  (fX5_play σ20 v24 x1).bind fun σ28 =>
  (tw_gP σ28 7 a0 3).bind fun v32 =>
  (fX5_length σ28 v32).bind fun v35 =>
  some (v35, σ28)
def fX7_lengthWithout (σ : tw_St) (a : Nat) (x1 : Int32) : Option (Int32 × tw_St) :=
  (tw_is σ 7 a).bind fun _ =>
  if x1 = 0 then
    fX7_lengthWithout_b12 σ a x1
  else
    if x1 = 1 then
      fX7_lengthWithout_b12 σ a x1
    else
      some ((-2), σ)
def rmX7_lengthWithout : Room := { frames := 6, cells := 0, slots := 0, locals := 138 }
def fX3_mayMove_b46 (k15 : (tw_St → Nat → Int32 → Int32 → Option (Int32))) (σ : tw_St) (a0 : Nat) (x1 : Int32) (x2 : Int32) : Option (Int32) :=
  k15 σ a0 x1 (x2 + 1)
def fX3_mayMove_h15 (k15 : (tw_St → Nat → Int32 → Int32 → Option (Int32))) (σ : tw_St) (a0 : Nat) (x1 : Int32) (x2 : Int32) : Option (Int32) :=
  (tw_gI σ 3 a0 0).bind fun v17 =>
  if v17 ≤ x2 then
    some 1
  else
    (fX3_told σ a0 x2 0).bind fun v26 =>
    if v26 = 6 then
      (fX3_told σ a0 x2 4).bind fun v37 =>
      if v37 = x1 then
        some 0
      else
        fX3_mayMove_b46 k15 σ a0 x1 x2
    else
      fX3_mayMove_b46 k15 σ a0 x1 x2
def fX3_mayMove_l15 (n : Nat) : tw_St → Nat → Int32 → Int32 → Option (Int32) := tw_it (fun _ _ _ _ => none) (fX3_mayMove_h15) n
def fX3_mayMove (σ : tw_St) (a : Nat) (x1 : Int32) : Option (Int32) :=
  (tw_is σ 3 a).bind fun _ =>
  (fX3_told σ a x1 0).bind fun v3 =>
  if v3 = 6 then
    some 0
  else
    fX3_mayMove_l15 tw_F σ a x1 0
def rmX3_mayMove : Room := { frames := 1, cells := 0, slots := 0, locals := 22 }
def fX3_exchangeWithNext_h21 (k21 : (tw_St → Nat → Int32 → Int32 → Option (tw_St))) (σ : tw_St) (a0 : Nat) (x2 : Int32) (x3 : Int32) : Option (tw_St) :=
  if 5 ≤ x3 then
    some σ
  else
    (tw_gP σ 3 a0 1).bind fun v27 =>
    (tw_aI σ 20 v27 (x2 + x3)).bind fun v33 =>
    (tw_gP σ 3 a0 1).bind fun v37 =>
    (tw_gP σ 3 a0 1).bind fun v44 =>
    (tw_aI σ 20 v44 ((x2 + 5) + x3)).bind fun v52 =>
    (tw_wI σ 20 v37 (x2 + x3) v52).bind fun σ53 =>
    (tw_gP σ53 3 a0 1).bind fun v55 =>
    (tw_wI σ53 20 v55 ((x2 + 5) + x3) v33).bind fun σ65 =>
    k21 σ65 a0 x2 (x3 + 1)
def fX3_exchangeWithNext_l21 (n : Nat) : tw_St → Nat → Int32 → Int32 → Option (tw_St) := tw_it (fun _ _ _ _ => none) (fX3_exchangeWithNext_h21) n
def fX3_exchangeWithNext (σ : tw_St) (a : Nat) (x1 : Int32) : Option (tw_St) :=
  (tw_is σ 3 a).bind fun _ =>
  if x1 < 0 then
    some σ
  else
    (tw_gI σ 3 a 0).bind fun v8 =>
    if (x1 + 1) < v8 then
      fX3_exchangeWithNext_l21 tw_F σ a (x1 * 5) 0
    else
      some σ
def rmX3_exchangeWithNext : Room := { frames := 0, cells := 0, slots := 0, locals := 0 }
def fX2_sameValues_h2 (k2 : (tw_St → Nat → Nat → Int32 → Option (Int32))) (σ : tw_St) (a0 : Nat) (a1 : Nat) (x2 : Int32) : Option (Int32) :=
  if 12 ≤ x2 then
    some 1
  else
    (tw_gP σ 2 a0 3).bind fun v9 =>
    (tw_aI σ 20 v9 x2).bind fun v13 =>
    (tw_gP σ 2 a1 3).bind fun v15 =>
    (tw_aI σ 20 v15 x2).bind fun v19 =>
    if v13 = v19 then
      k2 σ a0 a1 (x2 + 1)
    else
      some 0
def fX2_sameValues_l2 (n : Nat) : tw_St → Nat → Nat → Int32 → Option (Int32) := tw_it (fun _ _ _ _ => none) (fX2_sameValues_h2) n
def fX2_sameValues (σ : tw_St) (a : Nat) (r1 : Nat) : Option (Int32) :=
  (tw_is σ 2 a).bind fun _ =>
  fX2_sameValues_l2 tw_F σ a r1 0
def rmX2_sameValues : Room := { frames := 0, cells := 0, slots := 0, locals := 0 }
def fX7_lengthExchanged (σ : tw_St) (a : Nat) (x1 : Int32) (x2 : Int32) : Option (Int32 × tw_St) :=
  (tw_is σ 7 a).bind fun _ =>
  (tw_gP σ 7 a 2).bind fun v1 =>
  (tw_gP σ 7 a 0).bind fun v5 =>
  (fX6_copyFrom σ v1 v5).bind fun σ8 =>
  (tw_gP σ8 7 a 2).bind fun v12 =>
  (tw_gP σ8 6 v12 1).bind fun v15 =>
  (tw_aP σ8 25 v15 x1).bind fun v19 =>
  (fX3_exchangeWithNext σ8 v19 x2).bind fun σ21 =>
  (tw_gP σ21 7 a 3).bind fun v25 =>
  (fX5_follow σ21 v25).bind fun σ28 =>
  (tw_gP σ28 7 a 3).bind fun v32 =>
  (tw_gP σ28 5 v32 0).bind fun v35 =>
  (tw_aP σ28 26 v35 x1).bind fun v39 =>
  (tw_gP σ28 7 a 1).bind fun v41 =>
  (tw_gP σ28 5 v41 0).bind fun v44 =>
  (tw_aP σ28 26 v44 x1).bind fun v48 =>
  (fX2_sameValues σ28 v39 v48).bind fun v49 =>
  if v49 = 0 then
    some ((-6), σ28)
  else
    (tw_gP σ28 7 a 3).bind fun v59 =>
    (fX5_schedule σ28 v59 (-6)).bind fun σ64 =>
    (tw_gP σ64 7 a 3).bind fun v68 =>
    (fX5_length σ64 v68).bind fun v71 =>
    some (v71, σ64)
def rmX7_lengthExchanged : Room := { frames := 5, cells := 0, slots := 0, locals := 117 }
def fX7_bestExchange_b115 (σ : tw_St) (x2 : Int32) (x4 : Int32) (x5 : Int32) : Option (Int32 × tw_St) :=
  if x4 = (-6) then
    some ((-6), σ)
  else
    if x2 = 0 then
      some (x4, σ)
    else
      some (x5, σ)
def fX7_bestExchange_b109 (k47 : (tw_St → Nat → Int32 → Int32 → Nat → Int32 → Int32 → Int32 → Option (Int32 × tw_St))) (σ : tw_St) (a0 : Nat) (x1 : Int32) (x2 : Int32) (a3 : Nat) (x4 : Int32) (x5 : Int32) (x6 : Int32) : Option (Int32 × tw_St) :=
  k47 σ a0 x1 x2 a3 x4 x5 (x6 + 1)
def fX7_bestExchange_h47 (k47 : (tw_St → Nat → Int32 → Int32 → Nat → Int32 → Int32 → Int32 → Option (Int32 × tw_St))) (σ : tw_St) (a0 : Nat) (x1 : Int32) (x2 : Int32) (a3 : Nat) (x4 : Int32) (x5 : Int32) (x6 : Int32) : Option (Int32 × tw_St) :=
  (tw_gI σ 3 a3 0).bind fun v52 =>
  if v52 ≤ (x6 + 1) then
    fX7_bestExchange_b115 σ x2 x4 x5
  else
    (fX3_mayMove σ a3 x6).bind fun v61 =>
    if v61 = 0 then
      fX7_bestExchange_b109 k47 σ a0 x1 x2 a3 x4 x5 x6
    else
      (fX3_mayMove σ a3 (x6 + 1)).bind fun v72 =>
      if v72 = 0 then
        fX7_bestExchange_b109 k47 σ a0 x1 x2 a3 x4 x5 x6
      else
        (fX7_lengthExchanged σ a0 x1 x6).bind fun q82 =>
        if q82.1 = (-6) then
          fX7_bestExchange_b109 k47 q82.2 a0 x1 x2 a3 x4 x5 x6
        else
          if x5 ≤ q82.1 then
            fX7_bestExchange_b109 k47 q82.2 a0 x1 x2 a3 x4 x5 x6
          else
            fX7_bestExchange_b109 k47 q82.2 a0 x1 x2 a3 x6 q82.1 x6
def fX7_bestExchange_l47 (n : Nat) : tw_St → Nat → Int32 → Int32 → Nat → Int32 → Int32 → Int32 → Option (Int32 × tw_St) := tw_it (fun _ _ _ _ _ _ _ _ => none) (fX7_bestExchange_h47) n
def fX7_bestExchange_b21 (σ : tw_St) (a0 : Nat) (x1 : Int32) (x2 : Int32) : Option (Int32 × tw_St) :=
  (tw_gP σ 7 a0 0).bind fun v22 =>
  (tw_gP σ 6 v22 1).bind fun v25 =>
  (tw_aP σ 25 v25 x1).bind fun v29 =>
  (tw_gP σ 7 a0 1).bind fun v36 =>
  (fX5_length σ v36).bind fun v39 =>
  fX7_bestExchange_l47 tw_F σ a0 x1 x2 v29 (-6) v39 0
def fX7_bestExchange (σ : tw_St) (a : Nat) (x1 : Int32) (x2 : Int32) : Option (Int32 × tw_St) :=
  (tw_is σ 7 a).bind fun _ =>
  (fX7_isThread σ x1).bind fun v1 =>
  if v1 = 0 then
    some ((-1), σ)
  else
    if x2 = 0 then
      fX7_bestExchange_b21 σ a x1 x2
    else
      if x2 = 1 then
        fX7_bestExchange_b21 σ a x1 x2
      else
        some ((-2), σ)
def rmX7_bestExchange : Room := { frames := 6, cells := 0, slots := 0, locals := 139 }
def fX0_takeBack (σ : tw_St) (a : Nat) (r1 : Nat) : Option (tw_St) :=
  (tw_is σ 0 a).bind fun _ =>
  (tw_gI σ 0 a 0).bind fun v1 =>
  if v1 = 0 then
    some σ
  else
    (tw_gI σ 0 a 0).bind fun v10 =>
    (tw_pI σ 0 a 0 (v10 - 1)).bind fun σ15 =>
    (tw_gP σ15 0 a 2).bind fun v20 =>
    (tw_gI σ15 0 a 1).bind fun v24 =>
    (tw_gI σ15 0 a 0).bind fun v28 =>
    (tw_aP σ15 24 v20 ((v24 + v28) - (v24 + v28) / 6 * 6)).bind fun v35 =>
    (fX6_copyFrom σ15 r1 v35).bind fun σ36 =>
    some σ36
def rmX0_takeBack : Room := { frames := 3, cells := 0, slots := 0, locals := 61 }
def fX7_undo (σ : tw_St) (a : Nat) : Option (Int32 × tw_St) :=
  (tw_is σ 7 a).bind fun _ =>
  (tw_gP σ 7 a 6).bind fun v1 =>
  (tw_gI σ 0 v1 0).bind fun v4 =>
  if v4 = 0 then
    some ((-5), σ)
  else
    (tw_gP σ 7 a 6).bind fun v14 =>
    (tw_gP σ 7 a 0).bind fun v18 =>
    (fX0_takeBack σ v14 v18).bind fun σ21 =>
    (tw_gP σ21 7 a 1).bind fun v25 =>
    (fX5_play σ21 v25 (-6)).bind fun σ30 =>
    (tw_gP σ30 7 a 6).bind fun v34 =>
    (tw_gI σ30 0 v34 0).bind fun v37 =>
    some (v37, σ30)
def rmX7_undo : Room := { frames := 6, cells := 0, slots := 0, locals := 138 }
def fX7_save (σ : tw_St) (a : Nat) (x1 : Int32) : Option (Int32 × tw_St) :=
  (tw_is σ 7 a).bind fun _ =>
  if x1 < 0 then
    some ((-2), σ)
  else
    if x1 < 2 then
      (tw_gP σ 7 a 7).bind fun v13 =>
      (tw_aP σ 24 v13 x1).bind fun v17 =>
      (tw_gP σ 7 a 0).bind fun v19 =>
      (fX6_copyFrom σ v17 v19).bind fun σ22 =>
      (tw_gP σ22 7 a 8).bind fun v26 =>
      (tw_bz 1).bind fun _ =>
      (tw_wI σ22 22 v26 x1 1).bind fun σ31 =>
      (tw_gP σ31 7 a 1).bind fun v33 =>
      (fX5_length σ31 v33).bind fun v36 =>
      some (v36, σ31)
    else
      some ((-2), σ)
def rmX7_save : Room := { frames := 3, cells := 0, slots := 0, locals := 61 }
def fX7_restore (σ : tw_St) (a : Nat) (x1 : Int32) : Option (Int32 × tw_St) :=
  (tw_is σ 7 a).bind fun _ =>
  if x1 < 0 then
    some ((-2), σ)
  else
    if x1 < 2 then
      (tw_gP σ 7 a 8).bind fun v13 =>
      (tw_aI σ 22 v13 x1).bind fun v17 =>
      if v17 = 0 then
        some ((-5), σ)
      else
        (tw_gP σ 7 a 6).bind fun v25 =>
        (tw_gP σ 7 a 0).bind fun v29 =>
        (fX0_record σ v25 v29).bind fun σ32 =>
        (tw_gP σ32 7 a 0).bind fun v36 =>
        (tw_gP σ32 7 a 7).bind fun v40 =>
        (tw_aP σ32 24 v40 x1).bind fun v44 =>
        (fX6_copyFrom σ32 v36 v44).bind fun σ45 =>
        (tw_gP σ45 7 a 1).bind fun v49 =>
        (fX5_play σ45 v49 (-6)).bind fun σ54 =>
        (tw_gP σ54 7 a 1).bind fun v58 =>
        (fX5_length σ54 v58).bind fun v61 =>
        some (v61, σ54)
    else
      some ((-2), σ)
def rmX7_restore : Room := { frames := 6, cells := 0, slots := 0, locals := 138 }
def fX8_init (σ : tw_St) (a : Nat) : Option (tw_St) :=
  (tw_is σ 8 a).bind fun _ =>
  (tw_pP (tw_new σ 20 210) 8 a 0 σ.1).bind fun σ10 =>
  (tw_pP (tw_new σ10 20 1260) 8 a 1 σ10.1).bind fun σ19 =>
  (tw_pP (tw_new σ19 20 420) 8 a 3 σ19.1).bind fun σ28 =>
  (tw_pP (tw_new σ28 22 2) 8 a 4 σ28.1).bind fun σ35 =>
  (tw_pP (tw_new σ35 20 80) 8 a 5 σ35.1).bind fun σ43 =>
  (tw_pP (tw_new σ43 20 150) 8 a 7 σ43.1).bind fun σ52 =>
  (tw_pP (tw_new σ52 20 24) 8 a 11 σ52.1).bind fun σ60 =>
  (tw_pP (tw_new σ60 20 8) 8 a 12 σ60.1).bind fun σ68 =>
  (tw_pP (tw_new σ68 20 200) 8 a 13 σ68.1).bind fun σ77 =>
  (tw_pP (tw_new σ77 20 200) 8 a 14 σ77.1).bind fun σ86 =>
  (tw_pP (tw_new σ86 20 200) 8 a 15 σ86.1).bind fun σ95 =>
  (tw_pP (tw_new σ95 20 200) 8 a 16 σ95.1).bind fun σ104 =>
  (tw_pP (tw_new σ104 20 2) 8 a 17 σ104.1).bind fun σ111 =>
  (tw_pP (tw_new σ111 20 2) 8 a 18 σ111.1).bind fun σ118 =>
  (tw_pP (tw_new σ118 20 10) 8 a 19 σ118.1).bind fun σ126 =>
  (tw_pP (tw_new σ126 20 10) 8 a 20 σ126.1).bind fun σ134 =>
  (tw_pP (tw_new σ134 20 2) 8 a 21 σ134.1).bind fun σ141 =>
  (tw_pP (tw_new σ141 20 2) 8 a 22 σ141.1).bind fun σ148 =>
  (tw_pP (tw_new σ148 20 24) 8 a 23 σ148.1).bind fun σ156 =>
  (tw_gP σ156 8 a 0).bind fun v160 =>
  (tw_wI σ156 20 v160 1 3).bind fun σ165 =>
  (tw_gP σ165 8 a 0).bind fun v167 =>
  (tw_wI σ165 20 v167 2 4).bind fun σ172 =>
  some σ172
def rmX8_init : Room := { frames := 1, cells := 19, slots := 3006, locals := 16 }
def fX8_in (σ : tw_St) (x0 : Int32) (x1 : Int32) (x2 : Int32) : Option (Int32) :=
  if x0 < x1 then
    some 0
  else
    if x2 < x0 then
      some 0
    else
      some 1
def rmX8_in : Room := { frames := 0, cells := 0, slots := 0, locals := 0 }
def fX8_record_b81 (σ : tw_St) (a0 : Nat) : Option (tw_St) :=
  (tw_gI σ 8 a0 2).bind fun v83 =>
  (tw_pI σ 8 a0 2 (v83 + 1)).bind fun σ88 =>
  some σ88
def fX8_record_h47 (k47 : (tw_St → Nat → Int32 → Option (tw_St))) (σ : tw_St) (a0 : Nat) (x1 : Int32) : Option (tw_St) :=
  if 210 ≤ x1 then
    fX8_record_b81 σ a0
  else
    (tw_gP σ 8 a0 1).bind fun v55 =>
    (tw_gI σ 8 a0 2).bind fun v59 =>
    (tw_gP σ 8 a0 0).bind fun v69 =>
    (tw_aI σ 20 v69 x1).bind fun v73 =>
    (tw_wI σ 20 v55 ((v59 * 210) + x1) v73).bind fun σ74 =>
    k47 σ74 a0 (x1 + 1)
def fX8_record_l47 (n : Nat) : tw_St → Nat → Int32 → Option (tw_St) := tw_it (fun _ _ _ => none) (fX8_record_h47) n
def fX8_record_b45 (σ : tw_St) (a0 : Nat) : Option (tw_St) :=
  fX8_record_l47 tw_F σ a0 0
def fX8_record_b40 (σ : tw_St) (a0 : Nat) : Option (tw_St) :=
  (tw_pI σ 8 a0 2 5).bind fun σ42 =>
  fX8_record_b45 σ42 a0
def fX8_record_h11 (k11 : (tw_St → Nat → Int32 → Option (tw_St))) (σ : tw_St) (a0 : Nat) (x1 : Int32) : Option (tw_St) :=
  if 1050 ≤ x1 then
    fX8_record_b40 σ a0
  else
    (tw_gP σ 8 a0 1).bind fun v19 =>
    (tw_gP σ 8 a0 1).bind fun v24 =>
    (tw_aI σ 20 v24 (x1 + 210)).bind fun v32 =>
    (tw_wI σ 20 v19 x1 v32).bind fun σ33 =>
    k11 σ33 a0 (x1 + 1)
def fX8_record_l11 (n : Nat) : tw_St → Nat → Int32 → Option (tw_St) := tw_it (fun _ _ _ => none) (fX8_record_h11) n
def fX8_record (σ : tw_St) (a : Nat) : Option (tw_St) :=
  (tw_is σ 8 a).bind fun _ =>
  (tw_gI σ 8 a 2).bind fun v1 =>
  if v1 = 6 then
    fX8_record_l11 tw_F σ a 0
  else
    fX8_record_b45 σ a
def rmX8_record : Room := { frames := 0, cells := 0, slots := 0, locals := 0 }
def fX8_set_b29 (σ : tw_St) (a0 : Nat) (x1 : Int32) (x2 : Int32) (z0 : Int32) (z1 : Int32) (z2 : Int32) : Option (Int32 × tw_St) :=
  (fX8_in σ z2 z1 z0).bind fun v29 =>
  if v29 = 0 then
    some ((-2), σ)
  else
    (fX8_record σ a0).bind fun σ39 =>
    (tw_gP σ39 8 a0 0).bind fun v43 =>
    (tw_aI σ39 20 v43 x1).bind fun v47 =>
    (tw_gP σ39 8 a0 0).bind fun v50 =>
    (tw_wI σ39 20 v50 x1 x2).bind fun σ55 =>
    some (v47, σ55)
def fX8_set_b19 (σ : tw_St) (a0 : Nat) (x1 : Int32) (x2 : Int32) (z0 : Int32) (z1 : Int32) : Option (Int32 × tw_St) :=
  if x1 = 0 then
    fX8_set_b29 σ a0 x1 x2 2 z0 z1
  else
    fX8_set_b29 σ a0 x1 x2 9 z0 z1
def fX8_set (σ : tw_St) (a : Nat) (x1 : Int32) (x2 : Int32) : Option (Int32 × tw_St) :=
  (tw_is σ 8 a).bind fun _ =>
  (fX8_in σ x1 0 2).bind fun v3 =>
  if v3 = 0 then
    some ((-2), σ)
  else
    if x1 = 0 then
      fX8_set_b19 σ a x1 x2 0 x2
    else
      fX8_set_b19 σ a x1 x2 1 x2
def rmX8_set : Room := { frames := 1, cells := 0, slots := 0, locals := 22 }
def fX8_isThread (σ : tw_St) (x0 : Int32) : Option (Int32) :=
  (fX8_in σ x0 0 1).bind fun v3 =>
  (tw_bz v3).bind fun _ =>
  some v3
def rmX8_isThread : Room := { frames := 1, cells := 0, slots := 0, locals := 22 }
def fX8_first (σ : tw_St) (a : Nat) (x1 : Int32) (x2 : Int32) (x3 : Int32) : Option (Int32 × tw_St) :=
  (tw_is σ 8 a).bind fun _ =>
  (fX8_isThread σ x1).bind fun v1 =>
  if v1 = 0 then
    some ((-1), σ)
  else
    (fX8_in σ x2 0 11).bind fun v11 =>
    if v11 = 0 then
      some ((-1), σ)
    else
      (fX8_in σ x3 0 999).bind fun v24 =>
      if v24 = 0 then
        some ((-2), σ)
      else
        (fX8_record σ a).bind fun σ34 =>
        (tw_gP σ34 8 a 0).bind fun v52 =>
        (tw_aI σ34 20 v52 (((10 + (100 * x1)) + 70) + x2)).bind fun v57 =>
        (tw_gP σ34 8 a 0).bind fun v61 =>
        (tw_wI σ34 20 v61 (((10 + (100 * x1)) + 70) + x2) x3).bind fun σ67 =>
        some (v57, σ67)
def rmX8_first : Room := { frames := 2, cells := 0, slots := 0, locals := 42 }
def fX8_sign (σ : tw_St) (a : Nat) : Option (Int32) :=
  (tw_is σ 8 a).bind fun _ =>
  (tw_gI σ 8 a 9).bind fun v1 =>
  (tw_gI σ 8 a 6).bind fun v5 =>
  if v5 ≤ v1 then
    some 0
  else
    (tw_gP σ 8 a 5).bind fun v12 =>
    (tw_gI σ 8 a 9).bind fun v16 =>
    (tw_aI σ 20 v12 v16).bind fun v19 =>
    some v19
def rmX8_sign : Room := { frames := 0, cells := 0, slots := 0, locals := 0 }
def fX8_between_b41 (σ : tw_St) (z0 : Int32) (z1 : Int32) (z2 : Nat) : Option (tw_St) :=
  (tw_pI σ 8 z2 9 (z1 + z0)).bind fun σ42 =>
  some σ42
def fX8_between_b21 (σ : tw_St) (a0 : Nat) (z0 : Int32) (z1 : Nat) : Option (tw_St) :=
  (tw_bz z0).bind fun _ =>
  (tw_pI σ 8 z1 10 z0).bind fun σ21 =>
  (tw_gI σ21 8 a0 9).bind fun v26 =>
  (tw_gI σ21 8 a0 10).bind fun v30 =>
  if v30 = 0 then
    fX8_between_b41 σ21 1 v26 a0
  else
    fX8_between_b41 σ21 0 v26 a0
def fX8_between_b16 (σ : tw_St) (a0 : Nat) (z0 : Nat) : Option (tw_St) :=
  fX8_between_b21 σ a0 1 z0
def fX8_between (σ : tw_St) (a : Nat) (x1 : Int32) : Option (tw_St) :=
  (tw_is σ 8 a).bind fun _ =>
  (tw_gI σ 8 a 10).bind fun v2 =>
  if v2 = 0 then
    (fX8_sign σ a).bind fun v9 =>
    if v9 = x1 then
      fX8_between_b21 σ a 0 a
    else
      fX8_between_b16 σ a a
  else
    fX8_between_b16 σ a a
def rmX8_between : Room := { frames := 1, cells := 0, slots := 0, locals := 20 }
def fX8_register_b50 (σ : tw_St) (x1 : Int32) (z0 : Int32) (z1 : Int32) (z2 : Nat) : Option (Int32 × tw_St) :=
  (tw_pI σ 8 z2 9 (z1 + z0)).bind fun σ51 =>
  some (x1, σ51)
def fX8_register_b30 (σ : tw_St) (a0 : Nat) (x1 : Int32) (z0 : Int32) (z1 : Nat) : Option (Int32 × tw_St) :=
  (tw_bz z0).bind fun _ =>
  (tw_pI σ 8 z1 10 z0).bind fun σ30 =>
  (tw_gI σ30 8 a0 9).bind fun v35 =>
  (tw_gI σ30 8 a0 10).bind fun v39 =>
  if v39 = 0 then
    fX8_register_b50 σ30 x1 1 v35 a0
  else
    fX8_register_b50 σ30 x1 0 v35 a0
def fX8_register_b25 (σ : tw_St) (a0 : Nat) (x1 : Int32) (z0 : Nat) : Option (Int32 × tw_St) :=
  fX8_register_b30 σ a0 x1 1 z0
def fX8_register (σ : tw_St) (a : Nat) : Option (Int32 × tw_St) :=
  (tw_is σ 8 a).bind fun _ =>
  (fX8_sign σ a).bind fun v1 =>
  (tw_gI σ 8 a 10).bind fun v10 =>
  if v10 = 0 then
    (fX8_in σ (v1 - 97) 0 3).bind fun v19 =>
    if v19 = 0 then
      fX8_register_b25 σ a (v1 - 97) a
    else
      fX8_register_b30 σ a (v1 - 97) 0 a
  else
    fX8_register_b25 σ a (v1 - 97) a
def rmX8_register : Room := { frames := 1, cells := 0, slots := 0, locals := 22 }
def fX8_number_h55 (k55 : (tw_St → Nat → Int32 → Option (Int32 × tw_St))) (σ : tw_St) (a0 : Nat) (x1 : Int32) : Option (Int32 × tw_St) :=
  (tw_gI σ 8 a0 10).bind fun v56 =>
  if v56 = 0 then
    if x1 ≤ 0 then
      some (x1, σ)
    else
      (fX8_sign σ a0).bind fun v67 =>
      (fX8_in σ v67 48 57).bind fun v74 =>
      if v74 = 0 then
        some (x1, σ)
      else
        (fX8_sign σ a0).bind fun v85 =>
        if 99 < (((10 * x1) + v85) - 48) then
          some (x1, σ)
        else
          (fX8_sign σ a0).bind fun v102 =>
          (tw_gI σ 8 a0 9).bind fun v112 =>
          (tw_pI σ 8 a0 9 (v112 + 1)).bind fun σ117 =>
          k55 σ117 a0 (((10 * x1) + v102) - 48)
  else
    some (x1, σ)
def fX8_number_l55 (n : Nat) : tw_St → Nat → Int32 → Option (Int32 × tw_St) := tw_it (fun _ _ _ => none) (fX8_number_h55) n
def fX8_number_b51 (σ : tw_St) (a0 : Nat) (x1 : Int32) (z0 : Int32) (z1 : Int32) (z2 : Nat) : Option (Int32 × tw_St) :=
  (tw_pI σ 8 z2 9 (z1 + z0)).bind fun σ52 =>
  fX8_number_l55 tw_F σ52 a0 x1
def fX8_number_b31 (σ : tw_St) (a0 : Nat) (x1 : Int32) (z0 : Int32) (z1 : Nat) : Option (Int32 × tw_St) :=
  (tw_bz z0).bind fun _ =>
  (tw_pI σ 8 z1 10 z0).bind fun σ31 =>
  (tw_gI σ31 8 a0 9).bind fun v36 =>
  (tw_gI σ31 8 a0 10).bind fun v40 =>
  if v40 = 0 then
    fX8_number_b51 σ31 a0 x1 1 v36 a0
  else
    fX8_number_b51 σ31 a0 x1 0 v36 a0
def fX8_number_b26 (σ : tw_St) (a0 : Nat) (x1 : Int32) (z0 : Nat) : Option (Int32 × tw_St) :=
  fX8_number_b31 σ a0 x1 1 z0
def fX8_number (σ : tw_St) (a : Nat) : Option (Int32 × tw_St) :=
  (tw_is σ 8 a).bind fun _ =>
  (fX8_sign σ a).bind fun v1 =>
  (tw_gI σ 8 a 10).bind fun v10 =>
  if v10 = 0 then
    (fX8_in σ (v1 - 48) 0 9).bind fun v20 =>
    if v20 = 0 then
      fX8_number_b26 σ a (v1 - 48) a
    else
      fX8_number_b31 σ a (v1 - 48) 0 a
  else
    fX8_number_b26 σ a (v1 - 48) a
def rmX8_number : Room := { frames := 1, cells := 0, slots := 0, locals := 22 }
def fX8_lay (σ : tw_St) (a : Nat) (x1 : Int32) (x2 : Int32) (x3 : Int32) (x4 : Int32) (x5 : Int32) : Option (tw_St) :=
  (tw_is σ 8 a).bind fun _ =>
  (tw_gI σ 8 a 8).bind fun v2 =>
  (tw_gP σ 8 a 7).bind fun v9 =>
  (tw_wI σ 20 v9 (5 * v2) x1).bind fun σ15 =>
  (tw_gP σ15 8 a 7).bind fun v17 =>
  (tw_wI σ15 20 v17 ((5 * v2) + 1) x2).bind fun σ25 =>
  (tw_gP σ25 8 a 7).bind fun v27 =>
  (tw_wI σ25 20 v27 ((5 * v2) + 2) x3).bind fun σ35 =>
  (tw_gP σ35 8 a 7).bind fun v37 =>
  (tw_wI σ35 20 v37 ((5 * v2) + 3) x4).bind fun σ46 =>
  (tw_gP σ46 8 a 7).bind fun v48 =>
  (tw_wI σ46 20 v48 ((5 * v2) + 4) x5).bind fun σ57 =>
  (tw_gI σ57 8 a 8).bind fun v60 =>
  (tw_pI σ57 8 a 8 (v60 + 1)).bind fun σ65 =>
  some σ65
def rmX8_lay : Room := { frames := 0, cells := 0, slots := 0, locals := 0 }
def fX8_readValue_b172 (σ : tw_St) (a0 : Nat) (x1 : Int32) (x2 : Int32) (x4 : Int32) (z0 : Int32) : Option (tw_St) :=
  (fX8_lay σ a0 x4 x1 x2 z0 (-6)).bind fun σ183 =>
  some σ183
def fX8_readValue_b153 (σ : tw_St) (a0 : Nat) (x1 : Int32) (x2 : Int32) (x4 : Int32) (z0 : Int32) (z1 : Int32) (z2 : Nat) : Option (tw_St) :=
  (tw_pI σ 8 z2 9 (z1 + z0)).bind fun σ154 =>
  (tw_gI σ154 8 a0 10).bind fun v158 =>
  if v158 = 0 then
    (fX8_register σ154 a0).bind fun q169 =>
    fX8_readValue_b172 q169.2 a0 x1 x2 x4 q169.1
  else
    fX8_readValue_b172 σ154 a0 x1 x2 x4 0
def fX8_readValue_b133 (σ : tw_St) (a0 : Nat) (x1 : Int32) (x2 : Int32) (x4 : Int32) (z0 : Int32) (z1 : Nat) : Option (tw_St) :=
  (tw_bz z0).bind fun _ =>
  (tw_pI σ 8 z1 10 z0).bind fun σ133 =>
  (tw_gI σ133 8 a0 9).bind fun v138 =>
  (tw_gI σ133 8 a0 10).bind fun v142 =>
  if v142 = 0 then
    fX8_readValue_b153 σ133 a0 x1 x2 x4 1 v138 a0
  else
    fX8_readValue_b153 σ133 a0 x1 x2 x4 0 v138 a0
def fX8_readValue_b128 (σ : tw_St) (a0 : Nat) (x1 : Int32) (x2 : Int32) (x4 : Int32) (z0 : Nat) : Option (tw_St) :=
  fX8_readValue_b133 σ a0 x1 x2 x4 1 z0
def fX8_readValue_b113 (σ : tw_St) (a0 : Nat) (x1 : Int32) (x2 : Int32) (z0 : Int32) : Option (tw_St) :=
  (tw_gI σ 8 a0 10).bind fun v117 =>
  if v117 = 0 then
    if 0 ≤ z0 then
      fX8_readValue_b133 σ a0 x1 x2 z0 0 a0
    else
      fX8_readValue_b128 σ a0 x1 x2 z0 a0
  else
    fX8_readValue_b128 σ a0 x1 x2 z0 a0
def fX8_readValue (σ : tw_St) (a : Nat) (x1 : Int32) : Option (tw_St) :=
  (tw_is σ 8 a).bind fun _ =>
  (fX8_sign σ a).bind fun v1 =>
  (fX8_in σ v1 48 57).bind fun v8 =>
  if v8 = 0 then
    (fX8_sign σ a).bind fun v30 =>
    if v30 = 91 then
      (tw_gI σ 8 a 9).bind fun v40 =>
      (tw_pI σ 8 a 9 (v40 + 1)).bind fun σ45 =>
      (fX8_register σ45 a).bind fun q49 =>
      (fX8_between q49.2 a 93).bind fun σ56 =>
      (fX8_lay σ56 a 4 x1 q49.1 (-6) (-6)).bind fun σ67 =>
      some σ67
    else
      (fX8_register σ a).bind fun q72 =>
      (fX8_sign q72.2 a).bind fun v77 =>
      if v77 = 43 then
        fX8_readValue_b113 q72.2 a x1 q72.1 1
      else
        if v77 = 45 then
          fX8_readValue_b113 q72.2 a x1 q72.1 2
        else
          if v77 = 42 then
            fX8_readValue_b113 q72.2 a x1 q72.1 3
          else
            fX8_readValue_b113 q72.2 a x1 q72.1 (-6)
  else
    (fX8_number σ a).bind fun q22 =>
    (fX8_lay q22.2 a 0 x1 (-6) (-6) q22.1).bind fun σ25 =>
    some σ25
def rmX8_readValue : Room := { frames := 2, cells := 0, slots := 0, locals := 43 }
def fX8_readOne_b51 (σ : tw_St) (a0 : Nat) (x1 : Int32) (z0 : Int32) : Option (tw_St) :=
  (fX8_lay σ a0 5 x1 z0 (-6) (-6)).bind fun σ60 =>
  some σ60
def fX8_readOne (σ : tw_St) (a : Nat) : Option (tw_St) :=
  (tw_is σ 8 a).bind fun _ =>
  (fX8_sign σ a).bind fun v1 =>
  if v1 = 91 then
    (tw_gI σ 8 a 9).bind fun v11 =>
    (tw_pI σ 8 a 9 (v11 + 1)).bind fun σ16 =>
    (fX8_register σ16 a).bind fun q20 =>
    (fX8_between q20.2 a 93).bind fun σ27 =>
    (fX8_between σ27 a 61).bind fun σ33 =>
    (tw_gI σ33 8 a 10).bind fun v37 =>
    if v37 = 0 then
      (fX8_register σ33 a).bind fun q48 =>
      fX8_readOne_b51 q48.2 a q20.1 q48.1
    else
      fX8_readOne_b51 σ33 a q20.1 0
  else
    (fX8_register σ a).bind fun q65 =>
    (tw_gI q65.2 8 a 10).bind fun v70 =>
    if v70 = 0 then
      (fX8_sign q65.2 a).bind fun v78 =>
      if v78 = 63 then
        (tw_gI q65.2 8 a 9).bind fun v88 =>
        (tw_pI q65.2 8 a 9 (v88 + 1)).bind fun σ93 =>
        (fX8_number σ93 a).bind fun q105 =>
        (fX8_lay q105.2 a 6 q65.1 (-6) (-6) q105.1).bind fun σ108 =>
        some σ108
      else
        (fX8_between q65.2 a 61).bind fun σ115 =>
        (tw_gI σ115 8 a 10).bind fun v119 =>
        if v119 = 0 then
          (fX8_readValue σ115 a q65.1).bind fun σ127 =>
          some σ127
        else
          some σ115
    else
      some q65.2
def rmX8_readOne : Room := { frames := 3, cells := 0, slots := 0, locals := 68 }
def fX8_faultOf_b57 (σ : tw_St) (a0 : Nat) : Option (Int32 × tw_St) :=
  (tw_gI σ 8 a0 10).bind fun v58 =>
  if v58 = 0 then
    some ((-6), σ)
  else
    (tw_gI σ 8 a0 9).bind fun v65 =>
    some (v65, σ)
def fX8_faultOf_h19 (k19 : (tw_St → Nat → Option (Int32 × tw_St))) (σ : tw_St) (a0 : Nat) : Option (Int32 × tw_St) :=
  (tw_gI σ 8 a0 10).bind fun v20 =>
  if v20 = 0 then
    (tw_gI σ 8 a0 9).bind fun v27 =>
    (tw_gI σ 8 a0 6).bind fun v31 =>
    if v31 ≤ v27 then
      fX8_faultOf_b57 σ a0
    else
      (fX8_between σ a0 59).bind fun σ40 =>
      (tw_gI σ40 8 a0 10).bind fun v44 =>
      if v44 = 0 then
        (fX8_readOne σ40 a0).bind fun σ51 =>
        k19 σ51 a0
      else
        k19 σ40 a0
  else
    fX8_faultOf_b57 σ a0
def fX8_faultOf_l19 (n : Nat) : tw_St → Nat → Option (Int32 × tw_St) := tw_it (fun _ _ => none) (fX8_faultOf_h19) n
def fX8_faultOf (σ : tw_St) (a : Nat) : Option (Int32 × tw_St) :=
  (tw_is σ 8 a).bind fun _ =>
  (tw_pI σ 8 a 9 0).bind fun σ2 =>
  (tw_pI σ2 8 a 8 0).bind fun σ7 =>
  (tw_pI σ7 8 a 10 0).bind fun σ12 =>
  (fX8_readOne σ12 a).bind fun σ16 =>
  fX8_faultOf_l19 tw_F σ16 a
def rmX8_faultOf : Room := { frames := 4, cells := 0, slots := 0, locals := 90 }
def fX8_put_b122 (σ : tw_St) (a0 : Nat) (x3 : Int32) : Option (Int32 × tw_St) :=
  (tw_gI σ 8 a0 6).bind fun v124 =>
  (tw_pI σ 8 a0 6 (v124 + x3)).bind fun σ129 =>
  (tw_gI σ129 8 a0 6).bind fun v133 =>
  some (v133, σ129)
def fX8_put_h85 (k85 : (tw_St → Nat → Int32 → Int64 → Int32 → Option (Int32 × tw_St))) (σ : tw_St) (a0 : Nat) (x3 : Int32) (y4 : Int64) (x6 : Int32) : Option (Int32 × tw_St) :=
  if x6 < 0 then
    fX8_put_b122 σ a0 x3
  else
    (tw_gP σ 8 a0 5).bind fun v91 =>
    (tw_gI σ 8 a0 6).bind fun v95 =>
    (tw_wI σ 20 v91 (v95 + x6) ((y4 &&& 255).toInt32)).bind fun σ108 =>
    k85 σ108 a0 x3 ((y4.toUInt64 >>> ((8 : Int32).toInt64.toUInt64 &&& Int64.toUInt64 63)).toInt64) (x6 + (-1))
def fX8_put_l85 (n : Nat) : tw_St → Nat → Int32 → Int64 → Int32 → Option (Int32 × tw_St) := tw_it (fun _ _ _ _ _ => none) (fX8_put_h85) n
def fX8_put_b49 (σ : tw_St) (a0 : Nat) (y1 : Int64) (x3 : Int32) (y4 : Int64) : Option (Int32 × tw_St) :=
  if (lg_cmp y4 0) = 0 then
    if x3 = 0 then
      some ((-2), σ)
    else
      (tw_gI σ 8 a0 6).bind fun v64 =>
      if (v64 + x3) ≤ 80 then
        fX8_put_l85 tw_F σ a0 x3 y1 (x3 - 1)
      else
        some ((-4), σ)
  else
    some ((-2), σ)
def fX8_put_h5 (k5 : (tw_St → Nat → Int64 → Int32 → Int64 → Option (Int32 × tw_St))) (σ : tw_St) (a0 : Nat) (y1 : Int64) (x3 : Int32) (y4 : Int64) : Option (Int32 × tw_St) :=
  if (lg_cmp (y4 &&& 255) 0) = 0 then
    fX8_put_b49 σ a0 y1 x3 y4
  else
    (fX8_in σ ((y4 &&& 255).toInt32) 33 126).bind fun v27 =>
    if v27 = 0 then
      some ((-2), σ)
    else
      k5 σ a0 y1 (x3 + 1) ((y4.toUInt64 >>> ((8 : Int32).toInt64.toUInt64 &&& Int64.toUInt64 63)).toInt64)
def fX8_put_l5 (n : Nat) : tw_St → Nat → Int64 → Int32 → Int64 → Option (Int32 × tw_St) := tw_it (fun _ _ _ _ _ => none) (fX8_put_h5) n
def fX8_put (σ : tw_St) (a : Nat) (y1 : Int64) : Option (Int32 × tw_St) :=
  (tw_is σ 8 a).bind fun _ =>
  fX8_put_l5 tw_F σ a y1 0 y1
def rmX8_put : Room := { frames := 1, cells := 0, slots := 0, locals := 22 }
def fX8_wipe (σ : tw_St) (a : Nat) : Option (Int32 × tw_St) :=
  (tw_is σ 8 a).bind fun _ =>
  (tw_gI σ 8 a 6).bind fun v1 =>
  (tw_pI σ 8 a 6 0).bind fun σ7 =>
  some (v1, σ7)
def rmX8_wipe : Room := { frames := 0, cells := 0, slots := 0, locals := 0 }
def fX8_fault (σ : tw_St) (a : Nat) : Option (Int32 × tw_St) :=
  (tw_is σ 8 a).bind fun _ =>
  (fX8_faultOf σ a).bind fun q1 =>
  some (q1.1, q1.2)
def rmX8_fault : Room := { frames := 5, cells := 0, slots := 0, locals := 110 }
def fX8_program_b93 (σ : tw_St) (a0 : Nat) : Option (Int32 × tw_St) :=
  (tw_pI σ 8 a0 6 0).bind fun σ95 =>
  (tw_gI σ95 8 a0 8).bind fun v99 =>
  some (v99, σ95)
def fX8_program_h55 (k55 : (tw_St → Nat → Int32 → Int32 → Option (Int32 × tw_St))) (σ : tw_St) (a0 : Nat) (x1 : Int32) (x2 : Int32) : Option (Int32 × tw_St) :=
  (tw_gI σ 8 a0 8).bind fun v58 =>
  if (5 * v58) ≤ x2 then
    fX8_program_b93 σ a0
  else
    (tw_gP σ 8 a0 0).bind fun v66 =>
    (tw_gP σ 8 a0 7).bind fun v81 =>
    (tw_aI σ 20 v81 x2).bind fun v85 =>
    (tw_wI σ 20 v66 (((10 + (100 * x1)) + 1) + x2) v85).bind fun σ86 =>
    k55 σ86 a0 x1 (x2 + 1)
def fX8_program_l55 (n : Nat) : tw_St → Nat → Int32 → Int32 → Option (Int32 × tw_St) := tw_it (fun _ _ _ _ => none) (fX8_program_h55) n
def fX8_program (σ : tw_St) (a : Nat) (x1 : Int32) : Option (Int32 × tw_St) :=
  (tw_is σ 8 a).bind fun _ =>
  (fX8_isThread σ x1).bind fun v1 =>
  if v1 = 0 then
    some ((-1), σ)
  else
    (fX8_faultOf σ a).bind fun q10 =>
    if q10.1 = (-6) then
      (tw_gI q10.2 8 a 8).bind fun v22 =>
      if v22 ≤ 12 then
        (fX8_record q10.2 a).bind fun σ34 =>
        (tw_gP σ34 8 a 0).bind fun v38 =>
        (tw_gI σ34 8 a 8).bind fun v49 =>
        (tw_wI σ34 20 v38 (10 + (100 * x1)) v49).bind fun σ52 =>
        fX8_program_l55 tw_F σ52 a x1 0
      else
        some ((-4), q10.2)
    else
      some ((-3), q10.2)
def rmX8_program : Room := { frames := 5, cells := 0, slots := 0, locals := 110 }
def fX8_many (σ : tw_St) (a : Nat) (x1 : Int32) : Option (Int32) :=
  (tw_is σ 8 a).bind fun _ =>
  (tw_gP σ 8 a 0).bind fun v1 =>
  (tw_aI σ 20 v1 (10 + (100 * x1))).bind fun v11 =>
  some v11
def rmX8_many : Room := { frames := 0, cells := 0, slots := 0, locals := 0 }
def fX8_of (σ : tw_St) (a : Nat) (x1 : Int32) (x2 : Int32) (x3 : Int32) : Option (Int32) :=
  (tw_is σ 8 a).bind fun _ =>
  (tw_gP σ 8 a 0).bind fun v1 =>
  (tw_aI σ 20 v1 ((((10 + (100 * x1)) + 1) + (5 * x2)) + x3)).bind fun v19 =>
  some v19
def rmX8_of : Room := { frames := 0, cells := 0, slots := 0, locals := 0 }
def fX8_drop (σ : tw_St) (a : Nat) (x1 : Int32) : Option (Int32 × tw_St) :=
  (tw_is σ 8 a).bind fun _ =>
  (fX8_isThread σ x1).bind fun v1 =>
  if v1 = 0 then
    some ((-1), σ)
  else
    (fX8_record σ a).bind fun σ10 =>
    (fX8_many σ10 a x1).bind fun v15 =>
    (tw_gP σ10 8 a 0).bind fun v20 =>
    (tw_wI σ10 20 v20 (10 + (100 * x1)) 0).bind fun σ31 =>
    some (v15, σ31)
def rmX8_drop : Room := { frames := 2, cells := 0, slots := 0, locals := 42 }
def fX8_isOpen (σ : tw_St) (a : Nat) (x1 : Int32) : Option (Int32) :=
  (tw_is σ 8 a).bind fun _ =>
  (tw_gP σ 8 a 18).bind fun v1 =>
  (tw_aI σ 20 v1 x1).bind fun v5 =>
  (fX8_many σ a x1).bind fun v9 =>
  (fX8_in σ v5 0 (v9 - 1)).bind fun v14 =>
  if v14 = 0 then
    some 0
  else
    (tw_gP σ 8 a 17).bind fun v21 =>
    (tw_aI σ 20 v21 x1).bind fun v25 =>
    if 100 ≤ v25 then
      some 0
    else
      some 1
def rmX8_isOpen : Room := { frames := 1, cells := 0, slots := 0, locals := 22 }
def fX8_roomOf_b19 (σ : tw_St) : Option (Int32) :=
  some 1
def fX8_roomOf (σ : tw_St) (x0 : Int32) : Option (Int32) :=
  if x0 = 3 then
    some 0
  else
    if x0 = 4 then
      fX8_roomOf_b19 σ
    else
      if x0 = 5 then
        fX8_roomOf_b19 σ
      else
        some (-6)
def rmX8_roomOf : Room := { frames := 0, cells := 0, slots := 0, locals := 0 }
def fX8_isReady_b113 (k62 : (tw_St → Nat → Int32 → Int32 → Int32 → Int32 → Option (Int32))) (σ : tw_St) (a0 : Nat) (x1 : Int32) (x2 : Int32) (x5 : Int32) (z0 : Int32) : Option (Int32) :=
  k62 σ a0 x1 x2 z0 (x5 + 1)
def fX8_isReady_b112 (k62 : (tw_St → Nat → Int32 → Int32 → Int32 → Int32 → Option (Int32))) (σ : tw_St) (a0 : Nat) (x1 : Int32) (x2 : Int32) (x5 : Int32) : Option (Int32) :=
  fX8_isReady_b113 k62 σ a0 x1 x2 x5 0
def fX8_isReady_b108 (k62 : (tw_St → Nat → Int32 → Int32 → Int32 → Int32 → Option (Int32))) (σ : tw_St) (a0 : Nat) (x1 : Int32) (x2 : Int32) (x5 : Int32) : Option (Int32) :=
  fX8_isReady_b113 k62 σ a0 x1 x2 x5 1
def fX8_isReady_h62 (k62 : (tw_St → Nat → Int32 → Int32 → Int32 → Int32 → Option (Int32))) (σ : tw_St) (a0 : Nat) (x1 : Int32) (x2 : Int32) (x4 : Int32) (x5 : Int32) : Option (Int32) :=
  if 4 ≤ x5 then
    (tw_bz x4).bind fun _ =>
    some x4
  else
    (tw_gP σ 8 a0 18).bind fun v71 =>
    (tw_aI σ 20 v71 x1).bind fun v75 =>
    (fX8_of σ a0 x1 v75 x5).bind fun v78 =>
    if x4 = 0 then
      fX8_isReady_b112 k62 σ a0 x1 x2 x5
    else
      if v78 < 0 then
        fX8_isReady_b108 k62 σ a0 x1 x2 x5
      else
        (tw_gP σ 8 a0 12).bind fun v94 =>
        (tw_aI σ 20 v94 ((4 * x1) + v78)).bind fun v103 =>
        if x2 < v103 then
          fX8_isReady_b112 k62 σ a0 x1 x2 x5
        else
          fX8_isReady_b108 k62 σ a0 x1 x2 x5
def fX8_isReady_l62 (n : Nat) : tw_St → Nat → Int32 → Int32 → Int32 → Int32 → Option (Int32) := tw_it (fun _ _ _ _ _ _ => none) (fX8_isReady_h62) n
def fX8_isReady_b57 (σ : tw_St) (a0 : Nat) (x1 : Int32) (x2 : Int32) (z0 : Int32) : Option (Int32) :=
  fX8_isReady_l62 tw_F σ a0 x1 x2 z0 1
def fX8_isReady_b52 (σ : tw_St) (a0 : Nat) (x1 : Int32) (x2 : Int32) : Option (Int32) :=
  fX8_isReady_b57 σ a0 x1 x2 1
def fX8_isReady (σ : tw_St) (a : Nat) (x1 : Int32) (x2 : Int32) : Option (Int32) :=
  (tw_is σ 8 a).bind fun _ =>
  (tw_gP σ 8 a 17).bind fun v1 =>
  (tw_aI σ 20 v1 x1).bind fun v5 =>
  if v5 = 0 then
    fX8_isReady_b52 σ a x1 x2
  else
    (tw_gP σ 8 a 14).bind fun v14 =>
    (tw_aI σ 20 v14 (((100 * x1) + v5) - 1)).bind fun v25 =>
    (fX8_of σ a x1 v25 0).bind fun v27 =>
    if v27 = 6 then
      (tw_gP σ 8 a 15).bind fun v36 =>
      (tw_aI σ 20 v36 (((100 * x1) + v5) - 1)).bind fun v47 =>
      if x2 < v47 then
        fX8_isReady_b57 σ a x1 x2 0
      else
        fX8_isReady_b52 σ a x1 x2
    else
      fX8_isReady_b52 σ a x1 x2
def rmX8_isReady : Room := { frames := 1, cells := 0, slots := 0, locals := 23 }
def fX8_whyNot (σ : tw_St) (a : Nat) (x1 : Int32) (x2 : Int32) (x3 : Int32) : Option (Int32) :=
  (tw_is σ 8 a).bind fun _ =>
  (tw_gP σ 8 a 18).bind fun v3 =>
  (tw_aI σ 20 v3 x1).bind fun v7 =>
  (fX8_of σ a x1 v7 0).bind fun v9 =>
  (fX8_roomOf σ v9).bind fun v12 =>
  (fX8_isReady σ a x1 x2).bind fun v20 =>
  if v20 = 0 then
    some 1
  else
    if v12 < 0 then
      some 0
    else
      if v12 = x3 then
        some 0
      else
        (tw_gP σ 8 a 21).bind fun v40 =>
        (tw_aI σ 20 v40 v12).bind fun v45 =>
        if v45 ≤ x2 then
          some 0
        else
          (tw_gP σ 8 a 22).bind fun v51 =>
          (tw_aI σ 20 v51 v12).bind fun v56 =>
          if v56 = x1 then
            some 2
          else
            some 3
def rmX8_whyNot : Room := { frames := 2, cells := 0, slots := 0, locals := 49 }
def fX8_latest (σ : tw_St) (a : Nat) (x1 : Int32) : Option (Int32) :=
  (tw_is σ 8 a).bind fun _ =>
  (tw_gP σ 8 a 17).bind fun v1 =>
  (tw_aI σ 20 v1 x1).bind fun v5 =>
  if v5 = 0 then
    some (-1)
  else
    (tw_gP σ 8 a 13).bind fun v14 =>
    (tw_gP σ 8 a 17).bind fun v22 =>
    (tw_aI σ 20 v22 x1).bind fun v26 =>
    (tw_aI σ 20 v14 (((100 * x1) + v26) - 1)).bind fun v30 =>
    some v30
def rmX8_latest : Room := { frames := 0, cells := 0, slots := 0, locals := 0 }
def fX8_starter_b103 (σ : tw_St) (x2 : Int32) (x4 : Int32) (x5 : Int32) (x6 : Int32) (x7 : Int32) : Option (Int32) :=
  if x6 = 0 then
    if x2 ≤ 0 then
      some (-6)
    else
      if x7 = 0 then
        some (-6)
      else
        some x5
  else
    some x4
def fX8_starter_b63 (σ : tw_St) (a0 : Nat) (x2 : Int32) (x4 : Int32) (x5 : Int32) (x6 : Int32) (z0 : Int32) : Option (Int32) :=
  if x2 = 2 then
    if x6 = 0 then
      fX8_starter_b103 σ x2 x4 x5 x6 z0
    else
      if z0 = 0 then
        fX8_starter_b103 σ x2 x4 x5 x6 z0
      else
        (fX8_latest σ a0 x5).bind fun v83 =>
        (fX8_latest σ a0 x4).bind fun v89 =>
        if v89 ≤ v83 then
          some x4
        else
          some x5
  else
    fX8_starter_b103 σ x2 x4 x5 x6 z0
def fX8_starter_b62 (σ : tw_St) (a0 : Nat) (x2 : Int32) (x4 : Int32) (x5 : Int32) (x6 : Int32) : Option (Int32) :=
  fX8_starter_b63 σ a0 x2 x4 x5 x6 0
def fX8_starter_b36 (σ : tw_St) (a0 : Nat) (x1 : Int32) (x2 : Int32) (x3 : Int32) (x4 : Int32) (x5 : Int32) (z0 : Int32) : Option (Int32) :=
  (fX8_isOpen σ a0 x5).bind fun v41 =>
  if v41 = 0 then
    fX8_starter_b62 σ a0 x2 x4 x5 z0
  else
    (fX8_whyNot σ a0 x5 x1 x3).bind fun v52 =>
    if v52 = 0 then
      fX8_starter_b63 σ a0 x2 x4 x5 z0 1
    else
      fX8_starter_b62 σ a0 x2 x4 x5 z0
def fX8_starter_b35 (σ : tw_St) (a0 : Nat) (x1 : Int32) (x2 : Int32) (x3 : Int32) (x4 : Int32) (x5 : Int32) : Option (Int32) :=
  fX8_starter_b36 σ a0 x1 x2 x3 x4 x5 0
def fX8_starter (σ : tw_St) (a : Nat) (x1 : Int32) (x2 : Int32) (x3 : Int32) : Option (Int32) :=
  (tw_is σ 8 a).bind fun _ =>
  (fX8_isOpen σ a (x1 - x1 / 2 * 2)).bind fun v14 =>
  if v14 = 0 then
    fX8_starter_b35 σ a x1 x2 x3 (x1 - x1 / 2 * 2) (1 - (x1 - x1 / 2 * 2))
  else
    (fX8_whyNot σ a (x1 - x1 / 2 * 2) x1 x3).bind fun v25 =>
    if v25 = 0 then
      fX8_starter_b36 σ a x1 x2 x3 (x1 - x1 / 2 * 2) (1 - (x1 - x1 / 2 * 2)) 1
    else
      fX8_starter_b35 σ a x1 x2 x3 (x1 - x1 / 2 * 2) (1 - (x1 - x1 / 2 * 2))
def rmX8_starter : Room := { frames := 3, cells := 0, slots := 0, locals := 73 }
def fX8_value (σ : tw_St) (a : Nat) (x1 : Int32) (x2 : Int32) : Option (Int32) :=
  (tw_is σ 8 a).bind fun _ =>
  (tw_gP σ 8 a 11).bind fun v1 =>
  (tw_aI σ 20 v1 ((12 * x1) + x2)).bind fun v10 =>
  some v10
def rmX8_value : Room := { frames := 0, cells := 0, slots := 0, locals := 0 }
def fX8_does_b275 (σ : tw_St) (x2 : Int32) : Option (Int32 × tw_St) :=
  some ((x2 + 1), σ)
def fX8_does (σ : tw_St) (a : Nat) (x1 : Int32) (x2 : Int32) : Option (Int32 × tw_St) :=
  (tw_is σ 8 a).bind fun _ =>
  (fX8_of σ a x1 x2 0).bind fun v4 =>
  (fX8_of σ a x1 x2 1).bind fun v12 =>
  (fX8_of σ a x1 x2 2).bind fun v21 =>
  (fX8_of σ a x1 x2 3).bind fun v30 =>
  if v4 = 0 then
    (tw_gP σ 8 a 11).bind fun v85 =>
    (fX8_of σ a x1 x2 4).bind fun v94 =>
    (tw_wI σ 20 v85 ((12 * x1) + v12) v94).bind fun σ97 =>
    fX8_does_b275 σ97 x2
  else
  if v4 = 1 then
    (tw_gP σ 8 a 11).bind fun v102 =>
    (fX8_value σ a x1 v21).bind fun v111 =>
    (fX8_value σ a x1 v30).bind fun v118 =>
    (tw_wI σ 20 v102 ((12 * x1) + v12) ((v111 + v118) - (v111 + v118) / 1000 * 1000)).bind fun σ126 =>
    fX8_does_b275 σ126 x2
  else
  if v4 = 2 then
    (tw_gP σ 8 a 11).bind fun v131 =>
    (fX8_value σ a x1 v21).bind fun v140 =>
    (fX8_value σ a x1 v30).bind fun v147 =>
    (tw_wI σ 20 v131 ((12 * x1) + v12) (((v140 - v147) + 1000) - ((v140 - v147) + 1000) / 1000 * 1000)).bind fun σ159 =>
    fX8_does_b275 σ159 x2
  else
  if v4 = 3 then
    (tw_gP σ 8 a 11).bind fun v164 =>
    (fX8_value σ a x1 v21).bind fun v173 =>
    (fX8_value σ a x1 v30).bind fun v180 =>
    (tw_wI σ 20 v164 ((12 * x1) + v12) ((v173 * v180) - (v173 * v180) / 1000 * 1000)).bind fun σ188 =>
    fX8_does_b275 σ188 x2
  else
  if v4 = 4 then
    (tw_gP σ 8 a 11).bind fun v193 =>
    (fX8_value σ a x1 v21).bind fun v205 =>
    (fX8_value σ a x1 (4 + (v205 - v205 / 8 * 8))).bind fun v212 =>
    (tw_wI σ 20 v193 ((12 * x1) + v12) v212).bind fun σ215 =>
    fX8_does_b275 σ215 x2
  else
  if v4 = 5 then
    (tw_gP σ 8 a 11).bind fun v220 =>
    (fX8_value σ a x1 v12).bind fun v233 =>
    (fX8_value σ a x1 v21).bind fun v244 =>
    (tw_wI σ 20 v220 (((12 * x1) + 4) + (v233 - v233 / 8 * 8)) v244).bind fun σ247 =>
    fX8_does_b275 σ247 x2
  else
    (fX8_value σ a x1 v12).bind fun v255 =>
    if v255 = 0 then
      some ((x2 + 1), σ)
    else
      (fX8_of σ a x1 x2 4).bind fun v265 =>
      some (v265, σ)
def rmX8_does : Room := { frames := 1, cells := 0, slots := 0, locals := 23 }
def fX8_begin_b224 (σ : tw_St) (a0 : Nat) (x1 : Int32) (x4 : Int32) : Option (tw_St) :=
  (tw_gP σ 8 a0 18).bind fun v225 =>
  (fX8_does σ a0 x1 x4).bind fun q233 =>
  (tw_wI q233.2 20 v225 x1 q233.1).bind fun σ236 =>
  (tw_gP σ236 8 a0 17).bind fun v238 =>
  (tw_aI σ236 20 v238 x1).bind fun v243 =>
  (tw_wI σ236 20 v238 x1 (v243 + 1)).bind fun σ246 =>
  some σ246
def fX8_begin_b200 (σ : tw_St) (a0 : Nat) (x1 : Int32) (x2 : Int32) (x4 : Int32) (x6 : Int32) (x7 : Int32) : Option (tw_St) :=
  if x6 < 0 then
    fX8_begin_b224 σ a0 x1 x4
  else
    (tw_gP σ 8 a0 21).bind fun v206 =>
    (tw_wI σ 20 v206 x6 (x2 + x7)).bind fun σ215 =>
    (tw_gP σ215 8 a0 22).bind fun v217 =>
    (tw_wI σ215 20 v217 x6 x1).bind fun σ223 =>
    fX8_begin_b224 σ223 a0 x1 x4
def fX8_begin_b173 (σ : tw_St) (a0 : Nat) (x1 : Int32) (x2 : Int32) (x4 : Int32) (x5 : Int32) (x6 : Int32) (x7 : Int32) : Option (tw_St) :=
  if 5 ≤ x5 then
    fX8_begin_b200 σ a0 x1 x2 x4 x6 x7
  else
    (tw_gP σ 8 a0 12).bind fun v180 =>
    (fX8_of σ a0 x1 x4 1).bind fun v191 =>
    (tw_wI σ 20 v180 ((4 * x1) + v191) (x2 + x7)).bind fun σ199 =>
    fX8_begin_b200 σ199 a0 x1 x2 x4 x6 x7
def fX8_begin_h104 (k104 : (tw_St → Nat → Int32 → Int32 → Int32 → Int32 → Int32 → Int32 → Int32 → Int32 → Option (tw_St))) (σ : tw_St) (a0 : Nat) (x1 : Int32) (x2 : Int32) (x3 : Int32) (x4 : Int32) (x5 : Int32) (x6 : Int32) (x7 : Int32) (x8 : Int32) : Option (tw_St) :=
  if 5 ≤ x8 then
    fX8_begin_b173 σ a0 x1 x2 x4 x5 x6 x7
  else
    (tw_gP σ 8 a0 19).bind fun v111 =>
    (tw_aI σ 20 v111 ((5 * x1) + x8)).bind fun v121 =>
    (tw_gP σ 8 a0 20).bind fun v123 =>
    (tw_aI σ 20 v123 ((5 * x1) + x8)).bind fun v132 =>
    (tw_wI σ 20 v111 ((5 * x1) + x8) (v121 + v132)).bind fun σ134 =>
    (tw_gP σ134 8 a0 16).bind fun v136 =>
    (tw_aI σ134 20 v136 x3).bind fun v141 =>
    (tw_gP σ134 8 a0 20).bind fun v143 =>
    (tw_aI σ134 20 v143 ((5 * x1) + x8)).bind fun v152 =>
    (tw_wI σ134 20 v136 x3 (v141 + v152)).bind fun σ154 =>
    (tw_gP σ154 8 a0 20).bind fun v156 =>
    (tw_wI σ154 20 v156 ((5 * x1) + x8) 0).bind fun σ166 =>
    k104 σ166 a0 x1 x2 x3 x4 x5 x6 x7 (x8 + 1)
def fX8_begin_l104 (n : Nat) : tw_St → Nat → Int32 → Int32 → Int32 → Int32 → Int32 → Int32 → Int32 → Int32 → Option (tw_St) := tw_it (fun _ _ _ _ _ _ _ _ _ _ => none) (fX8_begin_h104) n
def fX8_begin_b67 (σ : tw_St) (a0 : Nat) (x1 : Int32) (x2 : Int32) (x3 : Int32) (x4 : Int32) (x5 : Int32) (x6 : Int32) (z0 : Int32) : Option (tw_St) :=
  (tw_gP σ 8 a0 13).bind fun v70 =>
  (tw_wI σ 20 v70 x3 x2).bind fun σ75 =>
  (tw_gP σ75 8 a0 14).bind fun v77 =>
  (tw_wI σ75 20 v77 x3 x4).bind fun σ83 =>
  (tw_gP σ83 8 a0 15).bind fun v85 =>
  (tw_wI σ83 20 v85 x3 (x2 + z0)).bind fun σ93 =>
  (tw_gP σ93 8 a0 16).bind fun v95 =>
  (tw_wI σ93 20 v95 x3 0).bind fun σ100 =>
  fX8_begin_l104 tw_F σ100 a0 x1 x2 x3 x4 x5 x6 z0 1
def fX8_begin (σ : tw_St) (a : Nat) (x1 : Int32) (x2 : Int32) : Option (tw_St) :=
  (tw_is σ 8 a).bind fun _ =>
  (tw_gP σ 8 a 17).bind fun v5 =>
  (tw_aI σ 20 v5 x1).bind fun v9 =>
  (tw_gP σ 8 a 18).bind fun v13 =>
  (tw_aI σ 20 v13 x1).bind fun v17 =>
  (fX8_of σ a x1 v17 0).bind fun v25 =>
  (fX8_roomOf σ v25).bind fun v32 =>
  if v32 = 0 then
    (tw_gP σ 8 a 0).bind fun v43 =>
    (tw_aI σ 20 v43 1).bind fun v47 =>
    fX8_begin_b67 σ a x1 x2 ((100 * x1) + v9) v17 v25 v32 v47
  else
    if v32 = 1 then
      (tw_gP σ 8 a 0).bind fun v58 =>
      (tw_aI σ 20 v58 2).bind fun v62 =>
      fX8_begin_b67 σ a x1 x2 ((100 * x1) + v9) v17 v25 v32 v62
    else
      fX8_begin_b67 σ a x1 x2 ((100 * x1) + v9) v17 v25 v32 1
def rmX8_begin : Room := { frames := 2, cells := 0, slots := 0, locals := 50 }
def fX8_lengthOf_b44 (k4 : (tw_St → Nat → Int32 → Int32 → Int32 → Option (Int32))) (σ : tw_St) (a0 : Nat) (x1 : Int32) (x3 : Int32) (z0 : Int32) : Option (Int32) :=
  k4 σ a0 x1 z0 (x3 + 1)
def fX8_lengthOf_h4 (k4 : (tw_St → Nat → Int32 → Int32 → Int32 → Option (Int32))) (σ : tw_St) (a0 : Nat) (x1 : Int32) (x2 : Int32) (x3 : Int32) : Option (Int32) :=
  (tw_gP σ 8 a0 17).bind fun v6 =>
  (tw_aI σ 20 v6 x1).bind fun v10 =>
  if v10 ≤ x3 then
    some x2
  else
    (tw_gP σ 8 a0 15).bind fun v15 =>
    (tw_aI σ 20 v15 ((100 * x1) + x3)).bind fun v24 =>
    if v24 ≤ x2 then
      fX8_lengthOf_b44 k4 σ a0 x1 x3 x2
    else
      (tw_gP σ 8 a0 15).bind fun v30 =>
      (tw_aI σ 20 v30 ((100 * x1) + x3)).bind fun v39 =>
      fX8_lengthOf_b44 k4 σ a0 x1 x3 v39
def fX8_lengthOf_l4 (n : Nat) : tw_St → Nat → Int32 → Int32 → Int32 → Option (Int32) := tw_it (fun _ _ _ _ _ => none) (fX8_lengthOf_h4) n
def fX8_lengthOf (σ : tw_St) (a : Nat) (x1 : Int32) : Option (Int32) :=
  (tw_is σ 8 a).bind fun _ =>
  fX8_lengthOf_l4 tw_F σ a x1 0 0
def rmX8_lengthOf : Room := { frames := 0, cells := 0, slots := 0, locals := 0 }
def fX8_goThrough_b289 (k183 : (tw_St → Nat → Int32 → Int32 → Int32 → Option (Int32 × tw_St))) (σ : tw_St) (a0 : Nat) (x1 : Int32) (x2 : Int32) (x4 : Int32) : Option (Int32 × tw_St) :=
  k183 σ a0 x1 x2 (x4 + 1)
def fX8_goThrough_b276 (k183 : (tw_St → Nat → Int32 → Int32 → Int32 → Option (Int32 × tw_St))) (σ : tw_St) (a0 : Nat) (x1 : Int32) (x2 : Int32) (x4 : Int32) (x5 : Int32) : Option (Int32 × tw_St) :=
  if x5 < 0 then
    fX8_goThrough_b289 k183 σ a0 x1 x2 x4
  else
    (fX8_begin σ a0 x5 x4).bind fun σ286 =>
    fX8_goThrough_b289 k183 σ286 a0 x1 x2 x4
def fX8_goThrough_b270 (k183 : (tw_St → Nat → Int32 → Int32 → Int32 → Option (Int32 × tw_St))) (k212 : (tw_St → Nat → Int32 → Int32 → Int32 → Int32 → Int32 → Option (Int32 × tw_St))) (σ : tw_St) (a0 : Nat) (x1 : Int32) (x2 : Int32) (x4 : Int32) (x5 : Int32) (x6 : Int32) : Option (Int32 × tw_St) :=
  k212 σ a0 x1 x2 x4 x5 (x6 + 1)
def fX8_goThrough_b264 (k183 : (tw_St → Nat → Int32 → Int32 → Int32 → Option (Int32 × tw_St))) (k212 : (tw_St → Nat → Int32 → Int32 → Int32 → Int32 → Int32 → Option (Int32 × tw_St))) (σ : tw_St) (a0 : Nat) (x1 : Int32) (x2 : Int32) (x4 : Int32) (x5 : Int32) (x6 : Int32) (z0 : Int32) (z1 : Int32) (z2 : Nat) : Option (Int32 × tw_St) :=
  (tw_aI σ 20 z2 (z1 + z0)).bind fun v266 =>
  (tw_wI σ 20 z2 (z1 + z0) (v266 + 1)).bind fun σ269 =>
  fX8_goThrough_b270 k183 k212 σ269 a0 x1 x2 x4 x5 x6
def fX8_goThrough_h212 (k183 : (tw_St → Nat → Int32 → Int32 → Int32 → Option (Int32 × tw_St))) (k212 : (tw_St → Nat → Int32 → Int32 → Int32 → Int32 → Int32 → Option (Int32 × tw_St))) (σ : tw_St) (a0 : Nat) (x1 : Int32) (x2 : Int32) (x4 : Int32) (x5 : Int32) (x6 : Int32) : Option (Int32 × tw_St) :=
  if 2 ≤ x6 then
    fX8_goThrough_b276 k183 σ a0 x1 x2 x4 x5
  else
    if x6 = x5 then
      fX8_goThrough_b270 k183 k212 σ a0 x1 x2 x4 x5 x6
    else
      (fX8_isOpen σ a0 x6).bind fun v228 =>
      if v228 = 0 then
        fX8_goThrough_b270 k183 k212 σ a0 x1 x2 x4 x5 x6
      else
        (fX8_whyNot σ a0 x6 x4 x2).bind fun v240 =>
        (tw_gP σ 8 a0 20).bind fun v246 =>
        if v240 = 0 then
          fX8_goThrough_b264 k183 k212 σ a0 x1 x2 x4 x5 x6 4 (5 * x6) v246
        else
          fX8_goThrough_b264 k183 k212 σ a0 x1 x2 x4 x5 x6 v240 (5 * x6) v246
def fX8_goThrough_l212 (k183 : (tw_St → Nat → Int32 → Int32 → Int32 → Option (Int32 × tw_St))) (n : Nat) : tw_St → Nat → Int32 → Int32 → Int32 → Int32 → Int32 → Option (Int32 × tw_St) := tw_it (fun _ _ _ _ _ _ _ => none) (fX8_goThrough_h212 k183) n
def fX8_goThrough_b199 (k183 : (tw_St → Nat → Int32 → Int32 → Int32 → Option (Int32 × tw_St))) (σ : tw_St) (a0 : Nat) (x1 : Int32) (x2 : Int32) (x4 : Int32) : Option (Int32 × tw_St) :=
  (fX8_starter σ a0 x4 x1 x2).bind fun v204 =>
  fX8_goThrough_l212 k183 tw_F σ a0 x1 x2 x4 v204 0
def fX8_goThrough_b295 (σ : tw_St) (a0 : Nat) : Option (Int32 × tw_St) :=
  (fX8_lengthOf σ a0 0).bind fun v297 =>
  (fX8_lengthOf σ a0 1).bind fun v302 =>
  if v297 ≤ v302 then
    (fX8_lengthOf σ a0 1).bind fun v318 =>
    some (v318, σ)
  else
    (fX8_lengthOf σ a0 0).bind fun v310 =>
    some (v310, σ)
def fX8_goThrough_h183 (k183 : (tw_St → Nat → Int32 → Int32 → Int32 → Option (Int32 × tw_St))) (σ : tw_St) (a0 : Nat) (x1 : Int32) (x2 : Int32) (x4 : Int32) : Option (Int32 × tw_St) :=
  (fX8_isOpen σ a0 0).bind fun v185 =>
  if v185 = 0 then
    (fX8_isOpen σ a0 1).bind fun v193 =>
    if v193 = 0 then
      fX8_goThrough_b295 σ a0
    else
      fX8_goThrough_b199 k183 σ a0 x1 x2 x4
  else
    fX8_goThrough_b199 k183 σ a0 x1 x2 x4
def fX8_goThrough_l183 (n : Nat) : tw_St → Nat → Int32 → Int32 → Int32 → Option (Int32 × tw_St) := tw_it (fun _ _ _ _ _ => none) (fX8_goThrough_h183) n
def fX8_goThrough_b180 (σ : tw_St) (a0 : Nat) (x1 : Int32) (x2 : Int32) : Option (Int32 × tw_St) :=
  fX8_goThrough_l183 tw_F σ a0 x1 x2 0
def fX8_goThrough_b174 (k3 : (tw_St → Nat → Int32 → Int32 → Int32 → Int32 → Option (Int32 × tw_St))) (σ : tw_St) (a0 : Nat) (x1 : Int32) (x2 : Int32) (x3 : Int32) (x4 : Int32) : Option (Int32 × tw_St) :=
  k3 σ a0 x1 x2 x3 (x4 + 1)
def fX8_goThrough_h136 (k3 : (tw_St → Nat → Int32 → Int32 → Int32 → Int32 → Option (Int32 × tw_St))) (k136 : (tw_St → Nat → Int32 → Int32 → Int32 → Int32 → Int32 → Option (Int32 × tw_St))) (σ : tw_St) (a0 : Nat) (x1 : Int32) (x2 : Int32) (x3 : Int32) (x4 : Int32) (x5 : Int32) : Option (Int32 × tw_St) :=
  if 5 ≤ x5 then
    fX8_goThrough_b174 k3 σ a0 x1 x2 x3 x4
  else
    (tw_gP σ 8 a0 19).bind fun v143 =>
    (tw_wI σ 20 v143 ((5 * x4) + x5) 0).bind fun σ154 =>
    (tw_gP σ154 8 a0 20).bind fun v156 =>
    (tw_wI σ154 20 v156 ((5 * x4) + x5) 0).bind fun σ167 =>
    k136 σ167 a0 x1 x2 x3 x4 (x5 + 1)
def fX8_goThrough_l136 (k3 : (tw_St → Nat → Int32 → Int32 → Int32 → Int32 → Option (Int32 × tw_St))) (n : Nat) : tw_St → Nat → Int32 → Int32 → Int32 → Int32 → Int32 → Option (Int32 × tw_St) := tw_it (fun _ _ _ _ _ _ _ => none) (fX8_goThrough_h136 k3) n
def fX8_goThrough_b133 (k3 : (tw_St → Nat → Int32 → Int32 → Int32 → Int32 → Option (Int32 × tw_St))) (σ : tw_St) (a0 : Nat) (x1 : Int32) (x2 : Int32) (x3 : Int32) (x4 : Int32) : Option (Int32 × tw_St) :=
  fX8_goThrough_l136 k3 tw_F σ a0 x1 x2 x3 x4 0
def fX8_goThrough_h108 (k3 : (tw_St → Nat → Int32 → Int32 → Int32 → Int32 → Option (Int32 × tw_St))) (k108 : (tw_St → Nat → Int32 → Int32 → Int32 → Int32 → Int32 → Option (Int32 × tw_St))) (σ : tw_St) (a0 : Nat) (x1 : Int32) (x2 : Int32) (x3 : Int32) (x4 : Int32) (x5 : Int32) : Option (Int32 × tw_St) :=
  if 4 ≤ x5 then
    fX8_goThrough_b133 k3 σ a0 x1 x2 x3 x4
  else
    (tw_gP σ 8 a0 12).bind fun v115 =>
    (tw_wI σ 20 v115 ((4 * x4) + x5) 0).bind fun σ126 =>
    k108 σ126 a0 x1 x2 x3 x4 (x5 + 1)
def fX8_goThrough_l108 (k3 : (tw_St → Nat → Int32 → Int32 → Int32 → Int32 → Option (Int32 × tw_St))) (n : Nat) : tw_St → Nat → Int32 → Int32 → Int32 → Int32 → Int32 → Option (Int32 × tw_St) := tw_it (fun _ _ _ _ _ _ _ => none) (fX8_goThrough_h108 k3) n
def fX8_goThrough_b105 (k3 : (tw_St → Nat → Int32 → Int32 → Int32 → Int32 → Option (Int32 × tw_St))) (σ : tw_St) (a0 : Nat) (x1 : Int32) (x2 : Int32) (x3 : Int32) (x4 : Int32) : Option (Int32 × tw_St) :=
  fX8_goThrough_l108 k3 tw_F σ a0 x1 x2 x3 x4 0
def fX8_goThrough_h60 (k3 : (tw_St → Nat → Int32 → Int32 → Int32 → Int32 → Option (Int32 × tw_St))) (k60 : (tw_St → Nat → Int32 → Int32 → Int32 → Int32 → Int32 → Option (Int32 × tw_St))) (σ : tw_St) (a0 : Nat) (x1 : Int32) (x2 : Int32) (x3 : Int32) (x4 : Int32) (x5 : Int32) : Option (Int32 × tw_St) :=
  if 12 ≤ x5 then
    fX8_goThrough_b105 k3 σ a0 x1 x2 x3 x4
  else
    (tw_gP σ 8 a0 11).bind fun v68 =>
    (tw_gP σ 8 a0 0).bind fun v80 =>
    (tw_aI σ 20 v80 (((10 + (100 * x4)) + 70) + x5)).bind fun v97 =>
    (tw_wI σ 20 v68 ((12 * x4) + x5) v97).bind fun σ98 =>
    k60 σ98 a0 x1 x2 x3 x4 (x5 + 1)
def fX8_goThrough_l60 (k3 : (tw_St → Nat → Int32 → Int32 → Int32 → Int32 → Option (Int32 × tw_St))) (n : Nat) : tw_St → Nat → Int32 → Int32 → Int32 → Int32 → Int32 → Option (Int32 × tw_St) := tw_it (fun _ _ _ _ _ _ _ => none) (fX8_goThrough_h60 k3) n
def fX8_goThrough_b39 (k3 : (tw_St → Nat → Int32 → Int32 → Int32 → Int32 → Option (Int32 × tw_St))) (σ : tw_St) (a0 : Nat) (x1 : Int32) (x2 : Int32) (x3 : Int32) (x4 : Int32) (z0 : Int32) (z1 : Int32) (z2 : Nat) : Option (Int32 × tw_St) :=
  (tw_wI σ 20 z2 z1 z0).bind fun σ39 =>
  (tw_gP σ39 8 a0 21).bind fun v41 =>
  (tw_wI σ39 20 v41 x4 0).bind fun σ47 =>
  (tw_gP σ47 8 a0 22).bind fun v49 =>
  (tw_wI σ47 20 v49 x4 (-6)).bind fun σ56 =>
  fX8_goThrough_l60 k3 tw_F σ56 a0 x1 x2 x3 x4 0
def fX8_goThrough_b33 (k3 : (tw_St → Nat → Int32 → Int32 → Int32 → Int32 → Option (Int32 × tw_St))) (σ : tw_St) (a0 : Nat) (x1 : Int32) (x2 : Int32) (x3 : Int32) (x4 : Int32) (z0 : Int32) (z1 : Nat) : Option (Int32 × tw_St) :=
  fX8_goThrough_b39 k3 σ a0 x1 x2 x3 x4 0 z0 z1
def fX8_goThrough_h3 (k3 : (tw_St → Nat → Int32 → Int32 → Int32 → Int32 → Option (Int32 × tw_St))) (σ : tw_St) (a0 : Nat) (x1 : Int32) (x2 : Int32) (x3 : Int32) (x4 : Int32) : Option (Int32 × tw_St) :=
  if 2 ≤ x4 then
    fX8_goThrough_b180 σ a0 x1 x2
  else
    (tw_gP σ 8 a0 17).bind fun v10 =>
    (tw_wI σ 20 v10 x4 0).bind fun σ16 =>
    (tw_gP σ16 8 a0 18).bind fun v18 =>
    if x3 < 0 then
      fX8_goThrough_b33 k3 σ16 a0 x1 x2 x3 x4 x4 v18
    else
      if x3 = x4 then
        fX8_goThrough_b33 k3 σ16 a0 x1 x2 x3 x4 x4 v18
      else
        fX8_goThrough_b39 k3 σ16 a0 x1 x2 x3 x4 (-6) x4 v18
def fX8_goThrough_l3 (n : Nat) : tw_St → Nat → Int32 → Int32 → Int32 → Int32 → Option (Int32 × tw_St) := tw_it (fun _ _ _ _ _ _ => none) (fX8_goThrough_h3) n
def fX8_goThrough (σ : tw_St) (a : Nat) (x1 : Int32) (x2 : Int32) (x3 : Int32) : Option (Int32 × tw_St) :=
  (tw_is σ 8 a).bind fun _ =>
  fX8_goThrough_l3 tw_F σ a x1 x2 x3 0
def rmX8_goThrough : Room := { frames := 4, cells := 0, slots := 0, locals := 100 }
def fX8_run (σ : tw_St) (a : Nat) : Option (Int32 × tw_St) :=
  (tw_is σ 8 a).bind fun _ =>
  (tw_gP σ 8 a 0).bind fun v2 =>
  (tw_aI σ 20 v2 0).bind fun v6 =>
  (fX8_goThrough σ a v6 (-6) (-6)).bind fun q11 =>
  some (q11.1, q11.2)
def rmX8_run : Room := { frames := 5, cells := 0, slots := 0, locals := 127 }
def fX8_exchange_b51 (σ : tw_St) (a0 : Nat) : Option (Int32 × tw_St) :=
  (fX8_run σ a0).bind fun q52 =>
  some (q52.1, q52.2)
def fX8_exchange_h7 (k7 : (tw_St → Nat → Int32 → Option (Int32 × tw_St))) (σ : tw_St) (a0 : Nat) (x1 : Int32) : Option (Int32 × tw_St) :=
  if 110 ≤ x1 then
    fX8_exchange_b51 σ a0
  else
    (tw_gP σ 8 a0 0).bind fun v14 =>
    (tw_aI σ 20 v14 x1).bind fun v18 =>
    (tw_gP σ 8 a0 0).bind fun v21 =>
    (tw_gP σ 8 a0 0).bind fun v26 =>
    (tw_aI σ 20 v26 (x1 + 100)).bind fun v33 =>
    (tw_wI σ 20 v21 x1 v33).bind fun σ34 =>
    (tw_gP σ34 8 a0 0).bind fun v36 =>
    (tw_wI σ34 20 v36 (x1 + 100) v18).bind fun σ44 =>
    k7 σ44 a0 (x1 + 1)
def fX8_exchange_l7 (n : Nat) : tw_St → Nat → Int32 → Option (Int32 × tw_St) := tw_it (fun _ _ _ => none) (fX8_exchange_h7) n
def fX8_exchange (σ : tw_St) (a : Nat) : Option (Int32 × tw_St) :=
  (tw_is σ 8 a).bind fun _ =>
  (fX8_record σ a).bind fun σ1 =>
  fX8_exchange_l7 tw_F σ1 a 10
def rmX8_exchange : Room := { frames := 6, cells := 0, slots := 0, locals := 147 }
def fX8_ofOrder (σ : tw_St) (a : Nat) (x1 : Int32) (x2 : Int32) (x3 : Int32) : Option (Int32) :=
  (tw_is σ 8 a).bind fun _ =>
  (fX8_isThread σ x1).bind fun v1 =>
  if v1 = 0 then
    some (-1)
  else
    (fX8_many σ a x1).bind fun v11 =>
    (fX8_in σ x2 0 (v11 - 1)).bind fun v16 =>
    if v16 = 0 then
      some (-1)
    else
      (fX8_in σ x3 0 4).bind fun v27 =>
      if v27 = 0 then
        some (-2)
      else
        (fX8_of σ a x1 x2 x3).bind fun v37 =>
        some v37
def rmX8_ofOrder : Room := { frames := 2, cells := 0, slots := 0, locals := 42 }
def fX8_stepsOf_b47 (k5 : (tw_St → Nat → Int32 → Int32 → Int32 → Int32 → Option (Int32))) (σ : tw_St) (a0 : Nat) (x1 : Int32) (x2 : Int32) (x4 : Int32) (z0 : Int32) (z1 : Int32) : Option (Int32) :=
  k5 σ a0 x1 x2 (z1 + z0) (x4 + 1)
def fX8_stepsOf_h5 (k5 : (tw_St → Nat → Int32 → Int32 → Int32 → Int32 → Option (Int32))) (σ : tw_St) (a0 : Nat) (x1 : Int32) (x2 : Int32) (x3 : Int32) (x4 : Int32) : Option (Int32) :=
  (tw_gP σ 8 a0 17).bind fun v8 =>
  (tw_aI σ 20 v8 x1).bind fun v12 =>
  if v12 ≤ x4 then
    some x3
  else
    (tw_gP σ 8 a0 14).bind fun v20 =>
    (tw_aI σ 20 v20 ((100 * x1) + x4)).bind fun v30 =>
    (fX8_of σ a0 x1 v30 0).bind fun v32 =>
    (fX8_roomOf σ v32).bind fun v35 =>
    if v35 = x2 then
      fX8_stepsOf_b47 k5 σ a0 x1 x2 x4 1 x3
    else
      fX8_stepsOf_b47 k5 σ a0 x1 x2 x4 0 x3
def fX8_stepsOf_l5 (n : Nat) : tw_St → Nat → Int32 → Int32 → Int32 → Int32 → Option (Int32) := tw_it (fun _ _ _ _ _ _ => none) (fX8_stepsOf_h5) n
def fX8_stepsOf (σ : tw_St) (a : Nat) (x1 : Int32) (x2 : Int32) : Option (Int32) :=
  (tw_is σ 8 a).bind fun _ =>
  fX8_stepsOf_l5 tw_F σ a x1 x2 0 0
def rmX8_stepsOf : Room := { frames := 1, cells := 0, slots := 0, locals := 23 }
def fX8_ofThread_b158 (σ : tw_St) (a0 : Nat) (x1 : Int32) (x2 : Int32) : Option (Int32 × tw_St) :=
  (fX8_in σ x2 4 7).bind fun v162 =>
  if v162 = 0 then
    some ((-2), σ)
  else
    (tw_gP σ 8 a0 19).bind fun v169 =>
    (tw_aI σ 20 v169 (((5 * x1) + x2) - 3)).bind fun v179 =>
    some (v179, σ)
def fX8_ofThread (σ : tw_St) (a : Nat) (x1 : Int32) (x2 : Int32) : Option (Int32 × tw_St) :=
  (tw_is σ 8 a).bind fun _ =>
  (fX8_isThread σ x1).bind fun v1 =>
  if v1 = 0 then
    some ((-1), σ)
  else
    (fX8_run σ a).bind fun q10 =>
    if x2 = 0 then
      (fX8_many q10.2 a x1).bind fun v74 =>
      some (v74, q10.2)
    else
    if x2 = 1 then
      (tw_gP q10.2 8 a 17).bind fun v79 =>
      (tw_aI q10.2 20 v79 x1).bind fun v83 =>
      some (v83, q10.2)
    else
    if x2 = 2 then
      (fX8_lengthOf q10.2 a x1).bind fun v87 =>
      some (v87, q10.2)
    else
    if x2 = 3 then
      (tw_gP q10.2 8 a 17).bind fun v92 =>
      (tw_aI q10.2 20 v92 x1).bind fun v96 =>
      if v96 = 100 then
        (tw_gP q10.2 8 a 18).bind fun v103 =>
        (tw_aI q10.2 20 v103 x1).bind fun v107 =>
        (fX8_many q10.2 a x1).bind fun v111 =>
        (fX8_in q10.2 v107 0 (v111 - 1)).bind fun v116 =>
        if v116 = 0 then
          some (0, q10.2)
        else
          some (1, q10.2)
      else
        some (0, q10.2)
    else
    if x2 = 8 then
      (tw_gP q10.2 8 a 17).bind fun v129 =>
      (tw_aI q10.2 20 v129 x1).bind fun v133 =>
      if v133 = 0 then
        some ((-6), q10.2)
      else
        (fX8_latest q10.2 a x1).bind fun v144 =>
        some (v144, q10.2)
    else
    if x2 = 9 then
      (fX8_stepsOf q10.2 a x1 (x2 - 9)).bind fun v154 =>
      some (v154, q10.2)
    else
    if x2 = 10 then
      (fX8_stepsOf q10.2 a x1 (x2 - 9)).bind fun v154 =>
      some (v154, q10.2)
    else
      fX8_ofThread_b158 q10.2 a x1 x2
def rmX8_ofThread : Room := { frames := 6, cells := 0, slots := 0, locals := 147 }
def fX8_last (σ : tw_St) (a : Nat) (x1 : Int32) (x2 : Int32) : Option (Int32 × tw_St) :=
  (tw_is σ 8 a).bind fun _ =>
  (fX8_isThread σ x1).bind fun v1 =>
  if v1 = 0 then
    some ((-1), σ)
  else
    (fX8_in σ x2 0 11).bind fun v11 =>
    if v11 = 0 then
      some ((-1), σ)
    else
      (fX8_run σ a).bind fun q20 =>
      (fX8_value q20.2 a x1 x2).bind fun v27 =>
      some (v27, q20.2)
def rmX8_last : Room := { frames := 6, cells := 0, slots := 0, locals := 147 }
def fX8_ofStep (σ : tw_St) (a : Nat) (x1 : Int32) (x2 : Int32) (x3 : Int32) : Option (Int32 × tw_St) :=
  (tw_is σ 8 a).bind fun _ =>
  (fX8_run σ a).bind fun q1 =>
  (fX8_isThread q1.2 x1).bind fun v6 =>
  if v6 = 0 then
    some ((-1), q1.2)
  else
    (tw_gP q1.2 8 a 17).bind fun v15 =>
    (tw_aI q1.2 20 v15 x1).bind fun v19 =>
    (fX8_in q1.2 x2 0 (v19 - 1)).bind fun v22 =>
    if v22 = 0 then
      some ((-1), q1.2)
    else
      if x3 = 0 then
        (tw_gP q1.2 8 a 13).bind fun v43 =>
        (tw_aI q1.2 20 v43 ((100 * x1) + x2)).bind fun v48 =>
        some (v48, q1.2)
      else
        if x3 = 1 then
          (tw_gP q1.2 8 a 14).bind fun v58 =>
          (tw_aI q1.2 20 v58 ((100 * x1) + x2)).bind fun v63 =>
          some (v63, q1.2)
        else
          if x3 = 2 then
            (tw_gP q1.2 8 a 15).bind fun v73 =>
            (tw_aI q1.2 20 v73 ((100 * x1) + x2)).bind fun v78 =>
            some (v78, q1.2)
          else
            if x3 = 3 then
              (tw_gP q1.2 8 a 16).bind fun v88 =>
              (tw_aI q1.2 20 v88 ((100 * x1) + x2)).bind fun v93 =>
              some (v93, q1.2)
            else
              some ((-2), q1.2)
def rmX8_ofStep : Room := { frames := 6, cells := 0, slots := 0, locals := 147 }
def fX8_at_b132 (k23 : (tw_St → Nat → Int32 → Int32 → Int32 → Option (Int32 × tw_St))) (σ : tw_St) (a0 : Nat) (x1 : Int32) (x2 : Int32) (x3 : Int32) : Option (Int32 × tw_St) :=
  k23 σ a0 x1 x2 (x3 + 1)
def fX8_at_b126 (k23 : (tw_St → Nat → Int32 → Int32 → Int32 → Option (Int32 × tw_St))) (k34 : (tw_St → Nat → Int32 → Int32 → Int32 → Int32 → Option (Int32 × tw_St))) (σ : tw_St) (a0 : Nat) (x1 : Int32) (x2 : Int32) (x3 : Int32) (x4 : Int32) : Option (Int32 × tw_St) :=
  k34 σ a0 x1 x2 x3 (x4 + 1)
def fX8_at_b116 (σ : tw_St) (x3 : Int32) : Option (Int32 × tw_St) :=
  some (x3, σ)
def fX8_at_b99 (k23 : (tw_St → Nat → Int32 → Int32 → Int32 → Option (Int32 × tw_St))) (k34 : (tw_St → Nat → Int32 → Int32 → Int32 → Int32 → Option (Int32 × tw_St))) (σ : tw_St) (a0 : Nat) (x1 : Int32) (x2 : Int32) (x3 : Int32) (x4 : Int32) (z0 : Int32) : Option (Int32 × tw_St) :=
  if x2 = 0 then
    (tw_gP σ 8 a0 13).bind fun v106 =>
    (tw_aI σ 20 v106 x4).bind fun v111 =>
    if v111 = x1 then
      fX8_at_b116 σ x3
    else
      fX8_at_b126 k23 k34 σ a0 x1 x2 x3 x4
  else
    if z0 = 0 then
      fX8_at_b126 k23 k34 σ a0 x1 x2 x3 x4
    else
      some (x3, σ)
def fX8_at_b98 (k23 : (tw_St → Nat → Int32 → Int32 → Int32 → Option (Int32 × tw_St))) (k34 : (tw_St → Nat → Int32 → Int32 → Int32 → Int32 → Option (Int32 × tw_St))) (σ : tw_St) (a0 : Nat) (x1 : Int32) (x2 : Int32) (x3 : Int32) (x4 : Int32) : Option (Int32 × tw_St) :=
  fX8_at_b99 k23 k34 σ a0 x1 x2 x3 x4 0
def fX8_at_h34 (k23 : (tw_St → Nat → Int32 → Int32 → Int32 → Option (Int32 × tw_St))) (k34 : (tw_St → Nat → Int32 → Int32 → Int32 → Int32 → Option (Int32 × tw_St))) (σ : tw_St) (a0 : Nat) (x1 : Int32) (x2 : Int32) (x3 : Int32) (x4 : Int32) : Option (Int32 × tw_St) :=
  (tw_gP σ 8 a0 17).bind fun v41 =>
  (tw_aI σ 20 v41 x3).bind fun v45 =>
  if ((100 * x3) + v45) ≤ x4 then
    fX8_at_b132 k23 σ a0 x1 x2 x3
  else
    (tw_gP σ 8 a0 13).bind fun v51 =>
    (tw_aI σ 20 v51 x4).bind fun v56 =>
    if x1 < v56 then
      fX8_at_b98 k23 k34 σ a0 x1 x2 x3 x4
    else
      (tw_gP σ 8 a0 15).bind fun v63 =>
      (tw_aI σ 20 v63 x4).bind fun v68 =>
      if v68 ≤ x1 then
        fX8_at_b98 k23 k34 σ a0 x1 x2 x3 x4
      else
        (tw_gP σ 8 a0 14).bind fun v75 =>
        (tw_aI σ 20 v75 x4).bind fun v80 =>
        (fX8_of σ a0 x3 v80 0).bind fun v82 =>
        (fX8_roomOf σ v82).bind fun v85 =>
        if v85 = (x2 - 1) then
          fX8_at_b99 k23 k34 σ a0 x1 x2 x3 x4 1
        else
          fX8_at_b98 k23 k34 σ a0 x1 x2 x3 x4
def fX8_at_l34 (k23 : (tw_St → Nat → Int32 → Int32 → Int32 → Option (Int32 × tw_St))) (n : Nat) : tw_St → Nat → Int32 → Int32 → Int32 → Int32 → Option (Int32 × tw_St) := tw_it (fun _ _ _ _ _ _ => none) (fX8_at_h34 k23) n
def fX8_at_h23 (k23 : (tw_St → Nat → Int32 → Int32 → Int32 → Option (Int32 × tw_St))) (σ : tw_St) (a0 : Nat) (x1 : Int32) (x2 : Int32) (x3 : Int32) : Option (Int32 × tw_St) :=
  if 2 ≤ x3 then
    some ((-6), σ)
  else
    fX8_at_l34 k23 tw_F σ a0 x1 x2 x3 (100 * x3)
def fX8_at_l23 (n : Nat) : tw_St → Nat → Int32 → Int32 → Int32 → Option (Int32 × tw_St) := tw_it (fun _ _ _ _ _ => none) (fX8_at_h23) n
def fX8_at (σ : tw_St) (a : Nat) (x1 : Int32) (x2 : Int32) : Option (Int32 × tw_St) :=
  (tw_is σ 8 a).bind fun _ =>
  if x1 < 0 then
    some ((-2), σ)
  else
    (fX8_in σ x2 0 2).bind fun v7 =>
    if v7 = 0 then
      some ((-2), σ)
    else
      (fX8_run σ a).bind fun q17 =>
      fX8_at_l23 tw_F q17.2 a x1 x2 0
def rmX8_at : Room := { frames := 6, cells := 0, slots := 0, locals := 147 }
def fX8_count (σ : tw_St) (a : Nat) (x1 : Int32) : Option (Int32 × tw_St) :=
  (tw_is σ 8 a).bind fun _ =>
  (fX8_in σ x1 7 9).bind fun v5 =>
  if v5 = 0 then
    (fX8_run σ a).bind fun q22 =>
    if x1 = 0 then
      some (q22.1, q22.2)
    else
    if x1 = 1 then
      (tw_gP q22.2 8 a 17).bind fun v67 =>
      (tw_aI q22.2 20 v67 0).bind fun v71 =>
      (tw_gP q22.2 8 a 17).bind fun v73 =>
      (tw_aI q22.2 20 v73 1).bind fun v77 =>
      some ((v71 + v77), q22.2)
    else
    if x1 = 2 then
      (tw_gP q22.2 8 a 17).bind fun v82 =>
      (tw_aI q22.2 20 v82 0).bind fun v86 =>
      (tw_gP q22.2 8 a 17).bind fun v89 =>
      (tw_aI q22.2 20 v89 1).bind fun v93 =>
      some (((q22.1 - v86) - v93), q22.2)
    else
    if x1 = 3 then
      (fX8_stepsOf q22.2 a 0 0).bind fun v99 =>
      (fX8_stepsOf q22.2 a 1 0).bind fun v105 =>
      (tw_gP q22.2 8 a 0).bind fun v110 =>
      (tw_aI q22.2 20 v110 1).bind fun v114 =>
      some (((v99 + v105) * v114), q22.2)
    else
    if x1 = 4 then
      (fX8_stepsOf q22.2 a 0 1).bind fun v120 =>
      (fX8_stepsOf q22.2 a 1 1).bind fun v126 =>
      (tw_gP q22.2 8 a 0).bind fun v131 =>
      (tw_aI q22.2 20 v131 2).bind fun v135 =>
      some (((v120 + v126) * v135), q22.2)
    else
    if x1 = 5 then
      (tw_gI q22.2 8 a 6).bind fun v139 =>
      some (v139, q22.2)
    else
      if x1 = 6 then
        (tw_gI q22.2 8 a 2).bind fun v150 =>
        some (v150, q22.2)
      else
        some ((-2), q22.2)
  else
    (tw_gP σ 8 a 0).bind fun v12 =>
    (tw_aI σ 20 v12 (x1 - 7)).bind fun v19 =>
    some (v19, σ)
def rmX8_count : Room := { frames := 6, cells := 0, slots := 0, locals := 147 }
def fX8_alone (σ : tw_St) (a : Nat) (x1 : Int32) : Option (Int32 × tw_St) :=
  (tw_is σ 8 a).bind fun _ =>
  (fX8_isThread σ x1).bind fun v1 =>
  if v1 = 0 then
    some ((-1), σ)
  else
    (tw_gP σ 8 a 0).bind fun v9 =>
    (tw_aI σ 20 v9 0).bind fun v13 =>
    (fX8_goThrough σ a v13 (-6) x1).bind fun q17 =>
    some (q17.1, q17.2)
def rmX8_alone : Room := { frames := 5, cells := 0, slots := 0, locals := 127 }
def fX8_lengthWith (σ : tw_St) (a : Nat) (x1 : Int32) : Option (Int32 × tw_St) :=
  (tw_is σ 8 a).bind fun _ =>
  (fX8_in σ x1 0 2).bind fun v3 =>
  if v3 = 0 then
    some ((-2), σ)
  else
    (fX8_goThrough σ a x1 (-6) (-6)).bind fun q15 =>
    some (q15.1, q15.2)
def rmX8_lengthWith : Room := { frames := 5, cells := 0, slots := 0, locals := 127 }
def fX8_bestTurns_b54 (k14 : (tw_St → Nat → Int32 → Int32 → Int32 → Option (Int32 × tw_St))) (σ : tw_St) (a0 : Nat) (x1 : Int32) (x3 : Int32) (z0 : Int32) : Option (Int32 × tw_St) :=
  k14 σ a0 x1 z0 (x3 + 1)
def fX8_bestTurns_b41 (k14 : (tw_St → Nat → Int32 → Int32 → Int32 → Option (Int32 × tw_St))) (σ : tw_St) (a0 : Nat) (x2 : Int32) (x3 : Int32) (x4 : Int32) (z0 : Int32) : Option (Int32 × tw_St) :=
  if x2 ≤ x4 then
    fX8_bestTurns_b54 k14 σ a0 z0 x3 x2
  else
    fX8_bestTurns_b54 k14 σ a0 z0 x3 x4
def fX8_bestTurns_h14 (k14 : (tw_St → Nat → Int32 → Int32 → Int32 → Option (Int32 × tw_St))) (σ : tw_St) (a0 : Nat) (x1 : Int32) (x2 : Int32) (x3 : Int32) : Option (Int32 × tw_St) :=
  if 3 ≤ x3 then
    some (x1, σ)
  else
    (fX8_goThrough σ a0 x3 (-6) (-6)).bind fun q25 =>
    if x2 ≤ q25.1 then
      fX8_bestTurns_b41 k14 q25.2 a0 x2 x3 q25.1 x1
    else
      fX8_bestTurns_b41 k14 q25.2 a0 x2 x3 q25.1 x3
def fX8_bestTurns_l14 (n : Nat) : tw_St → Nat → Int32 → Int32 → Int32 → Option (Int32 × tw_St) := tw_it (fun _ _ _ _ _ => none) (fX8_bestTurns_h14) n
def fX8_bestTurns (σ : tw_St) (a : Nat) : Option (Int32 × tw_St) :=
  (tw_is σ 8 a).bind fun _ =>
  (fX8_goThrough σ a 0 (-6) (-6)).bind fun q8 =>
  fX8_bestTurns_l14 tw_F q8.2 a 0 q8.1 1
def rmX8_bestTurns : Room := { frames := 5, cells := 0, slots := 0, locals := 127 }
def fX8_lengthWithout (σ : tw_St) (a : Nat) (x1 : Int32) : Option (Int32 × tw_St) :=
  (tw_is σ 8 a).bind fun _ =>
  (fX8_in σ x1 0 1).bind fun v3 =>
  if v3 = 0 then
    some ((-2), σ)
  else
    (tw_gP σ 8 a 0).bind fun v11 =>
    (tw_aI σ 20 v11 0).bind fun v15 =>
    (fX8_goThrough σ a v15 x1 (-6)).bind fun q19 =>
    some (q19.1, q19.2)
def rmX8_lengthWithout : Room := { frames := 5, cells := 0, slots := 0, locals := 127 }
def fX8_isFixed_b65 (k21 : (tw_St → Nat → Int32 → Int32 → Int32 → Int32 → Option (Int32))) (σ : tw_St) (a0 : Nat) (x1 : Int32) (x2 : Int32) (x4 : Int32) (z0 : Int32) : Option (Int32) :=
  k21 σ a0 x1 x2 z0 (x4 + 1)
def fX8_isFixed_b60 (k21 : (tw_St → Nat → Int32 → Int32 → Int32 → Int32 → Option (Int32))) (σ : tw_St) (a0 : Nat) (x1 : Int32) (x2 : Int32) (x4 : Int32) : Option (Int32) :=
  fX8_isFixed_b65 k21 σ a0 x1 x2 x4 1
def fX8_isFixed_b64 (k21 : (tw_St → Nat → Int32 → Int32 → Int32 → Int32 → Option (Int32))) (σ : tw_St) (a0 : Nat) (x1 : Int32) (x2 : Int32) (x4 : Int32) : Option (Int32) :=
  fX8_isFixed_b65 k21 σ a0 x1 x2 x4 0
def fX8_isFixed_h21 (k21 : (tw_St → Nat → Int32 → Int32 → Int32 → Int32 → Option (Int32))) (σ : tw_St) (a0 : Nat) (x1 : Int32) (x2 : Int32) (x3 : Int32) (x4 : Int32) : Option (Int32) :=
  (fX8_many σ a0 x1).bind fun v25 =>
  if v25 ≤ x4 then
    (tw_bz x3).bind fun _ =>
    some x3
  else
    if x3 = 0 then
      (fX8_of σ a0 x1 x4 0).bind fun v40 =>
      if v40 = 6 then
        (fX8_of σ a0 x1 x4 4).bind fun v53 =>
        if v53 = x2 then
          fX8_isFixed_b60 k21 σ a0 x1 x2 x4
        else
          fX8_isFixed_b64 k21 σ a0 x1 x2 x4
      else
        fX8_isFixed_b64 k21 σ a0 x1 x2 x4
    else
      fX8_isFixed_b60 k21 σ a0 x1 x2 x4
def fX8_isFixed_l21 (n : Nat) : tw_St → Nat → Int32 → Int32 → Int32 → Int32 → Option (Int32) := tw_it (fun _ _ _ _ _ _ => none) (fX8_isFixed_h21) n
def fX8_isFixed_b17 (σ : tw_St) (a0 : Nat) (x1 : Int32) (x2 : Int32) (z0 : Int32) : Option (Int32) :=
  fX8_isFixed_l21 tw_F σ a0 x1 x2 z0 0
def fX8_isFixed (σ : tw_St) (a : Nat) (x1 : Int32) (x2 : Int32) : Option (Int32) :=
  (tw_is σ 8 a).bind fun _ =>
  (fX8_of σ a x1 x2 0).bind fun v4 =>
  if v4 = 6 then
    fX8_isFixed_b17 σ a x1 x2 1
  else
    fX8_isFixed_b17 σ a x1 x2 0
def rmX8_isFixed : Room := { frames := 1, cells := 0, slots := 0, locals := 23 }
def fX8_swap_h17 (k17 : (tw_St → Nat → Int32 → Int32 → Option (tw_St))) (σ : tw_St) (a0 : Nat) (x3 : Int32) (x4 : Int32) : Option (tw_St) :=
  if (x3 + 5) ≤ x4 then
    some σ
  else
    (tw_gP σ 8 a0 0).bind fun v26 =>
    (tw_aI σ 20 v26 x4).bind fun v31 =>
    (tw_gP σ 8 a0 0).bind fun v35 =>
    (tw_gP σ 8 a0 0).bind fun v41 =>
    (tw_aI σ 20 v41 (x4 + 5)).bind fun v48 =>
    (tw_wI σ 20 v35 x4 v48).bind fun σ49 =>
    (tw_gP σ49 8 a0 0).bind fun v51 =>
    (tw_wI σ49 20 v51 (x4 + 5) v31).bind fun σ60 =>
    k17 σ60 a0 x3 (x4 + 1)
def fX8_swap_l17 (n : Nat) : tw_St → Nat → Int32 → Int32 → Option (tw_St) := tw_it (fun _ _ _ _ => none) (fX8_swap_h17) n
def fX8_swap (σ : tw_St) (a : Nat) (x1 : Int32) (x2 : Int32) : Option (tw_St) :=
  (tw_is σ 8 a).bind fun _ =>
  fX8_swap_l17 tw_F σ a (((10 + (100 * x1)) + 1) + (5 * x2)) (((10 + (100 * x1)) + 1) + (5 * x2))
def rmX8_swap : Room := { frames := 0, cells := 0, slots := 0, locals := 0 }
def fX8_areValuesSame_b34 (k4 : (tw_St → Nat → Int32 → Int32 → Option (Int32))) (σ : tw_St) (a0 : Nat) (x2 : Int32) (z0 : Int32) : Option (Int32) :=
  k4 σ a0 z0 (x2 + 1)
def fX8_areValuesSame_b33 (k4 : (tw_St → Nat → Int32 → Int32 → Option (Int32))) (σ : tw_St) (a0 : Nat) (x2 : Int32) : Option (Int32) :=
  fX8_areValuesSame_b34 k4 σ a0 x2 0
def fX8_areValuesSame_h4 (k4 : (tw_St → Nat → Int32 → Int32 → Option (Int32))) (σ : tw_St) (a0 : Nat) (x1 : Int32) (x2 : Int32) : Option (Int32) :=
  if 24 ≤ x2 then
    (tw_bz x1).bind fun _ =>
    some x1
  else
    if x1 = 0 then
      fX8_areValuesSame_b33 k4 σ a0 x2
    else
      (tw_gP σ 8 a0 11).bind fun v15 =>
      (tw_aI σ 20 v15 x2).bind fun v19 =>
      (tw_gP σ 8 a0 23).bind fun v21 =>
      (tw_aI σ 20 v21 x2).bind fun v25 =>
      if v19 = v25 then
        fX8_areValuesSame_b34 k4 σ a0 x2 1
      else
        fX8_areValuesSame_b33 k4 σ a0 x2
def fX8_areValuesSame_l4 (n : Nat) : tw_St → Nat → Int32 → Int32 → Option (Int32) := tw_it (fun _ _ _ _ => none) (fX8_areValuesSame_h4) n
def fX8_areValuesSame (σ : tw_St) (a : Nat) : Option (Int32) :=
  (tw_is σ 8 a).bind fun _ =>
  fX8_areValuesSame_l4 tw_F σ a 1 0
def rmX8_areValuesSame : Room := { frames := 0, cells := 0, slots := 0, locals := 0 }
def fX8_bestExchange_b178 (σ : tw_St) (x4 : Int32) : Option (Int32 × tw_St) :=
  some (x4, σ)
def fX8_bestExchange_b169 (σ : tw_St) (x2 : Int32) (x3 : Int32) (x4 : Int32) : Option (Int32 × tw_St) :=
  if x4 < 0 then
    fX8_bestExchange_b178 σ x4
  else
    if x2 = 0 then
      fX8_bestExchange_b178 σ x4
    else
      some (x3, σ)
def fX8_bestExchange_b163 (k63 : (tw_St → Nat → Int32 → Int32 → Int32 → Int32 → Int32 → Option (Int32 × tw_St))) (σ : tw_St) (a0 : Nat) (x1 : Int32) (x2 : Int32) (x3 : Int32) (x4 : Int32) (x5 : Int32) : Option (Int32 × tw_St) :=
  k63 σ a0 x1 x2 x3 x4 (x5 + 1)
def fX8_bestExchange_b162 (k63 : (tw_St → Nat → Int32 → Int32 → Int32 → Int32 → Int32 → Option (Int32 × tw_St))) (σ : tw_St) (a0 : Nat) (x1 : Int32) (x2 : Int32) (x4 : Int32) (x5 : Int32) (z0 : Int32) : Option (Int32 × tw_St) :=
  fX8_bestExchange_b163 k63 σ a0 x1 x2 z0 x4 x5
def fX8_bestExchange_b149 (k63 : (tw_St → Nat → Int32 → Int32 → Int32 → Int32 → Int32 → Option (Int32 × tw_St))) (σ : tw_St) (a0 : Nat) (x1 : Int32) (x2 : Int32) (x3 : Int32) (x5 : Int32) (x6 : Int32) (x7 : Int32) (z0 : Int32) : Option (Int32 × tw_St) :=
  if x7 = 0 then
    fX8_bestExchange_b162 k63 σ a0 x1 x2 z0 x5 x3
  else
    fX8_bestExchange_b162 k63 σ a0 x1 x2 z0 x5 x6
def fX8_bestExchange_b128 (k63 : (tw_St → Nat → Int32 → Int32 → Int32 → Int32 → Int32 → Option (Int32 × tw_St))) (σ : tw_St) (a0 : Nat) (x1 : Int32) (x2 : Int32) (x3 : Int32) (x4 : Int32) (x5 : Int32) (x6 : Int32) (z0 : Int32) : Option (Int32 × tw_St) :=
  (fX8_swap σ a0 x1 x5).bind fun σ134 =>
  if z0 = 0 then
    fX8_bestExchange_b149 k63 σ134 a0 x1 x2 x3 x5 x6 z0 x4
  else
    fX8_bestExchange_b149 k63 σ134 a0 x1 x2 x3 x5 x6 z0 x5
def fX8_bestExchange_b127 (k63 : (tw_St → Nat → Int32 → Int32 → Int32 → Int32 → Int32 → Option (Int32 × tw_St))) (σ : tw_St) (a0 : Nat) (x1 : Int32) (x2 : Int32) (x3 : Int32) (x4 : Int32) (x5 : Int32) (x6 : Int32) : Option (Int32 × tw_St) :=
  fX8_bestExchange_b128 k63 σ a0 x1 x2 x3 x4 x5 x6 0
def fX8_bestExchange_h63 (k63 : (tw_St → Nat → Int32 → Int32 → Int32 → Int32 → Int32 → Option (Int32 × tw_St))) (σ : tw_St) (a0 : Nat) (x1 : Int32) (x2 : Int32) (x3 : Int32) (x4 : Int32) (x5 : Int32) : Option (Int32 × tw_St) :=
  (fX8_many σ a0 x1).bind fun v69 =>
  if v69 ≤ (x5 + 1) then
    fX8_bestExchange_b169 σ x2 x3 x4
  else
    (fX8_isFixed σ a0 x1 x5).bind fun v79 =>
    if v79 = 0 then
      (fX8_isFixed σ a0 x1 (x5 + 1)).bind fun v91 =>
      if v91 = 0 then
        (fX8_swap σ a0 x1 x5).bind fun σ101 =>
        (fX8_run σ101 a0).bind fun q105 =>
        if x3 ≤ q105.1 then
          fX8_bestExchange_b127 k63 q105.2 a0 x1 x2 x3 x4 x5 q105.1
        else
          (fX8_areValuesSame q105.2 a0).bind fun v117 =>
          if v117 = 0 then
            fX8_bestExchange_b127 k63 q105.2 a0 x1 x2 x3 x4 x5 q105.1
          else
            fX8_bestExchange_b128 k63 q105.2 a0 x1 x2 x3 x4 x5 q105.1 1
      else
        fX8_bestExchange_b163 k63 σ a0 x1 x2 x3 x4 x5
    else
      fX8_bestExchange_b163 k63 σ a0 x1 x2 x3 x4 x5
def fX8_bestExchange_l63 (n : Nat) : tw_St → Nat → Int32 → Int32 → Int32 → Int32 → Int32 → Option (Int32 × tw_St) := tw_it (fun _ _ _ _ _ _ _ => none) (fX8_bestExchange_h63) n
def fX8_bestExchange_b60 (σ : tw_St) (a0 : Nat) (x1 : Int32) (x2 : Int32) (x3 : Int32) (x4 : Int32) : Option (Int32 × tw_St) :=
  fX8_bestExchange_l63 tw_F σ a0 x1 x2 x3 x4 0
def fX8_bestExchange_h33 (k33 : (tw_St → Nat → Int32 → Int32 → Int32 → Int32 → Int32 → Option (Int32 × tw_St))) (σ : tw_St) (a0 : Nat) (x1 : Int32) (x2 : Int32) (x3 : Int32) (x4 : Int32) (x5 : Int32) : Option (Int32 × tw_St) :=
  if 24 ≤ x5 then
    fX8_bestExchange_b60 σ a0 x1 x2 x3 x4
  else
    (tw_gP σ 8 a0 23).bind fun v41 =>
    (tw_gP σ 8 a0 11).bind fun v47 =>
    (tw_aI σ 20 v47 x5).bind fun v52 =>
    (tw_wI σ 20 v41 x5 v52).bind fun σ53 =>
    k33 σ53 a0 x1 x2 x3 x4 (x5 + 1)
def fX8_bestExchange_l33 (n : Nat) : tw_St → Nat → Int32 → Int32 → Int32 → Int32 → Int32 → Option (Int32 × tw_St) := tw_it (fun _ _ _ _ _ _ _ => none) (fX8_bestExchange_h33) n
def fX8_bestExchange (σ : tw_St) (a : Nat) (x1 : Int32) (x2 : Int32) : Option (Int32 × tw_St) :=
  (tw_is σ 8 a).bind fun _ =>
  (fX8_isThread σ x1).bind fun v1 =>
  if v1 = 0 then
    some ((-1), σ)
  else
    (fX8_in σ x2 0 1).bind fun v12 =>
    if v12 = 0 then
      some ((-2), σ)
    else
      (fX8_run σ a).bind fun q22 =>
      fX8_bestExchange_l33 tw_F q22.2 a x1 x2 q22.1 (-6) 0
def rmX8_bestExchange : Room := { frames := 6, cells := 0, slots := 0, locals := 147 }
def fX8_undo_b56 (σ : tw_St) (a0 : Nat) : Option (Int32 × tw_St) :=
  (tw_gI σ 8 a0 2).bind fun v57 =>
  some (v57, σ)
def fX8_undo_h22 (k22 : (tw_St → Nat → Int32 → Option (Int32 × tw_St))) (σ : tw_St) (a0 : Nat) (x1 : Int32) : Option (Int32 × tw_St) :=
  if 210 ≤ x1 then
    fX8_undo_b56 σ a0
  else
    (tw_gP σ 8 a0 0).bind fun v30 =>
    (tw_gP σ 8 a0 1).bind fun v35 =>
    (tw_gI σ 8 a0 2).bind fun v39 =>
    (tw_aI σ 20 v35 ((v39 * 210) + x1)).bind fun v48 =>
    (tw_wI σ 20 v30 x1 v48).bind fun σ49 =>
    k22 σ49 a0 (x1 + 1)
def fX8_undo_l22 (n : Nat) : tw_St → Nat → Int32 → Option (Int32 × tw_St) := tw_it (fun _ _ _ => none) (fX8_undo_h22) n
def fX8_undo (σ : tw_St) (a : Nat) : Option (Int32 × tw_St) :=
  (tw_is σ 8 a).bind fun _ =>
  (tw_gI σ 8 a 2).bind fun v1 =>
  if v1 = 0 then
    some ((-5), σ)
  else
    (tw_gI σ 8 a 2).bind fun v12 =>
    (tw_pI σ 8 a 2 (v12 - 1)).bind fun σ17 =>
    fX8_undo_l22 tw_F σ17 a 0
def rmX8_undo : Room := { frames := 0, cells := 0, slots := 0, locals := 0 }
def fX8_save_b45 (σ : tw_St) (a0 : Nat) (x1 : Int32) : Option (Int32 × tw_St) :=
  (tw_gP σ 8 a0 4).bind fun v46 =>
  (tw_bz 1).bind fun _ =>
  (tw_wI σ 22 v46 x1 1).bind fun σ51 =>
  (fX8_run σ51 a0).bind fun q53 =>
  some (q53.1, q53.2)
def fX8_save_h14 (k14 : (tw_St → Nat → Int32 → Int32 → Option (Int32 × tw_St))) (σ : tw_St) (a0 : Nat) (x1 : Int32) (x2 : Int32) : Option (Int32 × tw_St) :=
  if 210 ≤ x2 then
    fX8_save_b45 σ a0 x1
  else
    (tw_gP σ 8 a0 3).bind fun v22 =>
    (tw_gP σ 8 a0 0).bind fun v33 =>
    (tw_aI σ 20 v33 x2).bind fun v37 =>
    (tw_wI σ 20 v22 ((x1 * 210) + x2) v37).bind fun σ38 =>
    k14 σ38 a0 x1 (x2 + 1)
def fX8_save_l14 (n : Nat) : tw_St → Nat → Int32 → Int32 → Option (Int32 × tw_St) := tw_it (fun _ _ _ _ => none) (fX8_save_h14) n
def fX8_save (σ : tw_St) (a : Nat) (x1 : Int32) : Option (Int32 × tw_St) :=
  (tw_is σ 8 a).bind fun _ =>
  (fX8_in σ x1 0 1).bind fun v3 =>
  if v3 = 0 then
    some ((-2), σ)
  else
    fX8_save_l14 tw_F σ a x1 0
def rmX8_save : Room := { frames := 6, cells := 0, slots := 0, locals := 147 }
def fX8_restore_b61 (σ : tw_St) (a0 : Nat) : Option (Int32 × tw_St) :=
  (fX8_run σ a0).bind fun q62 =>
  some (q62.1, q62.2)
def fX8_restore_h30 (k30 : (tw_St → Nat → Int32 → Int32 → Option (Int32 × tw_St))) (σ : tw_St) (a0 : Nat) (x1 : Int32) (x2 : Int32) : Option (Int32 × tw_St) :=
  if 210 ≤ x2 then
    fX8_restore_b61 σ a0
  else
    (tw_gP σ 8 a0 0).bind fun v38 =>
    (tw_gP σ 8 a0 3).bind fun v43 =>
    (tw_aI σ 20 v43 ((x1 * 210) + x2)).bind fun v53 =>
    (tw_wI σ 20 v38 x2 v53).bind fun σ54 =>
    k30 σ54 a0 x1 (x2 + 1)
def fX8_restore_l30 (n : Nat) : tw_St → Nat → Int32 → Int32 → Option (Int32 × tw_St) := tw_it (fun _ _ _ _ => none) (fX8_restore_h30) n
def fX8_restore (σ : tw_St) (a : Nat) (x1 : Int32) : Option (Int32 × tw_St) :=
  (tw_is σ 8 a).bind fun _ =>
  (fX8_in σ x1 0 1).bind fun v3 =>
  if v3 = 0 then
    some ((-2), σ)
  else
    (tw_gP σ 8 a 4).bind fun v13 =>
    (tw_aI σ 22 v13 x1).bind fun v17 =>
    if v17 = 0 then
      some ((-5), σ)
    else
      (fX8_record σ a).bind fun σ25 =>
      fX8_restore_l30 tw_F σ25 a x1 0
def rmX8_restore : Room := { frames := 6, cells := 0, slots := 0, locals := 147 }
def fL_law_b732 (xs : Nat → Int32) (L : Nat) (k18 : (tw_St → Nat → Nat → Int32 → Option (Int32))) (σ : tw_St) (a1 : Nat) (a2 : Nat) (x3 : Int32) : Option (Int32) :=
  k18 σ a1 a2 (x3 + 4)
def fL_law_h18 (xs : Nat → Int32) (L : Nat) (k18 : (tw_St → Nat → Nat → Int32 → Option (Int32))) (σ : tw_St) (a1 : Nat) (a2 : Nat) (x3 : Int32) : Option (Int32) :=
  if ((Int32.ofNat L) - 4) < x3 then
    some 1
  else
    (tw_sc xs L x3).bind fun v28 =>
    if (v28 &&& 31) = 0 then
      (tw_sc xs L (x3 + 1)).bind fun v141 =>
      (tw_sc xs L (x3 + 2)).bind fun v146 =>
      (fX7_set σ a1 v141 v146).bind fun q147 =>
      (tw_sc xs L (x3 + 1)).bind fun v155 =>
      (tw_sc xs L (x3 + 2)).bind fun v160 =>
      (fX8_set q147.2 a2 v155 v160).bind fun q161 =>
      if q147.1 = q161.1 then
        fL_law_b732 xs L k18 q161.2 a1 a2 x3
      else
        some 0
    else
    if (v28 &&& 31) = 1 then
      (tw_sc xs L (x3 + 1)).bind fun v174 =>
      (tw_sc xs L (x3 + 2)).bind fun v183 =>
      (fX7_put σ a1 ((v174.toInt64 <<< ((32 : Int32).toInt64 &&& 63)) ||| (v183.toInt64 &&& 4294967295))).bind fun q190 =>
      (tw_sc xs L (x3 + 1)).bind fun v198 =>
      (tw_sc xs L (x3 + 2)).bind fun v207 =>
      (fX8_put q190.2 a2 ((v198.toInt64 <<< ((32 : Int32).toInt64 &&& 63)) ||| (v207.toInt64 &&& 4294967295))).bind fun q214 =>
      if q190.1 = q214.1 then
        fL_law_b732 xs L k18 q214.2 a1 a2 x3
      else
        some 0
    else
    if (v28 &&& 31) = 2 then
      (fX7_wipe σ a1).bind fun q223 =>
      (fX8_wipe q223.2 a2).bind fun q227 =>
      if q223.1 = q227.1 then
        fL_law_b732 xs L k18 q227.2 a1 a2 x3
      else
        some 0
    else
    if (v28 &&& 31) = 3 then
      (fX7_fault σ a1).bind fun q236 =>
      (fX8_fault q236.2 a2).bind fun q240 =>
      if q236.1 = q240.1 then
        fL_law_b732 xs L k18 q240.2 a1 a2 x3
      else
        some 0
    else
    if (v28 &&& 31) = 4 then
      (tw_sc xs L (x3 + 1)).bind fun v253 =>
      (fX7_program σ a1 v253).bind fun q254 =>
      (tw_sc xs L (x3 + 1)).bind fun v262 =>
      (fX8_program q254.2 a2 v262).bind fun q263 =>
      if q254.1 = q263.1 then
        fL_law_b732 xs L k18 q263.2 a1 a2 x3
      else
        some 0
    else
    if (v28 &&& 31) = 5 then
      (tw_sc xs L (x3 + 1)).bind fun v276 =>
      (fX7_drop σ a1 v276).bind fun q277 =>
      (tw_sc xs L (x3 + 1)).bind fun v285 =>
      (fX8_drop q277.2 a2 v285).bind fun q286 =>
      if q277.1 = q286.1 then
        fL_law_b732 xs L k18 q286.2 a1 a2 x3
      else
        some 0
    else
    if (v28 &&& 31) = 6 then
      (tw_sc xs L (x3 + 1)).bind fun v299 =>
      (tw_sc xs L (x3 + 2)).bind fun v304 =>
      (tw_sc xs L (x3 + 3)).bind fun v309 =>
      (fX7_first σ a1 v299 v304 v309).bind fun q310 =>
      (tw_sc xs L (x3 + 1)).bind fun v318 =>
      (tw_sc xs L (x3 + 2)).bind fun v323 =>
      (tw_sc xs L (x3 + 3)).bind fun v328 =>
      (fX8_first q310.2 a2 v318 v323 v328).bind fun q329 =>
      if q310.1 = q329.1 then
        fL_law_b732 xs L k18 q329.2 a1 a2 x3
      else
        some 0
    else
    if (v28 &&& 31) = 7 then
      (fX7_exchange σ a1).bind fun q338 =>
      (fX8_exchange q338.2 a2).bind fun q342 =>
      if q338.1 = q342.1 then
        fL_law_b732 xs L k18 q342.2 a1 a2 x3
      else
        some 0
    else
    if (v28 &&& 31) = 8 then
      (tw_sc xs L (x3 + 1)).bind fun v355 =>
      (tw_sc xs L (x3 + 2)).bind fun v360 =>
      (tw_sc xs L (x3 + 3)).bind fun v365 =>
      (fX7_ofOrder σ a1 v355 v360 v365).bind fun v366 =>
      (tw_sc xs L (x3 + 1)).bind fun v374 =>
      (tw_sc xs L (x3 + 2)).bind fun v379 =>
      (tw_sc xs L (x3 + 3)).bind fun v384 =>
      (fX8_ofOrder σ a2 v374 v379 v384).bind fun v385 =>
      if v366 = v385 then
        fL_law_b732 xs L k18 σ a1 a2 x3
      else
        some 0
    else
    if (v28 &&& 31) = 9 then
      (tw_sc xs L (x3 + 1)).bind fun v398 =>
      (tw_sc xs L (x3 + 2)).bind fun v403 =>
      (fX7_ofThread σ a1 v398 v403).bind fun v404 =>
      (tw_sc xs L (x3 + 1)).bind fun v412 =>
      (tw_sc xs L (x3 + 2)).bind fun v417 =>
      (fX8_ofThread σ a2 v412 v417).bind fun q418 =>
      if v404 = q418.1 then
        fL_law_b732 xs L k18 q418.2 a1 a2 x3
      else
        some 0
    else
    if (v28 &&& 31) = 10 then
      (tw_sc xs L (x3 + 1)).bind fun v431 =>
      (tw_sc xs L (x3 + 2)).bind fun v436 =>
      (fX7_last σ a1 v431 v436).bind fun v437 =>
      (tw_sc xs L (x3 + 1)).bind fun v445 =>
      (tw_sc xs L (x3 + 2)).bind fun v450 =>
      (fX8_last σ a2 v445 v450).bind fun q451 =>
      if v437 = q451.1 then
        fL_law_b732 xs L k18 q451.2 a1 a2 x3
      else
        some 0
    else
    if (v28 &&& 31) = 11 then
      (tw_sc xs L (x3 + 1)).bind fun v464 =>
      (tw_sc xs L (x3 + 2)).bind fun v469 =>
      (tw_sc xs L (x3 + 3)).bind fun v474 =>
      (fX7_ofStep σ a1 v464 v469 v474).bind fun v475 =>
      (tw_sc xs L (x3 + 1)).bind fun v483 =>
      (tw_sc xs L (x3 + 2)).bind fun v488 =>
      (tw_sc xs L (x3 + 3)).bind fun v493 =>
      (fX8_ofStep σ a2 v483 v488 v493).bind fun q494 =>
      if v475 = q494.1 then
        fL_law_b732 xs L k18 q494.2 a1 a2 x3
      else
        some 0
    else
    if (v28 &&& 31) = 12 then
      (tw_sc xs L (x3 + 1)).bind fun v507 =>
      (tw_sc xs L (x3 + 2)).bind fun v512 =>
      (fX7_at σ a1 v507 v512).bind fun v513 =>
      (tw_sc xs L (x3 + 1)).bind fun v521 =>
      (tw_sc xs L (x3 + 2)).bind fun v526 =>
      (fX8_at σ a2 v521 v526).bind fun q527 =>
      if v513 = q527.1 then
        fL_law_b732 xs L k18 q527.2 a1 a2 x3
      else
        some 0
    else
    if (v28 &&& 31) = 13 then
      (tw_sc xs L (x3 + 1)).bind fun v540 =>
      (fX7_count σ a1 v540).bind fun v541 =>
      (tw_sc xs L (x3 + 1)).bind fun v549 =>
      (fX8_count σ a2 v549).bind fun q550 =>
      if v541 = q550.1 then
        fL_law_b732 xs L k18 q550.2 a1 a2 x3
      else
        some 0
    else
    if (v28 &&& 31) = 14 then
      (tw_sc xs L (x3 + 1)).bind fun v563 =>
      (fX7_alone σ a1 v563).bind fun q564 =>
      (tw_sc xs L (x3 + 1)).bind fun v572 =>
      (fX8_alone q564.2 a2 v572).bind fun q573 =>
      if q564.1 = q573.1 then
        fL_law_b732 xs L k18 q573.2 a1 a2 x3
      else
        some 0
    else
    if (v28 &&& 31) = 15 then
      (tw_sc xs L (x3 + 1)).bind fun v586 =>
      (fX7_lengthWith σ a1 v586).bind fun q587 =>
      (tw_sc xs L (x3 + 1)).bind fun v595 =>
      (fX8_lengthWith q587.2 a2 v595).bind fun q596 =>
      if q587.1 = q596.1 then
        fL_law_b732 xs L k18 q596.2 a1 a2 x3
      else
        some 0
    else
    if (v28 &&& 31) = 16 then
      (fX7_bestTurns σ a1).bind fun q605 =>
      (fX8_bestTurns q605.2 a2).bind fun q609 =>
      if q605.1 = q609.1 then
        fL_law_b732 xs L k18 q609.2 a1 a2 x3
      else
        some 0
    else
    if (v28 &&& 31) = 17 then
      (tw_sc xs L (x3 + 1)).bind fun v622 =>
      (fX7_lengthWithout σ a1 v622).bind fun q623 =>
      (tw_sc xs L (x3 + 1)).bind fun v631 =>
      (fX8_lengthWithout q623.2 a2 v631).bind fun q632 =>
      if q623.1 = q632.1 then
        fL_law_b732 xs L k18 q632.2 a1 a2 x3
      else
        some 0
    else
    if (v28 &&& 31) = 18 then
      (tw_sc xs L (x3 + 1)).bind fun v645 =>
      (tw_sc xs L (x3 + 2)).bind fun v650 =>
      (fX7_bestExchange σ a1 v645 v650).bind fun q651 =>
      (tw_sc xs L (x3 + 1)).bind fun v659 =>
      (tw_sc xs L (x3 + 2)).bind fun v664 =>
      (fX8_bestExchange q651.2 a2 v659 v664).bind fun q665 =>
      if q651.1 = q665.1 then
        fL_law_b732 xs L k18 q665.2 a1 a2 x3
      else
        some 0
    else
    if (v28 &&& 31) = 19 then
      (fX7_undo σ a1).bind fun q674 =>
      (fX8_undo q674.2 a2).bind fun q678 =>
      if q674.1 = q678.1 then
        fL_law_b732 xs L k18 q678.2 a1 a2 x3
      else
        some 0
    else
    if (v28 &&& 31) = 20 then
      (tw_sc xs L (x3 + 1)).bind fun v691 =>
      (fX7_save σ a1 v691).bind fun q692 =>
      (tw_sc xs L (x3 + 1)).bind fun v700 =>
      (fX8_save q692.2 a2 v700).bind fun q701 =>
      if q692.1 = q701.1 then
        fL_law_b732 xs L k18 q701.2 a1 a2 x3
      else
        some 0
    else
    if (v28 &&& 31) = 21 then
      (tw_sc xs L (x3 + 1)).bind fun v714 =>
      (fX7_restore σ a1 v714).bind fun q715 =>
      (tw_sc xs L (x3 + 1)).bind fun v723 =>
      (fX8_restore q715.2 a2 v723).bind fun q724 =>
      if q715.1 = q724.1 then
        fL_law_b732 xs L k18 q724.2 a1 a2 x3
      else
        some 0
    else
      fL_law_b732 xs L k18 σ a1 a2 x3
def fL_law_l18 (xs : Nat → Int32) (L : Nat) (n : Nat) : tw_St → Nat → Nat → Int32 → Option (Int32) := tw_it (fun _ _ _ _ => none) (fL_law_h18 xs L) n
def fL_law (xs : Nat → Int32) (L : Nat) (σ : tw_St) : Option (Int32) :=
  (fX7_init (tw_new σ 7 9) σ.1).bind fun σ4 =>
  (fX8_init (tw_new σ4 8 24) σ4.1).bind fun σ12 =>
  fL_law_l18 xs L tw_F σ12 σ.1 σ4.1 0
