abbrev rX1_init : Room := { frames := 1, cells := 5, slots := 50, locals := 60 }
theorem m_X1_init_12 : Cond.fieldLink RX1 32 "StageLines$CrewFinder" "size" "I" ∈ wsX1_init := List.mem_of_getElem? (i := 12) rfl
theorem u_X1_init_X1 : ∀ w ∈ u_ws RX1 TX1 7, w ∈ wsX1_init := mem_r [13, 14, 15, 16, 17, 18, 19] (by decide +kernel)
theorem m_X1_init_11 : Cond.fieldLink RX1 29 "StageLines$CrewFinder" "doneBy" "[I" ∈ wsX1_init := List.mem_of_getElem? (i := 11) rfl
theorem m_X1_init_5 : Cond.arrayClass .int ∈ wsX1_init := List.mem_of_getElem? (i := 5) rfl
theorem m_X1_init_10 : Cond.fieldLink RX1 26 "StageLines$CrewFinder" "foes" "[I" ∈ wsX1_init := List.mem_of_getElem? (i := 10) rfl
theorem m_X1_init_9 : Cond.fieldLink RX1 23 "StageLines$CrewFinder" "ends" "[I" ∈ wsX1_init := List.mem_of_getElem? (i := 9) rfl
theorem m_X1_init_8 : Cond.fieldLink RX1 19 "StageLines$CrewFinder" "doable" "[Z" ∈ wsX1_init := List.mem_of_getElem? (i := 8) rfl
theorem m_X1_init_7 : Cond.arrayClass .boolean ∈ wsX1_init := List.mem_of_getElem? (i := 7) rfl
theorem m_X1_init_6 : Cond.fieldLink RX1 15 "StageLines$CrewFinder" "handOf" "[I" ∈ wsX1_init := List.mem_of_getElem? (i := 6) rfl
theorem m_X1_init_4 : Cond.fieldLink RX1 9 "StageLines$CrewFinder" "least" "I" ∈ wsX1_init := List.mem_of_getElem? (i := 4) rfl
theorem m_X1_init_1 : Cond.methodLink RX1 3 objectInit ∈ wsX1_init := List.mem_of_getElem? (i := 1) rfl
theorem m_X1_init_2 : Cond.instanceMethod objectInit ∈ wsX1_init := List.mem_of_getElem? (i := 2) rfl
theorem m_X1_init_3 : Cond.code objectInit ⟨#[0xb1]⟩ 1 none ∈ wsX1_init := List.mem_of_getElem? (i := 3) rfl
def X1_init (M : Wo) (a0 : Nat) : Option Wo :=
  (ckO M a0 1).bind fun _ => (pV M a0 1 0 (.int (0 : Int32))).bind fun M1 => (nwA M1 0 10).bind (un2 fun w3 M4 => (pV M4 a0 1 1 (.ref w3)).bind fun M6 => (nwA M6 1 10).bind (un2 fun w8 M9 => (pV M9 a0 1 2 (.ref w8)).bind fun M11 => (nwA M11 0 10).bind (un2 fun w13 M14 => (pV M14 a0 1 3 (.ref w13)).bind fun M16 => (nwA M16 0 10).bind (un2 fun w18 M19 => (pV M19 a0 1 4 (.ref w18)).bind fun M21 => (nwA M21 0 10).bind (un2 fun w23 M24 => (pV M24 a0 1 5 (.ref w23)).bind fun M26 => (pV M26 a0 1 6 (.int (0 : Int32))).bind fun M28 => some M28)))))
theorem X1_init_w {X : Cx} (G : Gd X yX1_init cX1_init wsX1_init 1 none rX1_init) (hN : (xT X).name = "<init>") {M : Wo} {a0 : Nat} {o : Wo} (hd : X1_init M a0 = some o) (hQ : Qv X o 5 50) : Pt X 0 0 0 M [(0, .ref a0)] [] := by
  unfold X1_init at hd
  obtain ⟨_, _, hd⟩ := bnd hd
  refine pt_aload_n G 0 dX1_init_0 rfl rfl ?_
  refine pt_obj G m_X1_init_1 m_X1_init_2 m_X1_init_3 (Nat.le_of_ble_eq_true rfl) (Nat.le_of_ble_eq_true rfl) dX1_init_1 ?_
  refine pt_aload_n G 0 dX1_init_4 rfl rfl ?_
  refine pt_iconst G (0 : Int32) dX1_init_5 ci_0 ?_
  obtain ⟨M1, h2, hd⟩ := bnd hd
  refine pt_put G (ci := 1) (j := 0) rfl (by decide) u_X1_init_X1 m_X1_init_4 tyX1 tyX1_ok nmX1 rfl rfl rfl h2 dX1_init_6 ?_
  refine pt_aload_n G 0 dX1_init_9 rfl rfl ?_
  refine pt_bipush G (10 : Int32) dX1_init_10 bi_10 ?_
  obtain ⟨⟨w3, M4⟩, h5, hd⟩ := bnd hd
  replace hd := un2_e hd
  refine pt_newaE G (kd := 0) (N := 10) (atype := .int) rfl (fun _ => rfl) m_X1_init_5 rfl (by decide) (by decide) (by decide) (by decide) (by decide) h5 dX1_init_12 ?_
  obtain ⟨M6, h7, hd⟩ := bnd hd
  refine pt_putF G hN (ci := 1) (j := 1) rfl (by decide) u_X1_init_X1 m_X1_init_6 tyX1 tyX1_ok nmX1 rfl rfl rfl rfl h7 dX1_init_14 ?_
  refine pt_aload_n G 0 dX1_init_17 rfl rfl ?_
  refine pt_bipush G (10 : Int32) dX1_init_18 bi_10 ?_
  obtain ⟨⟨w8, M9⟩, h10, hd⟩ := bnd hd
  replace hd := un2_e hd
  refine pt_newaE G (kd := 1) (N := 10) (atype := .boolean) rfl (fun _ => rfl) m_X1_init_7 rfl (by decide) (by decide) (by decide) (by decide) (by decide) h10 dX1_init_20 ?_
  obtain ⟨M11, h12, hd⟩ := bnd hd
  refine pt_putF G hN (ci := 1) (j := 2) rfl (by decide) u_X1_init_X1 m_X1_init_8 tyX1 tyX1_ok nmX1 rfl rfl rfl rfl h12 dX1_init_22 ?_
  refine pt_aload_n G 0 dX1_init_25 rfl rfl ?_
  refine pt_bipush G (10 : Int32) dX1_init_26 bi_10 ?_
  obtain ⟨⟨w13, M14⟩, h15, hd⟩ := bnd hd
  replace hd := un2_e hd
  refine pt_newaE G (kd := 0) (N := 10) (atype := .int) rfl (fun _ => rfl) m_X1_init_5 rfl (by decide) (by decide) (by decide) (by decide) (by decide) h15 dX1_init_28 ?_
  obtain ⟨M16, h17, hd⟩ := bnd hd
  refine pt_putF G hN (ci := 1) (j := 3) rfl (by decide) u_X1_init_X1 m_X1_init_9 tyX1 tyX1_ok nmX1 rfl rfl rfl rfl h17 dX1_init_30 ?_
  refine pt_aload_n G 0 dX1_init_33 rfl rfl ?_
  refine pt_bipush G (10 : Int32) dX1_init_34 bi_10 ?_
  obtain ⟨⟨w18, M19⟩, h20, hd⟩ := bnd hd
  replace hd := un2_e hd
  refine pt_newaE G (kd := 0) (N := 10) (atype := .int) rfl (fun _ => rfl) m_X1_init_5 rfl (by decide) (by decide) (by decide) (by decide) (by decide) h20 dX1_init_36 ?_
  obtain ⟨M21, h22, hd⟩ := bnd hd
  refine pt_putF G hN (ci := 1) (j := 4) rfl (by decide) u_X1_init_X1 m_X1_init_10 tyX1 tyX1_ok nmX1 rfl rfl rfl rfl h22 dX1_init_38 ?_
  refine pt_aload_n G 0 dX1_init_41 rfl rfl ?_
  refine pt_bipush G (10 : Int32) dX1_init_42 bi_10 ?_
  obtain ⟨⟨w23, M24⟩, h25, hd⟩ := bnd hd
  replace hd := un2_e hd
  refine pt_newaE G (kd := 0) (N := 10) (atype := .int) rfl (fun _ => rfl) m_X1_init_5 rfl (by decide) (by decide) (by decide) (by decide) (by decide) h25 dX1_init_44 ?_
  obtain ⟨M26, h27, hd⟩ := bnd hd
  refine pt_putF G hN (ci := 1) (j := 5) rfl (by decide) u_X1_init_X1 m_X1_init_11 tyX1 tyX1_ok nmX1 rfl rfl rfl rfl h27 dX1_init_46 ?_
  refine pt_aload_n G 0 dX1_init_49 rfl rfl ?_
  refine pt_iconst G (0 : Int32) dX1_init_50 ci_0 ?_
  obtain ⟨M28, h29, hd⟩ := bnd hd
  refine pt_put G (ci := 1) (j := 6) rfl (by decide) u_X1_init_X1 m_X1_init_12 tyX1 tyX1_ok nmX1 rfl rfl rfl h29 dX1_init_51 ?_
  cases hd
  exact pt_vret G hQ dX1_init_54
theorem X1_init_c {l : Launch} {D : va_G} {dA : Nat → ClassId} {b : Nat} {M : Wo} {a0 : Nat} {M2 : Wo} (h : X1_init M a0 = some M2) : Met l yX1_init wsX1_init rX1_init (va_Pc [.ref a0] (Wd D dA b M)) (Ev D dA b M2) 5 50 (Ab b) := met_v (by decide) rfl (Nat.le_of_ble_eq_true rfl) (fun X G hN hQ => X1_init_w G hN h hQ)
theorem X1_init_vi {X : Cx} {y : MethodName} {cc : ByteArray} {Ts : List Cond} {nL : Nat} {ret : Option FieldType} {R : Room} (G : Gd X y cc Ts nL ret R) {index : Nat} (hg : GoodIn Ts wsX1_init) (hini : Cond.initialized yX1_init.cls ∈ Ts) (hl : Cond.methodLink y.cls index yX1_init ∈ Ts) (hi : Cond.instanceMethod yX1_init ∈ Ts) (hR : rX1_init.frames + 1 ≤ R.frames ∧ 8 + (1 + 11) + rX1_init.locals ≤ R.locals) {k n pc : Nat} {M : Wo} {lv : List (Nat × Value)} {st : List Value} {a0 : Nat} {M2 : Wo} (hv : X1_init M a0 = some M2) (hd : decode cc pc = .ok (.invokespecial index, 3)) (h8 : (st.map fun v => v.category).sum ≤ 8) (hf : k + 5 ≤ R.cells ∧ n + 50 ≤ R.slots) (kk : Pt X (k + 5) (n + 50) (pc + 3) M2 lv st) : Pt X k n pc M lv (.ref a0 :: st) := pt_cI (nA := 0) (As := []) G (X1_init_c hv) hg rfl rfl rfl hini hl hi rfl (by decide +kernel) hR rfl rfl h8 hd hf kk
theorem X1_init_vn {X : Cx} {y : MethodName} {cc : ByteArray} {Ts : List Cond} {nL : Nat} {ret : Option FieldType} {R : Room} (G : Gd X y cc Ts nL ret R) {index : Nat} (hg : GoodIn Ts wsX1_init) (hini : Cond.initialized yX1_init.cls ∈ Ts) (hl : va_Nw (.methodLinkNest y.cls index yX1_init "StageLines") (xS X)) (hi : Cond.instanceMethod yX1_init ∈ Ts) (hR : rX1_init.frames + 1 ≤ R.frames ∧ 8 + (1 + 11) + rX1_init.locals ≤ R.locals) {k n pc : Nat} {M : Wo} {lv : List (Nat × Value)} {st : List Value} {a0 : Nat} {M2 : Wo} (hv : X1_init M a0 = some M2) (hd : decode cc pc = .ok (.invokespecial index, 3)) (h8 : (st.map fun v => v.category).sum ≤ 8) (hf : k + 5 ≤ R.cells ∧ n + 50 ≤ R.slots) (kk : Pt X (k + 5) (n + 50) (pc + 3) M2 lv st) : Pt X k n pc M lv (.ref a0 :: st) := pt_cN (nA := 0) (As := []) G (X1_init_c hv) hg rfl rfl rfl hini hl hi rfl (by decide +kernel) hR rfl rfl h8 hd hf kk
abbrev rX1_reaches : Room := { frames := 1, cells := 0, slots := 0, locals := 60 }
theorem m_X1_reaches_3 : Cond.methodLink RX1 94 Lib.Math.abs.name ∈ wsX1_reaches := List.mem_of_getElem? (i := 3) rfl
theorem m_X1_reaches_4 : Cond.static Lib.Math.abs.name ∈ wsX1_reaches := List.mem_of_getElem? (i := 4) rfl
theorem m_X1_reaches_5 : Cond.initialized "java/lang/Math" ∈ wsX1_reaches := List.mem_of_getElem? (i := 5) rfl
theorem m_X1_reaches_6 : Cond.code Lib.Math.abs.name Lib.Math.abs.code 1 (some .int) ∈ wsX1_reaches := List.mem_of_getElem? (i := 6) rfl
theorem m_X1_reaches_8 : Cond.fieldLink RX1 70 "StageLines$Move" "begin" "I" ∈ wsX1_reaches := List.mem_of_getElem? (i := 8) rfl
theorem u_X1_reaches_X4 : ∀ w ∈ u_ws RX4 TX4 4, w ∈ wsX1_reaches := mem_r [13, 14, 15, 16] (by decide +kernel)
theorem m_X1_reaches_1 : Cond.fieldLink RX1 66 "StageLines$Stage" "moves" "[LStageLines$Move;" ∈ wsX1_reaches := List.mem_of_getElem? (i := 1) rfl
theorem u_X1_reaches_X6 : ∀ w ∈ u_ws RX6 TX6 4, w ∈ wsX1_reaches := mem_r [9, 10, 11, 12] (by decide +kernel)
theorem m_X1_reaches_7 : Cond.fieldLink RX1 23 "StageLines$CrewFinder" "ends" "[I" ∈ wsX1_reaches := List.mem_of_getElem? (i := 7) rfl
theorem u_X1_reaches_X1 : ∀ w ∈ u_ws RX1 TX1 7, w ∈ wsX1_reaches := mem_r [17, 18, 19, 20, 21, 22, 23] (by decide +kernel)
theorem m_X1_reaches_2 : Cond.fieldLink RX1 91 "StageLines$Move" "bar" "I" ∈ wsX1_reaches := List.mem_of_getElem? (i := 2) rfl
def X1_reaches (M : Wo) (a0 : Nat) (a1 : Nat) (x2 : Int32) (x3 : Int32) : Option Int32 :=
  (ckO M a0 1).bind fun _ => (gR M a1 6 1).bind fun w1 => (lR M 3 w1 x2).bind fun w3 => (gI M w3 4 0).bind fun v5 => (gR M a1 6 1).bind fun w7 => (lR M 3 w7 x3).bind fun w9 => (gI M w9 4 0).bind fun v11 => (gR M a0 1 3).bind fun w13 => (lA M 0 w13 x2).bind fun v15 => (gR M a1 6 1).bind fun w17 => (lR M 3 w17 x3).bind fun w19 => (gI M w19 4 1).bind fun v21 => if (v21 - (iAbs (v5 - v11))) < v15 then (some (0 : Int32)) else (some (1 : Int32))
theorem X1_reaches_w {X : Cx} (G : Gd X yX1_reaches cX1_reaches wsX1_reaches 5 (some .boolean) rX1_reaches) {M : Wo} {a0 : Nat} {a1 : Nat} {x2 : Int32} {x3 : Int32} {o : Int32} (hd : X1_reaches M a0 a1 x2 x3 = some o) (hQ : Qi X o M 0 0) : Pt X 0 0 0 M [(0, .ref a0), (1, .ref a1), (2, .int x2), (3, .int x3)] [] := by
  unfold X1_reaches at hd
  obtain ⟨_, _, hd⟩ := bnd hd
  refine pt_aload_n G 1 dX1_reaches_0 rfl rfl ?_
  obtain ⟨w1, h2, hd⟩ := bnd hd
  refine pt_get G (ci := 6) (j := 1) rfl (by decide) u_X1_reaches_X6 m_X1_reaches_1 (gR_o h2) dX1_reaches_1 ?_
  refine pt_iload_n G 2 dX1_reaches_4 rfl rfl ?_
  obtain ⟨w3, h4, hd⟩ := bnd hd
  refine pt_aald G (kd := 3) rfl rfl h4 dX1_reaches_5 ?_
  obtain ⟨v5, h6, hd⟩ := bnd hd
  refine pt_get G (ci := 4) (j := 0) rfl (by decide) u_X1_reaches_X4 m_X1_reaches_2 (gI_o h6) dX1_reaches_6 ?_
  refine pt_aload_n G 1 dX1_reaches_9 rfl rfl ?_
  obtain ⟨w7, h8, hd⟩ := bnd hd
  refine pt_get G (ci := 6) (j := 1) rfl (by decide) u_X1_reaches_X6 m_X1_reaches_1 (gR_o h8) dX1_reaches_10 ?_
  refine pt_iload_n G 3 dX1_reaches_13 rfl rfl ?_
  obtain ⟨w9, h10, hd⟩ := bnd hd
  refine pt_aald G (kd := 3) rfl rfl h10 dX1_reaches_14 ?_
  obtain ⟨v11, h12, hd⟩ := bnd hd
  refine pt_get G (ci := 4) (j := 0) rfl (by decide) u_X1_reaches_X4 m_X1_reaches_2 (gI_o h12) dX1_reaches_15 ?_
  refine pt_isub G dX1_reaches_18 ?_
  refine pt_mabs G m_X1_reaches_3 m_X1_reaches_4 m_X1_reaches_5 m_X1_reaches_6 (Nat.le_of_ble_eq_true rfl) (Nat.le_of_ble_eq_true rfl) ⟨(Nat.le_of_ble_eq_true rfl), (Nat.le_of_ble_eq_true rfl)⟩ dX1_reaches_19 ?_
  refine pt_istore G [(4, .int (iAbs (v5 - v11))), (0, .ref a0), (1, .ref a1), (2, .int x2), (3, .int x3)] dX1_reaches_22 (by decide) rfl ?_
  refine pt_aload_n G 1 dX1_reaches_24 rfl rfl ?_
  obtain ⟨w13, h14, hd⟩ := bnd hd
  refine pt_get G (ci := 1) (j := 3) rfl (by decide) u_X1_reaches_X1 m_X1_reaches_7 (gR_o h14) dX1_reaches_25 ?_
  refine pt_iload_n G 3 dX1_reaches_28 rfl rfl ?_
  obtain ⟨v15, h16, hd⟩ := bnd hd
  refine pt_iald G h16 dX1_reaches_29 ?_
  refine pt_aload_n G 2 dX1_reaches_30 rfl rfl ?_
  obtain ⟨w17, h18, hd⟩ := bnd hd
  refine pt_get G (ci := 6) (j := 1) rfl (by decide) u_X1_reaches_X6 m_X1_reaches_1 (gR_o h18) dX1_reaches_31 ?_
  refine pt_iload_n G 4 dX1_reaches_34 rfl rfl ?_
  obtain ⟨w19, h20, hd⟩ := bnd hd
  refine pt_aald G (kd := 3) rfl rfl h20 dX1_reaches_35 ?_
  obtain ⟨v21, h22, hd⟩ := bnd hd
  refine pt_get G (ci := 4) (j := 1) rfl (by decide) u_X1_reaches_X4 m_X1_reaches_8 (gI_o h22) dX1_reaches_36 ?_
  refine pt_iload G 0 dX1_reaches_39 rfl ?_
  refine pt_isub G dX1_reaches_41 ?_
  refine pt_icmp_gt G 49 dX1_reaches_42 (by decide) (fun c23 => ?_) (fun c23 => ?_)
  · replace hd := ifp c23 hd
    refine pt_iconst G (0 : Int32) dX1_reaches_49 ci_0 ?_
    cases hd
    exact pt_zret G (by decide) hQ dX1_reaches_50
  · replace hd := ifn c23 hd
    refine pt_iconst G (1 : Int32) dX1_reaches_45 ci_1 ?_
    refine pt_goto G 50 dX1_reaches_46 (by decide) ?_
    cases hd
    exact pt_zret G (by decide) hQ dX1_reaches_50
theorem X1_reaches_c {l : Launch} {D : va_G} {dA : Nat → ClassId} {b : Nat} {M : Wo} {a0 : Nat} {a1 : Nat} {x2 : Int32} {x3 : Int32} {r : Int32} (h : X1_reaches M a0 a1 x2 x3 = some r) : Met l yX1_reaches wsX1_reaches rX1_reaches (va_Pc [.ref a0, .ref a1, .int x2, .int x3] (Wd D dA b M)) (Ei D dA b r M) 0 0 (Ab b) := met_i (by decide) rfl (Nat.le_of_ble_eq_true rfl) (fun X G hN hQ => X1_reaches_w G h hQ)
theorem X1_reaches_v {X : Cx} {y : MethodName} {cc : ByteArray} {Ts : List Cond} {nL : Nat} {ret : Option FieldType} {R : Room} (G : Gd X y cc Ts nL ret R) {index : Nat} (hg : GoodIn Ts (wsV y.cls index RX1 yX1_reaches wsX1_reaches)) (hR : rX1_reaches.frames + 1 ≤ R.frames ∧ 8 + (5 + 11) + rX1_reaches.locals ≤ R.locals) {k n pc : Nat} {M : Wo} {lv : List (Nat × Value)} {st : List Value} {a0 : Nat} {a1 : Nat} {x2 : Int32} {x3 : Int32} {r : Int32} (hv : X1_reaches M a0 a1 x2 x3 = some r) (hd : decode cc pc = .ok (.invokevirtual index, 3)) (h8 : (st.map fun v => v.category).sum ≤ 8) (hf : k ≤ R.cells ∧ n ≤ R.slots) (kk : Pt X k n (pc + 3) M lv (.int r :: st)) : Pt X k n pc M lv (.int x3 :: .int x2 :: .ref a1 :: .ref a0 :: st) := pt_cVi (ci := 1) (nA := 3) (As := [.ref a1, .int x2, .int x3]) G (X1_reaches_c hv) hg rfl rfl rfl (by decide +kernel) hR rfl (rcv hv) rfl rfl h8 hd hf kk
abbrev rX1_foesOf : Room := { frames := 2, cells := 0, slots := 0, locals := 84 }
theorem m_X1_foesOf_1 : Cond.fieldLink RX1 32 "StageLines$CrewFinder" "size" "I" ∈ wsX1_foesOf := List.mem_of_getElem? (i := 1) rfl
theorem u_X1_foesOf_X1 : ∀ w ∈ u_ws RX1 TX1 7, w ∈ wsX1_foesOf := mem_r [15, 16, 17, 18, 19, 20, 21] (by decide +kernel)
abbrev X1_foesOf_P5 (X : Cx) (M : Wo) (a0 : Nat) (a1 : Nat) (x2 : Int32) : (Int32 × Int32) → Prop := un2 (fun x3 x4 => Pt X 0 0 5 M [(0, .ref a0), (1, .ref a1), (2, .int x2), (3, .int x3), (4, .int x4)] [])
abbrev X1_foesOf_Z5 (X : Cx) (M : Wo) (a0 : Nat) (a1 : Nat) (x2 : Int32) : Int32 → Prop := (un1 (fun x3 => Pt X 0 0 55 M [(3, .int x3)] []))
def X1_foesOf_b5 (M : Wo) (a0 : Nat) (a1 : Nat) (x2 : Int32) (x3 : Int32) (x4 : Int32) : Option ((Int32 × Int32) ⊕ Int32) :=
  (gI M a0 1 6).bind fun v1 => if v1 ≤ x4 then (some (.inr x3)) else (if x4 = x2 then (some (.inl (x3, (x4 + 1)))) else ((X1_reaches M a0 a1 x4 x2).bind fun v4 => if v4 = 0 then ((X1_reaches M a0 a1 x2 x4).bind fun v6 => if v6 = 0 then (some (.inl ((x3 ||| ((1 : Int32) <<< (x4 &&& 31))), (x4 + 1)))) else (some (.inl (x3, (x4 + 1))))) else (some (.inl (x3, (x4 + 1))))))
theorem X1_foesOf_b5_w {X : Cx} (G : Gd X yX1_foesOf cX1_foesOf wsX1_foesOf 5 (some .int) rX1_foesOf) {M : Wo} {a0 : Nat} {a1 : Nat} {x2 : Int32} {x3 : Int32} {x4 : Int32} {o : ((Int32 × Int32) ⊕ Int32)} (hd : X1_foesOf_b5 M a0 a1 x2 x3 x4 = some o) (hc : ∀ s9, o = .inl s9 → X1_foesOf_P5 X M a0 a1 x2 s9) (he : ∀ e9, o = .inr e9 → X1_foesOf_Z5 X M a0 a1 x2 e9) : Pt X 0 0 5 M [(0, .ref a0), (1, .ref a1), (2, .int x2), (3, .int x3), (4, .int x4)] [] := by
  unfold X1_foesOf_b5 at hd
  refine pt_iload G 4 dX1_foesOf_5 rfl ?_
  refine pt_aload_n G 0 dX1_foesOf_7 rfl rfl ?_
  obtain ⟨v1, h2, hd⟩ := bnd hd
  refine pt_get G (ci := 1) (j := 6) rfl (by decide) u_X1_foesOf_X1 m_X1_foesOf_1 (gI_o h2) dX1_foesOf_8 ?_
  refine pt_icmp_ge G 55 dX1_foesOf_11 (by decide) (fun c10 => ?_) (fun c10 => ?_)
  · replace hd := ifp c10 hd
    exact pt_sub [3] rfl (he x3 (Option.some.inj hd).symm)
  · replace hd := ifn c10 hd
    refine pt_iload G 4 dX1_foesOf_14 rfl ?_
    refine pt_iload_n G 2 dX1_foesOf_16 rfl rfl ?_
    refine pt_icmp_eq G 49 dX1_foesOf_17 (by decide) (fun c9 => ?_) (fun c9 => ?_)
    · replace hd := ifp c9 hd
      refine pt_iinc G 4 (x4 + 1) [(4, .int (x4 + 1)), (0, .ref a0), (1, .ref a1), (2, .int x2), (3, .int x3)] dX1_foesOf_49 rfl (inc_1 _) (by decide) rfl ?_
      refine pt_goto G 5 dX1_foesOf_52 (by decide) ?_
      exact pt_sub [1, 2, 3, 4, 0] rfl (hc (x3, (x4 + 1)) (Option.some.inj hd).symm)
    · replace hd := ifn c9 hd
      refine pt_aload_n G 0 dX1_foesOf_20 rfl rfl ?_
      refine pt_aload_n G 1 dX1_foesOf_21 rfl rfl ?_
      refine pt_iload G 4 dX1_foesOf_22 rfl ?_
      refine pt_iload_n G 2 dX1_foesOf_24 rfl rfl ?_
      obtain ⟨v4, h3, hd⟩ := bnd hd
      refine X1_reaches_v G gX1_foesOf_X1_reaches ⟨(Nat.le_of_ble_eq_true rfl), (Nat.le_of_ble_eq_true rfl)⟩ h3 dX1_foesOf_25 (Nat.le_of_ble_eq_true rfl) ⟨(Nat.le_of_ble_eq_true rfl), (Nat.le_of_ble_eq_true rfl)⟩ ?_
      refine pt_if_ne G 49 dX1_foesOf_28 (by decide) (fun c8 => ?_) (fun c8 => ?_)
      · replace hd := ifn c8 hd
        refine pt_iinc G 4 (x4 + 1) [(4, .int (x4 + 1)), (0, .ref a0), (1, .ref a1), (2, .int x2), (3, .int x3)] dX1_foesOf_49 rfl (inc_1 _) (by decide) rfl ?_
        refine pt_goto G 5 dX1_foesOf_52 (by decide) ?_
        exact pt_sub [1, 2, 3, 4, 0] rfl (hc (x3, (x4 + 1)) (Option.some.inj hd).symm)
      · replace hd := ifp c8 hd
        refine pt_aload_n G 0 dX1_foesOf_31 rfl rfl ?_
        refine pt_aload_n G 1 dX1_foesOf_32 rfl rfl ?_
        refine pt_iload_n G 2 dX1_foesOf_33 rfl rfl ?_
        refine pt_iload G 4 dX1_foesOf_34 rfl ?_
        obtain ⟨v6, h5, hd⟩ := bnd hd
        refine X1_reaches_v G gX1_foesOf_X1_reaches ⟨(Nat.le_of_ble_eq_true rfl), (Nat.le_of_ble_eq_true rfl)⟩ h5 dX1_foesOf_36 (Nat.le_of_ble_eq_true rfl) ⟨(Nat.le_of_ble_eq_true rfl), (Nat.le_of_ble_eq_true rfl)⟩ ?_
        refine pt_if_ne G 49 dX1_foesOf_39 (by decide) (fun c7 => ?_) (fun c7 => ?_)
        · replace hd := ifn c7 hd
          refine pt_iinc G 4 (x4 + 1) [(4, .int (x4 + 1)), (0, .ref a0), (1, .ref a1), (2, .int x2), (3, .int x3)] dX1_foesOf_49 rfl (inc_1 _) (by decide) rfl ?_
          refine pt_goto G 5 dX1_foesOf_52 (by decide) ?_
          exact pt_sub [1, 2, 3, 4, 0] rfl (hc (x3, (x4 + 1)) (Option.some.inj hd).symm)
        · replace hd := ifp c7 hd
          refine pt_iload_n G 3 dX1_foesOf_42 rfl rfl ?_
          refine pt_iconst G (1 : Int32) dX1_foesOf_43 ci_1 ?_
          refine pt_iload G 4 dX1_foesOf_44 rfl ?_
          refine pt_ishl G dX1_foesOf_46 ?_
          refine pt_ior G dX1_foesOf_47 ?_
          refine pt_istore_n G [(3, .int (x3 ||| ((1 : Int32) <<< (x4 &&& 31)))), (0, .ref a0), (1, .ref a1), (2, .int x2), (4, .int x4)] dX1_foesOf_48 rfl (by decide) rfl ?_
          refine pt_iinc G 4 (x4 + 1) [(4, .int (x4 + 1)), (3, .int (x3 ||| ((1 : Int32) <<< (x4 &&& 31)))), (0, .ref a0), (1, .ref a1), (2, .int x2)] dX1_foesOf_49 rfl (inc_1 _) (by decide) rfl ?_
          refine pt_goto G 5 dX1_foesOf_52 (by decide) ?_
          exact pt_sub [2, 3, 4, 1, 0] rfl (hc ((x3 ||| ((1 : Int32) <<< (x4 &&& 31))), (x4 + 1)) (Option.some.inj hd).symm)
theorem X1_foesOf_w5_w {X : Cx} (G : Gd X yX1_foesOf cX1_foesOf wsX1_foesOf 5 (some .int) rX1_foesOf) {M : Wo} {a0 : Nat} {a1 : Nat} {x2 : Int32} (n9 : Nat) (s9 : (Int32 × Int32)) (e9 : Int32) (hw : wloop (un2 (X1_foesOf_b5 M a0 a1 x2)) n9 s9 = some e9) (hz : X1_foesOf_Z5 X M a0 a1 x2 e9) : X1_foesOf_P5 X M a0 a1 x2 s9 := by
  refine wl_ind (P := X1_foesOf_P5 X M a0 a1 x2) (Z := X1_foesOf_Z5 X M a0 a1 x2) ?_ n9 s9 e9 hw hz
  intro s9 o9 hd hc he
  obtain ⟨x3, x4⟩ := s9
  exact X1_foesOf_b5_w G hd hc he
def X1_foesOf (M : Wo) (a0 : Nat) (a1 : Nat) (x2 : Int32) : Option Int32 :=
  (ckO M a0 1).bind fun _ => (wloop (un2 (X1_foesOf_b5 M a0 a1 x2)) FU ((0 : Int32), (0 : Int32))).bind fun v11 => some v11
theorem X1_foesOf_w {X : Cx} (G : Gd X yX1_foesOf cX1_foesOf wsX1_foesOf 5 (some .int) rX1_foesOf) {M : Wo} {a0 : Nat} {a1 : Nat} {x2 : Int32} {o : Int32} (hd : X1_foesOf M a0 a1 x2 = some o) (hQ : Qi X o M 0 0) : Pt X 0 0 0 M [(0, .ref a0), (1, .ref a1), (2, .int x2)] [] := by
  unfold X1_foesOf at hd
  obtain ⟨_, _, hd⟩ := bnd hd
  refine pt_iconst G (0 : Int32) dX1_foesOf_0 ci_0 ?_
  refine pt_istore_n G [(3, .int (0 : Int32)), (0, .ref a0), (1, .ref a1), (2, .int x2)] dX1_foesOf_1 rfl (by decide) rfl ?_
  refine pt_iconst G (0 : Int32) dX1_foesOf_2 ci_0 ?_
  refine pt_istore G [(4, .int (0 : Int32)), (3, .int (0 : Int32)), (0, .ref a0), (1, .ref a1), (2, .int x2)] dX1_foesOf_3 (by decide) rfl ?_
  obtain ⟨v11, hw12, hd⟩ := bnd hd
  refine pt_sub [2, 3, 4, 1, 0] rfl (X1_foesOf_w5_w G _ _ _ hw12 ?_)
  show Pt X 0 0 _ _ _ []
  refine pt_iload_n G 0 dX1_foesOf_55 rfl rfl ?_
  cases hd
  exact pt_iret G hQ dX1_foesOf_56
theorem X1_foesOf_c {l : Launch} {D : va_G} {dA : Nat → ClassId} {b : Nat} {M : Wo} {a0 : Nat} {a1 : Nat} {x2 : Int32} {r : Int32} (h : X1_foesOf M a0 a1 x2 = some r) : Met l yX1_foesOf wsX1_foesOf rX1_foesOf (va_Pc [.ref a0, .ref a1, .int x2] (Wd D dA b M)) (Ei D dA b r M) 0 0 (Ab b) := met_i (by decide) rfl (Nat.le_of_ble_eq_true rfl) (fun X G hN hQ => X1_foesOf_w G h hQ)
theorem X1_foesOf_v {X : Cx} {y : MethodName} {cc : ByteArray} {Ts : List Cond} {nL : Nat} {ret : Option FieldType} {R : Room} (G : Gd X y cc Ts nL ret R) {index : Nat} (hg : GoodIn Ts (wsV y.cls index RX1 yX1_foesOf wsX1_foesOf)) (hR : rX1_foesOf.frames + 1 ≤ R.frames ∧ 8 + (5 + 11) + rX1_foesOf.locals ≤ R.locals) {k n pc : Nat} {M : Wo} {lv : List (Nat × Value)} {st : List Value} {a0 : Nat} {a1 : Nat} {x2 : Int32} {r : Int32} (hv : X1_foesOf M a0 a1 x2 = some r) (hd : decode cc pc = .ok (.invokevirtual index, 3)) (h8 : (st.map fun v => v.category).sum ≤ 8) (hf : k ≤ R.cells ∧ n ≤ R.slots) (kk : Pt X k n (pc + 3) M lv (.int r :: st)) : Pt X k n pc M lv (.int x2 :: .ref a1 :: .ref a0 :: st) := pt_cVi (ci := 1) (nA := 2) (As := [.ref a1, .int x2]) G (X1_foesOf_c hv) hg rfl rfl rfl (by decide +kernel) hR rfl (rcv hv) rfl rfl h8 hd hf kk
abbrev rJ7_fill_53178 : Room := { frames := 0, cells := 0, slots := 0, locals := 0 }
abbrev J7_fill_53178_P5 (X : Cx) (a0 : Nat) (x1 : Int32) (x3 : Int32) : (Wo × Int32) → Prop := un2 (fun M x2 => Pt X 0 0 5 M [(0, .ref a0), (1, .int x1), (2, .int x2), (3, .int x3)] [])
abbrev J7_fill_53178_Z5 (X : Cx) (a0 : Nat) (x1 : Int32) (x3 : Int32) : Wo → Prop := (un1 (fun M => Pt X 0 0 20 M [] []))
def J7_fill_53178_b5 (a0 : Nat) (x1 : Int32) (x3 : Int32) (M : Wo) (x2 : Int32) : Option ((Wo × Int32) ⊕ Wo) :=
  if x3 ≤ x2 then (some (.inr M)) else ((sA M a0 x2 x1).bind fun M3 => some (.inl (M3, (x2 + 1))))
theorem J7_fill_53178_b5_w {X : Cx} (G : Gd X yJ7_fill_53178 cJ7_fill_53178 wsJ7_fill_53178 4 none rJ7_fill_53178) {a0 : Nat} {x1 : Int32} {x3 : Int32} {M : Wo} {x2 : Int32} {o : ((Wo × Int32) ⊕ Wo)} (hd : J7_fill_53178_b5 a0 x1 x3 M x2 = some o) (hc : ∀ s9, o = .inl s9 → J7_fill_53178_P5 X a0 x1 x3 s9) (he : ∀ e9, o = .inr e9 → J7_fill_53178_Z5 X a0 x1 x3 e9) : Pt X 0 0 5 M [(0, .ref a0), (1, .int x1), (2, .int x2), (3, .int x3)] [] := by
  unfold J7_fill_53178_b5 at hd
  refine pt_iload_n G 2 dJ7_fill_53178_5 rfl rfl ?_
  refine pt_iload_n G 3 dJ7_fill_53178_6 rfl rfl ?_
  refine pt_icmp_ge G 20 dJ7_fill_53178_7 (by decide) (fun c5 => ?_) (fun c5 => ?_)
  · replace hd := ifp c5 hd
    exact pt_sub [] rfl (he M (Option.some.inj hd).symm)
  · replace hd := ifn c5 hd
    refine pt_aload_n G 0 dJ7_fill_53178_10 rfl rfl ?_
    refine pt_iload_n G 2 dJ7_fill_53178_11 rfl rfl ?_
    refine pt_iload_n G 1 dJ7_fill_53178_12 rfl rfl ?_
    obtain ⟨M3, h4, hd⟩ := bnd hd
    refine pt_iast G h4 dJ7_fill_53178_13 ?_
    refine pt_iinc G 2 (x2 + 1) [(2, .int (x2 + 1)), (0, .ref a0), (1, .int x1), (3, .int x3)] dJ7_fill_53178_14 rfl (inc_1 _) (by decide) rfl ?_
    refine pt_goto G 5 dJ7_fill_53178_17 (by decide) ?_
    exact pt_sub [1, 2, 0, 3] rfl (hc (M3, (x2 + 1)) (Option.some.inj hd).symm)
theorem J7_fill_53178_w5_w {X : Cx} (G : Gd X yJ7_fill_53178 cJ7_fill_53178 wsJ7_fill_53178 4 none rJ7_fill_53178) {a0 : Nat} {x1 : Int32} {x3 : Int32} (n9 : Nat) (s9 : (Wo × Int32)) (e9 : Wo) (hw : wloop (un2 (J7_fill_53178_b5 a0 x1 x3)) n9 s9 = some e9) (hz : J7_fill_53178_Z5 X a0 x1 x3 e9) : J7_fill_53178_P5 X a0 x1 x3 s9 := by
  refine wl_ind (P := J7_fill_53178_P5 X a0 x1 x3) (Z := J7_fill_53178_Z5 X a0 x1 x3) ?_ n9 s9 e9 hw hz
  intro s9 o9 hd hc he
  obtain ⟨M, x2⟩ := s9
  exact J7_fill_53178_b5_w G hd hc he
def J7_fill_53178 (M : Wo) (a0 : Nat) (x1 : Int32) : Option Wo :=
  (aL M a0).bind fun v1 => (wloop (un2 (J7_fill_53178_b5 a0 x1 v1)) FU (M, (0 : Int32))).bind fun M6 => some M6
theorem J7_fill_53178_w {X : Cx} (G : Gd X yJ7_fill_53178 cJ7_fill_53178 wsJ7_fill_53178 4 none rJ7_fill_53178) {M : Wo} {a0 : Nat} {x1 : Int32} {o : Wo} (hd : J7_fill_53178 M a0 x1 = some o) (hQ : Qv X o 0 0) : Pt X 0 0 0 M [(0, .ref a0), (1, .int x1)] [] := by
  unfold J7_fill_53178 at hd
  refine pt_iconst G (0 : Int32) dJ7_fill_53178_0 ci_0 ?_
  refine pt_istore_n G [(2, .int (0 : Int32)), (0, .ref a0), (1, .int x1)] dJ7_fill_53178_1 rfl (by decide) rfl ?_
  refine pt_aload_n G 1 dJ7_fill_53178_2 rfl rfl ?_
  obtain ⟨v1, h2, hd⟩ := bnd hd
  refine pt_alen G h2 dJ7_fill_53178_3 ?_
  refine pt_istore_n G [(3, .int v1), (2, .int (0 : Int32)), (0, .ref a0), (1, .int x1)] dJ7_fill_53178_4 rfl (by decide) rfl ?_
  obtain ⟨M6, hw7, hd⟩ := bnd hd
  refine pt_sub [2, 3, 1, 0] rfl (J7_fill_53178_w5_w G _ _ _ hw7 ?_)
  show Pt X 0 0 _ _ _ []
  cases hd
  exact pt_vret G hQ dJ7_fill_53178_20
theorem J7_fill_53178_c {l : Launch} {D : va_G} {dA : Nat → ClassId} {b : Nat} {M : Wo} {a0 : Nat} {x1 : Int32} {M2 : Wo} (h : J7_fill_53178 M a0 x1 = some M2) : Met l yJ7_fill_53178 wsJ7_fill_53178 rJ7_fill_53178 (va_Pc [.ref a0, .int x1] (Wd D dA b M)) (Ev D dA b M2) 0 0 (Ab b) := met_v (by decide) rfl (Nat.le_of_ble_eq_true rfl) (fun X G hN hQ => J7_fill_53178_w G h hQ)
theorem J7_fill_53178_v {X : Cx} {y : MethodName} {cc : ByteArray} {Ts : List Cond} {nL : Nat} {ret : Option FieldType} {R : Room} (G : Gd X y cc Ts nL ret R) {index : Nat} (hg : GoodIn Ts (va_wsS y.cls index yJ7_fill_53178 wsJ7_fill_53178)) (hR : rJ7_fill_53178.frames + 1 ≤ R.frames ∧ 8 + (4 + 11) + rJ7_fill_53178.locals ≤ R.locals) {k n pc : Nat} {M : Wo} {lv : List (Nat × Value)} {st : List Value} {a0 : Nat} {x1 : Int32} {M2 : Wo} (hv : J7_fill_53178 M a0 x1 = some M2) (hd : decode cc pc = .ok (.invokestatic index, 3)) (h8 : (st.map fun v => v.category).sum ≤ 8) (hf : k ≤ R.cells ∧ n ≤ R.slots) (kk : Pt X k n (pc + 3) M2 lv st) : Pt X k n pc M lv (.int x1 :: .ref a0 :: st) := pt_cSv (nA := 2) (As := [.ref a0, .int x1]) G (J7_fill_53178_c hv) hg rfl rfl rfl (by decide +kernel) hR rfl rfl h8 hd hf kk
abbrev rX1_giveFrom (d : Nat) : Room := { frames := d, cells := 0, slots := 0, locals := 60 * d }
theorem m_X1_giveFrom_5 : Cond.fieldLink RX1 29 "StageLines$CrewFinder" "doneBy" "[I" ∈ wsX1_giveFrom := List.mem_of_getElem? (i := 5) rfl
theorem u_X1_giveFrom_X1 : ∀ w ∈ u_ws RX1 TX1 7, w ∈ wsX1_giveFrom := mem_r [11, 12, 13, 14, 15, 16, 17] (by decide +kernel)
theorem m_X1_giveFrom_3 : Cond.fieldLink RX1 15 "StageLines$CrewFinder" "handOf" "[I" ∈ wsX1_giveFrom := List.mem_of_getElem? (i := 3) rfl
theorem m_X1_giveFrom_6 : Cond.fieldLink RX1 26 "StageLines$CrewFinder" "foes" "[I" ∈ wsX1_giveFrom := List.mem_of_getElem? (i := 6) rfl
theorem m_X1_giveFrom_4 : Cond.fieldLink RX1 9 "StageLines$CrewFinder" "least" "I" ∈ wsX1_giveFrom := List.mem_of_getElem? (i := 4) rfl
theorem m_X1_giveFrom_2 : Cond.fieldLink RX1 19 "StageLines$CrewFinder" "doable" "[Z" ∈ wsX1_giveFrom := List.mem_of_getElem? (i := 2) rfl
theorem m_X1_giveFrom_1 : Cond.fieldLink RX1 32 "StageLines$CrewFinder" "size" "I" ∈ wsX1_giveFrom := List.mem_of_getElem? (i := 1) rfl
def recOk (l : Launch) (D : va_G) (dA : Nat → ClassId) (b : Nat) (rec : Wo → Nat → Int32 → Option (Int32 × Wo)) (d : Nat) : Prop := ∀ (M : Wo) (a0 : Nat) (x1 r : Int32) (M2 : Wo), rec M a0 x1 = some (r, M2) → (∃ fs : List Value, M.2 a0 = some (.inr (.inr (1, fs)))) ∧ Met l yX1_giveFrom wsX1_giveFrom (rX1_giveFrom d) (va_Pc [.ref a0, .int x1] (Wd D dA b M)) (Ei D dA b r M2) 0 0 (Ab b)
theorem X1_giveFrom_vr {X : Cx} {y : MethodName} {cc : ByteArray} {Ts : List Cond} {nL : Nat} {ret : Option FieldType} {R : Room} (G : Gd X y cc Ts nL ret R) {index : Nat} {rec : Wo → Nat → Int32 → Option (Int32 × Wo)} {rmd : Nat} (hrec : recOk (xL X) (xD X) (xA X) (xB X) rec rmd) (hg : GoodIn Ts (wsV y.cls index RX1 yX1_giveFrom wsX1_giveFrom)) (hR : (rX1_giveFrom rmd).frames + 1 ≤ R.frames ∧ 8 + (4 + 11) + (rX1_giveFrom rmd).locals ≤ R.locals) {k n pc : Nat} {M : Wo} {lv : List (Nat × Value)} {st : List Value} {a0 : Nat} {x1 r : Int32} {M2 : Wo} (hv : rec M a0 x1 = some (r, M2)) (hd : decode cc pc = .ok (.invokevirtual index, 3)) (h8 : (st.map fun v => v.category).sum ≤ 8) (hf : k ≤ R.cells ∧ n ≤ R.slots) (kk : Pt X k n (pc + 3) M2 lv (.int r :: st)) : Pt X k n pc M lv (.int x1 :: .ref a0 :: st) := pt_cVi (ci := 1) (nA := 1) (As := [.int x1]) G (hrec M a0 x1 r M2 hv).2 hg rfl rfl rfl (by decide +kernel) hR rfl (hrec M a0 x1 r M2 hv).1 rfl rfl h8 hd hf kk
abbrev X1_giveFrom_P37 (X : Cx) (a0 : Nat) (x1 : Int32) : (Wo × Int32) → Prop := un2 (fun M x2 => Pt X 0 0 37 M [(0, .ref a0), (1, .int x1), (2, .int x2)] [])
abbrev X1_giveFrom_Z37 (X : Cx) (a0 : Nat) (x1 : Int32) : (Wo ⊕ (Wo ⊕ Wo)) → Prop := (sOf (un1 (fun M => Pt X 0 0 105 M [] [])) (sOf (un1 (fun M => Pt X 0 0 125 M [] [])) (un1 (fun M => Pt X 0 0 133 M [] []))))
def X1_giveFrom_L121 (rec : Wo → Nat → Int32 → Option (Int32 × Wo)) (M : Wo) (a0 : Nat) (x1 : Int32) (x2 : Int32) (x3 : Int32) : Option ((Wo × Int32) ⊕ (Wo ⊕ (Wo ⊕ Wo))) :=
  if x3 = 0 then (some (.inl (M, (x2 + 1)))) else (some (.inr (.inr (.inl M))))
theorem X1_giveFrom_L121_w {X : Cx} {rec : Wo → Nat → Int32 → Option (Int32 × Wo)} {rmd : Nat} (G : Gd X yX1_giveFrom cX1_giveFrom wsX1_giveFrom 4 (some .boolean) (rX1_giveFrom (rmd + 1))) (hrec : recOk (xL X) (xD X) (xA X) (xB X) rec rmd) {M : Wo} {a0 : Nat} {x1 : Int32} {x2 : Int32} {x3 : Int32} {o : ((Wo × Int32) ⊕ (Wo ⊕ (Wo ⊕ Wo)))} (hd : X1_giveFrom_L121 rec M a0 x1 x2 x3 = some o) (hc : ∀ s9, o = .inl s9 → X1_giveFrom_P37 X a0 x1 s9) (he : ∀ e9, o = .inr e9 → X1_giveFrom_Z37 X a0 x1 e9) : Pt X 0 0 121 M [(0, .ref a0), (1, .int x1), (2, .int x2), (3, .int x3)] [] := by
  unfold X1_giveFrom_L121 at hd
  refine pt_iload_n G 3 dX1_giveFrom_121 rfl rfl ?_
  refine pt_if_eq G 127 dX1_giveFrom_122 (by decide) (fun c21 => ?_) (fun c21 => ?_)
  · replace hd := ifp c21 hd
    refine pt_iinc G 2 (x2 + 1) [(2, .int (x2 + 1)), (0, .ref a0), (1, .int x1), (3, .int x3)] dX1_giveFrom_127 rfl (inc_1 _) (by decide) rfl ?_
    refine pt_goto G 37 dX1_giveFrom_130 (by decide) ?_
    exact pt_sub [1, 2, 0] rfl (hc (M, (x2 + 1)) (Option.some.inj hd).symm)
  · replace hd := ifn c21 hd
    exact pt_sub [] rfl (he (.inr (.inl M)) (Option.some.inj hd).symm)
def X1_giveFrom_L59 (rec : Wo → Nat → Int32 → Option (Int32 × Wo)) (M : Wo) (a0 : Nat) (x1 : Int32) (x2 : Int32) (t0 : Int32) : Option ((Wo × Int32) ⊕ (Wo ⊕ (Wo ⊕ Wo))) :=
  (gR M a0 1 5).bind fun w13 => (lA M 0 w13 x2).bind fun v15 => (gR M a0 1 4).bind fun w17 => (lA M 0 w17 x1).bind fun v19 => if (v15 &&& v19) = 0 then ((gR M a0 1 5).bind fun w22 => (lA M 0 w22 x2).bind fun v24 => (sA M w22 x2 (v24 ||| ((1 : Int32) <<< (x1 &&& 31)))).bind fun M26 => (gR M26 a0 1 1).bind fun w28 => (sA M26 w28 x1 x2).bind fun M30 => (rec M30 a0 (x1 + (1 : Int32))).bind (un2 fun v33 M34 => if v33 = 0 then ((gR M34 a0 1 5).bind fun w35 => (lA M34 0 w35 x2).bind fun v37 => (sA M34 w35 x2 (v37 &&& (((1 : Int32) <<< (x1 &&& 31)) ^^^ (-1 : Int32)))).bind fun M39 => X1_giveFrom_L121 rec M39 a0 x1 x2 t0) else (some (.inr (.inl M34))))) else (X1_giveFrom_L121 rec M a0 x1 x2 t0)
theorem X1_giveFrom_L59_w {X : Cx} {rec : Wo → Nat → Int32 → Option (Int32 × Wo)} {rmd : Nat} (G : Gd X yX1_giveFrom cX1_giveFrom wsX1_giveFrom 4 (some .boolean) (rX1_giveFrom (rmd + 1))) (hrec : recOk (xL X) (xD X) (xA X) (xB X) rec rmd) {M : Wo} {a0 : Nat} {x1 : Int32} {x2 : Int32} {t0 : Int32} {o : ((Wo × Int32) ⊕ (Wo ⊕ (Wo ⊕ Wo)))} (hd : X1_giveFrom_L59 rec M a0 x1 x2 t0 = some o) (hc : ∀ s9, o = .inl s9 → X1_giveFrom_P37 X a0 x1 s9) (he : ∀ e9, o = .inr e9 → X1_giveFrom_Z37 X a0 x1 e9) : Pt X 0 0 59 M [(0, .ref a0), (1, .int x1), (2, .int x2)] [.int t0] := by
  unfold X1_giveFrom_L59 at hd
  refine pt_istore_n G [(3, .int t0), (0, .ref a0), (1, .int x1), (2, .int x2)] dX1_giveFrom_59 rfl (by decide) rfl ?_
  refine pt_aload_n G 1 dX1_giveFrom_60 rfl rfl ?_
  obtain ⟨w13, h14, hd⟩ := bnd hd
  refine pt_get G (ci := 1) (j := 5) rfl (by decide) u_X1_giveFrom_X1 m_X1_giveFrom_5 (gR_o h14) dX1_giveFrom_61 ?_
  refine pt_iload_n G 3 dX1_giveFrom_64 rfl rfl ?_
  obtain ⟨v15, h16, hd⟩ := bnd hd
  refine pt_iald G h16 dX1_giveFrom_65 ?_
  refine pt_aload_n G 1 dX1_giveFrom_66 rfl rfl ?_
  obtain ⟨w17, h18, hd⟩ := bnd hd
  refine pt_get G (ci := 1) (j := 4) rfl (by decide) u_X1_giveFrom_X1 m_X1_giveFrom_6 (gR_o h18) dX1_giveFrom_67 ?_
  refine pt_iload_n G 2 dX1_giveFrom_70 rfl rfl ?_
  obtain ⟨v19, h20, hd⟩ := bnd hd
  refine pt_iald G h20 dX1_giveFrom_71 ?_
  refine pt_iand G dX1_giveFrom_72 ?_
  refine pt_if_ne G 121 dX1_giveFrom_73 (by decide) (fun c42 => ?_) (fun c42 => ?_)
  · replace hd := ifn c42 hd
    exact pt_sub [1, 2, 3, 0] rfl (X1_giveFrom_L121_w G hrec hd hc he)
  · replace hd := ifp c42 hd
    refine pt_aload_n G 1 dX1_giveFrom_76 rfl rfl ?_
    obtain ⟨w22, h23, hd⟩ := bnd hd
    refine pt_get G (ci := 1) (j := 5) rfl (by decide) u_X1_giveFrom_X1 m_X1_giveFrom_5 (gR_o h23) dX1_giveFrom_77 ?_
    refine pt_iload_n G 3 dX1_giveFrom_80 rfl rfl ?_
    refine pt_dup2 G dX1_giveFrom_81 rfl rfl ?_
    obtain ⟨v24, h25, hd⟩ := bnd hd
    refine pt_iald G h25 dX1_giveFrom_82 ?_
    refine pt_iconst G (1 : Int32) dX1_giveFrom_83 ci_1 ?_
    refine pt_iload_n G 2 dX1_giveFrom_84 rfl rfl ?_
    refine pt_ishl G dX1_giveFrom_85 ?_
    refine pt_ior G dX1_giveFrom_86 ?_
    obtain ⟨M26, h27, hd⟩ := bnd hd
    refine pt_iast G h27 dX1_giveFrom_87 ?_
    refine pt_aload_n G 1 dX1_giveFrom_88 rfl rfl ?_
    obtain ⟨w28, h29, hd⟩ := bnd hd
    refine pt_get G (ci := 1) (j := 1) rfl (by decide) u_X1_giveFrom_X1 m_X1_giveFrom_3 (gR_o h29) dX1_giveFrom_89 ?_
    refine pt_iload_n G 2 dX1_giveFrom_92 rfl rfl ?_
    refine pt_iload_n G 3 dX1_giveFrom_93 rfl rfl ?_
    obtain ⟨M30, h31, hd⟩ := bnd hd
    refine pt_iast G h31 dX1_giveFrom_94 ?_
    refine pt_aload_n G 1 dX1_giveFrom_95 rfl rfl ?_
    refine pt_iload_n G 2 dX1_giveFrom_96 rfl rfl ?_
    refine pt_iconst G (1 : Int32) dX1_giveFrom_97 ci_1 ?_
    refine pt_iadd G dX1_giveFrom_98 ?_
    obtain ⟨⟨v33, M34⟩, h32, hd⟩ := bnd hd
    replace hd := un2_e hd
    refine X1_giveFrom_vr G hrec gX1_giveFrom_X1_giveFrom ⟨Nat.le_refl _, by show 8 + (4 + 11) + 60 * rmd ≤ 60 * (rmd + 1); omega⟩ h32 dX1_giveFrom_99 (Nat.le_of_ble_eq_true rfl) ⟨Nat.zero_le _, Nat.zero_le _⟩ ?_
    refine pt_if_eq G 107 dX1_giveFrom_102 (by decide) (fun c41 => ?_) (fun c41 => ?_)
    · replace hd := ifp c41 hd
      refine pt_aload_n G 1 dX1_giveFrom_107 rfl rfl ?_
      obtain ⟨w35, h36, hd⟩ := bnd hd
      refine pt_get G (ci := 1) (j := 5) rfl (by decide) u_X1_giveFrom_X1 m_X1_giveFrom_5 (gR_o h36) dX1_giveFrom_108 ?_
      refine pt_iload_n G 3 dX1_giveFrom_111 rfl rfl ?_
      refine pt_dup2 G dX1_giveFrom_112 rfl rfl ?_
      obtain ⟨v37, h38, hd⟩ := bnd hd
      refine pt_iald G h38 dX1_giveFrom_113 ?_
      refine pt_iconst G (1 : Int32) dX1_giveFrom_114 ci_1 ?_
      refine pt_iload_n G 2 dX1_giveFrom_115 rfl rfl ?_
      refine pt_ishl G dX1_giveFrom_116 ?_
      refine pt_iconst G (-1 : Int32) dX1_giveFrom_117 ci_m1 ?_
      refine pt_ixor G dX1_giveFrom_118 ?_
      refine pt_iand G dX1_giveFrom_119 ?_
      obtain ⟨M39, h40, hd⟩ := bnd hd
      refine pt_iast G h40 dX1_giveFrom_120 ?_
      exact pt_sub [1, 2, 3, 0] rfl (X1_giveFrom_L121_w G hrec hd hc he)
    · replace hd := ifn c41 hd
      exact pt_sub [] rfl (he (.inl M34) (Option.some.inj hd).symm)
def X1_giveFrom_b37 (rec : Wo → Nat → Int32 → Option (Int32 × Wo)) (a0 : Nat) (x1 : Int32) (M : Wo) (x2 : Int32) : Option ((Wo × Int32) ⊕ (Wo ⊕ (Wo ⊕ Wo))) :=
  (gI M a0 1 0).bind fun v7 => if v7 ≤ x2 then (some (.inr (.inr (.inr M)))) else ((gR M a0 1 5).bind fun w9 => (lA M 0 w9 x2).bind fun v11 => if v11 = 0 then (X1_giveFrom_L59 rec M a0 x1 x2 (1 : Int32)) else (X1_giveFrom_L59 rec M a0 x1 x2 (0 : Int32)))
theorem X1_giveFrom_b37_w {X : Cx} {rec : Wo → Nat → Int32 → Option (Int32 × Wo)} {rmd : Nat} (G : Gd X yX1_giveFrom cX1_giveFrom wsX1_giveFrom 4 (some .boolean) (rX1_giveFrom (rmd + 1))) (hrec : recOk (xL X) (xD X) (xA X) (xB X) rec rmd) {a0 : Nat} {x1 : Int32} {M : Wo} {x2 : Int32} {o : ((Wo × Int32) ⊕ (Wo ⊕ (Wo ⊕ Wo)))} (hd : X1_giveFrom_b37 rec a0 x1 M x2 = some o) (hc : ∀ s9, o = .inl s9 → X1_giveFrom_P37 X a0 x1 s9) (he : ∀ e9, o = .inr e9 → X1_giveFrom_Z37 X a0 x1 e9) : Pt X 0 0 37 M [(0, .ref a0), (1, .int x1), (2, .int x2)] [] := by
  unfold X1_giveFrom_b37 at hd
  refine pt_iload_n G 2 dX1_giveFrom_37 rfl rfl ?_
  refine pt_aload_n G 0 dX1_giveFrom_38 rfl rfl ?_
  obtain ⟨v7, h8, hd⟩ := bnd hd
  refine pt_get G (ci := 1) (j := 0) rfl (by decide) u_X1_giveFrom_X1 m_X1_giveFrom_4 (gI_o h8) dX1_giveFrom_39 ?_
  refine pt_icmp_ge G 133 dX1_giveFrom_42 (by decide) (fun c44 => ?_) (fun c44 => ?_)
  · replace hd := ifp c44 hd
    exact pt_sub [] rfl (he (.inr (.inr M)) (Option.some.inj hd).symm)
  · replace hd := ifn c44 hd
    refine pt_aload_n G 0 dX1_giveFrom_45 rfl rfl ?_
    obtain ⟨w9, h10, hd⟩ := bnd hd
    refine pt_get G (ci := 1) (j := 5) rfl (by decide) u_X1_giveFrom_X1 m_X1_giveFrom_5 (gR_o h10) dX1_giveFrom_46 ?_
    refine pt_iload_n G 2 dX1_giveFrom_49 rfl rfl ?_
    obtain ⟨v11, h12, hd⟩ := bnd hd
    refine pt_iald G h12 dX1_giveFrom_50 ?_
    refine pt_if_ne G 58 dX1_giveFrom_51 (by decide) (fun c43 => ?_) (fun c43 => ?_)
    · replace hd := ifn c43 hd
      refine pt_iconst G (0 : Int32) dX1_giveFrom_58 ci_0 ?_
      exact pt_sub [0, 1, 2] rfl (X1_giveFrom_L59_w G hrec hd hc he)
    · replace hd := ifp c43 hd
      refine pt_iconst G (1 : Int32) dX1_giveFrom_54 ci_1 ?_
      refine pt_goto G 59 dX1_giveFrom_55 (by decide) ?_
      exact pt_sub [0, 1, 2] rfl (X1_giveFrom_L59_w G hrec hd hc he)
theorem X1_giveFrom_w37_w {X : Cx} {rec : Wo → Nat → Int32 → Option (Int32 × Wo)} {rmd : Nat} (G : Gd X yX1_giveFrom cX1_giveFrom wsX1_giveFrom 4 (some .boolean) (rX1_giveFrom (rmd + 1))) (hrec : recOk (xL X) (xD X) (xA X) (xB X) rec rmd) {a0 : Nat} {x1 : Int32} (n9 : Nat) (s9 : (Wo × Int32)) (e9 : (Wo ⊕ (Wo ⊕ Wo))) (hw : wloop (un2 (X1_giveFrom_b37 rec a0 x1)) n9 s9 = some e9) (hz : X1_giveFrom_Z37 X a0 x1 e9) : X1_giveFrom_P37 X a0 x1 s9 := by
  refine wl_ind (P := X1_giveFrom_P37 X a0 x1) (Z := X1_giveFrom_Z37 X a0 x1) ?_ n9 s9 e9 hw hz
  intro s9 o9 hd hc he
  obtain ⟨M, x2⟩ := s9
  exact X1_giveFrom_b37_w G hrec hd hc he
def X1_giveFrom_body (rec : Wo → Nat → Int32 → Option (Int32 × Wo)) (M : Wo) (a0 : Nat) (x1 : Int32) : Option (Int32 × Wo) :=
  (ckO M a0 1).bind fun _ => (gI M a0 1 6).bind fun v1 => if x1 < v1 then ((gR M a0 1 2).bind fun w3 => (lA M 1 w3 x1).bind fun v5 => if v5 = 0 then ((gR M a0 1 1).bind fun w50 => (sA M w50 x1 (-6 : Int32)).bind fun M52 => (rec M52 a0 (x1 + (1 : Int32))).bind (un2 fun v55 M56 => (ckB v55).bind fun _ => some (v55, M56))) else ((wloop (un2 (X1_giveFrom_b37 rec a0 x1)) FU (M, (0 : Int32))).bind (sOf (fun M45 => some ((1 : Int32), M45)) (sOf (fun M46 => some ((0 : Int32), M46)) (fun M47 => some ((0 : Int32), M47)))))) else (some ((1 : Int32), M))
theorem X1_giveFrom_body_w {X : Cx} {rec : Wo → Nat → Int32 → Option (Int32 × Wo)} {rmd : Nat} (G : Gd X yX1_giveFrom cX1_giveFrom wsX1_giveFrom 4 (some .boolean) (rX1_giveFrom (rmd + 1))) (hrec : recOk (xL X) (xD X) (xA X) (xB X) rec rmd) {M : Wo} {a0 : Nat} {x1 : Int32} {o : (Int32 × Wo)} (hd : X1_giveFrom_body rec M a0 x1 = some o) (hQ : Qi X o.1 o.2 0 0) : Pt X 0 0 0 M [(0, .ref a0), (1, .int x1)] [] := by
  unfold X1_giveFrom_body at hd
  obtain ⟨_, _, hd⟩ := bnd hd
  refine pt_iload_n G 1 dX1_giveFrom_0 rfl rfl ?_
  refine pt_aload_n G 0 dX1_giveFrom_1 rfl rfl ?_
  obtain ⟨v1, h2, hd⟩ := bnd hd
  refine pt_get G (ci := 1) (j := 6) rfl (by decide) u_X1_giveFrom_X1 m_X1_giveFrom_1 (gI_o h2) dX1_giveFrom_2 ?_
  refine pt_icmp_lt G 10 dX1_giveFrom_5 (by decide) (fun c59 => ?_) (fun c59 => ?_)
  · replace hd := ifp c59 hd
    refine pt_aload_n G 0 dX1_giveFrom_10 rfl rfl ?_
    obtain ⟨w3, h4, hd⟩ := bnd hd
    refine pt_get G (ci := 1) (j := 2) rfl (by decide) u_X1_giveFrom_X1 m_X1_giveFrom_2 (gR_o h4) dX1_giveFrom_11 ?_
    refine pt_iload_n G 1 dX1_giveFrom_14 rfl rfl ?_
    obtain ⟨v5, h6, hd⟩ := bnd hd
    refine pt_zald G h6 dX1_giveFrom_15 ?_
    refine pt_if_ne G 35 dX1_giveFrom_16 (by decide) (fun c58 => ?_) (fun c58 => ?_)
    · replace hd := ifn c58 hd
      refine pt_iconst G (0 : Int32) dX1_giveFrom_35 ci_0 ?_
      refine pt_istore_n G [(2, .int (0 : Int32)), (0, .ref a0), (1, .int x1)] dX1_giveFrom_36 rfl (by decide) rfl ?_
      obtain ⟨e49, hw48, hd⟩ := bnd hd
      rcases e49 with M45 | M46 | M47
      · replace hd := sO_1 hd
        refine pt_sub [1, 2, 0] rfl (X1_giveFrom_w37_w G hrec _ _ _ hw48 ?_)
        show Pt X 0 0 _ _ _ []
        refine pt_iconst G (1 : Int32) dX1_giveFrom_105 ci_1 ?_
        cases hd
        exact pt_zret G (by decide) hQ dX1_giveFrom_106
      · replace hd := sO_2 hd
        replace hd := sO_1 hd
        refine pt_sub [1, 2, 0] rfl (X1_giveFrom_w37_w G hrec _ _ _ hw48 ?_)
        show Pt X 0 0 _ _ _ []
        refine pt_iconst G (0 : Int32) dX1_giveFrom_125 ci_0 ?_
        cases hd
        exact pt_zret G (by decide) hQ dX1_giveFrom_126
      · replace hd := sO_2 hd
        replace hd := sO_2 hd
        refine pt_sub [1, 2, 0] rfl (X1_giveFrom_w37_w G hrec _ _ _ hw48 ?_)
        show Pt X 0 0 _ _ _ []
        refine pt_iconst G (0 : Int32) dX1_giveFrom_133 ci_0 ?_
        cases hd
        exact pt_zret G (by decide) hQ dX1_giveFrom_134
    · replace hd := ifp c58 hd
      refine pt_aload_n G 0 dX1_giveFrom_19 rfl rfl ?_
      obtain ⟨w50, h51, hd⟩ := bnd hd
      refine pt_get G (ci := 1) (j := 1) rfl (by decide) u_X1_giveFrom_X1 m_X1_giveFrom_3 (gR_o h51) dX1_giveFrom_20 ?_
      refine pt_iload_n G 1 dX1_giveFrom_23 rfl rfl ?_
      refine pt_bipush G (-6 : Int32) dX1_giveFrom_24 bi_m6 ?_
      obtain ⟨M52, h53, hd⟩ := bnd hd
      refine pt_iast G h53 dX1_giveFrom_26 ?_
      refine pt_aload_n G 0 dX1_giveFrom_27 rfl rfl ?_
      refine pt_iload_n G 1 dX1_giveFrom_28 rfl rfl ?_
      refine pt_iconst G (1 : Int32) dX1_giveFrom_29 ci_1 ?_
      refine pt_iadd G dX1_giveFrom_30 ?_
      obtain ⟨⟨v55, M56⟩, h54, hd⟩ := bnd hd
      replace hd := un2_e hd
      refine X1_giveFrom_vr G hrec gX1_giveFrom_X1_giveFrom ⟨Nat.le_refl _, by show 8 + (4 + 11) + 60 * rmd ≤ 60 * (rmd + 1); omega⟩ h54 dX1_giveFrom_31 (Nat.le_of_ble_eq_true rfl) ⟨Nat.zero_le _, Nat.zero_le _⟩ ?_
      obtain ⟨_, h57, hd⟩ := bnd hd
      cases hd
      exact pt_zret G (ckB_o h57) hQ dX1_giveFrom_34
  · replace hd := ifn c59 hd
    refine pt_iconst G (1 : Int32) dX1_giveFrom_8 ci_1 ?_
    cases hd
    exact pt_zret G (by decide) hQ dX1_giveFrom_9
def X1_giveFrom : Nat → Wo → Nat → Int32 → Option (Int32 × Wo)
  | 0 => fun _ _ _ => none
  | d + 1 => X1_giveFrom_body (X1_giveFrom d)
theorem X1_giveFrom_ok {l : Launch} {D : va_G} {dA : Nat → ClassId} {b : Nat} : ∀ d : Nat, recOk l D dA b (X1_giveFrom d) d
  | 0 => by intro M a0 x1 r M2 h; cases h
  | d + 1 => by
    intro M a0 x1 r M2 h
    have h : X1_giveFrom_body (X1_giveFrom d) M a0 x1 = some (r, M2) := h
    refine ⟨rcv h, ?_⟩
    exact met_i (by decide) rfl (Nat.le_of_ble_eq_true rfl) (fun X G _ hQ => X1_giveFrom_body_w G (X1_giveFrom_ok d) h hQ)
theorem X1_giveFrom_v {X : Cx} {y : MethodName} {cc : ByteArray} {Ts : List Cond} {nL : Nat} {ret : Option FieldType} {R : Room} (G : Gd X y cc Ts nL ret R) {index : Nat} (hg : GoodIn Ts (wsV y.cls index RX1 yX1_giveFrom wsX1_giveFrom)) (hR : (rX1_giveFrom 14).frames + 1 ≤ R.frames ∧ 8 + (4 + 11) + (rX1_giveFrom 14).locals ≤ R.locals) {k n pc : Nat} {M : Wo} {lv : List (Nat × Value)} {st : List Value} {a0 : Nat} {x1 : Int32} {r : Int32} {M2 : Wo} (hv : X1_giveFrom 14 M a0 x1 = some (r, M2)) (hd : decode cc pc = .ok (.invokevirtual index, 3)) (h8 : (st.map fun v => v.category).sum ≤ 8) (hf : k ≤ R.cells ∧ n ≤ R.slots) (kk : Pt X k n (pc + 3) M2 lv (.int r :: st)) : Pt X k n pc M lv (.int x1 :: .ref a0 :: st) := X1_giveFrom_vr G (X1_giveFrom_ok 14) hg hR hv hd h8 hf kk
abbrev rX1_gather : Room := { frames := 15, cells := 0, slots := 0, locals := 923 }
theorem m_X1_gather_4 : Cond.fieldLink RX1 23 "StageLines$CrewFinder" "ends" "[I" ∈ wsX1_gather := List.mem_of_getElem? (i := 4) rfl
theorem u_X1_gather_X1 : ∀ w ∈ u_ws RX1 TX1 7, w ∈ wsX1_gather := mem_r [95, 96, 97, 98, 99, 100, 101] (by decide +kernel)
theorem m_X1_gather_3 : Cond.fieldLink RX1 19 "StageLines$CrewFinder" "doable" "[Z" ∈ wsX1_gather := List.mem_of_getElem? (i := 3) rfl
theorem m_X1_gather_2 : Cond.fieldLink RX1 32 "StageLines$CrewFinder" "size" "I" ∈ wsX1_gather := List.mem_of_getElem? (i := 2) rfl
theorem m_X1_gather_5 : Cond.fieldLink RX1 26 "StageLines$CrewFinder" "foes" "[I" ∈ wsX1_gather := List.mem_of_getElem? (i := 5) rfl
theorem m_X1_gather_7 : Cond.fieldLink RX1 9 "StageLines$CrewFinder" "least" "I" ∈ wsX1_gather := List.mem_of_getElem? (i := 7) rfl
theorem m_X1_gather_6 : Cond.fieldLink RX1 29 "StageLines$CrewFinder" "doneBy" "[I" ∈ wsX1_gather := List.mem_of_getElem? (i := 6) rfl
theorem m_X1_gather_1 : Cond.fieldLink RX1 35 "StageLines$Stage" "moveCount" "I" ∈ wsX1_gather := List.mem_of_getElem? (i := 1) rfl
theorem u_X1_gather_X6 : ∀ w ∈ u_ws RX6 TX6 4, w ∈ wsX1_gather := mem_r [91, 92, 93, 94] (by decide +kernel)
abbrev X1_gather_P15 (X : Cx) (a0 : Nat) (a1 : Nat) (a2 : Nat) : (Wo × Int32) → Prop := un2 (fun M x3 => Pt X 0 0 15 M [(0, .ref a0), (1, .ref a1), (2, .ref a2), (3, .int x3)] [])
abbrev X1_gather_Z15 (X : Cx) (a0 : Nat) (a1 : Nat) (a2 : Nat) : Wo → Prop := (un1 (fun M => Pt X 0 0 52 M [(0, .ref a0), (1, .ref a1)] []))
def X1_gather_b15 (a0 : Nat) (a1 : Nat) (a2 : Nat) (M : Wo) (x3 : Int32) : Option ((Wo × Int32) ⊕ Wo) :=
  (gI M a0 1 6).bind fun v7 => if v7 ≤ x3 then (some (.inr M)) else ((gR M a0 1 2).bind fun w9 => (X6_isDoable M a1 x3).bind fun v12 => (sZ M w9 x3 v12).bind fun M13 => (gR M13 a0 1 3).bind fun w15 => (X2_endOf M13 a2 a1 x3).bind fun v18 => (sA M13 w15 x3 v18).bind fun M19 => some (.inl (M19, (x3 + 1))))
theorem X1_gather_b15_w {X : Cx} (G : Gd X yX1_gather cX1_gather wsX1_gather 4 none rX1_gather) {a0 : Nat} {a1 : Nat} {a2 : Nat} {M : Wo} {x3 : Int32} {o : ((Wo × Int32) ⊕ Wo)} (hd : X1_gather_b15 a0 a1 a2 M x3 = some o) (hc : ∀ s9, o = .inl s9 → X1_gather_P15 X a0 a1 a2 s9) (he : ∀ e9, o = .inr e9 → X1_gather_Z15 X a0 a1 a2 e9) : Pt X 0 0 15 M [(0, .ref a0), (1, .ref a1), (2, .ref a2), (3, .int x3)] [] := by
  unfold X1_gather_b15 at hd
  refine pt_iload_n G 3 dX1_gather_15 rfl rfl ?_
  refine pt_aload_n G 0 dX1_gather_16 rfl rfl ?_
  obtain ⟨v7, h8, hd⟩ := bnd hd
  refine pt_get G (ci := 1) (j := 6) rfl (by decide) u_X1_gather_X1 m_X1_gather_2 (gI_o h8) dX1_gather_17 ?_
  refine pt_icmp_ge G 52 dX1_gather_20 (by decide) (fun c21 => ?_) (fun c21 => ?_)
  · replace hd := ifp c21 hd
    exact pt_sub [0, 1] rfl (he M (Option.some.inj hd).symm)
  · replace hd := ifn c21 hd
    refine pt_aload_n G 0 dX1_gather_23 rfl rfl ?_
    obtain ⟨w9, h10, hd⟩ := bnd hd
    refine pt_get G (ci := 1) (j := 2) rfl (by decide) u_X1_gather_X1 m_X1_gather_3 (gR_o h10) dX1_gather_24 ?_
    refine pt_iload_n G 3 dX1_gather_27 rfl rfl ?_
    refine pt_aload_n G 1 dX1_gather_28 rfl rfl ?_
    refine pt_iload_n G 3 dX1_gather_29 rfl rfl ?_
    obtain ⟨v12, h11, hd⟩ := bnd hd
    refine X6_isDoable_v G gX1_gather_X6_isDoable ⟨(Nat.le_of_ble_eq_true rfl), (Nat.le_of_ble_eq_true rfl)⟩ h11 dX1_gather_30 (Nat.le_of_ble_eq_true rfl) ⟨(Nat.le_of_ble_eq_true rfl), (Nat.le_of_ble_eq_true rfl)⟩ ?_
    obtain ⟨M13, h14, hd⟩ := bnd hd
    refine pt_zast G h14 dX1_gather_33 ?_
    refine pt_aload_n G 0 dX1_gather_34 rfl rfl ?_
    obtain ⟨w15, h16, hd⟩ := bnd hd
    refine pt_get G (ci := 1) (j := 3) rfl (by decide) u_X1_gather_X1 m_X1_gather_4 (gR_o h16) dX1_gather_35 ?_
    refine pt_iload_n G 3 dX1_gather_38 rfl rfl ?_
    refine pt_aload_n G 2 dX1_gather_39 rfl rfl ?_
    refine pt_aload_n G 1 dX1_gather_40 rfl rfl ?_
    refine pt_iload_n G 3 dX1_gather_41 rfl rfl ?_
    obtain ⟨v18, h17, hd⟩ := bnd hd
    refine X2_endOf_v G gX1_gather_X2_endOf ⟨(Nat.le_of_ble_eq_true rfl), (Nat.le_of_ble_eq_true rfl)⟩ h17 dX1_gather_42 (Nat.le_of_ble_eq_true rfl) ⟨(Nat.le_of_ble_eq_true rfl), (Nat.le_of_ble_eq_true rfl)⟩ ?_
    obtain ⟨M19, h20, hd⟩ := bnd hd
    refine pt_iast G h20 dX1_gather_45 ?_
    refine pt_iinc G 3 (x3 + 1) [(3, .int (x3 + 1)), (0, .ref a0), (1, .ref a1), (2, .ref a2)] dX1_gather_46 rfl (inc_1 _) (by decide) rfl ?_
    refine pt_goto G 15 dX1_gather_49 (by decide) ?_
    exact pt_sub [1, 2, 3, 0] rfl (hc (M19, (x3 + 1)) (Option.some.inj hd).symm)
theorem X1_gather_w15_w {X : Cx} (G : Gd X yX1_gather cX1_gather wsX1_gather 4 none rX1_gather) {a0 : Nat} {a1 : Nat} {a2 : Nat} (n9 : Nat) (s9 : (Wo × Int32)) (e9 : Wo) (hw : wloop (un2 (X1_gather_b15 a0 a1 a2)) n9 s9 = some e9) (hz : X1_gather_Z15 X a0 a1 a2 e9) : X1_gather_P15 X a0 a1 a2 s9 := by
  refine wl_ind (P := X1_gather_P15 X a0 a1 a2) (Z := X1_gather_Z15 X a0 a1 a2) ?_ n9 s9 e9 hw hz
  intro s9 o9 hd hc he
  obtain ⟨M, x3⟩ := s9
  exact X1_gather_b15_w G hd hc he
abbrev X1_gather_P54 (X : Cx) (a0 : Nat) (a1 : Nat) : (Wo × Int32) → Prop := un2 (fun M x3 => Pt X 0 0 54 M [(0, .ref a0), (1, .ref a1), (3, .int x3)] [])
abbrev X1_gather_Z54 (X : Cx) (a0 : Nat) (a1 : Nat) : Wo → Prop := (un1 (fun M => Pt X 0 0 80 M [(0, .ref a0)] []))
def X1_gather_b54 (a0 : Nat) (a1 : Nat) (M : Wo) (x3 : Int32) : Option ((Wo × Int32) ⊕ Wo) :=
  (gI M a0 1 6).bind fun v23 => if v23 ≤ x3 then (some (.inr M)) else ((gR M a0 1 4).bind fun w25 => (X1_foesOf M a0 a1 x3).bind fun v28 => (sA M w25 x3 v28).bind fun M29 => some (.inl (M29, (x3 + 1))))
theorem X1_gather_b54_w {X : Cx} (G : Gd X yX1_gather cX1_gather wsX1_gather 4 none rX1_gather) {a0 : Nat} {a1 : Nat} {M : Wo} {x3 : Int32} {o : ((Wo × Int32) ⊕ Wo)} (hd : X1_gather_b54 a0 a1 M x3 = some o) (hc : ∀ s9, o = .inl s9 → X1_gather_P54 X a0 a1 s9) (he : ∀ e9, o = .inr e9 → X1_gather_Z54 X a0 a1 e9) : Pt X 0 0 54 M [(0, .ref a0), (1, .ref a1), (3, .int x3)] [] := by
  unfold X1_gather_b54 at hd
  refine pt_iload_n G 2 dX1_gather_54 rfl rfl ?_
  refine pt_aload_n G 0 dX1_gather_55 rfl rfl ?_
  obtain ⟨v23, h24, hd⟩ := bnd hd
  refine pt_get G (ci := 1) (j := 6) rfl (by decide) u_X1_gather_X1 m_X1_gather_2 (gI_o h24) dX1_gather_56 ?_
  refine pt_icmp_ge G 80 dX1_gather_59 (by decide) (fun c31 => ?_) (fun c31 => ?_)
  · replace hd := ifp c31 hd
    exact pt_sub [0] rfl (he M (Option.some.inj hd).symm)
  · replace hd := ifn c31 hd
    refine pt_aload_n G 0 dX1_gather_62 rfl rfl ?_
    obtain ⟨w25, h26, hd⟩ := bnd hd
    refine pt_get G (ci := 1) (j := 4) rfl (by decide) u_X1_gather_X1 m_X1_gather_5 (gR_o h26) dX1_gather_63 ?_
    refine pt_iload_n G 2 dX1_gather_66 rfl rfl ?_
    refine pt_aload_n G 0 dX1_gather_67 rfl rfl ?_
    refine pt_aload_n G 1 dX1_gather_68 rfl rfl ?_
    refine pt_iload_n G 2 dX1_gather_69 rfl rfl ?_
    obtain ⟨v28, h27, hd⟩ := bnd hd
    refine X1_foesOf_v G gX1_gather_X1_foesOf ⟨(Nat.le_of_ble_eq_true rfl), (Nat.le_of_ble_eq_true rfl)⟩ h27 dX1_gather_70 (Nat.le_of_ble_eq_true rfl) ⟨(Nat.le_of_ble_eq_true rfl), (Nat.le_of_ble_eq_true rfl)⟩ ?_
    obtain ⟨M29, h30, hd⟩ := bnd hd
    refine pt_iast G h30 dX1_gather_73 ?_
    refine pt_iinc G 2 (x3 + 1) [(3, .int (x3 + 1)), (0, .ref a0), (1, .ref a1)] dX1_gather_74 rfl (inc_1 _) (by decide) rfl ?_
    refine pt_goto G 54 dX1_gather_77 (by decide) ?_
    exact pt_sub [1, 2, 0] rfl (hc (M29, (x3 + 1)) (Option.some.inj hd).symm)
theorem X1_gather_w54_w {X : Cx} (G : Gd X yX1_gather cX1_gather wsX1_gather 4 none rX1_gather) {a0 : Nat} {a1 : Nat} (n9 : Nat) (s9 : (Wo × Int32)) (e9 : Wo) (hw : wloop (un2 (X1_gather_b54 a0 a1)) n9 s9 = some e9) (hz : X1_gather_Z54 X a0 a1 e9) : X1_gather_P54 X a0 a1 s9 := by
  refine wl_ind (P := X1_gather_P54 X a0 a1) (Z := X1_gather_Z54 X a0 a1) ?_ n9 s9 e9 hw hz
  intro s9 o9 hd hc he
  obtain ⟨M, x3⟩ := s9
  exact X1_gather_b54_w G hd hc he
abbrev X1_gather_P99 (X : Cx) (a0 : Nat) : (Wo × Int32) → Prop := un2 (fun M x3 => Pt X 0 0 99 M [(0, .ref a0), (3, .int x3)] [])
abbrev X1_gather_Z99 (X : Cx) (a0 : Nat) : Wo → Prop := (un1 (fun M => Pt X 0 0 133 M [] []))
def X1_gather_b99 (a0 : Nat) (M : Wo) (x3 : Int32) : Option ((Wo × Int32) ⊕ Wo) :=
  if x3 = 0 then ((gI M a0 1 0).bind fun v42 => (gI M a0 1 6).bind fun v44 => if v44 ≤ v42 then (some (.inr M)) else ((gI M a0 1 0).bind fun v46 => (pV M a0 1 0 (.int (v46 + (1 : Int32)))).bind fun M48 => (X1_giveFrom 14 M48 a0 (0 : Int32)).bind (un2 fun v51 M52 => some (.inl (M52, v51))))) else (some (.inr M))
theorem X1_gather_b99_w {X : Cx} (G : Gd X yX1_gather cX1_gather wsX1_gather 4 none rX1_gather) {a0 : Nat} {M : Wo} {x3 : Int32} {o : ((Wo × Int32) ⊕ Wo)} (hd : X1_gather_b99 a0 M x3 = some o) (hc : ∀ s9, o = .inl s9 → X1_gather_P99 X a0 s9) (he : ∀ e9, o = .inr e9 → X1_gather_Z99 X a0 e9) : Pt X 0 0 99 M [(0, .ref a0), (3, .int x3)] [] := by
  unfold X1_gather_b99 at hd
  refine pt_iload_n G 1 dX1_gather_99 rfl rfl ?_
  refine pt_if_ne G 133 dX1_gather_100 (by decide) (fun c54 => ?_) (fun c54 => ?_)
  · replace hd := ifn c54 hd
    exact pt_sub [] rfl (he M (Option.some.inj hd).symm)
  · replace hd := ifp c54 hd
    refine pt_aload_n G 0 dX1_gather_103 rfl rfl ?_
    obtain ⟨v42, h43, hd⟩ := bnd hd
    refine pt_get G (ci := 1) (j := 0) rfl (by decide) u_X1_gather_X1 m_X1_gather_7 (gI_o h43) dX1_gather_104 ?_
    refine pt_aload_n G 0 dX1_gather_107 rfl rfl ?_
    obtain ⟨v44, h45, hd⟩ := bnd hd
    refine pt_get G (ci := 1) (j := 6) rfl (by decide) u_X1_gather_X1 m_X1_gather_2 (gI_o h45) dX1_gather_108 ?_
    refine pt_icmp_ge G 133 dX1_gather_111 (by decide) (fun c53 => ?_) (fun c53 => ?_)
    · replace hd := ifp c53 hd
      exact pt_sub [] rfl (he M (Option.some.inj hd).symm)
    · replace hd := ifn c53 hd
      refine pt_aload_n G 0 dX1_gather_114 rfl rfl ?_
      refine pt_dup G dX1_gather_115 rfl ?_
      obtain ⟨v46, h47, hd⟩ := bnd hd
      refine pt_get G (ci := 1) (j := 0) rfl (by decide) u_X1_gather_X1 m_X1_gather_7 (gI_o h47) dX1_gather_116 ?_
      refine pt_iconst G (1 : Int32) dX1_gather_119 ci_1 ?_
      refine pt_iadd G dX1_gather_120 ?_
      obtain ⟨M48, h49, hd⟩ := bnd hd
      refine pt_put G (ci := 1) (j := 0) rfl (by decide) u_X1_gather_X1 m_X1_gather_7 tyX1 tyX1_ok nmX1 rfl rfl rfl h49 dX1_gather_121 ?_
      refine pt_aload_n G 0 dX1_gather_124 rfl rfl ?_
      refine pt_iconst G (0 : Int32) dX1_gather_125 ci_0 ?_
      obtain ⟨⟨v51, M52⟩, h50, hd⟩ := bnd hd
      replace hd := un2_e hd
      refine X1_giveFrom_v G gX1_gather_X1_giveFrom ⟨(Nat.le_of_ble_eq_true rfl), (Nat.le_of_ble_eq_true rfl)⟩ h50 dX1_gather_126 (Nat.le_of_ble_eq_true rfl) ⟨(Nat.le_of_ble_eq_true rfl), (Nat.le_of_ble_eq_true rfl)⟩ ?_
      refine pt_istore_n G [(3, .int v51), (0, .ref a0)] dX1_gather_129 rfl (by decide) rfl ?_
      refine pt_goto G 99 dX1_gather_130 (by decide) ?_
      exact pt_sub [1, 0] rfl (hc (M52, v51) (Option.some.inj hd).symm)
theorem X1_gather_w99_w {X : Cx} (G : Gd X yX1_gather cX1_gather wsX1_gather 4 none rX1_gather) {a0 : Nat} (n9 : Nat) (s9 : (Wo × Int32)) (e9 : Wo) (hw : wloop (un2 (X1_gather_b99 a0)) n9 s9 = some e9) (hz : X1_gather_Z99 X a0 e9) : X1_gather_P99 X a0 s9 := by
  refine wl_ind (P := X1_gather_P99 X a0) (Z := X1_gather_Z99 X a0) ?_ n9 s9 e9 hw hz
  intro s9 o9 hd hc he
  obtain ⟨M, x3⟩ := s9
  exact X1_gather_b99_w G hd hc he
def X1_gather (M : Wo) (a0 : Nat) (a1 : Nat) (a2 : Nat) : Option Wo :=
  (ckO M a0 1).bind fun _ => (gI M a1 6 2).bind fun v1 => (pV M a0 1 6 (.int v1)).bind fun M3 => (X2_traceAll M3 a2 a1).bind fun M6 => (wloop (un2 (X1_gather_b15 a0 a1 a2)) FU (M6, (0 : Int32))).bind fun M22 => (wloop (un2 (X1_gather_b54 a0 a1)) FU (M22, (0 : Int32))).bind fun M32 => (gR M32 a0 1 5).bind fun w33 => (J7_fill_53178 M32 w33 (0 : Int32)).bind fun M36 => (pV M36 a0 1 0 (.int (0 : Int32))).bind fun M37 => (X1_giveFrom 14 M37 a0 (0 : Int32)).bind (un2 fun v40 M41 => (wloop (un2 (X1_gather_b99 a0)) FU (M41, v40)).bind fun M55 => some M55)
theorem X1_gather_w {X : Cx} (G : Gd X yX1_gather cX1_gather wsX1_gather 4 none rX1_gather) {M : Wo} {a0 : Nat} {a1 : Nat} {a2 : Nat} {o : Wo} (hd : X1_gather M a0 a1 a2 = some o) (hQ : Qv X o 0 0) : Pt X 0 0 0 M [(0, .ref a0), (1, .ref a1), (2, .ref a2)] [] := by
  unfold X1_gather at hd
  obtain ⟨_, _, hd⟩ := bnd hd
  refine pt_aload_n G 0 dX1_gather_0 rfl rfl ?_
  refine pt_aload_n G 1 dX1_gather_1 rfl rfl ?_
  obtain ⟨v1, h2, hd⟩ := bnd hd
  refine pt_get G (ci := 6) (j := 2) rfl (by decide) u_X1_gather_X6 m_X1_gather_1 (gI_o h2) dX1_gather_2 ?_
  obtain ⟨M3, h4, hd⟩ := bnd hd
  refine pt_put G (ci := 1) (j := 6) rfl (by decide) u_X1_gather_X1 m_X1_gather_2 tyX1 tyX1_ok nmX1 rfl rfl rfl h4 dX1_gather_5 ?_
  refine pt_aload_n G 2 dX1_gather_8 rfl rfl ?_
  refine pt_aload_n G 1 dX1_gather_9 rfl rfl ?_
  obtain ⟨M6, h5, hd⟩ := bnd hd
  refine X2_traceAll_v G gX1_gather_X2_traceAll ⟨(Nat.le_of_ble_eq_true rfl), (Nat.le_of_ble_eq_true rfl)⟩ h5 dX1_gather_10 (Nat.le_of_ble_eq_true rfl) ⟨(Nat.le_of_ble_eq_true rfl), (Nat.le_of_ble_eq_true rfl)⟩ ?_
  refine pt_iconst G (0 : Int32) dX1_gather_13 ci_0 ?_
  refine pt_istore_n G [(3, .int (0 : Int32)), (0, .ref a0), (1, .ref a1), (2, .ref a2)] dX1_gather_14 rfl (by decide) rfl ?_
  obtain ⟨M22, hw58, hd⟩ := bnd hd
  refine pt_sub [1, 2, 3, 0] rfl (X1_gather_w15_w G _ _ _ hw58 ?_)
  show Pt X 0 0 _ _ _ []
  refine pt_iconst G (0 : Int32) dX1_gather_52 ci_0 ?_
  refine pt_istore_n G [(3, .int (0 : Int32)), (0, .ref a0), (1, .ref a1)] dX1_gather_53 rfl (by decide) rfl ?_
  obtain ⟨M32, hw57, hd⟩ := bnd hd
  refine pt_sub [1, 2, 0] rfl (X1_gather_w54_w G _ _ _ hw57 ?_)
  show Pt X 0 0 _ _ _ []
  refine pt_aload_n G 0 dX1_gather_80 rfl rfl ?_
  obtain ⟨w33, h34, hd⟩ := bnd hd
  refine pt_get G (ci := 1) (j := 5) rfl (by decide) u_X1_gather_X1 m_X1_gather_6 (gR_o h34) dX1_gather_81 ?_
  refine pt_iconst G (0 : Int32) dX1_gather_84 ci_0 ?_
  obtain ⟨M36, h35, hd⟩ := bnd hd
  refine J7_fill_53178_v G gX1_gather_J7_fill_53178 ⟨(Nat.le_of_ble_eq_true rfl), (Nat.le_of_ble_eq_true rfl)⟩ h35 dX1_gather_85 (Nat.le_of_ble_eq_true rfl) ⟨(Nat.le_of_ble_eq_true rfl), (Nat.le_of_ble_eq_true rfl)⟩ ?_
  refine pt_aload_n G 0 dX1_gather_88 rfl rfl ?_
  refine pt_iconst G (0 : Int32) dX1_gather_89 ci_0 ?_
  obtain ⟨M37, h38, hd⟩ := bnd hd
  refine pt_put G (ci := 1) (j := 0) rfl (by decide) u_X1_gather_X1 m_X1_gather_7 tyX1 tyX1_ok nmX1 rfl rfl rfl h38 dX1_gather_90 ?_
  refine pt_aload_n G 0 dX1_gather_93 rfl rfl ?_
  refine pt_iconst G (0 : Int32) dX1_gather_94 ci_0 ?_
  obtain ⟨⟨v40, M41⟩, h39, hd⟩ := bnd hd
  replace hd := un2_e hd
  refine X1_giveFrom_v G gX1_gather_X1_giveFrom ⟨(Nat.le_of_ble_eq_true rfl), (Nat.le_of_ble_eq_true rfl)⟩ h39 dX1_gather_95 (Nat.le_of_ble_eq_true rfl) ⟨(Nat.le_of_ble_eq_true rfl), (Nat.le_of_ble_eq_true rfl)⟩ ?_
  refine pt_istore_n G [(3, .int v40), (0, .ref a0)] dX1_gather_98 rfl (by decide) rfl ?_
  obtain ⟨M55, hw56, hd⟩ := bnd hd
  refine pt_sub [1, 0] rfl (X1_gather_w99_w G _ _ _ hw56 ?_)
  show Pt X 0 0 _ _ _ []
  cases hd
  exact pt_vret G hQ dX1_gather_133
theorem X1_gather_c {l : Launch} {D : va_G} {dA : Nat → ClassId} {b : Nat} {M : Wo} {a0 : Nat} {a1 : Nat} {a2 : Nat} {M2 : Wo} (h : X1_gather M a0 a1 a2 = some M2) : Met l yX1_gather wsX1_gather rX1_gather (va_Pc [.ref a0, .ref a1, .ref a2] (Wd D dA b M)) (Ev D dA b M2) 0 0 (Ab b) := met_v (by decide) rfl (Nat.le_of_ble_eq_true rfl) (fun X G hN hQ => X1_gather_w G h hQ)
theorem X1_gather_v {X : Cx} {y : MethodName} {cc : ByteArray} {Ts : List Cond} {nL : Nat} {ret : Option FieldType} {R : Room} (G : Gd X y cc Ts nL ret R) {index : Nat} (hg : GoodIn Ts (wsV y.cls index RX1 yX1_gather wsX1_gather)) (hR : rX1_gather.frames + 1 ≤ R.frames ∧ 8 + (4 + 11) + rX1_gather.locals ≤ R.locals) {k n pc : Nat} {M : Wo} {lv : List (Nat × Value)} {st : List Value} {a0 : Nat} {a1 : Nat} {a2 : Nat} {M2 : Wo} (hv : X1_gather M a0 a1 a2 = some M2) (hd : decode cc pc = .ok (.invokevirtual index, 3)) (h8 : (st.map fun v => v.category).sum ≤ 8) (hf : k ≤ R.cells ∧ n ≤ R.slots) (kk : Pt X k n (pc + 3) M2 lv st) : Pt X k n pc M lv (.ref a2 :: .ref a1 :: .ref a0 :: st) := pt_cVv (ci := 1) (nA := 2) (As := [.ref a1, .ref a2]) G (X1_gather_c hv) hg rfl rfl rfl (by decide +kernel) hR rfl (rcv hv) rfl rfl h8 hd hf kk
abbrev rX1_doableCount : Room := { frames := 0, cells := 0, slots := 0, locals := 0 }
theorem m_X1_doableCount_2 : Cond.fieldLink RX1 19 "StageLines$CrewFinder" "doable" "[Z" ∈ wsX1_doableCount := List.mem_of_getElem? (i := 2) rfl
theorem u_X1_doableCount_X1 : ∀ w ∈ u_ws RX1 TX1 7, w ∈ wsX1_doableCount := mem_r [3, 4, 5, 6, 7, 8, 9] (by decide +kernel)
theorem m_X1_doableCount_1 : Cond.fieldLink RX1 32 "StageLines$CrewFinder" "size" "I" ∈ wsX1_doableCount := List.mem_of_getElem? (i := 1) rfl
abbrev X1_doableCount_P4 (X : Cx) (M : Wo) (a0 : Nat) : (Int32 × Int32) → Prop := un2 (fun x1 x2 => Pt X 0 0 4 M [(0, .ref a0), (1, .int x1), (2, .int x2)] [])
abbrev X1_doableCount_Z4 (X : Cx) (M : Wo) (a0 : Nat) : Int32 → Prop := (un1 (fun x1 => Pt X 0 0 30 M [(1, .int x1)] []))
def X1_doableCount_b4 (M : Wo) (a0 : Nat) (x1 : Int32) (x2 : Int32) : Option ((Int32 × Int32) ⊕ Int32) :=
  (gI M a0 1 6).bind fun v1 => if v1 ≤ x2 then (some (.inr x1)) else ((gR M a0 1 2).bind fun w3 => (lA M 1 w3 x2).bind fun v5 => if v5 = 0 then (some (.inl (x1, (x2 + 1)))) else (some (.inl ((x1 + 1), (x2 + 1)))))
theorem X1_doableCount_b4_w {X : Cx} (G : Gd X yX1_doableCount cX1_doableCount wsX1_doableCount 3 (some .int) rX1_doableCount) {M : Wo} {a0 : Nat} {x1 : Int32} {x2 : Int32} {o : ((Int32 × Int32) ⊕ Int32)} (hd : X1_doableCount_b4 M a0 x1 x2 = some o) (hc : ∀ s9, o = .inl s9 → X1_doableCount_P4 X M a0 s9) (he : ∀ e9, o = .inr e9 → X1_doableCount_Z4 X M a0 e9) : Pt X 0 0 4 M [(0, .ref a0), (1, .int x1), (2, .int x2)] [] := by
  unfold X1_doableCount_b4 at hd
  refine pt_iload_n G 2 dX1_doableCount_4 rfl rfl ?_
  refine pt_aload_n G 0 dX1_doableCount_5 rfl rfl ?_
  obtain ⟨v1, h2, hd⟩ := bnd hd
  refine pt_get G (ci := 1) (j := 6) rfl (by decide) u_X1_doableCount_X1 m_X1_doableCount_1 (gI_o h2) dX1_doableCount_6 ?_
  refine pt_icmp_ge G 30 dX1_doableCount_9 (by decide) (fun c8 => ?_) (fun c8 => ?_)
  · replace hd := ifp c8 hd
    exact pt_sub [1] rfl (he x1 (Option.some.inj hd).symm)
  · replace hd := ifn c8 hd
    refine pt_aload_n G 0 dX1_doableCount_12 rfl rfl ?_
    obtain ⟨w3, h4, hd⟩ := bnd hd
    refine pt_get G (ci := 1) (j := 2) rfl (by decide) u_X1_doableCount_X1 m_X1_doableCount_2 (gR_o h4) dX1_doableCount_13 ?_
    refine pt_iload_n G 2 dX1_doableCount_16 rfl rfl ?_
    obtain ⟨v5, h6, hd⟩ := bnd hd
    refine pt_zald G h6 dX1_doableCount_17 ?_
    refine pt_if_eq G 24 dX1_doableCount_18 (by decide) (fun c7 => ?_) (fun c7 => ?_)
    · replace hd := ifp c7 hd
      refine pt_iinc G 2 (x2 + 1) [(2, .int (x2 + 1)), (0, .ref a0), (1, .int x1)] dX1_doableCount_24 rfl (inc_1 _) (by decide) rfl ?_
      refine pt_goto G 4 dX1_doableCount_27 (by decide) ?_
      exact pt_sub [1, 2, 0] rfl (hc (x1, (x2 + 1)) (Option.some.inj hd).symm)
    · replace hd := ifn c7 hd
      refine pt_iinc G 1 (x1 + 1) [(1, .int (x1 + 1)), (0, .ref a0), (2, .int x2)] dX1_doableCount_21 rfl (inc_1 _) (by decide) rfl ?_
      refine pt_iinc G 2 (x2 + 1) [(2, .int (x2 + 1)), (1, .int (x1 + 1)), (0, .ref a0)] dX1_doableCount_24 rfl (inc_1 _) (by decide) rfl ?_
      refine pt_goto G 4 dX1_doableCount_27 (by decide) ?_
      exact pt_sub [2, 1, 0] rfl (hc ((x1 + 1), (x2 + 1)) (Option.some.inj hd).symm)
theorem X1_doableCount_w4_w {X : Cx} (G : Gd X yX1_doableCount cX1_doableCount wsX1_doableCount 3 (some .int) rX1_doableCount) {M : Wo} {a0 : Nat} (n9 : Nat) (s9 : (Int32 × Int32)) (e9 : Int32) (hw : wloop (un2 (X1_doableCount_b4 M a0)) n9 s9 = some e9) (hz : X1_doableCount_Z4 X M a0 e9) : X1_doableCount_P4 X M a0 s9 := by
  refine wl_ind (P := X1_doableCount_P4 X M a0) (Z := X1_doableCount_Z4 X M a0) ?_ n9 s9 e9 hw hz
  intro s9 o9 hd hc he
  obtain ⟨x1, x2⟩ := s9
  exact X1_doableCount_b4_w G hd hc he
def X1_doableCount (M : Wo) (a0 : Nat) : Option Int32 :=
  (ckO M a0 1).bind fun _ => (wloop (un2 (X1_doableCount_b4 M a0)) FU ((0 : Int32), (0 : Int32))).bind fun v9 => some v9
theorem X1_doableCount_w {X : Cx} (G : Gd X yX1_doableCount cX1_doableCount wsX1_doableCount 3 (some .int) rX1_doableCount) {M : Wo} {a0 : Nat} {o : Int32} (hd : X1_doableCount M a0 = some o) (hQ : Qi X o M 0 0) : Pt X 0 0 0 M [(0, .ref a0)] [] := by
  unfold X1_doableCount at hd
  obtain ⟨_, _, hd⟩ := bnd hd
  refine pt_iconst G (0 : Int32) dX1_doableCount_0 ci_0 ?_
  refine pt_istore_n G [(1, .int (0 : Int32)), (0, .ref a0)] dX1_doableCount_1 rfl (by decide) rfl ?_
  refine pt_iconst G (0 : Int32) dX1_doableCount_2 ci_0 ?_
  refine pt_istore_n G [(2, .int (0 : Int32)), (1, .int (0 : Int32)), (0, .ref a0)] dX1_doableCount_3 rfl (by decide) rfl ?_
  obtain ⟨v9, hw10, hd⟩ := bnd hd
  refine pt_sub [2, 1, 0] rfl (X1_doableCount_w4_w G _ _ _ hw10 ?_)
  show Pt X 0 0 _ _ _ []
  refine pt_iload_n G 0 dX1_doableCount_30 rfl rfl ?_
  cases hd
  exact pt_iret G hQ dX1_doableCount_31
theorem X1_doableCount_c {l : Launch} {D : va_G} {dA : Nat → ClassId} {b : Nat} {M : Wo} {a0 : Nat} {r : Int32} (h : X1_doableCount M a0 = some r) : Met l yX1_doableCount wsX1_doableCount rX1_doableCount (va_Pc [.ref a0] (Wd D dA b M)) (Ei D dA b r M) 0 0 (Ab b) := met_i (by decide) rfl (Nat.le_of_ble_eq_true rfl) (fun X G hN hQ => X1_doableCount_w G h hQ)
theorem X1_doableCount_v {X : Cx} {y : MethodName} {cc : ByteArray} {Ts : List Cond} {nL : Nat} {ret : Option FieldType} {R : Room} (G : Gd X y cc Ts nL ret R) {index : Nat} (hg : GoodIn Ts (wsV y.cls index RX1 yX1_doableCount wsX1_doableCount)) (hR : rX1_doableCount.frames + 1 ≤ R.frames ∧ 8 + (3 + 11) + rX1_doableCount.locals ≤ R.locals) {k n pc : Nat} {M : Wo} {lv : List (Nat × Value)} {st : List Value} {a0 : Nat} {r : Int32} (hv : X1_doableCount M a0 = some r) (hd : decode cc pc = .ok (.invokevirtual index, 3)) (h8 : (st.map fun v => v.category).sum ≤ 8) (hf : k ≤ R.cells ∧ n ≤ R.slots) (kk : Pt X k n (pc + 3) M lv (.int r :: st)) : Pt X k n pc M lv (.ref a0 :: st) := pt_cVi (ci := 1) (nA := 0) (As := []) G (X1_doableCount_c hv) hg rfl rfl rfl (by decide +kernel) hR rfl (rcv hv) rfl rfl h8 hd hf kk
abbrev rX1_doneAt : Room := { frames := 0, cells := 0, slots := 0, locals := 0 }
theorem m_X1_doneAt_5 : Cond.fieldLink RX1 23 "StageLines$CrewFinder" "ends" "[I" ∈ wsX1_doneAt := List.mem_of_getElem? (i := 5) rfl
theorem u_X1_doneAt_X1 : ∀ w ∈ u_ws RX1 TX1 7, w ∈ wsX1_doneAt := mem_r [6, 7, 8, 9, 10, 11, 12] (by decide +kernel)
theorem m_X1_doneAt_4 : Cond.fieldLink RX1 70 "StageLines$Move" "begin" "I" ∈ wsX1_doneAt := List.mem_of_getElem? (i := 4) rfl
theorem u_X1_doneAt_X4 : ∀ w ∈ u_ws RX4 TX4 4, w ∈ wsX1_doneAt := mem_r [17, 18, 19, 20] (by decide +kernel)
theorem m_X1_doneAt_3 : Cond.fieldLink RX1 66 "StageLines$Stage" "moves" "[LStageLines$Move;" ∈ wsX1_doneAt := List.mem_of_getElem? (i := 3) rfl
theorem u_X1_doneAt_X6 : ∀ w ∈ u_ws RX6 TX6 4, w ∈ wsX1_doneAt := mem_r [13, 14, 15, 16] (by decide +kernel)
theorem m_X1_doneAt_2 : Cond.fieldLink RX1 19 "StageLines$CrewFinder" "doable" "[Z" ∈ wsX1_doneAt := List.mem_of_getElem? (i := 2) rfl
theorem m_X1_doneAt_1 : Cond.fieldLink RX1 32 "StageLines$CrewFinder" "size" "I" ∈ wsX1_doneAt := List.mem_of_getElem? (i := 1) rfl
abbrev X1_doneAt_P5 (X : Cx) (M : Wo) (a0 : Nat) (a1 : Nat) (x2 : Int32) : (Int32 × Int32) → Prop := un2 (fun x3 x4 => Pt X 0 0 5 M [(0, .ref a0), (1, .ref a1), (2, .int x2), (3, .int x3), (4, .int x4)] [])
abbrev X1_doneAt_Z5 (X : Cx) (M : Wo) (a0 : Nat) (a1 : Nat) (x2 : Int32) : Int32 → Prop := (un1 (fun x3 => Pt X 0 0 58 M [(3, .int x3)] []))
def X1_doneAt_b5 (M : Wo) (a0 : Nat) (a1 : Nat) (x2 : Int32) (x3 : Int32) (x4 : Int32) : Option ((Int32 × Int32) ⊕ Int32) :=
  (gI M a0 1 6).bind fun v1 => if v1 ≤ x4 then (some (.inr x3)) else ((gR M a0 1 2).bind fun w3 => (lA M 1 w3 x4).bind fun v5 => if v5 = 0 then (some (.inl (x3, (x4 + 1)))) else ((gR M a1 6 1).bind fun w7 => (lR M 3 w7 x4).bind fun w9 => (gI M w9 4 1).bind fun v11 => if x2 < v11 then (some (.inl (x3, (x4 + 1)))) else ((gR M a0 1 3).bind fun w13 => (lA M 0 w13 x4).bind fun v15 => if v15 ≤ x2 then (some (.inl (x3, (x4 + 1)))) else (some (.inl ((x3 + 1), (x4 + 1)))))))
theorem X1_doneAt_b5_w {X : Cx} (G : Gd X yX1_doneAt cX1_doneAt wsX1_doneAt 5 (some .int) rX1_doneAt) {M : Wo} {a0 : Nat} {a1 : Nat} {x2 : Int32} {x3 : Int32} {x4 : Int32} {o : ((Int32 × Int32) ⊕ Int32)} (hd : X1_doneAt_b5 M a0 a1 x2 x3 x4 = some o) (hc : ∀ s9, o = .inl s9 → X1_doneAt_P5 X M a0 a1 x2 s9) (he : ∀ e9, o = .inr e9 → X1_doneAt_Z5 X M a0 a1 x2 e9) : Pt X 0 0 5 M [(0, .ref a0), (1, .ref a1), (2, .int x2), (3, .int x3), (4, .int x4)] [] := by
  unfold X1_doneAt_b5 at hd
  refine pt_iload G 4 dX1_doneAt_5 rfl ?_
  refine pt_aload_n G 0 dX1_doneAt_7 rfl rfl ?_
  obtain ⟨v1, h2, hd⟩ := bnd hd
  refine pt_get G (ci := 1) (j := 6) rfl (by decide) u_X1_doneAt_X1 m_X1_doneAt_1 (gI_o h2) dX1_doneAt_8 ?_
  refine pt_icmp_ge G 58 dX1_doneAt_11 (by decide) (fun c20 => ?_) (fun c20 => ?_)
  · replace hd := ifp c20 hd
    exact pt_sub [3] rfl (he x3 (Option.some.inj hd).symm)
  · replace hd := ifn c20 hd
    refine pt_aload_n G 0 dX1_doneAt_14 rfl rfl ?_
    obtain ⟨w3, h4, hd⟩ := bnd hd
    refine pt_get G (ci := 1) (j := 2) rfl (by decide) u_X1_doneAt_X1 m_X1_doneAt_2 (gR_o h4) dX1_doneAt_15 ?_
    refine pt_iload G 4 dX1_doneAt_18 rfl ?_
    obtain ⟨v5, h6, hd⟩ := bnd hd
    refine pt_zald G h6 dX1_doneAt_20 ?_
    refine pt_if_eq G 52 dX1_doneAt_21 (by decide) (fun c19 => ?_) (fun c19 => ?_)
    · replace hd := ifp c19 hd
      refine pt_iinc G 4 (x4 + 1) [(4, .int (x4 + 1)), (0, .ref a0), (1, .ref a1), (2, .int x2), (3, .int x3)] dX1_doneAt_52 rfl (inc_1 _) (by decide) rfl ?_
      refine pt_goto G 5 dX1_doneAt_55 (by decide) ?_
      exact pt_sub [1, 2, 3, 4, 0] rfl (hc (x3, (x4 + 1)) (Option.some.inj hd).symm)
    · replace hd := ifn c19 hd
      refine pt_aload_n G 1 dX1_doneAt_24 rfl rfl ?_
      obtain ⟨w7, h8, hd⟩ := bnd hd
      refine pt_get G (ci := 6) (j := 1) rfl (by decide) u_X1_doneAt_X6 m_X1_doneAt_3 (gR_o h8) dX1_doneAt_25 ?_
      refine pt_iload G 4 dX1_doneAt_28 rfl ?_
      obtain ⟨w9, h10, hd⟩ := bnd hd
      refine pt_aald G (kd := 3) rfl rfl h10 dX1_doneAt_30 ?_
      obtain ⟨v11, h12, hd⟩ := bnd hd
      refine pt_get G (ci := 4) (j := 1) rfl (by decide) u_X1_doneAt_X4 m_X1_doneAt_4 (gI_o h12) dX1_doneAt_31 ?_
      refine pt_iload_n G 2 dX1_doneAt_34 rfl rfl ?_
      refine pt_icmp_gt G 52 dX1_doneAt_35 (by decide) (fun c18 => ?_) (fun c18 => ?_)
      · replace hd := ifp c18 hd
        refine pt_iinc G 4 (x4 + 1) [(4, .int (x4 + 1)), (0, .ref a0), (1, .ref a1), (2, .int x2), (3, .int x3)] dX1_doneAt_52 rfl (inc_1 _) (by decide) rfl ?_
        refine pt_goto G 5 dX1_doneAt_55 (by decide) ?_
        exact pt_sub [1, 2, 3, 4, 0] rfl (hc (x3, (x4 + 1)) (Option.some.inj hd).symm)
      · replace hd := ifn c18 hd
        refine pt_aload_n G 0 dX1_doneAt_38 rfl rfl ?_
        obtain ⟨w13, h14, hd⟩ := bnd hd
        refine pt_get G (ci := 1) (j := 3) rfl (by decide) u_X1_doneAt_X1 m_X1_doneAt_5 (gR_o h14) dX1_doneAt_39 ?_
        refine pt_iload G 4 dX1_doneAt_42 rfl ?_
        obtain ⟨v15, h16, hd⟩ := bnd hd
        refine pt_iald G h16 dX1_doneAt_44 ?_
        refine pt_iload_n G 2 dX1_doneAt_45 rfl rfl ?_
        refine pt_icmp_le G 52 dX1_doneAt_46 (by decide) (fun c17 => ?_) (fun c17 => ?_)
        · replace hd := ifp c17 hd
          refine pt_iinc G 4 (x4 + 1) [(4, .int (x4 + 1)), (0, .ref a0), (1, .ref a1), (2, .int x2), (3, .int x3)] dX1_doneAt_52 rfl (inc_1 _) (by decide) rfl ?_
          refine pt_goto G 5 dX1_doneAt_55 (by decide) ?_
          exact pt_sub [1, 2, 3, 4, 0] rfl (hc (x3, (x4 + 1)) (Option.some.inj hd).symm)
        · replace hd := ifn c17 hd
          refine pt_iinc G 3 (x3 + 1) [(3, .int (x3 + 1)), (0, .ref a0), (1, .ref a1), (2, .int x2), (4, .int x4)] dX1_doneAt_49 rfl (inc_1 _) (by decide) rfl ?_
          refine pt_iinc G 4 (x4 + 1) [(4, .int (x4 + 1)), (3, .int (x3 + 1)), (0, .ref a0), (1, .ref a1), (2, .int x2)] dX1_doneAt_52 rfl (inc_1 _) (by decide) rfl ?_
          refine pt_goto G 5 dX1_doneAt_55 (by decide) ?_
          exact pt_sub [2, 3, 4, 1, 0] rfl (hc ((x3 + 1), (x4 + 1)) (Option.some.inj hd).symm)
theorem X1_doneAt_w5_w {X : Cx} (G : Gd X yX1_doneAt cX1_doneAt wsX1_doneAt 5 (some .int) rX1_doneAt) {M : Wo} {a0 : Nat} {a1 : Nat} {x2 : Int32} (n9 : Nat) (s9 : (Int32 × Int32)) (e9 : Int32) (hw : wloop (un2 (X1_doneAt_b5 M a0 a1 x2)) n9 s9 = some e9) (hz : X1_doneAt_Z5 X M a0 a1 x2 e9) : X1_doneAt_P5 X M a0 a1 x2 s9 := by
  refine wl_ind (P := X1_doneAt_P5 X M a0 a1 x2) (Z := X1_doneAt_Z5 X M a0 a1 x2) ?_ n9 s9 e9 hw hz
  intro s9 o9 hd hc he
  obtain ⟨x3, x4⟩ := s9
  exact X1_doneAt_b5_w G hd hc he
def X1_doneAt (M : Wo) (a0 : Nat) (a1 : Nat) (x2 : Int32) : Option Int32 :=
  (ckO M a0 1).bind fun _ => (wloop (un2 (X1_doneAt_b5 M a0 a1 x2)) FU ((0 : Int32), (0 : Int32))).bind fun v21 => some v21
theorem X1_doneAt_w {X : Cx} (G : Gd X yX1_doneAt cX1_doneAt wsX1_doneAt 5 (some .int) rX1_doneAt) {M : Wo} {a0 : Nat} {a1 : Nat} {x2 : Int32} {o : Int32} (hd : X1_doneAt M a0 a1 x2 = some o) (hQ : Qi X o M 0 0) : Pt X 0 0 0 M [(0, .ref a0), (1, .ref a1), (2, .int x2)] [] := by
  unfold X1_doneAt at hd
  obtain ⟨_, _, hd⟩ := bnd hd
  refine pt_iconst G (0 : Int32) dX1_doneAt_0 ci_0 ?_
  refine pt_istore_n G [(3, .int (0 : Int32)), (0, .ref a0), (1, .ref a1), (2, .int x2)] dX1_doneAt_1 rfl (by decide) rfl ?_
  refine pt_iconst G (0 : Int32) dX1_doneAt_2 ci_0 ?_
  refine pt_istore G [(4, .int (0 : Int32)), (3, .int (0 : Int32)), (0, .ref a0), (1, .ref a1), (2, .int x2)] dX1_doneAt_3 (by decide) rfl ?_
  obtain ⟨v21, hw22, hd⟩ := bnd hd
  refine pt_sub [2, 3, 4, 1, 0] rfl (X1_doneAt_w5_w G _ _ _ hw22 ?_)
  show Pt X 0 0 _ _ _ []
  refine pt_iload_n G 0 dX1_doneAt_58 rfl rfl ?_
  cases hd
  exact pt_iret G hQ dX1_doneAt_59
theorem X1_doneAt_c {l : Launch} {D : va_G} {dA : Nat → ClassId} {b : Nat} {M : Wo} {a0 : Nat} {a1 : Nat} {x2 : Int32} {r : Int32} (h : X1_doneAt M a0 a1 x2 = some r) : Met l yX1_doneAt wsX1_doneAt rX1_doneAt (va_Pc [.ref a0, .ref a1, .int x2] (Wd D dA b M)) (Ei D dA b r M) 0 0 (Ab b) := met_i (by decide) rfl (Nat.le_of_ble_eq_true rfl) (fun X G hN hQ => X1_doneAt_w G h hQ)
theorem X1_doneAt_v {X : Cx} {y : MethodName} {cc : ByteArray} {Ts : List Cond} {nL : Nat} {ret : Option FieldType} {R : Room} (G : Gd X y cc Ts nL ret R) {index : Nat} (hg : GoodIn Ts (wsV y.cls index RX1 yX1_doneAt wsX1_doneAt)) (hR : rX1_doneAt.frames + 1 ≤ R.frames ∧ 8 + (5 + 11) + rX1_doneAt.locals ≤ R.locals) {k n pc : Nat} {M : Wo} {lv : List (Nat × Value)} {st : List Value} {a0 : Nat} {a1 : Nat} {x2 : Int32} {r : Int32} (hv : X1_doneAt M a0 a1 x2 = some r) (hd : decode cc pc = .ok (.invokevirtual index, 3)) (h8 : (st.map fun v => v.category).sum ≤ 8) (hf : k ≤ R.cells ∧ n ≤ R.slots) (kk : Pt X k n (pc + 3) M lv (.int r :: st)) : Pt X k n pc M lv (.int x2 :: .ref a1 :: .ref a0 :: st) := pt_cVi (ci := 1) (nA := 2) (As := [.ref a1, .int x2]) G (X1_doneAt_c hv) hg rfl rfl rfl (by decide +kernel) hR rfl (rcv hv) rfl rfl h8 hd hf kk
abbrev rX1_mostAtOnce : Room := { frames := 1, cells := 0, slots := 0, locals := 60 }
theorem m_X1_mostAtOnce_4 : Cond.methodLink RX1 78 Lib.Math.max.name ∈ wsX1_mostAtOnce := List.mem_of_getElem? (i := 4) rfl
theorem m_X1_mostAtOnce_5 : Cond.static Lib.Math.max.name ∈ wsX1_mostAtOnce := List.mem_of_getElem? (i := 5) rfl
theorem m_X1_mostAtOnce_6 : Cond.initialized "java/lang/Math" ∈ wsX1_mostAtOnce := List.mem_of_getElem? (i := 6) rfl
theorem m_X1_mostAtOnce_7 : Cond.code Lib.Math.max.name Lib.Math.max.code 2 (some .int) ∈ wsX1_mostAtOnce := List.mem_of_getElem? (i := 7) rfl
theorem m_X1_mostAtOnce_3 : Cond.fieldLink RX1 70 "StageLines$Move" "begin" "I" ∈ wsX1_mostAtOnce := List.mem_of_getElem? (i := 3) rfl
theorem u_X1_mostAtOnce_X4 : ∀ w ∈ u_ws RX4 TX4 4, w ∈ wsX1_mostAtOnce := mem_r [26, 27, 28, 29] (by decide +kernel)
theorem m_X1_mostAtOnce_2 : Cond.fieldLink RX1 66 "StageLines$Stage" "moves" "[LStageLines$Move;" ∈ wsX1_mostAtOnce := List.mem_of_getElem? (i := 2) rfl
theorem u_X1_mostAtOnce_X6 : ∀ w ∈ u_ws RX6 TX6 4, w ∈ wsX1_mostAtOnce := mem_r [22, 23, 24, 25] (by decide +kernel)
theorem m_X1_mostAtOnce_1 : Cond.fieldLink RX1 32 "StageLines$CrewFinder" "size" "I" ∈ wsX1_mostAtOnce := List.mem_of_getElem? (i := 1) rfl
theorem u_X1_mostAtOnce_X1 : ∀ w ∈ u_ws RX1 TX1 7, w ∈ wsX1_mostAtOnce := mem_r [15, 16, 17, 18, 19, 20, 21] (by decide +kernel)
abbrev X1_mostAtOnce_P4 (X : Cx) (M : Wo) (a0 : Nat) (a1 : Nat) : (Int32 × Int32) → Prop := un2 (fun x2 x3 => Pt X 0 0 4 M [(0, .ref a0), (1, .ref a1), (2, .int x2), (3, .int x3)] [])
abbrev X1_mostAtOnce_Z4 (X : Cx) (M : Wo) (a0 : Nat) (a1 : Nat) : Int32 → Prop := (un1 (fun x2 => Pt X 0 0 37 M [(2, .int x2)] []))
def X1_mostAtOnce_b4 (M : Wo) (a0 : Nat) (a1 : Nat) (x2 : Int32) (x3 : Int32) : Option ((Int32 × Int32) ⊕ Int32) :=
  (gI M a0 1 6).bind fun v1 => if v1 ≤ x3 then (some (.inr x2)) else ((gR M a1 6 1).bind fun w3 => (lR M 3 w3 x3).bind fun w5 => (gI M w5 4 1).bind fun v7 => (X1_doneAt M a0 a1 v7).bind fun v10 => some (.inl ((iMax x2 v10), (x3 + 1))))
theorem X1_mostAtOnce_b4_w {X : Cx} (G : Gd X yX1_mostAtOnce cX1_mostAtOnce wsX1_mostAtOnce 4 (some .int) rX1_mostAtOnce) {M : Wo} {a0 : Nat} {a1 : Nat} {x2 : Int32} {x3 : Int32} {o : ((Int32 × Int32) ⊕ Int32)} (hd : X1_mostAtOnce_b4 M a0 a1 x2 x3 = some o) (hc : ∀ s9, o = .inl s9 → X1_mostAtOnce_P4 X M a0 a1 s9) (he : ∀ e9, o = .inr e9 → X1_mostAtOnce_Z4 X M a0 a1 e9) : Pt X 0 0 4 M [(0, .ref a0), (1, .ref a1), (2, .int x2), (3, .int x3)] [] := by
  unfold X1_mostAtOnce_b4 at hd
  refine pt_iload_n G 3 dX1_mostAtOnce_4 rfl rfl ?_
  refine pt_aload_n G 0 dX1_mostAtOnce_5 rfl rfl ?_
  obtain ⟨v1, h2, hd⟩ := bnd hd
  refine pt_get G (ci := 1) (j := 6) rfl (by decide) u_X1_mostAtOnce_X1 m_X1_mostAtOnce_1 (gI_o h2) dX1_mostAtOnce_6 ?_
  refine pt_icmp_ge G 37 dX1_mostAtOnce_9 (by decide) (fun c11 => ?_) (fun c11 => ?_)
  · replace hd := ifp c11 hd
    exact pt_sub [2] rfl (he x2 (Option.some.inj hd).symm)
  · replace hd := ifn c11 hd
    refine pt_iload_n G 2 dX1_mostAtOnce_12 rfl rfl ?_
    refine pt_aload_n G 0 dX1_mostAtOnce_13 rfl rfl ?_
    refine pt_aload_n G 1 dX1_mostAtOnce_14 rfl rfl ?_
    refine pt_aload_n G 1 dX1_mostAtOnce_15 rfl rfl ?_
    obtain ⟨w3, h4, hd⟩ := bnd hd
    refine pt_get G (ci := 6) (j := 1) rfl (by decide) u_X1_mostAtOnce_X6 m_X1_mostAtOnce_2 (gR_o h4) dX1_mostAtOnce_16 ?_
    refine pt_iload_n G 3 dX1_mostAtOnce_19 rfl rfl ?_
    obtain ⟨w5, h6, hd⟩ := bnd hd
    refine pt_aald G (kd := 3) rfl rfl h6 dX1_mostAtOnce_20 ?_
    obtain ⟨v7, h8, hd⟩ := bnd hd
    refine pt_get G (ci := 4) (j := 1) rfl (by decide) u_X1_mostAtOnce_X4 m_X1_mostAtOnce_3 (gI_o h8) dX1_mostAtOnce_21 ?_
    obtain ⟨v10, h9, hd⟩ := bnd hd
    refine X1_doneAt_v G gX1_mostAtOnce_X1_doneAt ⟨(Nat.le_of_ble_eq_true rfl), (Nat.le_of_ble_eq_true rfl)⟩ h9 dX1_mostAtOnce_24 (Nat.le_of_ble_eq_true rfl) ⟨(Nat.le_of_ble_eq_true rfl), (Nat.le_of_ble_eq_true rfl)⟩ ?_
    refine pt_mmax G m_X1_mostAtOnce_4 m_X1_mostAtOnce_5 m_X1_mostAtOnce_6 m_X1_mostAtOnce_7 (Nat.le_of_ble_eq_true rfl) (Nat.le_of_ble_eq_true rfl) ⟨(Nat.le_of_ble_eq_true rfl), (Nat.le_of_ble_eq_true rfl)⟩ dX1_mostAtOnce_27 ?_
    refine pt_istore_n G [(2, .int (iMax x2 v10)), (0, .ref a0), (1, .ref a1), (3, .int x3)] dX1_mostAtOnce_30 rfl (by decide) rfl ?_
    refine pt_iinc G 3 (x3 + 1) [(3, .int (x3 + 1)), (2, .int (iMax x2 v10)), (0, .ref a0), (1, .ref a1)] dX1_mostAtOnce_31 rfl (inc_1 _) (by decide) rfl ?_
    refine pt_goto G 4 dX1_mostAtOnce_34 (by decide) ?_
    exact pt_sub [2, 3, 1, 0] rfl (hc ((iMax x2 v10), (x3 + 1)) (Option.some.inj hd).symm)
theorem X1_mostAtOnce_w4_w {X : Cx} (G : Gd X yX1_mostAtOnce cX1_mostAtOnce wsX1_mostAtOnce 4 (some .int) rX1_mostAtOnce) {M : Wo} {a0 : Nat} {a1 : Nat} (n9 : Nat) (s9 : (Int32 × Int32)) (e9 : Int32) (hw : wloop (un2 (X1_mostAtOnce_b4 M a0 a1)) n9 s9 = some e9) (hz : X1_mostAtOnce_Z4 X M a0 a1 e9) : X1_mostAtOnce_P4 X M a0 a1 s9 := by
  refine wl_ind (P := X1_mostAtOnce_P4 X M a0 a1) (Z := X1_mostAtOnce_Z4 X M a0 a1) ?_ n9 s9 e9 hw hz
  intro s9 o9 hd hc he
  obtain ⟨x2, x3⟩ := s9
  exact X1_mostAtOnce_b4_w G hd hc he
def X1_mostAtOnce (M : Wo) (a0 : Nat) (a1 : Nat) : Option Int32 :=
  (ckO M a0 1).bind fun _ => (wloop (un2 (X1_mostAtOnce_b4 M a0 a1)) FU ((0 : Int32), (0 : Int32))).bind fun v12 => some v12
theorem X1_mostAtOnce_w {X : Cx} (G : Gd X yX1_mostAtOnce cX1_mostAtOnce wsX1_mostAtOnce 4 (some .int) rX1_mostAtOnce) {M : Wo} {a0 : Nat} {a1 : Nat} {o : Int32} (hd : X1_mostAtOnce M a0 a1 = some o) (hQ : Qi X o M 0 0) : Pt X 0 0 0 M [(0, .ref a0), (1, .ref a1)] [] := by
  unfold X1_mostAtOnce at hd
  obtain ⟨_, _, hd⟩ := bnd hd
  refine pt_iconst G (0 : Int32) dX1_mostAtOnce_0 ci_0 ?_
  refine pt_istore_n G [(2, .int (0 : Int32)), (0, .ref a0), (1, .ref a1)] dX1_mostAtOnce_1 rfl (by decide) rfl ?_
  refine pt_iconst G (0 : Int32) dX1_mostAtOnce_2 ci_0 ?_
  refine pt_istore_n G [(3, .int (0 : Int32)), (2, .int (0 : Int32)), (0, .ref a0), (1, .ref a1)] dX1_mostAtOnce_3 rfl (by decide) rfl ?_
  obtain ⟨v12, hw13, hd⟩ := bnd hd
  refine pt_sub [2, 3, 1, 0] rfl (X1_mostAtOnce_w4_w G _ _ _ hw13 ?_)
  show Pt X 0 0 _ _ _ []
  refine pt_iload_n G 0 dX1_mostAtOnce_37 rfl rfl ?_
  cases hd
  exact pt_iret G hQ dX1_mostAtOnce_38
theorem X1_mostAtOnce_c {l : Launch} {D : va_G} {dA : Nat → ClassId} {b : Nat} {M : Wo} {a0 : Nat} {a1 : Nat} {r : Int32} (h : X1_mostAtOnce M a0 a1 = some r) : Met l yX1_mostAtOnce wsX1_mostAtOnce rX1_mostAtOnce (va_Pc [.ref a0, .ref a1] (Wd D dA b M)) (Ei D dA b r M) 0 0 (Ab b) := met_i (by decide) rfl (Nat.le_of_ble_eq_true rfl) (fun X G hN hQ => X1_mostAtOnce_w G h hQ)
theorem X1_mostAtOnce_v {X : Cx} {y : MethodName} {cc : ByteArray} {Ts : List Cond} {nL : Nat} {ret : Option FieldType} {R : Room} (G : Gd X y cc Ts nL ret R) {index : Nat} (hg : GoodIn Ts (wsV y.cls index RX1 yX1_mostAtOnce wsX1_mostAtOnce)) (hR : rX1_mostAtOnce.frames + 1 ≤ R.frames ∧ 8 + (4 + 11) + rX1_mostAtOnce.locals ≤ R.locals) {k n pc : Nat} {M : Wo} {lv : List (Nat × Value)} {st : List Value} {a0 : Nat} {a1 : Nat} {r : Int32} (hv : X1_mostAtOnce M a0 a1 = some r) (hd : decode cc pc = .ok (.invokevirtual index, 3)) (h8 : (st.map fun v => v.category).sum ≤ 8) (hf : k ≤ R.cells ∧ n ≤ R.slots) (kk : Pt X k n (pc + 3) M lv (.int r :: st)) : Pt X k n pc M lv (.ref a1 :: .ref a0 :: st) := pt_cVi (ci := 1) (nA := 1) (As := [.ref a1]) G (X1_mostAtOnce_c hv) hg rfl rfl rfl (by decide +kernel) hR rfl (rcv hv) rfl rfl h8 hd hf kk
abbrev rX1_turnsAhead : Room := { frames := 0, cells := 0, slots := 0, locals := 0 }
theorem m_X1_turnsAhead_4 : Cond.fieldLink RX1 70 "StageLines$Move" "begin" "I" ∈ wsX1_turnsAhead := List.mem_of_getElem? (i := 4) rfl
theorem u_X1_turnsAhead_X4 : ∀ w ∈ u_ws RX4 TX4 4, w ∈ wsX1_turnsAhead := mem_r [16, 17, 18, 19] (by decide +kernel)
theorem m_X1_turnsAhead_3 : Cond.fieldLink RX1 66 "StageLines$Stage" "moves" "[LStageLines$Move;" ∈ wsX1_turnsAhead := List.mem_of_getElem? (i := 3) rfl
theorem u_X1_turnsAhead_X6 : ∀ w ∈ u_ws RX6 TX6 4, w ∈ wsX1_turnsAhead := mem_r [12, 13, 14, 15] (by decide +kernel)
theorem m_X1_turnsAhead_2 : Cond.fieldLink RX1 15 "StageLines$CrewFinder" "handOf" "[I" ∈ wsX1_turnsAhead := List.mem_of_getElem? (i := 2) rfl
theorem u_X1_turnsAhead_X1 : ∀ w ∈ u_ws RX1 TX1 7, w ∈ wsX1_turnsAhead := mem_r [5, 6, 7, 8, 9, 10, 11] (by decide +kernel)
theorem m_X1_turnsAhead_1 : Cond.fieldLink RX1 32 "StageLines$CrewFinder" "size" "I" ∈ wsX1_turnsAhead := List.mem_of_getElem? (i := 1) rfl
abbrev X1_turnsAhead_P5 (X : Cx) (M : Wo) (a0 : Nat) (a1 : Nat) (x2 : Int32) : (Int32 × Int32) → Prop := un2 (fun x3 x4 => Pt X 0 0 5 M [(0, .ref a0), (1, .ref a1), (2, .int x2), (3, .int x3), (4, .int x4)] [])
abbrev X1_turnsAhead_Z5 (X : Cx) (M : Wo) (a0 : Nat) (a1 : Nat) (x2 : Int32) : Int32 → Prop := (un1 (fun x3 => Pt X 0 0 61 M [(3, .int x3)] []))
def X1_turnsAhead_b5 (M : Wo) (a0 : Nat) (a1 : Nat) (x2 : Int32) (x3 : Int32) (x4 : Int32) : Option ((Int32 × Int32) ⊕ Int32) :=
  (gI M a0 1 6).bind fun v1 => if v1 ≤ x4 then (some (.inr x3)) else ((gR M a0 1 1).bind fun w3 => (lA M 0 w3 x4).bind fun v5 => (gR M a0 1 1).bind fun w7 => (lA M 0 w7 x2).bind fun v9 => if v5 = v9 then ((gR M a1 6 1).bind fun w11 => (lR M 3 w11 x4).bind fun w13 => (gI M w13 4 1).bind fun v15 => (gR M a1 6 1).bind fun w17 => (lR M 3 w17 x2).bind fun w19 => (gI M w19 4 1).bind fun v21 => if v21 ≤ v15 then (some (.inl (x3, (x4 + 1)))) else (some (.inl ((x3 + 1), (x4 + 1))))) else (some (.inl (x3, (x4 + 1)))))
theorem X1_turnsAhead_b5_w {X : Cx} (G : Gd X yX1_turnsAhead cX1_turnsAhead wsX1_turnsAhead 5 (some .int) rX1_turnsAhead) {M : Wo} {a0 : Nat} {a1 : Nat} {x2 : Int32} {x3 : Int32} {x4 : Int32} {o : ((Int32 × Int32) ⊕ Int32)} (hd : X1_turnsAhead_b5 M a0 a1 x2 x3 x4 = some o) (hc : ∀ s9, o = .inl s9 → X1_turnsAhead_P5 X M a0 a1 x2 s9) (he : ∀ e9, o = .inr e9 → X1_turnsAhead_Z5 X M a0 a1 x2 e9) : Pt X 0 0 5 M [(0, .ref a0), (1, .ref a1), (2, .int x2), (3, .int x3), (4, .int x4)] [] := by
  unfold X1_turnsAhead_b5 at hd
  refine pt_iload G 4 dX1_turnsAhead_5 rfl ?_
  refine pt_aload_n G 0 dX1_turnsAhead_7 rfl rfl ?_
  obtain ⟨v1, h2, hd⟩ := bnd hd
  refine pt_get G (ci := 1) (j := 6) rfl (by decide) u_X1_turnsAhead_X1 m_X1_turnsAhead_1 (gI_o h2) dX1_turnsAhead_8 ?_
  refine pt_icmp_ge G 61 dX1_turnsAhead_11 (by decide) (fun c25 => ?_) (fun c25 => ?_)
  · replace hd := ifp c25 hd
    exact pt_sub [3] rfl (he x3 (Option.some.inj hd).symm)
  · replace hd := ifn c25 hd
    refine pt_aload_n G 0 dX1_turnsAhead_14 rfl rfl ?_
    obtain ⟨w3, h4, hd⟩ := bnd hd
    refine pt_get G (ci := 1) (j := 1) rfl (by decide) u_X1_turnsAhead_X1 m_X1_turnsAhead_2 (gR_o h4) dX1_turnsAhead_15 ?_
    refine pt_iload G 4 dX1_turnsAhead_18 rfl ?_
    obtain ⟨v5, h6, hd⟩ := bnd hd
    refine pt_iald G h6 dX1_turnsAhead_20 ?_
    refine pt_aload_n G 0 dX1_turnsAhead_21 rfl rfl ?_
    obtain ⟨w7, h8, hd⟩ := bnd hd
    refine pt_get G (ci := 1) (j := 1) rfl (by decide) u_X1_turnsAhead_X1 m_X1_turnsAhead_2 (gR_o h8) dX1_turnsAhead_22 ?_
    refine pt_iload_n G 2 dX1_turnsAhead_25 rfl rfl ?_
    obtain ⟨v9, h10, hd⟩ := bnd hd
    refine pt_iald G h10 dX1_turnsAhead_26 ?_
    refine pt_icmp_ne G 55 dX1_turnsAhead_27 (by decide) (fun c24 => ?_) (fun c24 => ?_)
    · replace hd := ifn c24 hd
      refine pt_iinc G 4 (x4 + 1) [(4, .int (x4 + 1)), (0, .ref a0), (1, .ref a1), (2, .int x2), (3, .int x3)] dX1_turnsAhead_55 rfl (inc_1 _) (by decide) rfl ?_
      refine pt_goto G 5 dX1_turnsAhead_58 (by decide) ?_
      exact pt_sub [1, 2, 3, 4, 0] rfl (hc (x3, (x4 + 1)) (Option.some.inj hd).symm)
    · replace hd := ifp c24 hd
      refine pt_aload_n G 1 dX1_turnsAhead_30 rfl rfl ?_
      obtain ⟨w11, h12, hd⟩ := bnd hd
      refine pt_get G (ci := 6) (j := 1) rfl (by decide) u_X1_turnsAhead_X6 m_X1_turnsAhead_3 (gR_o h12) dX1_turnsAhead_31 ?_
      refine pt_iload G 4 dX1_turnsAhead_34 rfl ?_
      obtain ⟨w13, h14, hd⟩ := bnd hd
      refine pt_aald G (kd := 3) rfl rfl h14 dX1_turnsAhead_36 ?_
      obtain ⟨v15, h16, hd⟩ := bnd hd
      refine pt_get G (ci := 4) (j := 1) rfl (by decide) u_X1_turnsAhead_X4 m_X1_turnsAhead_4 (gI_o h16) dX1_turnsAhead_37 ?_
      refine pt_aload_n G 1 dX1_turnsAhead_40 rfl rfl ?_
      obtain ⟨w17, h18, hd⟩ := bnd hd
      refine pt_get G (ci := 6) (j := 1) rfl (by decide) u_X1_turnsAhead_X6 m_X1_turnsAhead_3 (gR_o h18) dX1_turnsAhead_41 ?_
      refine pt_iload_n G 2 dX1_turnsAhead_44 rfl rfl ?_
      obtain ⟨w19, h20, hd⟩ := bnd hd
      refine pt_aald G (kd := 3) rfl rfl h20 dX1_turnsAhead_45 ?_
      obtain ⟨v21, h22, hd⟩ := bnd hd
      refine pt_get G (ci := 4) (j := 1) rfl (by decide) u_X1_turnsAhead_X4 m_X1_turnsAhead_4 (gI_o h22) dX1_turnsAhead_46 ?_
      refine pt_icmp_ge G 55 dX1_turnsAhead_49 (by decide) (fun c23 => ?_) (fun c23 => ?_)
      · replace hd := ifp c23 hd
        refine pt_iinc G 4 (x4 + 1) [(4, .int (x4 + 1)), (0, .ref a0), (1, .ref a1), (2, .int x2), (3, .int x3)] dX1_turnsAhead_55 rfl (inc_1 _) (by decide) rfl ?_
        refine pt_goto G 5 dX1_turnsAhead_58 (by decide) ?_
        exact pt_sub [1, 2, 3, 4, 0] rfl (hc (x3, (x4 + 1)) (Option.some.inj hd).symm)
      · replace hd := ifn c23 hd
        refine pt_iinc G 3 (x3 + 1) [(3, .int (x3 + 1)), (0, .ref a0), (1, .ref a1), (2, .int x2), (4, .int x4)] dX1_turnsAhead_52 rfl (inc_1 _) (by decide) rfl ?_
        refine pt_iinc G 4 (x4 + 1) [(4, .int (x4 + 1)), (3, .int (x3 + 1)), (0, .ref a0), (1, .ref a1), (2, .int x2)] dX1_turnsAhead_55 rfl (inc_1 _) (by decide) rfl ?_
        refine pt_goto G 5 dX1_turnsAhead_58 (by decide) ?_
        exact pt_sub [2, 3, 4, 1, 0] rfl (hc ((x3 + 1), (x4 + 1)) (Option.some.inj hd).symm)
theorem X1_turnsAhead_w5_w {X : Cx} (G : Gd X yX1_turnsAhead cX1_turnsAhead wsX1_turnsAhead 5 (some .int) rX1_turnsAhead) {M : Wo} {a0 : Nat} {a1 : Nat} {x2 : Int32} (n9 : Nat) (s9 : (Int32 × Int32)) (e9 : Int32) (hw : wloop (un2 (X1_turnsAhead_b5 M a0 a1 x2)) n9 s9 = some e9) (hz : X1_turnsAhead_Z5 X M a0 a1 x2 e9) : X1_turnsAhead_P5 X M a0 a1 x2 s9 := by
  refine wl_ind (P := X1_turnsAhead_P5 X M a0 a1 x2) (Z := X1_turnsAhead_Z5 X M a0 a1 x2) ?_ n9 s9 e9 hw hz
  intro s9 o9 hd hc he
  obtain ⟨x3, x4⟩ := s9
  exact X1_turnsAhead_b5_w G hd hc he
def X1_turnsAhead (M : Wo) (a0 : Nat) (a1 : Nat) (x2 : Int32) : Option Int32 :=
  (ckO M a0 1).bind fun _ => (wloop (un2 (X1_turnsAhead_b5 M a0 a1 x2)) FU ((0 : Int32), (0 : Int32))).bind fun v26 => some v26
theorem X1_turnsAhead_w {X : Cx} (G : Gd X yX1_turnsAhead cX1_turnsAhead wsX1_turnsAhead 5 (some .int) rX1_turnsAhead) {M : Wo} {a0 : Nat} {a1 : Nat} {x2 : Int32} {o : Int32} (hd : X1_turnsAhead M a0 a1 x2 = some o) (hQ : Qi X o M 0 0) : Pt X 0 0 0 M [(0, .ref a0), (1, .ref a1), (2, .int x2)] [] := by
  unfold X1_turnsAhead at hd
  obtain ⟨_, _, hd⟩ := bnd hd
  refine pt_iconst G (0 : Int32) dX1_turnsAhead_0 ci_0 ?_
  refine pt_istore_n G [(3, .int (0 : Int32)), (0, .ref a0), (1, .ref a1), (2, .int x2)] dX1_turnsAhead_1 rfl (by decide) rfl ?_
  refine pt_iconst G (0 : Int32) dX1_turnsAhead_2 ci_0 ?_
  refine pt_istore G [(4, .int (0 : Int32)), (3, .int (0 : Int32)), (0, .ref a0), (1, .ref a1), (2, .int x2)] dX1_turnsAhead_3 (by decide) rfl ?_
  obtain ⟨v26, hw27, hd⟩ := bnd hd
  refine pt_sub [2, 3, 4, 1, 0] rfl (X1_turnsAhead_w5_w G _ _ _ hw27 ?_)
  show Pt X 0 0 _ _ _ []
  refine pt_iload_n G 0 dX1_turnsAhead_61 rfl rfl ?_
  cases hd
  exact pt_iret G hQ dX1_turnsAhead_62
theorem X1_turnsAhead_c {l : Launch} {D : va_G} {dA : Nat → ClassId} {b : Nat} {M : Wo} {a0 : Nat} {a1 : Nat} {x2 : Int32} {r : Int32} (h : X1_turnsAhead M a0 a1 x2 = some r) : Met l yX1_turnsAhead wsX1_turnsAhead rX1_turnsAhead (va_Pc [.ref a0, .ref a1, .int x2] (Wd D dA b M)) (Ei D dA b r M) 0 0 (Ab b) := met_i (by decide) rfl (Nat.le_of_ble_eq_true rfl) (fun X G hN hQ => X1_turnsAhead_w G h hQ)
theorem X1_turnsAhead_v {X : Cx} {y : MethodName} {cc : ByteArray} {Ts : List Cond} {nL : Nat} {ret : Option FieldType} {R : Room} (G : Gd X y cc Ts nL ret R) {index : Nat} (hg : GoodIn Ts (wsV y.cls index RX1 yX1_turnsAhead wsX1_turnsAhead)) (hR : rX1_turnsAhead.frames + 1 ≤ R.frames ∧ 8 + (5 + 11) + rX1_turnsAhead.locals ≤ R.locals) {k n pc : Nat} {M : Wo} {lv : List (Nat × Value)} {st : List Value} {a0 : Nat} {a1 : Nat} {x2 : Int32} {r : Int32} (hv : X1_turnsAhead M a0 a1 x2 = some r) (hd : decode cc pc = .ok (.invokevirtual index, 3)) (h8 : (st.map fun v => v.category).sum ≤ 8) (hf : k ≤ R.cells ∧ n ≤ R.slots) (kk : Pt X k n (pc + 3) M lv (.int r :: st)) : Pt X k n pc M lv (.int x2 :: .ref a1 :: .ref a0 :: st) := pt_cVi (ci := 1) (nA := 2) (As := [.ref a1, .int x2]) G (X1_turnsAhead_c hv) hg rfl rfl rfl (by decide +kernel) hR rfl (rcv hv) rfl rfl h8 hd hf kk
abbrev rX1_turn : Room := { frames := 1, cells := 0, slots := 0, locals := 24 }
theorem m_X1_turn_2 : Cond.fieldLink RX1 15 "StageLines$CrewFinder" "handOf" "[I" ∈ wsX1_turn := List.mem_of_getElem? (i := 2) rfl
theorem u_X1_turn_X1 : ∀ w ∈ u_ws RX1 TX1 7, w ∈ wsX1_turn := mem_r [10, 11, 12, 13, 14, 15, 16] (by decide +kernel)
theorem m_X1_turn_1 : Cond.fieldLink RX1 32 "StageLines$CrewFinder" "size" "I" ∈ wsX1_turn := List.mem_of_getElem? (i := 1) rfl
abbrev X1_turn_P3 (X : Cx) (M : Wo) (a0 : Nat) (a1 : Nat) (x2 : Int32) (x3 : Int32) : Int32 → Prop := un1 (fun x4 => Pt X 0 0 3 M [(0, .ref a0), (1, .ref a1), (2, .int x2), (3, .int x3), (4, .int x4)] [])
abbrev X1_turn_Z3 (X : Cx) (M : Wo) (a0 : Nat) (a1 : Nat) (x2 : Int32) (x3 : Int32) : (Int32 ⊕ Unit) → Prop := (sOf (un1 (fun x4 => Pt X 0 0 34 M [(4, .int x4)] [])) (fun (_ : Unit) => Pt X 0 0 43 M [] []))
def X1_turn_b3 (M : Wo) (a0 : Nat) (a1 : Nat) (x2 : Int32) (x3 : Int32) (x4 : Int32) : Option (Int32 ⊕ (Int32 ⊕ Unit)) :=
  (gI M a0 1 6).bind fun v1 => if v1 ≤ x4 then (some (.inr (.inr ()))) else ((gR M a0 1 1).bind fun w3 => (lA M 0 w3 x4).bind fun v5 => if v5 = x2 then ((X1_turnsAhead M a0 a1 x4).bind fun v8 => if v8 = x3 then (some (.inr (.inl x4))) else (some (.inl (x4 + 1)))) else (some (.inl (x4 + 1))))
theorem X1_turn_b3_w {X : Cx} (G : Gd X yX1_turn cX1_turn wsX1_turn 5 (some .int) rX1_turn) {M : Wo} {a0 : Nat} {a1 : Nat} {x2 : Int32} {x3 : Int32} {x4 : Int32} {o : (Int32 ⊕ (Int32 ⊕ Unit))} (hd : X1_turn_b3 M a0 a1 x2 x3 x4 = some o) (hc : ∀ s9, o = .inl s9 → X1_turn_P3 X M a0 a1 x2 x3 s9) (he : ∀ e9, o = .inr e9 → X1_turn_Z3 X M a0 a1 x2 x3 e9) : Pt X 0 0 3 M [(0, .ref a0), (1, .ref a1), (2, .int x2), (3, .int x3), (4, .int x4)] [] := by
  unfold X1_turn_b3 at hd
  refine pt_iload G 4 dX1_turn_3 rfl ?_
  refine pt_aload_n G 0 dX1_turn_5 rfl rfl ?_
  obtain ⟨v1, h2, hd⟩ := bnd hd
  refine pt_get G (ci := 1) (j := 6) rfl (by decide) u_X1_turn_X1 m_X1_turn_1 (gI_o h2) dX1_turn_6 ?_
  refine pt_icmp_ge G 43 dX1_turn_9 (by decide) (fun c11 => ?_) (fun c11 => ?_)
  · replace hd := ifp c11 hd
    exact pt_sub [] rfl (he (.inr ()) (Option.some.inj hd).symm)
  · replace hd := ifn c11 hd
    refine pt_aload_n G 0 dX1_turn_12 rfl rfl ?_
    obtain ⟨w3, h4, hd⟩ := bnd hd
    refine pt_get G (ci := 1) (j := 1) rfl (by decide) u_X1_turn_X1 m_X1_turn_2 (gR_o h4) dX1_turn_13 ?_
    refine pt_iload G 4 dX1_turn_16 rfl ?_
    obtain ⟨v5, h6, hd⟩ := bnd hd
    refine pt_iald G h6 dX1_turn_18 ?_
    refine pt_iload_n G 2 dX1_turn_19 rfl rfl ?_
    refine pt_icmp_ne G 37 dX1_turn_20 (by decide) (fun c10 => ?_) (fun c10 => ?_)
    · replace hd := ifn c10 hd
      refine pt_iinc G 4 (x4 + 1) [(4, .int (x4 + 1)), (0, .ref a0), (1, .ref a1), (2, .int x2), (3, .int x3)] dX1_turn_37 rfl (inc_1 _) (by decide) rfl ?_
      refine pt_goto G 3 dX1_turn_40 (by decide) ?_
      exact pt_sub [1, 2, 3, 4, 0] rfl (hc (x4 + 1) (Option.some.inj hd).symm)
    · replace hd := ifp c10 hd
      refine pt_aload_n G 0 dX1_turn_23 rfl rfl ?_
      refine pt_aload_n G 1 dX1_turn_24 rfl rfl ?_
      refine pt_iload G 4 dX1_turn_25 rfl ?_
      obtain ⟨v8, h7, hd⟩ := bnd hd
      refine X1_turnsAhead_v G gX1_turn_X1_turnsAhead ⟨(Nat.le_of_ble_eq_true rfl), (Nat.le_of_ble_eq_true rfl)⟩ h7 dX1_turn_27 (Nat.le_of_ble_eq_true rfl) ⟨(Nat.le_of_ble_eq_true rfl), (Nat.le_of_ble_eq_true rfl)⟩ ?_
      refine pt_iload_n G 3 dX1_turn_30 rfl rfl ?_
      refine pt_icmp_ne G 37 dX1_turn_31 (by decide) (fun c9 => ?_) (fun c9 => ?_)
      · replace hd := ifn c9 hd
        refine pt_iinc G 4 (x4 + 1) [(4, .int (x4 + 1)), (0, .ref a0), (1, .ref a1), (2, .int x2), (3, .int x3)] dX1_turn_37 rfl (inc_1 _) (by decide) rfl ?_
        refine pt_goto G 3 dX1_turn_40 (by decide) ?_
        exact pt_sub [1, 2, 3, 4, 0] rfl (hc (x4 + 1) (Option.some.inj hd).symm)
      · replace hd := ifp c9 hd
        exact pt_sub [4] rfl (he (.inl x4) (Option.some.inj hd).symm)
theorem X1_turn_w3_w {X : Cx} (G : Gd X yX1_turn cX1_turn wsX1_turn 5 (some .int) rX1_turn) {M : Wo} {a0 : Nat} {a1 : Nat} {x2 : Int32} {x3 : Int32} (n9 : Nat) (s9 : Int32) (e9 : (Int32 ⊕ Unit)) (hw : wloop (un1 (X1_turn_b3 M a0 a1 x2 x3)) n9 s9 = some e9) (hz : X1_turn_Z3 X M a0 a1 x2 x3 e9) : X1_turn_P3 X M a0 a1 x2 x3 s9 := by
  refine wl_ind (P := X1_turn_P3 X M a0 a1 x2 x3) (Z := X1_turn_Z3 X M a0 a1 x2 x3) ?_ n9 s9 e9 hw hz
  intro s9 o9 hd hc he
  exact X1_turn_b3_w G hd hc he
def X1_turn (M : Wo) (a0 : Nat) (a1 : Nat) (x2 : Int32) (x3 : Int32) : Option Int32 :=
  (ckO M a0 1).bind fun _ => (wloop (un1 (X1_turn_b3 M a0 a1 x2 x3)) FU (0 : Int32)).bind (sOf (fun v12 => some v12) (fun _ => some (-6 : Int32)))
theorem X1_turn_w {X : Cx} (G : Gd X yX1_turn cX1_turn wsX1_turn 5 (some .int) rX1_turn) {M : Wo} {a0 : Nat} {a1 : Nat} {x2 : Int32} {x3 : Int32} {o : Int32} (hd : X1_turn M a0 a1 x2 x3 = some o) (hQ : Qi X o M 0 0) : Pt X 0 0 0 M [(0, .ref a0), (1, .ref a1), (2, .int x2), (3, .int x3)] [] := by
  unfold X1_turn at hd
  obtain ⟨_, _, hd⟩ := bnd hd
  refine pt_iconst G (0 : Int32) dX1_turn_0 ci_0 ?_
  refine pt_istore G [(4, .int (0 : Int32)), (0, .ref a0), (1, .ref a1), (2, .int x2), (3, .int x3)] dX1_turn_1 (by decide) rfl ?_
  obtain ⟨e14, hw13, hd⟩ := bnd hd
  rcases e14 with v12 | _
  · replace hd := sO_1 hd
    refine pt_sub [1, 2, 3, 4, 0] rfl (X1_turn_w3_w G _ _ _ hw13 ?_)
    show Pt X 0 0 _ _ _ []
    refine pt_iload G 0 dX1_turn_34 rfl ?_
    cases hd
    exact pt_iret G hQ dX1_turn_36
  · replace hd := sO_2 hd
    refine pt_sub [1, 2, 3, 4, 0] rfl (X1_turn_w3_w G _ _ _ hw13 ?_)
    show Pt X 0 0 _ _ _ []
    refine pt_bipush G (-6 : Int32) dX1_turn_43 bi_m6 ?_
    cases hd
    exact pt_iret G hQ dX1_turn_45
theorem X1_turn_c {l : Launch} {D : va_G} {dA : Nat → ClassId} {b : Nat} {M : Wo} {a0 : Nat} {a1 : Nat} {x2 : Int32} {x3 : Int32} {r : Int32} (h : X1_turn M a0 a1 x2 x3 = some r) : Met l yX1_turn wsX1_turn rX1_turn (va_Pc [.ref a0, .ref a1, .int x2, .int x3] (Wd D dA b M)) (Ei D dA b r M) 0 0 (Ab b) := met_i (by decide) rfl (Nat.le_of_ble_eq_true rfl) (fun X G hN hQ => X1_turn_w G h hQ)
theorem X1_turn_v {X : Cx} {y : MethodName} {cc : ByteArray} {Ts : List Cond} {nL : Nat} {ret : Option FieldType} {R : Room} (G : Gd X y cc Ts nL ret R) {index : Nat} (hg : GoodIn Ts (wsV y.cls index RX1 yX1_turn wsX1_turn)) (hR : rX1_turn.frames + 1 ≤ R.frames ∧ 8 + (5 + 11) + rX1_turn.locals ≤ R.locals) {k n pc : Nat} {M : Wo} {lv : List (Nat × Value)} {st : List Value} {a0 : Nat} {a1 : Nat} {x2 : Int32} {x3 : Int32} {r : Int32} (hv : X1_turn M a0 a1 x2 x3 = some r) (hd : decode cc pc = .ok (.invokevirtual index, 3)) (h8 : (st.map fun v => v.category).sum ≤ 8) (hf : k ≤ R.cells ∧ n ≤ R.slots) (kk : Pt X k n (pc + 3) M lv (.int r :: st)) : Pt X k n pc M lv (.int x3 :: .int x2 :: .ref a1 :: .ref a0 :: st) := pt_cVi (ci := 1) (nA := 3) (As := [.ref a1, .int x2, .int x3]) G (X1_turn_c hv) hg rfl rfl rfl (by decide +kernel) hR rfl (rcv hv) rfl rfl h8 hd hf kk
