abbrev rX0_init : Room := { frames := 2, cells := 5, slots := 19, locals := 80 }
theorem m_X0_init_10 : Cond.fieldLink RX0 22 "StageLines$Bar" "bricks" "LStageLines$Pile;" ∈ wsX0_init := List.mem_of_getElem? (i := 10) rfl
theorem u_X0_init_X0 : ∀ w ∈ u_ws RX0 TX0 3, w ∈ wsX0_init := mem_r [16, 17, 18] (by decide +kernel)
theorem m_X0_init_8 : Cond.initialized RX5 ∈ wsX0_init := List.mem_of_getElem? (i := 8) rfl
theorem m_X0_init_11 : Cond.instanceMethod yX5_init ∈ wsX0_init := List.mem_of_getElem? (i := 11) rfl
theorem u_X0_init_X5 : ∀ w ∈ u_ws RX5 TX5 2, w ∈ wsX0_init := mem_r [19, 20] (by decide +kernel)
theorem m_X0_init_6 : Cond.classLink RX0 15 RX5 ∈ wsX0_init := List.mem_of_getElem? (i := 6) rfl
theorem m_X0_init_7 : Cond.instantiable RX5 2 ∈ wsX0_init := List.mem_of_getElem? (i := 7) rfl
theorem m_X0_init_9 : Cond.fieldLink RX0 18 "StageLines$Bar" "pieces" "LStageLines$Pile;" ∈ wsX0_init := List.mem_of_getElem? (i := 9) rfl
theorem m_X0_init_5 : Cond.fieldLink RX0 9 "StageLines$Bar" "settings" "[I" ∈ wsX0_init := List.mem_of_getElem? (i := 5) rfl
theorem m_X0_init_4 : Cond.arrayClass .int ∈ wsX0_init := List.mem_of_getElem? (i := 4) rfl
theorem m_X0_init_1 : Cond.methodLink RX0 3 objectInit ∈ wsX0_init := List.mem_of_getElem? (i := 1) rfl
theorem m_X0_init_2 : Cond.instanceMethod objectInit ∈ wsX0_init := List.mem_of_getElem? (i := 2) rfl
theorem m_X0_init_3 : Cond.code objectInit ⟨#[0xb1]⟩ 1 none ∈ wsX0_init := List.mem_of_getElem? (i := 3) rfl
def X0_init (M : Wo) (a0 : Nat) : Option Wo :=
  (ckO M a0 0).bind fun _ => (nwA M 0 3).bind (un2 fun w1 M2 => (sA M2 w1 (0 : Int32) (60 : Int32)).bind fun M4 => (sA M4 w1 (1 : Int32) (0 : Int32)).bind fun M6 => (sA M6 w1 (2 : Int32) (0 : Int32)).bind fun M8 => (pV M8 a0 0 0 (.ref w1)).bind fun M10 => (nwO M10 5 [.null, .int 0]).bind (un2 fun w12 M13 => (X5_init M13 w12).bind fun M16 => (pV M16 a0 0 1 (.ref w12)).bind fun M17 => (nwO M17 5 [.null, .int 0]).bind (un2 fun w19 M20 => (X5_init M20 w19).bind fun M23 => (pV M23 a0 0 2 (.ref w19)).bind fun M24 => some M24)))
theorem X0_init_w {X : Cx} (G : Gd X yX0_init cX0_init wsX0_init 1 none rX0_init) (hN : (xT X).name = "<init>") {M : Wo} {a0 : Nat} {o : Wo} (hd : X0_init M a0 = some o) (hQ : Qv X o 5 19) : Pt X 0 0 0 M [(0, .ref a0)] [] := by
  unfold X0_init at hd
  obtain ⟨_, _, hd⟩ := bnd hd
  refine pt_aload_n G 0 dX0_init_0 rfl rfl ?_
  refine pt_obj G m_X0_init_1 m_X0_init_2 m_X0_init_3 (Nat.le_of_ble_eq_true rfl) (Nat.le_of_ble_eq_true rfl) dX0_init_1 ?_
  refine pt_aload_n G 0 dX0_init_4 rfl rfl ?_
  refine pt_iconst G (3 : Int32) dX0_init_5 ci_3 ?_
  obtain ⟨⟨w1, M2⟩, h3, hd⟩ := bnd hd
  replace hd := un2_e hd
  refine pt_newaE G (kd := 0) (N := 3) (atype := .int) rfl (fun _ => rfl) m_X0_init_4 rfl (by decide) (by decide) (by decide) (by decide) (by decide) h3 dX0_init_6 ?_
  refine pt_dup G dX0_init_8 rfl ?_
  refine pt_iconst G (0 : Int32) dX0_init_9 ci_0 ?_
  refine pt_bipush G (60 : Int32) dX0_init_10 bi_60 ?_
  obtain ⟨M4, h5, hd⟩ := bnd hd
  refine pt_iast G h5 dX0_init_12 ?_
  refine pt_dup G dX0_init_13 rfl ?_
  refine pt_iconst G (1 : Int32) dX0_init_14 ci_1 ?_
  refine pt_iconst G (0 : Int32) dX0_init_15 ci_0 ?_
  obtain ⟨M6, h7, hd⟩ := bnd hd
  refine pt_iast G h7 dX0_init_16 ?_
  refine pt_dup G dX0_init_17 rfl ?_
  refine pt_iconst G (2 : Int32) dX0_init_18 ci_2 ?_
  refine pt_iconst G (0 : Int32) dX0_init_19 ci_0 ?_
  obtain ⟨M8, h9, hd⟩ := bnd hd
  refine pt_iast G h9 dX0_init_20 ?_
  obtain ⟨M10, h11, hd⟩ := bnd hd
  refine pt_putF G hN (ci := 0) (j := 0) rfl (by decide) u_X0_init_X0 m_X0_init_5 tyX0 tyX0_ok nmX0 rfl rfl rfl rfl h11 dX0_init_21 ?_
  refine pt_aload_n G 0 dX0_init_24 rfl rfl ?_
  obtain ⟨⟨w12, M13⟩, h14, hd⟩ := bnd hd
  replace hd := un2_e hd
  refine pt_newE G (ci := 5) [.null, .int 0] rfl u_X0_init_X5 tyX5 tyX5_ok m_X0_init_6 m_X0_init_7 m_X0_init_8 (by decide) (by decide) (by decide) h14 dX0_init_25 ?_
  refine pt_dup G dX0_init_28 rfl ?_
  obtain ⟨M16, h15, hd⟩ := bnd hd
  refine X5_init_vn G gX0_init_X5_init_n17 m_X0_init_8 G.k.2.1.2.1 m_X0_init_11 ⟨(Nat.le_of_ble_eq_true rfl), (Nat.le_of_ble_eq_true rfl)⟩ h15 dX0_init_29 (Nat.le_of_ble_eq_true rfl) ⟨(Nat.le_of_ble_eq_true rfl), (Nat.le_of_ble_eq_true rfl)⟩ ?_
  obtain ⟨M17, h18, hd⟩ := bnd hd
  refine pt_putF G hN (ci := 0) (j := 1) rfl (by decide) u_X0_init_X0 m_X0_init_9 tyX0 tyX0_ok nmX0 rfl rfl rfl rfl h18 dX0_init_32 ?_
  refine pt_aload_n G 0 dX0_init_35 rfl rfl ?_
  obtain ⟨⟨w19, M20⟩, h21, hd⟩ := bnd hd
  replace hd := un2_e hd
  refine pt_newE G (ci := 5) [.null, .int 0] rfl u_X0_init_X5 tyX5 tyX5_ok m_X0_init_6 m_X0_init_7 m_X0_init_8 (by decide) (by decide) (by decide) h21 dX0_init_36 ?_
  refine pt_dup G dX0_init_39 rfl ?_
  obtain ⟨M23, h22, hd⟩ := bnd hd
  refine X5_init_vn G gX0_init_X5_init_n17 m_X0_init_8 G.k.2.1.2.1 m_X0_init_11 ⟨(Nat.le_of_ble_eq_true rfl), (Nat.le_of_ble_eq_true rfl)⟩ h22 dX0_init_40 (Nat.le_of_ble_eq_true rfl) ⟨(Nat.le_of_ble_eq_true rfl), (Nat.le_of_ble_eq_true rfl)⟩ ?_
  obtain ⟨M24, h25, hd⟩ := bnd hd
  refine pt_putF G hN (ci := 0) (j := 2) rfl (by decide) u_X0_init_X0 m_X0_init_10 tyX0 tyX0_ok nmX0 rfl rfl rfl rfl h25 dX0_init_43 ?_
  cases hd
  exact pt_vret G hQ dX0_init_46
theorem X0_init_c {l : Launch} {D : va_G} {dA : Nat → ClassId} {b : Nat} {M : Wo} {a0 : Nat} {M2 : Wo} (h : X0_init M a0 = some M2) : Met l yX0_init wsX0_init rX0_init (va_Pc [.ref a0] (Wd D dA b M)) (Ev D dA b M2) 5 19 (Ab b) := met_v (by decide) rfl (Nat.le_of_ble_eq_true rfl) (fun X G hN hQ => X0_init_w G hN h hQ)
theorem X0_init_vi {X : Cx} {y : MethodName} {cc : ByteArray} {Ts : List Cond} {nL : Nat} {ret : Option FieldType} {R : Room} (G : Gd X y cc Ts nL ret R) {index : Nat} (hg : GoodIn Ts wsX0_init) (hini : Cond.initialized yX0_init.cls ∈ Ts) (hl : Cond.methodLink y.cls index yX0_init ∈ Ts) (hi : Cond.instanceMethod yX0_init ∈ Ts) (hR : rX0_init.frames + 1 ≤ R.frames ∧ 8 + (1 + 11) + rX0_init.locals ≤ R.locals) {k n pc : Nat} {M : Wo} {lv : List (Nat × Value)} {st : List Value} {a0 : Nat} {M2 : Wo} (hv : X0_init M a0 = some M2) (hd : decode cc pc = .ok (.invokespecial index, 3)) (h8 : (st.map fun v => v.category).sum ≤ 8) (hf : k + 5 ≤ R.cells ∧ n + 19 ≤ R.slots) (kk : Pt X (k + 5) (n + 19) (pc + 3) M2 lv st) : Pt X k n pc M lv (.ref a0 :: st) := pt_cI (nA := 0) (As := []) G (X0_init_c hv) hg rfl rfl rfl hini hl hi rfl (by decide +kernel) hR rfl rfl h8 hd hf kk
theorem X0_init_vn {X : Cx} {y : MethodName} {cc : ByteArray} {Ts : List Cond} {nL : Nat} {ret : Option FieldType} {R : Room} (G : Gd X y cc Ts nL ret R) {index : Nat} (hg : GoodIn Ts wsX0_init) (hini : Cond.initialized yX0_init.cls ∈ Ts) (hl : va_Nw (.methodLinkNest y.cls index yX0_init "StageLines") (xS X)) (hi : Cond.instanceMethod yX0_init ∈ Ts) (hR : rX0_init.frames + 1 ≤ R.frames ∧ 8 + (1 + 11) + rX0_init.locals ≤ R.locals) {k n pc : Nat} {M : Wo} {lv : List (Nat × Value)} {st : List Value} {a0 : Nat} {M2 : Wo} (hv : X0_init M a0 = some M2) (hd : decode cc pc = .ok (.invokespecial index, 3)) (h8 : (st.map fun v => v.category).sum ≤ 8) (hf : k + 5 ≤ R.cells ∧ n + 19 ≤ R.slots) (kk : Pt X (k + 5) (n + 19) (pc + 3) M2 lv st) : Pt X k n pc M lv (.ref a0 :: st) := pt_cN (nA := 0) (As := []) G (X0_init_c hv) hg rfl rfl rfl hini hl hi rfl (by decide +kernel) hR rfl rfl h8 hd hf kk
abbrev rX0_pileOf : Room := { frames := 0, cells := 0, slots := 0, locals := 0 }
theorem m_X0_pileOf_2 : Cond.fieldLink RX0 22 "StageLines$Bar" "bricks" "LStageLines$Pile;" ∈ wsX0_pileOf := List.mem_of_getElem? (i := 2) rfl
theorem u_X0_pileOf_X0 : ∀ w ∈ u_ws RX0 TX0 3, w ∈ wsX0_pileOf := mem_r [3, 4, 5] (by decide +kernel)
theorem m_X0_pileOf_1 : Cond.fieldLink RX0 18 "StageLines$Bar" "pieces" "LStageLines$Pile;" ∈ wsX0_pileOf := List.mem_of_getElem? (i := 1) rfl
def X0_pileOf (M : Wo) (a0 : Nat) (x1 : Int32) : Option Nat :=
  (ckO M a0 0).bind fun _ => if x1 = 0 then ((gR M a0 0 1).bind fun w3 => some w3) else ((gR M a0 0 2).bind fun w1 => some w1)
theorem X0_pileOf_w {X : Cx} (G : Gd X yX0_pileOf cX0_pileOf wsX0_pileOf 2 (some (.object "StageLines$Pile")) rX0_pileOf) {M : Wo} {a0 : Nat} {x1 : Int32} {o : Nat} (hd : X0_pileOf M a0 x1 = some o) (hQ : Qr X o M 0 0) : Pt X 0 0 0 M [(0, .ref a0), (1, .int x1)] [] := by
  unfold X0_pileOf at hd
  obtain ⟨_, _, hd⟩ := bnd hd
  refine pt_iload_n G 1 dX0_pileOf_0 rfl rfl ?_
  refine pt_if_ne G 11 dX0_pileOf_1 (by decide) (fun c5 => ?_) (fun c5 => ?_)
  · replace hd := ifn c5 hd
    refine pt_aload_n G 0 dX0_pileOf_11 rfl rfl ?_
    obtain ⟨w1, h2, hd⟩ := bnd hd
    refine pt_get G (ci := 0) (j := 2) rfl (by decide) u_X0_pileOf_X0 m_X0_pileOf_2 (gR_o h2) dX0_pileOf_12 ?_
    cases hd
    exact pt_aret G hQ dX0_pileOf_15
  · replace hd := ifp c5 hd
    refine pt_aload_n G 0 dX0_pileOf_4 rfl rfl ?_
    obtain ⟨w3, h4, hd⟩ := bnd hd
    refine pt_get G (ci := 0) (j := 1) rfl (by decide) u_X0_pileOf_X0 m_X0_pileOf_1 (gR_o h4) dX0_pileOf_5 ?_
    refine pt_goto G 15 dX0_pileOf_8 (by decide) ?_
    cases hd
    exact pt_aret G hQ dX0_pileOf_15
theorem X0_pileOf_c {l : Launch} {D : va_G} {dA : Nat → ClassId} {b : Nat} {M : Wo} {a0 : Nat} {x1 : Int32} {r : Nat} (h : X0_pileOf M a0 x1 = some r) : Met l yX0_pileOf wsX0_pileOf rX0_pileOf (va_Pc [.ref a0, .int x1] (Wd D dA b M)) (Er D dA b r M) 0 0 (Ab b) := met_r (by decide) rfl (Nat.le_of_ble_eq_true rfl) (fun X G hN hQ => X0_pileOf_w G h hQ)
theorem X0_pileOf_v {X : Cx} {y : MethodName} {cc : ByteArray} {Ts : List Cond} {nL : Nat} {ret : Option FieldType} {R : Room} (G : Gd X y cc Ts nL ret R) {index : Nat} (hg : GoodIn Ts (wsV y.cls index RX0 yX0_pileOf wsX0_pileOf)) (hR : rX0_pileOf.frames + 1 ≤ R.frames ∧ 8 + (2 + 11) + rX0_pileOf.locals ≤ R.locals) {k n pc : Nat} {M : Wo} {lv : List (Nat × Value)} {st : List Value} {a0 : Nat} {x1 : Int32} {r : Nat} (hv : X0_pileOf M a0 x1 = some r) (hd : decode cc pc = .ok (.invokevirtual index, 3)) (h8 : (st.map fun v => v.category).sum ≤ 8) (hf : k ≤ R.cells ∧ n ≤ R.slots) (kk : Pt X k n (pc + 3) M lv (.ref r :: st)) : Pt X k n pc M lv (.int x1 :: .ref a0 :: st) := pt_cVr (ci := 0) (nA := 1) (As := [.int x1]) G (X0_pileOf_c hv) hg rfl rfl rfl (by decide +kernel) hR rfl (rcv hv) rfl rfl h8 hd hf kk
abbrev rX0_isEven : Room := { frames := 1, cells := 0, slots := 0, locals := 60 }
theorem m_X0_isEven_3 : Cond.methodLink RX0 29 Lib.Math.abs.name ∈ wsX0_isEven := List.mem_of_getElem? (i := 3) rfl
theorem m_X0_isEven_4 : Cond.static Lib.Math.abs.name ∈ wsX0_isEven := List.mem_of_getElem? (i := 4) rfl
theorem m_X0_isEven_5 : Cond.initialized "java/lang/Math" ∈ wsX0_isEven := List.mem_of_getElem? (i := 5) rfl
theorem m_X0_isEven_6 : Cond.code Lib.Math.abs.name Lib.Math.abs.code 1 (some .int) ∈ wsX0_isEven := List.mem_of_getElem? (i := 6) rfl
theorem m_X0_isEven_2 : Cond.fieldLink RX0 22 "StageLines$Bar" "bricks" "LStageLines$Pile;" ∈ wsX0_isEven := List.mem_of_getElem? (i := 2) rfl
theorem u_X0_isEven_X0 : ∀ w ∈ u_ws RX0 TX0 3, w ∈ wsX0_isEven := mem_r [14, 15, 16] (by decide +kernel)
theorem m_X0_isEven_1 : Cond.fieldLink RX0 18 "StageLines$Bar" "pieces" "LStageLines$Pile;" ∈ wsX0_isEven := List.mem_of_getElem? (i := 1) rfl
def X0_isEven (M : Wo) (a0 : Nat) (x1 : Int32) : Option Int32 :=
  (ckO M a0 0).bind fun _ => (gR M a0 0 1).bind fun w1 => (X5_total M w1).bind fun v4 => (gR M a0 0 2).bind fun w5 => (X5_total M w5).bind fun v8 => if x1 < (iAbs (v4 - v8)) then (some (0 : Int32)) else (some (1 : Int32))
theorem X0_isEven_w {X : Cx} (G : Gd X yX0_isEven cX0_isEven wsX0_isEven 2 (some .boolean) rX0_isEven) {M : Wo} {a0 : Nat} {x1 : Int32} {o : Int32} (hd : X0_isEven M a0 x1 = some o) (hQ : Qi X o M 0 0) : Pt X 0 0 0 M [(0, .ref a0), (1, .int x1)] [] := by
  unfold X0_isEven at hd
  obtain ⟨_, _, hd⟩ := bnd hd
  refine pt_aload_n G 0 dX0_isEven_0 rfl rfl ?_
  obtain ⟨w1, h2, hd⟩ := bnd hd
  refine pt_get G (ci := 0) (j := 1) rfl (by decide) u_X0_isEven_X0 m_X0_isEven_1 (gR_o h2) dX0_isEven_1 ?_
  obtain ⟨v4, h3, hd⟩ := bnd hd
  refine X5_total_v G gX0_isEven_X5_total ⟨(Nat.le_of_ble_eq_true rfl), (Nat.le_of_ble_eq_true rfl)⟩ h3 dX0_isEven_4 (Nat.le_of_ble_eq_true rfl) ⟨(Nat.le_of_ble_eq_true rfl), (Nat.le_of_ble_eq_true rfl)⟩ ?_
  refine pt_aload_n G 0 dX0_isEven_7 rfl rfl ?_
  obtain ⟨w5, h6, hd⟩ := bnd hd
  refine pt_get G (ci := 0) (j := 2) rfl (by decide) u_X0_isEven_X0 m_X0_isEven_2 (gR_o h6) dX0_isEven_8 ?_
  obtain ⟨v8, h7, hd⟩ := bnd hd
  refine X5_total_v G gX0_isEven_X5_total ⟨(Nat.le_of_ble_eq_true rfl), (Nat.le_of_ble_eq_true rfl)⟩ h7 dX0_isEven_11 (Nat.le_of_ble_eq_true rfl) ⟨(Nat.le_of_ble_eq_true rfl), (Nat.le_of_ble_eq_true rfl)⟩ ?_
  refine pt_isub G dX0_isEven_14 ?_
  refine pt_mabs G m_X0_isEven_3 m_X0_isEven_4 m_X0_isEven_5 m_X0_isEven_6 (Nat.le_of_ble_eq_true rfl) (Nat.le_of_ble_eq_true rfl) ⟨(Nat.le_of_ble_eq_true rfl), (Nat.le_of_ble_eq_true rfl)⟩ dX0_isEven_15 ?_
  refine pt_iload_n G 1 dX0_isEven_18 rfl rfl ?_
  refine pt_icmp_gt G 26 dX0_isEven_19 (by decide) (fun c9 => ?_) (fun c9 => ?_)
  · replace hd := ifp c9 hd
    refine pt_iconst G (0 : Int32) dX0_isEven_26 ci_0 ?_
    cases hd
    exact pt_zret G (by decide) hQ dX0_isEven_27
  · replace hd := ifn c9 hd
    refine pt_iconst G (1 : Int32) dX0_isEven_22 ci_1 ?_
    refine pt_goto G 27 dX0_isEven_23 (by decide) ?_
    cases hd
    exact pt_zret G (by decide) hQ dX0_isEven_27
theorem X0_isEven_c {l : Launch} {D : va_G} {dA : Nat → ClassId} {b : Nat} {M : Wo} {a0 : Nat} {x1 : Int32} {r : Int32} (h : X0_isEven M a0 x1 = some r) : Met l yX0_isEven wsX0_isEven rX0_isEven (va_Pc [.ref a0, .int x1] (Wd D dA b M)) (Ei D dA b r M) 0 0 (Ab b) := met_i (by decide) rfl (Nat.le_of_ble_eq_true rfl) (fun X G hN hQ => X0_isEven_w G h hQ)
theorem X0_isEven_v {X : Cx} {y : MethodName} {cc : ByteArray} {Ts : List Cond} {nL : Nat} {ret : Option FieldType} {R : Room} (G : Gd X y cc Ts nL ret R) {index : Nat} (hg : GoodIn Ts (wsV y.cls index RX0 yX0_isEven wsX0_isEven)) (hR : rX0_isEven.frames + 1 ≤ R.frames ∧ 8 + (2 + 11) + rX0_isEven.locals ≤ R.locals) {k n pc : Nat} {M : Wo} {lv : List (Nat × Value)} {st : List Value} {a0 : Nat} {x1 : Int32} {r : Int32} (hv : X0_isEven M a0 x1 = some r) (hd : decode cc pc = .ok (.invokevirtual index, 3)) (h8 : (st.map fun v => v.category).sum ≤ 8) (hf : k ≤ R.cells ∧ n ≤ R.slots) (kk : Pt X k n (pc + 3) M lv (.int r :: st)) : Pt X k n pc M lv (.int x1 :: .ref a0 :: st) := pt_cVi (ci := 0) (nA := 1) (As := [.int x1]) G (X0_isEven_c hv) hg rfl rfl rfl (by decide +kernel) hR rfl (rcv hv) rfl rfl h8 hd hf kk
abbrev rX0_copyFrom : Room := { frames := 2, cells := 0, slots := 0, locals := 81 }
theorem m_X0_copyFrom_2 : Cond.methodLink RX0 35 arraycopyName ∈ wsX0_copyFrom := List.mem_of_getElem? (i := 2) rfl
theorem m_X0_copyFrom_3 : Cond.native arraycopyName ∈ wsX0_copyFrom := List.mem_of_getElem? (i := 3) rfl
theorem m_X0_copyFrom_4 : Cond.static arraycopyName ∈ wsX0_copyFrom := List.mem_of_getElem? (i := 4) rfl
theorem m_X0_copyFrom_5 : Cond.initialized "java/lang/System" ∈ wsX0_copyFrom := List.mem_of_getElem? (i := 5) rfl
theorem m_X0_copyFrom_7 : Cond.fieldLink RX0 22 "StageLines$Bar" "bricks" "LStageLines$Pile;" ∈ wsX0_copyFrom := List.mem_of_getElem? (i := 7) rfl
theorem u_X0_copyFrom_X0 : ∀ w ∈ u_ws RX0 TX0 3, w ∈ wsX0_copyFrom := mem_r [16, 17, 18] (by decide +kernel)
theorem m_X0_copyFrom_6 : Cond.fieldLink RX0 18 "StageLines$Bar" "pieces" "LStageLines$Pile;" ∈ wsX0_copyFrom := List.mem_of_getElem? (i := 6) rfl
theorem m_X0_copyFrom_1 : Cond.fieldLink RX0 9 "StageLines$Bar" "settings" "[I" ∈ wsX0_copyFrom := List.mem_of_getElem? (i := 1) rfl
def X0_copyFrom (M : Wo) (a0 : Nat) (a1 : Nat) : Option Wo :=
  (ckO M a0 0).bind fun _ => (gR M a1 0 0).bind fun w1 => (gR M a0 0 0).bind fun w3 => (gR M a0 0 0).bind fun w5 => (aL M w5).bind fun v7 => (cpI M w1 (0 : Int32) w3 (0 : Int32) v7).bind fun M9 => (gR M9 a0 0 1).bind fun w11 => (gR M9 a1 0 1).bind fun w13 => (X5_copyFrom M9 w11 w13).bind fun M16 => (gR M16 a0 0 2).bind fun w17 => (gR M16 a1 0 2).bind fun w19 => (X5_copyFrom M16 w17 w19).bind fun M22 => some M22
theorem X0_copyFrom_w {X : Cx} (G : Gd X yX0_copyFrom cX0_copyFrom wsX0_copyFrom 2 none rX0_copyFrom) {M : Wo} {a0 : Nat} {a1 : Nat} {o : Wo} (hd : X0_copyFrom M a0 a1 = some o) (hQ : Qv X o 0 0) : Pt X 0 0 0 M [(0, .ref a0), (1, .ref a1)] [] := by
  unfold X0_copyFrom at hd
  obtain ⟨_, _, hd⟩ := bnd hd
  refine pt_aload_n G 1 dX0_copyFrom_0 rfl rfl ?_
  obtain ⟨w1, h2, hd⟩ := bnd hd
  refine pt_get G (ci := 0) (j := 0) rfl (by decide) u_X0_copyFrom_X0 m_X0_copyFrom_1 (gR_o h2) dX0_copyFrom_1 ?_
  refine pt_iconst G (0 : Int32) dX0_copyFrom_4 ci_0 ?_
  refine pt_aload_n G 0 dX0_copyFrom_5 rfl rfl ?_
  obtain ⟨w3, h4, hd⟩ := bnd hd
  refine pt_get G (ci := 0) (j := 0) rfl (by decide) u_X0_copyFrom_X0 m_X0_copyFrom_1 (gR_o h4) dX0_copyFrom_6 ?_
  refine pt_iconst G (0 : Int32) dX0_copyFrom_9 ci_0 ?_
  refine pt_aload_n G 0 dX0_copyFrom_10 rfl rfl ?_
  obtain ⟨w5, h6, hd⟩ := bnd hd
  refine pt_get G (ci := 0) (j := 0) rfl (by decide) u_X0_copyFrom_X0 m_X0_copyFrom_1 (gR_o h6) dX0_copyFrom_11 ?_
  obtain ⟨v7, h8, hd⟩ := bnd hd
  refine pt_alen G h8 dX0_copyFrom_14 ?_
  obtain ⟨M9, h10, hd⟩ := bnd hd
  refine pt_copy G m_X0_copyFrom_2 m_X0_copyFrom_3 m_X0_copyFrom_4 m_X0_copyFrom_5 (Nat.le_of_ble_eq_true rfl) (by decide) h10 dX0_copyFrom_15 ?_
  refine pt_aload_n G 0 dX0_copyFrom_18 rfl rfl ?_
  obtain ⟨w11, h12, hd⟩ := bnd hd
  refine pt_get G (ci := 0) (j := 1) rfl (by decide) u_X0_copyFrom_X0 m_X0_copyFrom_6 (gR_o h12) dX0_copyFrom_19 ?_
  refine pt_aload_n G 1 dX0_copyFrom_22 rfl rfl ?_
  obtain ⟨w13, h14, hd⟩ := bnd hd
  refine pt_get G (ci := 0) (j := 1) rfl (by decide) u_X0_copyFrom_X0 m_X0_copyFrom_6 (gR_o h14) dX0_copyFrom_23 ?_
  obtain ⟨M16, h15, hd⟩ := bnd hd
  refine X5_copyFrom_v G gX0_copyFrom_X5_copyFrom ⟨(Nat.le_of_ble_eq_true rfl), (Nat.le_of_ble_eq_true rfl)⟩ h15 dX0_copyFrom_26 (Nat.le_of_ble_eq_true rfl) ⟨(Nat.le_of_ble_eq_true rfl), (Nat.le_of_ble_eq_true rfl)⟩ ?_
  refine pt_aload_n G 0 dX0_copyFrom_29 rfl rfl ?_
  obtain ⟨w17, h18, hd⟩ := bnd hd
  refine pt_get G (ci := 0) (j := 2) rfl (by decide) u_X0_copyFrom_X0 m_X0_copyFrom_7 (gR_o h18) dX0_copyFrom_30 ?_
  refine pt_aload_n G 1 dX0_copyFrom_33 rfl rfl ?_
  obtain ⟨w19, h20, hd⟩ := bnd hd
  refine pt_get G (ci := 0) (j := 2) rfl (by decide) u_X0_copyFrom_X0 m_X0_copyFrom_7 (gR_o h20) dX0_copyFrom_34 ?_
  obtain ⟨M22, h21, hd⟩ := bnd hd
  refine X5_copyFrom_v G gX0_copyFrom_X5_copyFrom ⟨(Nat.le_of_ble_eq_true rfl), (Nat.le_of_ble_eq_true rfl)⟩ h21 dX0_copyFrom_37 (Nat.le_of_ble_eq_true rfl) ⟨(Nat.le_of_ble_eq_true rfl), (Nat.le_of_ble_eq_true rfl)⟩ ?_
  cases hd
  exact pt_vret G hQ dX0_copyFrom_40
theorem X0_copyFrom_c {l : Launch} {D : va_G} {dA : Nat → ClassId} {b : Nat} {M : Wo} {a0 : Nat} {a1 : Nat} {M2 : Wo} (h : X0_copyFrom M a0 a1 = some M2) : Met l yX0_copyFrom wsX0_copyFrom rX0_copyFrom (va_Pc [.ref a0, .ref a1] (Wd D dA b M)) (Ev D dA b M2) 0 0 (Ab b) := met_v (by decide) rfl (Nat.le_of_ble_eq_true rfl) (fun X G hN hQ => X0_copyFrom_w G h hQ)
theorem X0_copyFrom_v {X : Cx} {y : MethodName} {cc : ByteArray} {Ts : List Cond} {nL : Nat} {ret : Option FieldType} {R : Room} (G : Gd X y cc Ts nL ret R) {index : Nat} (hg : GoodIn Ts (wsV y.cls index RX0 yX0_copyFrom wsX0_copyFrom)) (hR : rX0_copyFrom.frames + 1 ≤ R.frames ∧ 8 + (2 + 11) + rX0_copyFrom.locals ≤ R.locals) {k n pc : Nat} {M : Wo} {lv : List (Nat × Value)} {st : List Value} {a0 : Nat} {a1 : Nat} {M2 : Wo} (hv : X0_copyFrom M a0 a1 = some M2) (hd : decode cc pc = .ok (.invokevirtual index, 3)) (h8 : (st.map fun v => v.category).sum ≤ 8) (hf : k ≤ R.cells ∧ n ≤ R.slots) (kk : Pt X k n (pc + 3) M2 lv st) : Pt X k n pc M lv (.ref a1 :: .ref a0 :: st) := pt_cVv (ci := 0) (nA := 1) (As := [.ref a1]) G (X0_copyFrom_c hv) hg rfl rfl rfl (by decide +kernel) hR rfl (rcv hv) rfl rfl h8 hd hf kk
