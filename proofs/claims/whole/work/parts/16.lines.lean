abbrev rX7_init : Room := { frames := 4, cells := 242, slots := 8161, locals := 121 }
theorem m_X7_init_6 : Cond.initialized RX6 ∈ wsX7_init := List.mem_of_getElem? (i := 6) rfl
theorem m_X7_init_22 : Cond.methodLink RX7 11 yX6_init ∈ wsX7_init := List.mem_of_getElem? (i := 22) rfl
theorem m_X7_init_23 : Cond.instanceMethod yX6_init ∈ wsX7_init := List.mem_of_getElem? (i := 23) rfl
theorem u_X7_init_X6 : ∀ w ∈ u_ws RX6 TX6 4, w ∈ wsX7_init := mem_r [82, 83, 84, 85] (by decide +kernel)
theorem m_X7_init_4 : Cond.classLink RX7 9 RX6 ∈ wsX7_init := List.mem_of_getElem? (i := 4) rfl
theorem m_X7_init_5 : Cond.instantiable RX6 4 ∈ wsX7_init := List.mem_of_getElem? (i := 5) rfl
theorem m_X7_init_8 : Cond.fieldLink RX7 16 "StageLines" "images" "[LStageLines$Stage;" ∈ wsX7_init := List.mem_of_getElem? (i := 8) rfl
theorem u_X7_init_X7 : ∀ w ∈ u_ws RX7 TX7 6, w ∈ wsX7_init := mem_r [86, 87, 88, 89, 90, 91] (by decide +kernel)
theorem m_X7_init_21 : Cond.fieldLink RX7 41 "StageLines" "crewFinder" "LStageLines$CrewFinder;" ∈ wsX7_init := List.mem_of_getElem? (i := 21) rfl
theorem m_X7_init_20 : Cond.initialized RX1 ∈ wsX7_init := List.mem_of_getElem? (i := 20) rfl
theorem m_X7_init_71 : Cond.instanceMethod yX1_init ∈ wsX7_init := List.mem_of_getElem? (i := 71) rfl
theorem u_X7_init_X1 : ∀ w ∈ u_ws RX1 TX1 7, w ∈ wsX7_init := mem_r [98, 99, 100, 101, 102, 103, 104] (by decide +kernel)
theorem m_X7_init_18 : Cond.classLink RX7 38 RX1 ∈ wsX7_init := List.mem_of_getElem? (i := 18) rfl
theorem m_X7_init_19 : Cond.instantiable RX1 7 ∈ wsX7_init := List.mem_of_getElem? (i := 19) rfl
theorem m_X7_init_17 : Cond.fieldLink RX7 34 "StageLines" "flight" "LStageLines$Flight;" ∈ wsX7_init := List.mem_of_getElem? (i := 17) rfl
theorem m_X7_init_16 : Cond.initialized RX2 ∈ wsX7_init := List.mem_of_getElem? (i := 16) rfl
theorem m_X7_init_66 : Cond.instanceMethod yX2_init ∈ wsX7_init := List.mem_of_getElem? (i := 66) rfl
theorem u_X7_init_X2 : ∀ w ∈ u_ws RX2 TX2 1, w ∈ wsX7_init := mem_r [97] (by decide +kernel)
theorem m_X7_init_14 : Cond.classLink RX7 31 RX2 ∈ wsX7_init := List.mem_of_getElem? (i := 14) rfl
theorem m_X7_init_15 : Cond.instantiable RX2 1 ∈ wsX7_init := List.mem_of_getElem? (i := 15) rfl
theorem m_X7_init_13 : Cond.fieldLink RX7 27 "StageLines" "loader" "LStageLines$Loader;" ∈ wsX7_init := List.mem_of_getElem? (i := 13) rfl
theorem m_X7_init_12 : Cond.initialized RX3 ∈ wsX7_init := List.mem_of_getElem? (i := 12) rfl
theorem m_X7_init_58 : Cond.instanceMethod yX3_init ∈ wsX7_init := List.mem_of_getElem? (i := 58) rfl
theorem u_X7_init_X3 : ∀ w ∈ u_ws RX3 TX3 5, w ∈ wsX7_init := mem_r [92, 93, 94, 95, 96] (by decide +kernel)
theorem m_X7_init_10 : Cond.classLink RX7 24 RX3 ∈ wsX7_init := List.mem_of_getElem? (i := 10) rfl
theorem m_X7_init_11 : Cond.instantiable RX3 5 ∈ wsX7_init := List.mem_of_getElem? (i := 11) rfl
theorem m_X7_init_9 : Cond.fieldLink RX7 20 "StageLines" "keptImages" "I" ∈ wsX7_init := List.mem_of_getElem? (i := 9) rfl
theorem m_X7_init_7 : Cond.fieldLink RX7 12 "StageLines" "stage" "LStageLines$Stage;" ∈ wsX7_init := List.mem_of_getElem? (i := 7) rfl
theorem m_X7_init_1 : Cond.methodLink RX7 3 objectInit ∈ wsX7_init := List.mem_of_getElem? (i := 1) rfl
theorem m_X7_init_2 : Cond.instanceMethod objectInit ∈ wsX7_init := List.mem_of_getElem? (i := 2) rfl
theorem m_X7_init_3 : Cond.code objectInit ⟨#[0xb1]⟩ 1 none ∈ wsX7_init := List.mem_of_getElem? (i := 3) rfl
def X7_init (M : Wo) (a0 : Nat) : Option Wo :=
  (ckO M a0 7).bind fun _ => (nwO M 6 [.null, .null, .int 0, .int 0]).bind (un2 fun w1 M2 => (X6_init M2 w1).bind fun M5 => (pV M5 a0 7 0 (.ref w1)).bind fun M6 => (nwR M6 4 2).bind (un2 fun w8 M9 => (pV M9 a0 7 1 (.ref w8)).bind fun M11 => (pV M11 a0 7 2 (.int (0 : Int32))).bind fun M13 => (nwO M13 3 [.null, .null, .null, .int 0, .int 0]).bind (un2 fun w15 M16 => (X3_init M16 w15).bind fun M19 => (pV M19 a0 7 3 (.ref w15)).bind fun M20 => (nwO M20 2 [.null]).bind (un2 fun w22 M23 => (X2_init M23 w22).bind fun M26 => (pV M26 a0 7 4 (.ref w22)).bind fun M27 => (nwO M27 1 [.int 0, .null, .null, .null, .null, .null, .int 0]).bind (un2 fun w29 M30 => (X1_init M30 w29).bind fun M33 => (pV M33 a0 7 5 (.ref w29)).bind fun M34 => (gR M34 a0 7 1).bind fun w36 => (nwO M34 6 [.null, .null, .int 0, .int 0]).bind (un2 fun w38 M39 => (X6_init M39 w38).bind fun M42 => (sR M42 4 6 w36 (0 : Int32) w38).bind fun M43 => (gR M43 a0 7 1).bind fun w45 => (nwO M43 6 [.null, .null, .int 0, .int 0]).bind (un2 fun w47 M48 => (X6_init M48 w47).bind fun M51 => (sR M51 4 6 w45 (1 : Int32) w47).bind fun M52 => some M52)))))))
theorem X7_init_w {X : Cx} (G : Gd X yX7_init cX7_init wsX7_init 2 none rX7_init) (hN : (xT X).name = "<init>") {M : Wo} {a0 : Nat} {o : Wo} (hd : X7_init M a0 = some o) (hQ : Qv X o 242 8161) : Pt X 0 0 0 M [(0, .ref a0)] [] := by
  unfold X7_init at hd
  obtain ⟨_, _, hd⟩ := bnd hd
  refine pt_aload_n G 0 dX7_init_0 rfl rfl ?_
  refine pt_obj G m_X7_init_1 m_X7_init_2 m_X7_init_3 (Nat.le_of_ble_eq_true rfl) (Nat.le_of_ble_eq_true rfl) dX7_init_1 ?_
  refine pt_aload_n G 0 dX7_init_4 rfl rfl ?_
  obtain ⟨⟨w1, M2⟩, h3, hd⟩ := bnd hd
  replace hd := un2_e hd
  refine pt_newE G (ci := 6) [.null, .null, .int 0, .int 0] rfl u_X7_init_X6 tyX6 tyX6_ok m_X7_init_4 m_X7_init_5 m_X7_init_6 (by decide) (by decide) (by decide) h3 dX7_init_5 ?_
  refine pt_dup G dX7_init_8 rfl ?_
  obtain ⟨M5, h4, hd⟩ := bnd hd
  refine X6_init_vi G gX7_init_X6_init m_X7_init_6 m_X7_init_22 m_X7_init_23 ⟨(Nat.le_of_ble_eq_true rfl), (Nat.le_of_ble_eq_true rfl)⟩ h4 dX7_init_9 (Nat.le_of_ble_eq_true rfl) ⟨(Nat.le_of_ble_eq_true rfl), (Nat.le_of_ble_eq_true rfl)⟩ ?_
  obtain ⟨M6, h7, hd⟩ := bnd hd
  refine pt_putF G hN (ci := 7) (j := 0) rfl (by decide) u_X7_init_X7 m_X7_init_7 tyX7 tyX7_ok nmX7 rfl rfl rfl rfl h7 dX7_init_12 ?_
  refine pt_aload_n G 0 dX7_init_15 rfl rfl ?_
  refine pt_iconst G (2 : Int32) dX7_init_16 ci_2 ?_
  obtain ⟨⟨w8, M9⟩, h10, hd⟩ := bnd hd
  replace hd := un2_e hd
  refine pt_anewE G (kd := 4) (N := 2) (C := RX6) rfl m_X7_init_4 G.k.2.2.1.2.2.1 (by decide) (by decide) (by decide) (by decide) (by decide) h10 dX7_init_17 ?_
  obtain ⟨M11, h12, hd⟩ := bnd hd
  refine pt_putF G hN (ci := 7) (j := 1) rfl (by decide) u_X7_init_X7 m_X7_init_8 tyX7 tyX7_ok nmX7 rfl rfl rfl rfl h12 dX7_init_20 ?_
  refine pt_aload_n G 0 dX7_init_23 rfl rfl ?_
  refine pt_iconst G (0 : Int32) dX7_init_24 ci_0 ?_
  obtain ⟨M13, h14, hd⟩ := bnd hd
  refine pt_put G (ci := 7) (j := 2) rfl (by decide) u_X7_init_X7 m_X7_init_9 tyX7 tyX7_ok nmX7 rfl rfl rfl h14 dX7_init_25 ?_
  refine pt_aload_n G 0 dX7_init_28 rfl rfl ?_
  obtain ⟨⟨w15, M16⟩, h17, hd⟩ := bnd hd
  replace hd := un2_e hd
  refine pt_newE G (ci := 3) [.null, .null, .null, .int 0, .int 0] rfl u_X7_init_X3 tyX3 tyX3_ok m_X7_init_10 m_X7_init_11 m_X7_init_12 (by decide) (by decide) (by decide) h17 dX7_init_29 ?_
  refine pt_dup G dX7_init_32 rfl ?_
  obtain ⟨M19, h18, hd⟩ := bnd hd
  refine X3_init_vn G gX7_init_X3_init_n26 m_X7_init_12 G.k.2.1.2.2.2.1 m_X7_init_58 ⟨(Nat.le_of_ble_eq_true rfl), (Nat.le_of_ble_eq_true rfl)⟩ h18 dX7_init_33 (Nat.le_of_ble_eq_true rfl) ⟨(Nat.le_of_ble_eq_true rfl), (Nat.le_of_ble_eq_true rfl)⟩ ?_
  obtain ⟨M20, h21, hd⟩ := bnd hd
  refine pt_putF G hN (ci := 7) (j := 3) rfl (by decide) u_X7_init_X7 m_X7_init_13 tyX7 tyX7_ok nmX7 rfl rfl rfl rfl h21 dX7_init_36 ?_
  refine pt_aload_n G 0 dX7_init_39 rfl rfl ?_
  obtain ⟨⟨w22, M23⟩, h24, hd⟩ := bnd hd
  replace hd := un2_e hd
  refine pt_newE G (ci := 2) [.null] rfl u_X7_init_X2 tyX2 tyX2_ok m_X7_init_14 m_X7_init_15 m_X7_init_16 (by decide) (by decide) (by decide) h24 dX7_init_40 ?_
  refine pt_dup G dX7_init_43 rfl ?_
  obtain ⟨M26, h25, hd⟩ := bnd hd
  refine X2_init_vn G gX7_init_X2_init_n33 m_X7_init_16 G.k.2.1.2.2.2.2.1 m_X7_init_66 ⟨(Nat.le_of_ble_eq_true rfl), (Nat.le_of_ble_eq_true rfl)⟩ h25 dX7_init_44 (Nat.le_of_ble_eq_true rfl) ⟨(Nat.le_of_ble_eq_true rfl), (Nat.le_of_ble_eq_true rfl)⟩ ?_
  obtain ⟨M27, h28, hd⟩ := bnd hd
  refine pt_putF G hN (ci := 7) (j := 4) rfl (by decide) u_X7_init_X7 m_X7_init_17 tyX7 tyX7_ok nmX7 rfl rfl rfl rfl h28 dX7_init_47 ?_
  refine pt_aload_n G 0 dX7_init_50 rfl rfl ?_
  obtain ⟨⟨w29, M30⟩, h31, hd⟩ := bnd hd
  replace hd := un2_e hd
  refine pt_newE G (ci := 1) [.int 0, .null, .null, .null, .null, .null, .int 0] rfl u_X7_init_X1 tyX1 tyX1_ok m_X7_init_18 m_X7_init_19 m_X7_init_20 (by decide) (by decide) (by decide) h31 dX7_init_51 ?_
  refine pt_dup G dX7_init_54 rfl ?_
  obtain ⟨M33, h32, hd⟩ := bnd hd
  refine X1_init_vn G gX7_init_X1_init_n40 m_X7_init_20 G.k.2.1.2.2.2.2.2 m_X7_init_71 ⟨(Nat.le_of_ble_eq_true rfl), (Nat.le_of_ble_eq_true rfl)⟩ h32 dX7_init_55 (Nat.le_of_ble_eq_true rfl) ⟨(Nat.le_of_ble_eq_true rfl), (Nat.le_of_ble_eq_true rfl)⟩ ?_
  obtain ⟨M34, h35, hd⟩ := bnd hd
  refine pt_putF G hN (ci := 7) (j := 5) rfl (by decide) u_X7_init_X7 m_X7_init_21 tyX7 tyX7_ok nmX7 rfl rfl rfl rfl h35 dX7_init_58 ?_
  refine pt_iconst G (0 : Int32) dX7_init_61 ci_0 ?_
  refine pt_istore_n G [(1, .int (0 : Int32)), (0, .ref a0)] dX7_init_62 rfl (by decide) rfl ?_
  refine pt_iload_n G 0 dX7_init_63 rfl rfl ?_
  refine pt_iconst G (2 : Int32) dX7_init_64 ci_2 ?_
  refine pt_icmp_ge G 87 dX7_init_65 (by decide) (fun c9 => absurd c9 (by decide)) (fun _ => ?_)
  refine pt_aload_n G 1 dX7_init_68 rfl rfl ?_
  obtain ⟨w36, h37, hd⟩ := bnd hd
  refine pt_get G (ci := 7) (j := 1) rfl (by decide) u_X7_init_X7 m_X7_init_8 (gR_o h37) dX7_init_69 ?_
  refine pt_iload_n G 0 dX7_init_72 rfl rfl ?_
  obtain ⟨⟨w38, M39⟩, h40, hd⟩ := bnd hd
  replace hd := un2_e hd
  refine pt_newE G (ci := 6) [.null, .null, .int 0, .int 0] rfl u_X7_init_X6 tyX6 tyX6_ok m_X7_init_4 m_X7_init_5 m_X7_init_6 (by decide) (by decide) (by decide) h40 dX7_init_73 ?_
  refine pt_dup G dX7_init_76 rfl ?_
  obtain ⟨M42, h41, hd⟩ := bnd hd
  refine X6_init_vi G gX7_init_X6_init m_X7_init_6 m_X7_init_22 m_X7_init_23 ⟨(Nat.le_of_ble_eq_true rfl), (Nat.le_of_ble_eq_true rfl)⟩ h41 dX7_init_77 (Nat.le_of_ble_eq_true rfl) ⟨(Nat.le_of_ble_eq_true rfl), (Nat.le_of_ble_eq_true rfl)⟩ ?_
  obtain ⟨M43, h44, hd⟩ := bnd hd
  refine pt_aast G (kd := 4) (ci := 6) (r := (RX6, TX6, 4)) rfl rfl h44 dX7_init_80 ?_
  refine pt_iinc G 0 (1 : Int32) [(1, .int (1 : Int32)), (0, .ref a0)] dX7_init_81 rfl (by decide) (by decide) rfl ?_
  refine pt_goto G 63 dX7_init_84 (by decide) ?_
  refine pt_iload_n G 0 dX7_init_63 rfl rfl ?_
  refine pt_iconst G (2 : Int32) dX7_init_64 ci_2 ?_
  refine pt_icmp_ge G 87 dX7_init_65 (by decide) (fun c9 => absurd c9 (by decide)) (fun _ => ?_)
  refine pt_aload_n G 1 dX7_init_68 rfl rfl ?_
  obtain ⟨w45, h46, hd⟩ := bnd hd
  refine pt_get G (ci := 7) (j := 1) rfl (by decide) u_X7_init_X7 m_X7_init_8 (gR_o h46) dX7_init_69 ?_
  refine pt_iload_n G 0 dX7_init_72 rfl rfl ?_
  obtain ⟨⟨w47, M48⟩, h49, hd⟩ := bnd hd
  replace hd := un2_e hd
  refine pt_newE G (ci := 6) [.null, .null, .int 0, .int 0] rfl u_X7_init_X6 tyX6 tyX6_ok m_X7_init_4 m_X7_init_5 m_X7_init_6 (by decide) (by decide) (by decide) h49 dX7_init_73 ?_
  refine pt_dup G dX7_init_76 rfl ?_
  obtain ⟨M51, h50, hd⟩ := bnd hd
  refine X6_init_vi G gX7_init_X6_init m_X7_init_6 m_X7_init_22 m_X7_init_23 ⟨(Nat.le_of_ble_eq_true rfl), (Nat.le_of_ble_eq_true rfl)⟩ h50 dX7_init_77 (Nat.le_of_ble_eq_true rfl) ⟨(Nat.le_of_ble_eq_true rfl), (Nat.le_of_ble_eq_true rfl)⟩ ?_
  obtain ⟨M52, h53, hd⟩ := bnd hd
  refine pt_aast G (kd := 4) (ci := 6) (r := (RX6, TX6, 4)) rfl rfl h53 dX7_init_80 ?_
  refine pt_iinc G 0 (2 : Int32) [(1, .int (2 : Int32)), (0, .ref a0)] dX7_init_81 rfl (by decide) (by decide) rfl ?_
  refine pt_goto G 63 dX7_init_84 (by decide) ?_
  refine pt_iload_n G 0 dX7_init_63 rfl rfl ?_
  refine pt_iconst G (2 : Int32) dX7_init_64 ci_2 ?_
  refine pt_icmp_ge G 87 dX7_init_65 (by decide) (fun _ => ?_) (fun c9 => absurd c9 (by decide))
  cases hd
  exact pt_vret G hQ dX7_init_87
theorem X7_init_c {l : Launch} {D : va_G} {dA : Nat → ClassId} {b : Nat} {M : Wo} {a0 : Nat} {M2 : Wo} (h : X7_init M a0 = some M2) : Met l yX7_init wsX7_init rX7_init (va_Pc [.ref a0] (Wd D dA b M)) (Ev D dA b M2) 242 8161 (Ab b) := met_v (by decide) rfl (Nat.le_of_ble_eq_true rfl) (fun X G hN hQ => X7_init_w G hN h hQ)
theorem X7_init_vi {X : Cx} {y : MethodName} {cc : ByteArray} {Ts : List Cond} {nL : Nat} {ret : Option FieldType} {R : Room} (G : Gd X y cc Ts nL ret R) {index : Nat} (hg : GoodIn Ts wsX7_init) (hini : Cond.initialized yX7_init.cls ∈ Ts) (hl : Cond.methodLink y.cls index yX7_init ∈ Ts) (hi : Cond.instanceMethod yX7_init ∈ Ts) (hR : rX7_init.frames + 1 ≤ R.frames ∧ 8 + (2 + 11) + rX7_init.locals ≤ R.locals) {k n pc : Nat} {M : Wo} {lv : List (Nat × Value)} {st : List Value} {a0 : Nat} {M2 : Wo} (hv : X7_init M a0 = some M2) (hd : decode cc pc = .ok (.invokespecial index, 3)) (h8 : (st.map fun v => v.category).sum ≤ 8) (hf : k + 242 ≤ R.cells ∧ n + 8161 ≤ R.slots) (kk : Pt X (k + 242) (n + 8161) (pc + 3) M2 lv st) : Pt X k n pc M lv (.ref a0 :: st) := pt_cI (nA := 0) (As := []) G (X7_init_c hv) hg rfl rfl rfl hini hl hi rfl (by decide +kernel) hR rfl rfl h8 hd hf kk
theorem X7_init_vn {X : Cx} {y : MethodName} {cc : ByteArray} {Ts : List Cond} {nL : Nat} {ret : Option FieldType} {R : Room} (G : Gd X y cc Ts nL ret R) {index : Nat} (hg : GoodIn Ts wsX7_init) (hini : Cond.initialized yX7_init.cls ∈ Ts) (hl : va_Nw (.methodLinkNest y.cls index yX7_init "StageLines") (xS X)) (hi : Cond.instanceMethod yX7_init ∈ Ts) (hR : rX7_init.frames + 1 ≤ R.frames ∧ 8 + (2 + 11) + rX7_init.locals ≤ R.locals) {k n pc : Nat} {M : Wo} {lv : List (Nat × Value)} {st : List Value} {a0 : Nat} {M2 : Wo} (hv : X7_init M a0 = some M2) (hd : decode cc pc = .ok (.invokespecial index, 3)) (h8 : (st.map fun v => v.category).sum ≤ 8) (hf : k + 242 ≤ R.cells ∧ n + 8161 ≤ R.slots) (kk : Pt X (k + 242) (n + 8161) (pc + 3) M2 lv st) : Pt X k n pc M lv (.ref a0 :: st) := pt_cN (nA := 0) (As := []) G (X7_init_c hv) hg rfl rfl rfl hini hl hi rfl (by decide +kernel) hR rfl rfl h8 hd hf kk
abbrev rX7_within : Room := { frames := 0, cells := 0, slots := 0, locals := 0 }
def X7_within (M : Wo) (x0 : Int32) (x1 : Int32) (x2 : Int32) : Option Int32 :=
  if x0 < x1 then (some (0 : Int32)) else (if x2 < x0 then (some (0 : Int32)) else (some (1 : Int32)))
theorem X7_within_w {X : Cx} (G : Gd X yX7_within cX7_within wsX7_within 3 (some .boolean) rX7_within) {M : Wo} {x0 : Int32} {x1 : Int32} {x2 : Int32} {o : Int32} (hd : X7_within M x0 x1 x2 = some o) (hQ : Qi X o M 0 0) : Pt X 0 0 0 M [(0, .int x0), (1, .int x1), (2, .int x2)] [] := by
  unfold X7_within at hd
  refine pt_iload_n G 0 dX7_within_0 rfl rfl ?_
  refine pt_iload_n G 1 dX7_within_1 rfl rfl ?_
  refine pt_icmp_lt G 14 dX7_within_2 (by decide) (fun c2 => ?_) (fun c2 => ?_)
  · replace hd := ifp c2 hd
    refine pt_iconst G (0 : Int32) dX7_within_14 ci_0 ?_
    cases hd
    exact pt_zret G (by decide) hQ dX7_within_15
  · replace hd := ifn c2 hd
    refine pt_iload_n G 0 dX7_within_5 rfl rfl ?_
    refine pt_iload_n G 2 dX7_within_6 rfl rfl ?_
    refine pt_icmp_gt G 14 dX7_within_7 (by decide) (fun c1 => ?_) (fun c1 => ?_)
    · replace hd := ifp c1 hd
      refine pt_iconst G (0 : Int32) dX7_within_14 ci_0 ?_
      cases hd
      exact pt_zret G (by decide) hQ dX7_within_15
    · replace hd := ifn c1 hd
      refine pt_iconst G (1 : Int32) dX7_within_10 ci_1 ?_
      refine pt_goto G 15 dX7_within_11 (by decide) ?_
      cases hd
      exact pt_zret G (by decide) hQ dX7_within_15
theorem X7_within_c {l : Launch} {D : va_G} {dA : Nat → ClassId} {b : Nat} {M : Wo} {x0 : Int32} {x1 : Int32} {x2 : Int32} {r : Int32} (h : X7_within M x0 x1 x2 = some r) : Met l yX7_within wsX7_within rX7_within (va_Pc [.int x0, .int x1, .int x2] (Wd D dA b M)) (Ei D dA b r M) 0 0 (Ab b) := met_i (by decide) rfl (Nat.le_of_ble_eq_true rfl) (fun X G hN hQ => X7_within_w G h hQ)
theorem X7_within_v {X : Cx} {y : MethodName} {cc : ByteArray} {Ts : List Cond} {nL : Nat} {ret : Option FieldType} {R : Room} (G : Gd X y cc Ts nL ret R) {index : Nat} (hg : GoodIn Ts (va_wsS y.cls index yX7_within wsX7_within)) (hR : rX7_within.frames + 1 ≤ R.frames ∧ 8 + (3 + 11) + rX7_within.locals ≤ R.locals) {k n pc : Nat} {M : Wo} {lv : List (Nat × Value)} {st : List Value} {x0 : Int32} {x1 : Int32} {x2 : Int32} {r : Int32} (hv : X7_within M x0 x1 x2 = some r) (hd : decode cc pc = .ok (.invokestatic index, 3)) (h8 : (st.map fun v => v.category).sum ≤ 8) (hf : k ≤ R.cells ∧ n ≤ R.slots) (kk : Pt X k n (pc + 3) M lv (.int r :: st)) : Pt X k n pc M lv (.int x2 :: .int x1 :: .int x0 :: st) := pt_cSi (nA := 3) (As := [.int x0, .int x1, .int x2]) G (X7_within_c hv) hg rfl rfl rfl (by decide +kernel) hR rfl rfl h8 hd hf kk
abbrev rX7_isBar : Room := { frames := 1, cells := 0, slots := 0, locals := 22 }
def X7_isBar (M : Wo) (x0 : Int32) : Option Int32 :=
  (X7_within M x0 (0 : Int32) (9 : Int32)).bind fun v2 => (ckB v2).bind fun _ => some v2
theorem X7_isBar_w {X : Cx} (G : Gd X yX7_isBar cX7_isBar wsX7_isBar 1 (some .boolean) rX7_isBar) {M : Wo} {x0 : Int32} {o : Int32} (hd : X7_isBar M x0 = some o) (hQ : Qi X o M 0 0) : Pt X 0 0 0 M [(0, .int x0)] [] := by
  unfold X7_isBar at hd
  refine pt_iload_n G 0 dX7_isBar_0 rfl rfl ?_
  refine pt_iconst G (0 : Int32) dX7_isBar_1 ci_0 ?_
  refine pt_bipush G (9 : Int32) dX7_isBar_2 bi_9 ?_
  obtain ⟨v2, h1, hd⟩ := bnd hd
  refine X7_within_v G gX7_isBar_X7_within ⟨(Nat.le_of_ble_eq_true rfl), (Nat.le_of_ble_eq_true rfl)⟩ h1 dX7_isBar_4 (Nat.le_of_ble_eq_true rfl) ⟨(Nat.le_of_ble_eq_true rfl), (Nat.le_of_ble_eq_true rfl)⟩ ?_
  obtain ⟨_, h3, hd⟩ := bnd hd
  cases hd
  exact pt_zret G (ckB_o h3) hQ dX7_isBar_7
theorem X7_isBar_c {l : Launch} {D : va_G} {dA : Nat → ClassId} {b : Nat} {M : Wo} {x0 : Int32} {r : Int32} (h : X7_isBar M x0 = some r) : Met l yX7_isBar wsX7_isBar rX7_isBar (va_Pc [.int x0] (Wd D dA b M)) (Ei D dA b r M) 0 0 (Ab b) := met_i (by decide) rfl (Nat.le_of_ble_eq_true rfl) (fun X G hN hQ => X7_isBar_w G h hQ)
theorem X7_isBar_v {X : Cx} {y : MethodName} {cc : ByteArray} {Ts : List Cond} {nL : Nat} {ret : Option FieldType} {R : Room} (G : Gd X y cc Ts nL ret R) {index : Nat} (hg : GoodIn Ts (va_wsS y.cls index yX7_isBar wsX7_isBar)) (hR : rX7_isBar.frames + 1 ≤ R.frames ∧ 8 + (1 + 11) + rX7_isBar.locals ≤ R.locals) {k n pc : Nat} {M : Wo} {lv : List (Nat × Value)} {st : List Value} {x0 : Int32} {r : Int32} (hv : X7_isBar M x0 = some r) (hd : decode cc pc = .ok (.invokestatic index, 3)) (h8 : (st.map fun v => v.category).sum ≤ 8) (hf : k ≤ R.cells ∧ n ≤ R.slots) (kk : Pt X k n (pc + 3) M lv (.int r :: st)) : Pt X k n pc M lv (.int x0 :: st) := pt_cSi (nA := 1) (As := [.int x0]) G (X7_isBar_c hv) hg rfl rfl rfl (by decide +kernel) hR rfl rfl h8 hd hf kk
abbrev rX7_set : Room := { frames := 2, cells := 0, slots := 0, locals := 42 }
theorem m_X7_set_1 : Cond.fieldLink RX7 53 "StageLines" "GREATEST_SETTING" "[I" ∈ wsX7_set := List.mem_of_getElem? (i := 1) rfl
theorem m_X7_set_5 : Cond.fieldLink RX7 64 "StageLines$Bar" "settings" "[I" ∈ wsX7_set := List.mem_of_getElem? (i := 5) rfl
theorem u_X7_set_X0 : ∀ w ∈ u_ws RX0 TX0 3, w ∈ wsX7_set := mem_r [23, 24, 25] (by decide +kernel)
theorem m_X7_set_4 : Cond.fieldLink RX7 60 "StageLines$Stage" "bars" "[LStageLines$Bar;" ∈ wsX7_set := List.mem_of_getElem? (i := 4) rfl
theorem u_X7_set_X6 : ∀ w ∈ u_ws RX6 TX6 4, w ∈ wsX7_set := mem_r [19, 20, 21, 22] (by decide +kernel)
theorem m_X7_set_2 : Cond.fieldLink RX7 12 "StageLines" "stage" "LStageLines$Stage;" ∈ wsX7_set := List.mem_of_getElem? (i := 2) rfl
theorem u_X7_set_X7 : ∀ w ∈ u_ws RX7 TX7 6, w ∈ wsX7_set := mem_r [13, 14, 15, 16, 17, 18] (by decide +kernel)
theorem m_X7_set_3 : Cond.fieldLink RX7 57 "StageLines$Stage" "sway" "I" ∈ wsX7_set := List.mem_of_getElem? (i := 3) rfl
def X7_set (M : Wo) (a0 : Nat) (x1 : Int32) (x2 : Int32) (x3 : Int32) : Option (Int32 × Wo) :=
  (ckO M a0 7).bind fun _ => (X7_isBar M x1).bind fun v2 => if v2 = 0 then (some ((-1 : Int32), M)) else ((X7_within M x2 (0 : Int32) (3 : Int32)).bind fun v4 => if v4 = 0 then (some ((-2 : Int32), M)) else ((ldS x2).bind fun v7 => (X7_within M x3 (0 : Int32) v7).bind fun v10 => if v10 = 0 then (some ((-2 : Int32), M)) else (if x2 = (3 : Int32) then ((gR M a0 7 0).bind fun w31 => (gI M w31 6 3).bind fun v33 => (gR M a0 7 0).bind fun w35 => (pV M w35 6 3 (.int x3)).bind fun M37 => some (v33, M37)) else ((gR M a0 7 0).bind fun w11 => (gR M w11 6 0).bind fun w13 => (lR M 2 w13 x1).bind fun w15 => (gR M w15 0 0).bind fun w17 => (lA M 0 w17 x2).bind fun v19 => (gR M a0 7 0).bind fun w21 => (gR M w21 6 0).bind fun w23 => (lR M 2 w23 x1).bind fun w25 => (gR M w25 0 0).bind fun w27 => (sA M w27 x2 x3).bind fun M29 => some (v19, M29)))))
theorem X7_set_w {X : Cx} (G : Gd X yX7_set cX7_set wsX7_set 5 (some .int) rX7_set) {M : Wo} {a0 : Nat} {x1 : Int32} {x2 : Int32} {x3 : Int32} {o : (Int32 × Wo)} (hd : X7_set M a0 x1 x2 x3 = some o) (hQ : Qi X o.1 o.2 0 0) : Pt X 0 0 0 M [(0, .ref a0), (1, .int x1), (2, .int x2), (3, .int x3)] [] := by
  unfold X7_set at hd
  obtain ⟨_, _, hd⟩ := bnd hd
  refine pt_iload_n G 1 dX7_set_0 rfl rfl ?_
  obtain ⟨v2, h1, hd⟩ := bnd hd
  refine X7_isBar_v G gX7_set_X7_isBar ⟨(Nat.le_of_ble_eq_true rfl), (Nat.le_of_ble_eq_true rfl)⟩ h1 dX7_set_1 (Nat.le_of_ble_eq_true rfl) ⟨(Nat.le_of_ble_eq_true rfl), (Nat.le_of_ble_eq_true rfl)⟩ ?_
  refine pt_if_ne G 9 dX7_set_4 (by decide) (fun c42 => ?_) (fun c42 => ?_)
  · replace hd := ifn c42 hd
    refine pt_iload_n G 2 dX7_set_9 rfl rfl ?_
    refine pt_iconst G (0 : Int32) dX7_set_10 ci_0 ?_
    refine pt_iconst G (3 : Int32) dX7_set_11 ci_3 ?_
    obtain ⟨v4, h3, hd⟩ := bnd hd
    refine X7_within_v G gX7_set_X7_within ⟨(Nat.le_of_ble_eq_true rfl), (Nat.le_of_ble_eq_true rfl)⟩ h3 dX7_set_12 (Nat.le_of_ble_eq_true rfl) ⟨(Nat.le_of_ble_eq_true rfl), (Nat.le_of_ble_eq_true rfl)⟩ ?_
    refine pt_if_eq G 31 dX7_set_15 (by decide) (fun c41 => ?_) (fun c41 => ?_)
    · replace hd := ifp c41 hd
      refine pt_bipush G (-2 : Int32) dX7_set_31 bi_m2 ?_
      cases hd
      exact pt_iret G hQ dX7_set_33
    · replace hd := ifn c41 hd
      refine pt_iload_n G 3 dX7_set_18 rfl rfl ?_
      refine pt_iconst G (0 : Int32) dX7_set_19 ci_0 ?_
      refine pt_gst G m_X7_set_1 dX7_set_20 (fun ts5 ht6 => ?_)
      refine pt_iload_n G 2 dX7_set_23 rfl rfl ?_
      obtain ⟨v7, h8, hd⟩ := bnd hd
      refine pt_iaS G ht6 h8 dX7_set_24 ?_
      obtain ⟨v10, h9, hd⟩ := bnd hd
      refine X7_within_v G gX7_set_X7_within ⟨(Nat.le_of_ble_eq_true rfl), (Nat.le_of_ble_eq_true rfl)⟩ h9 dX7_set_25 (Nat.le_of_ble_eq_true rfl) ⟨(Nat.le_of_ble_eq_true rfl), (Nat.le_of_ble_eq_true rfl)⟩ ?_
      refine pt_if_ne G 34 dX7_set_28 (by decide) (fun c40 => ?_) (fun c40 => ?_)
      · replace hd := ifn c40 hd
        refine pt_iload_n G 2 dX7_set_34 rfl rfl ?_
        refine pt_iconst G (3 : Int32) dX7_set_35 ci_3 ?_
        refine pt_icmp_ne G 59 dX7_set_36 (by decide) (fun c39 => ?_) (fun c39 => ?_)
        · replace hd := ifn c39 hd
          refine pt_aload_n G 0 dX7_set_59 rfl rfl ?_
          obtain ⟨w11, h12, hd⟩ := bnd hd
          refine pt_get G (ci := 7) (j := 0) rfl (by decide) u_X7_set_X7 m_X7_set_2 (gR_o h12) dX7_set_60 ?_
          obtain ⟨w13, h14, hd⟩ := bnd hd
          refine pt_get G (ci := 6) (j := 0) rfl (by decide) u_X7_set_X6 m_X7_set_4 (gR_o h14) dX7_set_63 ?_
          refine pt_iload_n G 1 dX7_set_66 rfl rfl ?_
          obtain ⟨w15, h16, hd⟩ := bnd hd
          refine pt_aald G (kd := 2) rfl rfl h16 dX7_set_67 ?_
          obtain ⟨w17, h18, hd⟩ := bnd hd
          refine pt_get G (ci := 0) (j := 0) rfl (by decide) u_X7_set_X0 m_X7_set_5 (gR_o h18) dX7_set_68 ?_
          refine pt_iload_n G 2 dX7_set_71 rfl rfl ?_
          obtain ⟨v19, h20, hd⟩ := bnd hd
          refine pt_iald G h20 dX7_set_72 ?_
          refine pt_istore G [(4, .int v19), (0, .ref a0), (1, .int x1), (2, .int x2), (3, .int x3)] dX7_set_73 (by decide) rfl ?_
          refine pt_aload_n G 1 dX7_set_75 rfl rfl ?_
          obtain ⟨w21, h22, hd⟩ := bnd hd
          refine pt_get G (ci := 7) (j := 0) rfl (by decide) u_X7_set_X7 m_X7_set_2 (gR_o h22) dX7_set_76 ?_
          obtain ⟨w23, h24, hd⟩ := bnd hd
          refine pt_get G (ci := 6) (j := 0) rfl (by decide) u_X7_set_X6 m_X7_set_4 (gR_o h24) dX7_set_79 ?_
          refine pt_iload_n G 2 dX7_set_82 rfl rfl ?_
          obtain ⟨w25, h26, hd⟩ := bnd hd
          refine pt_aald G (kd := 2) rfl rfl h26 dX7_set_83 ?_
          obtain ⟨w27, h28, hd⟩ := bnd hd
          refine pt_get G (ci := 0) (j := 0) rfl (by decide) u_X7_set_X0 m_X7_set_5 (gR_o h28) dX7_set_84 ?_
          refine pt_iload_n G 3 dX7_set_87 rfl rfl ?_
          refine pt_iload_n G 4 dX7_set_88 rfl rfl ?_
          obtain ⟨M29, h30, hd⟩ := bnd hd
          refine pt_iast G h30 dX7_set_89 ?_
          refine pt_iload G 0 dX7_set_90 rfl ?_
          cases hd
          exact pt_iret G hQ dX7_set_92
        · replace hd := ifp c39 hd
          refine pt_aload_n G 0 dX7_set_39 rfl rfl ?_
          obtain ⟨w31, h32, hd⟩ := bnd hd
          refine pt_get G (ci := 7) (j := 0) rfl (by decide) u_X7_set_X7 m_X7_set_2 (gR_o h32) dX7_set_40 ?_
          obtain ⟨v33, h34, hd⟩ := bnd hd
          refine pt_get G (ci := 6) (j := 3) rfl (by decide) u_X7_set_X6 m_X7_set_3 (gI_o h34) dX7_set_43 ?_
          refine pt_istore G [(4, .int v33), (0, .ref a0), (1, .int x1), (2, .int x2), (3, .int x3)] dX7_set_46 (by decide) rfl ?_
          refine pt_aload_n G 1 dX7_set_48 rfl rfl ?_
          obtain ⟨w35, h36, hd⟩ := bnd hd
          refine pt_get G (ci := 7) (j := 0) rfl (by decide) u_X7_set_X7 m_X7_set_2 (gR_o h36) dX7_set_49 ?_
          refine pt_iload_n G 4 dX7_set_52 rfl rfl ?_
          obtain ⟨M37, h38, hd⟩ := bnd hd
          refine pt_put G (ci := 6) (j := 3) rfl (by decide) u_X7_set_X6 m_X7_set_3 tyX6 tyX6_ok nmX6 rfl rfl rfl h38 dX7_set_53 ?_
          refine pt_goto G 90 dX7_set_56 (by decide) ?_
          refine pt_iload G 0 dX7_set_90 rfl ?_
          cases hd
          exact pt_iret G hQ dX7_set_92
      · replace hd := ifp c40 hd
        refine pt_bipush G (-2 : Int32) dX7_set_31 bi_m2 ?_
        cases hd
        exact pt_iret G hQ dX7_set_33
  · replace hd := ifp c42 hd
    refine pt_iconst G (-1 : Int32) dX7_set_7 ci_m1 ?_
    cases hd
    exact pt_iret G hQ dX7_set_8
theorem X7_set_c {l : Launch} {D : va_G} {dA : Nat → ClassId} {b : Nat} {M : Wo} {a0 : Nat} {x1 : Int32} {x2 : Int32} {x3 : Int32} {r : Int32} {M2 : Wo} (h : X7_set M a0 x1 x2 x3 = some (r, M2)) : Met l yX7_set wsX7_set rX7_set (va_Pc [.ref a0, .int x1, .int x2, .int x3] (Wd D dA b M)) (Ei D dA b r M2) 0 0 (Ab b) := met_i (by decide) rfl (Nat.le_of_ble_eq_true rfl) (fun X G hN hQ => X7_set_w G h hQ)
theorem X7_set_v {X : Cx} {y : MethodName} {cc : ByteArray} {Ts : List Cond} {nL : Nat} {ret : Option FieldType} {R : Room} (G : Gd X y cc Ts nL ret R) {index : Nat} (hg : GoodIn Ts (wsV y.cls index RX7 yX7_set wsX7_set)) (hR : rX7_set.frames + 1 ≤ R.frames ∧ 8 + (5 + 11) + rX7_set.locals ≤ R.locals) {k n pc : Nat} {M : Wo} {lv : List (Nat × Value)} {st : List Value} {a0 : Nat} {x1 : Int32} {x2 : Int32} {x3 : Int32} {r : Int32} {M2 : Wo} (hv : X7_set M a0 x1 x2 x3 = some (r, M2)) (hd : decode cc pc = .ok (.invokevirtual index, 3)) (h8 : (st.map fun v => v.category).sum ≤ 8) (hf : k ≤ R.cells ∧ n ≤ R.slots) (kk : Pt X k n (pc + 3) M2 lv (.int r :: st)) : Pt X k n pc M lv (.int x3 :: .int x2 :: .int x1 :: .ref a0 :: st) := pt_cVi (ci := 7) (nA := 3) (As := [.int x1, .int x2, .int x3]) G (X7_set_c hv) hg rfl rfl rfl (by decide +kernel) hR rfl (rcv hv) rfl rfl h8 hd hf kk
abbrev rX7_load : Room := { frames := 2, cells := 0, slots := 0, locals := 42 }
theorem m_X7_load_3 : Cond.fieldLink RX7 73 "StageLines$Pile" "size" "I" ∈ wsX7_load := List.mem_of_getElem? (i := 3) rfl
theorem u_X7_load_X5 : ∀ w ∈ u_ws RX5 TX5 2, w ∈ wsX7_load := mem_r [35, 36] (by decide +kernel)
theorem m_X7_load_2 : Cond.fieldLink RX7 60 "StageLines$Stage" "bars" "[LStageLines$Bar;" ∈ wsX7_load := List.mem_of_getElem? (i := 2) rfl
theorem u_X7_load_X6 : ∀ w ∈ u_ws RX6 TX6 4, w ∈ wsX7_load := mem_r [31, 32, 33, 34] (by decide +kernel)
theorem m_X7_load_1 : Cond.fieldLink RX7 12 "StageLines" "stage" "LStageLines$Stage;" ∈ wsX7_load := List.mem_of_getElem? (i := 1) rfl
theorem u_X7_load_X7 : ∀ w ∈ u_ws RX7 TX7 6, w ∈ wsX7_load := mem_r [25, 26, 27, 28, 29, 30] (by decide +kernel)
def X7_load (M : Wo) (a0 : Nat) (x1 : Int32) (x2 : Int32) (x3 : Int32) : Option (Int32 × Wo) :=
  (ckO M a0 7).bind fun _ => (X7_isBar M x1).bind fun v2 => if v2 = 0 then (some ((-1 : Int32), M)) else ((X7_within M x2 (0 : Int32) (1 : Int32)).bind fun v4 => if v4 = 0 then (some ((-2 : Int32), M)) else ((X7_within M x3 (1 : Int32) (50 : Int32)).bind fun v6 => if v6 = 0 then (some ((-2 : Int32), M)) else ((gR M a0 7 0).bind fun w7 => (gR M w7 6 0).bind fun w9 => (lR M 2 w9 x1).bind fun w11 => (X0_pileOf M w11 x2).bind fun w14 => (gI M w14 5 1).bind fun v15 => if v15 < (6 : Int32) then ((X5_add M w14 x3).bind fun M18 => (gI M18 w14 5 1).bind fun v19 => some (v19, M18)) else (some ((-4 : Int32), M)))))
theorem X7_load_w {X : Cx} (G : Gd X yX7_load cX7_load wsX7_load 5 (some .int) rX7_load) {M : Wo} {a0 : Nat} {x1 : Int32} {x2 : Int32} {x3 : Int32} {o : (Int32 × Wo)} (hd : X7_load M a0 x1 x2 x3 = some o) (hQ : Qi X o.1 o.2 0 0) : Pt X 0 0 0 M [(0, .ref a0), (1, .int x1), (2, .int x2), (3, .int x3)] [] := by
  unfold X7_load at hd
  obtain ⟨_, _, hd⟩ := bnd hd
  refine pt_iload_n G 1 dX7_load_0 rfl rfl ?_
  obtain ⟨v2, h1, hd⟩ := bnd hd
  refine X7_isBar_v G gX7_load_X7_isBar ⟨(Nat.le_of_ble_eq_true rfl), (Nat.le_of_ble_eq_true rfl)⟩ h1 dX7_load_1 (Nat.le_of_ble_eq_true rfl) ⟨(Nat.le_of_ble_eq_true rfl), (Nat.le_of_ble_eq_true rfl)⟩ ?_
  refine pt_if_ne G 9 dX7_load_4 (by decide) (fun c24 => ?_) (fun c24 => ?_)
  · replace hd := ifn c24 hd
    refine pt_iload_n G 2 dX7_load_9 rfl rfl ?_
    refine pt_iconst G (0 : Int32) dX7_load_10 ci_0 ?_
    refine pt_iconst G (1 : Int32) dX7_load_11 ci_1 ?_
    obtain ⟨v4, h3, hd⟩ := bnd hd
    refine X7_within_v G gX7_load_X7_within ⟨(Nat.le_of_ble_eq_true rfl), (Nat.le_of_ble_eq_true rfl)⟩ h3 dX7_load_12 (Nat.le_of_ble_eq_true rfl) ⟨(Nat.le_of_ble_eq_true rfl), (Nat.le_of_ble_eq_true rfl)⟩ ?_
    refine pt_if_eq G 28 dX7_load_15 (by decide) (fun c23 => ?_) (fun c23 => ?_)
    · replace hd := ifp c23 hd
      refine pt_bipush G (-2 : Int32) dX7_load_28 bi_m2 ?_
      cases hd
      exact pt_iret G hQ dX7_load_30
    · replace hd := ifn c23 hd
      refine pt_iload_n G 3 dX7_load_18 rfl rfl ?_
      refine pt_iconst G (1 : Int32) dX7_load_19 ci_1 ?_
      refine pt_bipush G (50 : Int32) dX7_load_20 bi_50 ?_
      obtain ⟨v6, h5, hd⟩ := bnd hd
      refine X7_within_v G gX7_load_X7_within ⟨(Nat.le_of_ble_eq_true rfl), (Nat.le_of_ble_eq_true rfl)⟩ h5 dX7_load_22 (Nat.le_of_ble_eq_true rfl) ⟨(Nat.le_of_ble_eq_true rfl), (Nat.le_of_ble_eq_true rfl)⟩ ?_
      refine pt_if_ne G 31 dX7_load_25 (by decide) (fun c22 => ?_) (fun c22 => ?_)
      · replace hd := ifn c22 hd
        refine pt_aload_n G 0 dX7_load_31 rfl rfl ?_
        obtain ⟨w7, h8, hd⟩ := bnd hd
        refine pt_get G (ci := 7) (j := 0) rfl (by decide) u_X7_load_X7 m_X7_load_1 (gR_o h8) dX7_load_32 ?_
        obtain ⟨w9, h10, hd⟩ := bnd hd
        refine pt_get G (ci := 6) (j := 0) rfl (by decide) u_X7_load_X6 m_X7_load_2 (gR_o h10) dX7_load_35 ?_
        refine pt_iload_n G 1 dX7_load_38 rfl rfl ?_
        obtain ⟨w11, h12, hd⟩ := bnd hd
        refine pt_aald G (kd := 2) rfl rfl h12 dX7_load_39 ?_
        refine pt_iload_n G 2 dX7_load_40 rfl rfl ?_
        obtain ⟨w14, h13, hd⟩ := bnd hd
        refine X0_pileOf_v G gX7_load_X0_pileOf ⟨(Nat.le_of_ble_eq_true rfl), (Nat.le_of_ble_eq_true rfl)⟩ h13 dX7_load_41 (Nat.le_of_ble_eq_true rfl) ⟨(Nat.le_of_ble_eq_true rfl), (Nat.le_of_ble_eq_true rfl)⟩ ?_
        refine pt_astore G [(4, .ref w14), (0, .ref a0), (1, .int x1), (2, .int x2), (3, .int x3)] dX7_load_44 (by decide) rfl ?_
        refine pt_aload G 0 dX7_load_46 rfl ?_
        obtain ⟨v15, h16, hd⟩ := bnd hd
        refine pt_get G (ci := 5) (j := 1) rfl (by decide) u_X7_load_X5 m_X7_load_3 (gI_o h16) dX7_load_48 ?_
        refine pt_bipush G (6 : Int32) dX7_load_51 bi_6 ?_
        refine pt_icmp_lt G 59 dX7_load_53 (by decide) (fun c21 => ?_) (fun c21 => ?_)
        · replace hd := ifp c21 hd
          refine pt_aload G 0 dX7_load_59 rfl ?_
          refine pt_iload_n G 4 dX7_load_61 rfl rfl ?_
          obtain ⟨M18, h17, hd⟩ := bnd hd
          refine X5_add_v G gX7_load_X5_add ⟨(Nat.le_of_ble_eq_true rfl), (Nat.le_of_ble_eq_true rfl)⟩ h17 dX7_load_62 (Nat.le_of_ble_eq_true rfl) ⟨(Nat.le_of_ble_eq_true rfl), (Nat.le_of_ble_eq_true rfl)⟩ ?_
          refine pt_aload G 0 dX7_load_65 rfl ?_
          obtain ⟨v19, h20, hd⟩ := bnd hd
          refine pt_get G (ci := 5) (j := 1) rfl (by decide) u_X7_load_X5 m_X7_load_3 (gI_o h20) dX7_load_67 ?_
          cases hd
          exact pt_iret G hQ dX7_load_70
        · replace hd := ifn c21 hd
          refine pt_bipush G (-4 : Int32) dX7_load_56 bi_m4 ?_
          cases hd
          exact pt_iret G hQ dX7_load_58
      · replace hd := ifp c22 hd
        refine pt_bipush G (-2 : Int32) dX7_load_28 bi_m2 ?_
        cases hd
        exact pt_iret G hQ dX7_load_30
  · replace hd := ifp c24 hd
    refine pt_iconst G (-1 : Int32) dX7_load_7 ci_m1 ?_
    cases hd
    exact pt_iret G hQ dX7_load_8
theorem X7_load_c {l : Launch} {D : va_G} {dA : Nat → ClassId} {b : Nat} {M : Wo} {a0 : Nat} {x1 : Int32} {x2 : Int32} {x3 : Int32} {r : Int32} {M2 : Wo} (h : X7_load M a0 x1 x2 x3 = some (r, M2)) : Met l yX7_load wsX7_load rX7_load (va_Pc [.ref a0, .int x1, .int x2, .int x3] (Wd D dA b M)) (Ei D dA b r M2) 0 0 (Ab b) := met_i (by decide) rfl (Nat.le_of_ble_eq_true rfl) (fun X G hN hQ => X7_load_w G h hQ)
theorem X7_load_v {X : Cx} {y : MethodName} {cc : ByteArray} {Ts : List Cond} {nL : Nat} {ret : Option FieldType} {R : Room} (G : Gd X y cc Ts nL ret R) {index : Nat} (hg : GoodIn Ts (wsV y.cls index RX7 yX7_load wsX7_load)) (hR : rX7_load.frames + 1 ≤ R.frames ∧ 8 + (5 + 11) + rX7_load.locals ≤ R.locals) {k n pc : Nat} {M : Wo} {lv : List (Nat × Value)} {st : List Value} {a0 : Nat} {x1 : Int32} {x2 : Int32} {x3 : Int32} {r : Int32} {M2 : Wo} (hv : X7_load M a0 x1 x2 x3 = some (r, M2)) (hd : decode cc pc = .ok (.invokevirtual index, 3)) (h8 : (st.map fun v => v.category).sum ≤ 8) (hf : k ≤ R.cells ∧ n ≤ R.slots) (kk : Pt X k n (pc + 3) M2 lv (.int r :: st)) : Pt X k n pc M lv (.int x3 :: .int x2 :: .int x1 :: .ref a0 :: st) := pt_cVi (ci := 7) (nA := 3) (As := [.int x1, .int x2, .int x3]) G (X7_load_c hv) hg rfl rfl rfl (by decide +kernel) hR rfl (rcv hv) rfl rfl h8 hd hf kk
abbrev rX7_take : Room := { frames := 2, cells := 0, slots := 0, locals := 42 }
theorem m_X7_take_3 : Cond.fieldLink RX7 73 "StageLines$Pile" "size" "I" ∈ wsX7_take := List.mem_of_getElem? (i := 3) rfl
theorem u_X7_take_X5 : ∀ w ∈ u_ws RX5 TX5 2, w ∈ wsX7_take := mem_r [35, 36] (by decide +kernel)
theorem m_X7_take_2 : Cond.fieldLink RX7 60 "StageLines$Stage" "bars" "[LStageLines$Bar;" ∈ wsX7_take := List.mem_of_getElem? (i := 2) rfl
theorem u_X7_take_X6 : ∀ w ∈ u_ws RX6 TX6 4, w ∈ wsX7_take := mem_r [31, 32, 33, 34] (by decide +kernel)
theorem m_X7_take_1 : Cond.fieldLink RX7 12 "StageLines" "stage" "LStageLines$Stage;" ∈ wsX7_take := List.mem_of_getElem? (i := 1) rfl
theorem u_X7_take_X7 : ∀ w ∈ u_ws RX7 TX7 6, w ∈ wsX7_take := mem_r [25, 26, 27, 28, 29, 30] (by decide +kernel)
def X7_take (M : Wo) (a0 : Nat) (x1 : Int32) (x2 : Int32) (x3 : Int32) : Option (Int32 × Wo) :=
  (ckO M a0 7).bind fun _ => (X7_isBar M x1).bind fun v2 => if v2 = 0 then (some ((-1 : Int32), M)) else ((X7_within M x2 (0 : Int32) (1 : Int32)).bind fun v4 => if v4 = 0 then (some ((-2 : Int32), M)) else ((gR M a0 7 0).bind fun w5 => (gR M w5 6 0).bind fun w7 => (lR M 2 w7 x1).bind fun w9 => (X0_pileOf M w9 x2).bind fun w12 => (gI M w12 5 1).bind fun v13 => (X7_within M x3 (0 : Int32) (v13 - (1 : Int32))).bind fun v16 => if v16 = 0 then (some ((-5 : Int32), M)) else ((X5_remove M w12 x3).bind (un2 fun v18 M19 => some (v18, M19)))))
theorem X7_take_w {X : Cx} (G : Gd X yX7_take cX7_take wsX7_take 5 (some .int) rX7_take) {M : Wo} {a0 : Nat} {x1 : Int32} {x2 : Int32} {x3 : Int32} {o : (Int32 × Wo)} (hd : X7_take M a0 x1 x2 x3 = some o) (hQ : Qi X o.1 o.2 0 0) : Pt X 0 0 0 M [(0, .ref a0), (1, .int x1), (2, .int x2), (3, .int x3)] [] := by
  unfold X7_take at hd
  obtain ⟨_, _, hd⟩ := bnd hd
  refine pt_iload_n G 1 dX7_take_0 rfl rfl ?_
  obtain ⟨v2, h1, hd⟩ := bnd hd
  refine X7_isBar_v G gX7_take_X7_isBar ⟨(Nat.le_of_ble_eq_true rfl), (Nat.le_of_ble_eq_true rfl)⟩ h1 dX7_take_1 (Nat.le_of_ble_eq_true rfl) ⟨(Nat.le_of_ble_eq_true rfl), (Nat.le_of_ble_eq_true rfl)⟩ ?_
  refine pt_if_ne G 9 dX7_take_4 (by decide) (fun c22 => ?_) (fun c22 => ?_)
  · replace hd := ifn c22 hd
    refine pt_iload_n G 2 dX7_take_9 rfl rfl ?_
    refine pt_iconst G (0 : Int32) dX7_take_10 ci_0 ?_
    refine pt_iconst G (1 : Int32) dX7_take_11 ci_1 ?_
    obtain ⟨v4, h3, hd⟩ := bnd hd
    refine X7_within_v G gX7_take_X7_within ⟨(Nat.le_of_ble_eq_true rfl), (Nat.le_of_ble_eq_true rfl)⟩ h3 dX7_take_12 (Nat.le_of_ble_eq_true rfl) ⟨(Nat.le_of_ble_eq_true rfl), (Nat.le_of_ble_eq_true rfl)⟩ ?_
    refine pt_if_ne G 21 dX7_take_15 (by decide) (fun c21 => ?_) (fun c21 => ?_)
    · replace hd := ifn c21 hd
      refine pt_aload_n G 0 dX7_take_21 rfl rfl ?_
      obtain ⟨w5, h6, hd⟩ := bnd hd
      refine pt_get G (ci := 7) (j := 0) rfl (by decide) u_X7_take_X7 m_X7_take_1 (gR_o h6) dX7_take_22 ?_
      obtain ⟨w7, h8, hd⟩ := bnd hd
      refine pt_get G (ci := 6) (j := 0) rfl (by decide) u_X7_take_X6 m_X7_take_2 (gR_o h8) dX7_take_25 ?_
      refine pt_iload_n G 1 dX7_take_28 rfl rfl ?_
      obtain ⟨w9, h10, hd⟩ := bnd hd
      refine pt_aald G (kd := 2) rfl rfl h10 dX7_take_29 ?_
      refine pt_iload_n G 2 dX7_take_30 rfl rfl ?_
      obtain ⟨w12, h11, hd⟩ := bnd hd
      refine X0_pileOf_v G gX7_take_X0_pileOf ⟨(Nat.le_of_ble_eq_true rfl), (Nat.le_of_ble_eq_true rfl)⟩ h11 dX7_take_31 (Nat.le_of_ble_eq_true rfl) ⟨(Nat.le_of_ble_eq_true rfl), (Nat.le_of_ble_eq_true rfl)⟩ ?_
      refine pt_astore G [(4, .ref w12), (0, .ref a0), (1, .int x1), (2, .int x2), (3, .int x3)] dX7_take_34 (by decide) rfl ?_
      refine pt_iload_n G 4 dX7_take_36 rfl rfl ?_
      refine pt_iconst G (0 : Int32) dX7_take_37 ci_0 ?_
      refine pt_aload G 0 dX7_take_38 rfl ?_
      obtain ⟨v13, h14, hd⟩ := bnd hd
      refine pt_get G (ci := 5) (j := 1) rfl (by decide) u_X7_take_X5 m_X7_take_3 (gI_o h14) dX7_take_40 ?_
      refine pt_iconst G (1 : Int32) dX7_take_43 ci_1 ?_
      refine pt_isub G dX7_take_44 ?_
      obtain ⟨v16, h15, hd⟩ := bnd hd
      refine X7_within_v G gX7_take_X7_within ⟨(Nat.le_of_ble_eq_true rfl), (Nat.le_of_ble_eq_true rfl)⟩ h15 dX7_take_45 (Nat.le_of_ble_eq_true rfl) ⟨(Nat.le_of_ble_eq_true rfl), (Nat.le_of_ble_eq_true rfl)⟩ ?_
      refine pt_if_ne G 54 dX7_take_48 (by decide) (fun c20 => ?_) (fun c20 => ?_)
      · replace hd := ifn c20 hd
        refine pt_aload G 0 dX7_take_54 rfl ?_
        refine pt_iload_n G 4 dX7_take_56 rfl rfl ?_
        obtain ⟨⟨v18, M19⟩, h17, hd⟩ := bnd hd
        replace hd := un2_e hd
        refine X5_remove_v G gX7_take_X5_remove ⟨(Nat.le_of_ble_eq_true rfl), (Nat.le_of_ble_eq_true rfl)⟩ h17 dX7_take_57 (Nat.le_of_ble_eq_true rfl) ⟨(Nat.le_of_ble_eq_true rfl), (Nat.le_of_ble_eq_true rfl)⟩ ?_
        cases hd
        exact pt_iret G hQ dX7_take_60
      · replace hd := ifp c20 hd
        refine pt_bipush G (-5 : Int32) dX7_take_51 bi_m5 ?_
        cases hd
        exact pt_iret G hQ dX7_take_53
    · replace hd := ifp c21 hd
      refine pt_bipush G (-2 : Int32) dX7_take_18 bi_m2 ?_
      cases hd
      exact pt_iret G hQ dX7_take_20
  · replace hd := ifp c22 hd
    refine pt_iconst G (-1 : Int32) dX7_take_7 ci_m1 ?_
    cases hd
    exact pt_iret G hQ dX7_take_8
theorem X7_take_c {l : Launch} {D : va_G} {dA : Nat → ClassId} {b : Nat} {M : Wo} {a0 : Nat} {x1 : Int32} {x2 : Int32} {x3 : Int32} {r : Int32} {M2 : Wo} (h : X7_take M a0 x1 x2 x3 = some (r, M2)) : Met l yX7_take wsX7_take rX7_take (va_Pc [.ref a0, .int x1, .int x2, .int x3] (Wd D dA b M)) (Ei D dA b r M2) 0 0 (Ab b) := met_i (by decide) rfl (Nat.le_of_ble_eq_true rfl) (fun X G hN hQ => X7_take_w G h hQ)
theorem X7_take_v {X : Cx} {y : MethodName} {cc : ByteArray} {Ts : List Cond} {nL : Nat} {ret : Option FieldType} {R : Room} (G : Gd X y cc Ts nL ret R) {index : Nat} (hg : GoodIn Ts (wsV y.cls index RX7 yX7_take wsX7_take)) (hR : rX7_take.frames + 1 ≤ R.frames ∧ 8 + (5 + 11) + rX7_take.locals ≤ R.locals) {k n pc : Nat} {M : Wo} {lv : List (Nat × Value)} {st : List Value} {a0 : Nat} {x1 : Int32} {x2 : Int32} {x3 : Int32} {r : Int32} {M2 : Wo} (hv : X7_take M a0 x1 x2 x3 = some (r, M2)) (hd : decode cc pc = .ok (.invokevirtual index, 3)) (h8 : (st.map fun v => v.category).sum ≤ 8) (hf : k ≤ R.cells ∧ n ≤ R.slots) (kk : Pt X k n (pc + 3) M2 lv (.int r :: st)) : Pt X k n pc M lv (.int x3 :: .int x2 :: .int x1 :: .ref a0 :: st) := pt_cVi (ci := 7) (nA := 3) (As := [.int x1, .int x2, .int x3]) G (X7_take_c hv) hg rfl rfl rfl (by decide +kernel) hR rfl (rcv hv) rfl rfl h8 hd hf kk
abbrev rX7_bar : Room := { frames := 2, cells := 0, slots := 0, locals := 81 }
theorem m_X7_bar_5 : Cond.fieldLink RX7 64 "StageLines$Bar" "settings" "[I" ∈ wsX7_bar := List.mem_of_getElem? (i := 5) rfl
theorem u_X7_bar_X0 : ∀ w ∈ u_ws RX0 TX0 3, w ∈ wsX7_bar := mem_r [56, 57, 58] (by decide +kernel)
theorem m_X7_bar_6 : Cond.fieldLink RX7 73 "StageLines$Pile" "size" "I" ∈ wsX7_bar := List.mem_of_getElem? (i := 6) rfl
theorem u_X7_bar_X5 : ∀ w ∈ u_ws RX5 TX5 2, w ∈ wsX7_bar := mem_r [59, 60] (by decide +kernel)
theorem m_X7_bar_3 : Cond.fieldLink RX7 86 "StageLines$Bar" "pieces" "LStageLines$Pile;" ∈ wsX7_bar := List.mem_of_getElem? (i := 3) rfl
theorem m_X7_bar_4 : Cond.fieldLink RX7 93 "StageLines$Bar" "bricks" "LStageLines$Pile;" ∈ wsX7_bar := List.mem_of_getElem? (i := 4) rfl
theorem m_X7_bar_7 : Cond.fieldLink RX7 57 "StageLines$Stage" "sway" "I" ∈ wsX7_bar := List.mem_of_getElem? (i := 7) rfl
theorem u_X7_bar_X6 : ∀ w ∈ u_ws RX6 TX6 4, w ∈ wsX7_bar := mem_r [52, 53, 54, 55] (by decide +kernel)
theorem m_X7_bar_1 : Cond.fieldLink RX7 12 "StageLines" "stage" "LStageLines$Stage;" ∈ wsX7_bar := List.mem_of_getElem? (i := 1) rfl
theorem u_X7_bar_X7 : ∀ w ∈ u_ws RX7 TX7 6, w ∈ wsX7_bar := mem_r [46, 47, 48, 49, 50, 51] (by decide +kernel)
theorem m_X7_bar_2 : Cond.fieldLink RX7 60 "StageLines$Stage" "bars" "[LStageLines$Bar;" ∈ wsX7_bar := List.mem_of_getElem? (i := 2) rfl
def X7_bar (M : Wo) (a0 : Nat) (x1 : Int32) (x2 : Int32) : Option Int32 :=
  (ckO M a0 7).bind fun _ => (X7_isBar M x1).bind fun v2 => if v2 = 0 then (some (-1 : Int32)) else ((gR M a0 7 0).bind fun w3 => (gR M w3 6 0).bind fun w5 => (lR M 2 w5 x1).bind fun w7 => (X7_within M x2 (10 : Int32) (15 : Int32)).bind fun v10 => if v10 = 0 then ((X7_within M x2 (20 : Int32) (25 : Int32)).bind fun v12 => if v12 = 0 then (if x2 = (0 : Int32) then ((gR M w7 0 0).bind fun w14 => (lA M 0 w14 (0 : Int32)).bind fun v16 => some v16) else if x2 = (1 : Int32) then ((gR M w7 0 0).bind fun w19 => (lA M 0 w19 (1 : Int32)).bind fun v21 => some v21) else if x2 = (2 : Int32) then ((gR M w7 0 0).bind fun w24 => (lA M 0 w24 (2 : Int32)).bind fun v26 => some v26) else if x2 = (3 : Int32) then ((gR M w7 0 1).bind fun w29 => (gI M w29 5 1).bind fun v31 => some v31) else if x2 = (4 : Int32) then ((gR M w7 0 2).bind fun w34 => (gI M w34 5 1).bind fun v36 => some v36) else if x2 = (5 : Int32) then ((gR M w7 0 1).bind fun w39 => (X5_total M w39).bind fun v42 => some v42) else if x2 = (6 : Int32) then ((gR M w7 0 2).bind fun w44 => (X5_total M w44).bind fun v47 => some v47) else if x2 = (7 : Int32) then ((gR M a0 7 0).bind fun w49 => (gI M w49 6 3).bind fun v51 => (X0_isEven M w7 v51).bind fun v54 => if v54 = 0 then (some (0 : Int32)) else (some (1 : Int32))) else if x2 = (8 : Int32) then ((gR M a0 7 0).bind fun w57 => (X6_movesOf M w57 x1).bind fun v60 => some v60) else (some (-2 : Int32))) else ((gR M w7 0 2).bind fun w61 => (X5_weightOf M w61 (x2 - (20 : Int32))).bind fun v64 => some v64)) else ((gR M w7 0 1).bind fun w66 => (X5_weightOf M w66 (x2 - (10 : Int32))).bind fun v69 => some v69))
theorem X7_bar_w {X : Cx} (G : Gd X yX7_bar cX7_bar wsX7_bar 4 (some .int) rX7_bar) {M : Wo} {a0 : Nat} {x1 : Int32} {x2 : Int32} {o : Int32} (hd : X7_bar M a0 x1 x2 = some o) (hQ : Qi X o M 0 0) : Pt X 0 0 0 M [(0, .ref a0), (1, .int x1), (2, .int x2)] [] := by
  unfold X7_bar at hd
  obtain ⟨_, _, hd⟩ := bnd hd
  refine pt_iload_n G 1 dX7_bar_0 rfl rfl ?_
  obtain ⟨v2, h1, hd⟩ := bnd hd
  refine X7_isBar_v G gX7_bar_X7_isBar ⟨(Nat.le_of_ble_eq_true rfl), (Nat.le_of_ble_eq_true rfl)⟩ h1 dX7_bar_1 (Nat.le_of_ble_eq_true rfl) ⟨(Nat.le_of_ble_eq_true rfl), (Nat.le_of_ble_eq_true rfl)⟩ ?_
  refine pt_if_ne G 9 dX7_bar_4 (by decide) (fun c71 => ?_) (fun c71 => ?_)
  · replace hd := ifn c71 hd
    refine pt_aload_n G 0 dX7_bar_9 rfl rfl ?_
    obtain ⟨w3, h4, hd⟩ := bnd hd
    refine pt_get G (ci := 7) (j := 0) rfl (by decide) u_X7_bar_X7 m_X7_bar_1 (gR_o h4) dX7_bar_10 ?_
    obtain ⟨w5, h6, hd⟩ := bnd hd
    refine pt_get G (ci := 6) (j := 0) rfl (by decide) u_X7_bar_X6 m_X7_bar_2 (gR_o h6) dX7_bar_13 ?_
    refine pt_iload_n G 1 dX7_bar_16 rfl rfl ?_
    obtain ⟨w7, h8, hd⟩ := bnd hd
    refine pt_aald G (kd := 2) rfl rfl h8 dX7_bar_17 ?_
    refine pt_astore_n G [(3, .ref w7), (0, .ref a0), (1, .int x1), (2, .int x2)] dX7_bar_18 rfl (by decide) rfl ?_
    refine pt_iload_n G 3 dX7_bar_19 rfl rfl ?_
    refine pt_bipush G (10 : Int32) dX7_bar_20 bi_10 ?_
    refine pt_bipush G (15 : Int32) dX7_bar_22 bi_15 ?_
    obtain ⟨v10, h9, hd⟩ := bnd hd
    refine X7_within_v G gX7_bar_X7_within ⟨(Nat.le_of_ble_eq_true rfl), (Nat.le_of_ble_eq_true rfl)⟩ h9 dX7_bar_24 (Nat.le_of_ble_eq_true rfl) ⟨(Nat.le_of_ble_eq_true rfl), (Nat.le_of_ble_eq_true rfl)⟩ ?_
    refine pt_if_eq G 42 dX7_bar_27 (by decide) (fun c70 => ?_) (fun c70 => ?_)
    · replace hd := ifp c70 hd
      refine pt_iload_n G 3 dX7_bar_42 rfl rfl ?_
      refine pt_bipush G (20 : Int32) dX7_bar_43 bi_20 ?_
      refine pt_bipush G (25 : Int32) dX7_bar_45 bi_25 ?_
      obtain ⟨v12, h11, hd⟩ := bnd hd
      refine X7_within_v G gX7_bar_X7_within ⟨(Nat.le_of_ble_eq_true rfl), (Nat.le_of_ble_eq_true rfl)⟩ h11 dX7_bar_47 (Nat.le_of_ble_eq_true rfl) ⟨(Nat.le_of_ble_eq_true rfl), (Nat.le_of_ble_eq_true rfl)⟩ ?_
      refine pt_if_eq G 65 dX7_bar_50 (by decide) (fun c65 => ?_) (fun c65 => ?_)
      · replace hd := ifp c65 hd
        refine pt_iload_n G 3 dX7_bar_65 rfl rfl ?_
        by_cases c13 : x2 = (0 : Int32)
        · replace hd := ifp c13 hd
          refine pt_tsIn G 116 dX7_bar_66 (by rw [c13]; decide) (by rw [c13]; decide) (by rw [c13]; rfl) (by decide) ?_
          refine pt_aload_n G 0 dX7_bar_116 rfl rfl ?_
          obtain ⟨w14, h15, hd⟩ := bnd hd
          refine pt_get G (ci := 0) (j := 0) rfl (by decide) u_X7_bar_X0 m_X7_bar_5 (gR_o h15) dX7_bar_117 ?_
          refine pt_iconst G (0 : Int32) dX7_bar_120 ci_0 ?_
          obtain ⟨v16, h17, hd⟩ := bnd hd
          refine pt_iald G h17 dX7_bar_121 ?_
          cases hd
          exact pt_iret G hQ dX7_bar_122
        replace hd := ifn c13 hd
        by_cases c18 : x2 = (1 : Int32)
        · replace hd := ifp c18 hd
          refine pt_tsIn G 123 dX7_bar_66 (by rw [c18]; decide) (by rw [c18]; decide) (by rw [c18]; rfl) (by decide) ?_
          refine pt_aload_n G 0 dX7_bar_123 rfl rfl ?_
          obtain ⟨w19, h20, hd⟩ := bnd hd
          refine pt_get G (ci := 0) (j := 0) rfl (by decide) u_X7_bar_X0 m_X7_bar_5 (gR_o h20) dX7_bar_124 ?_
          refine pt_iconst G (1 : Int32) dX7_bar_127 ci_1 ?_
          obtain ⟨v21, h22, hd⟩ := bnd hd
          refine pt_iald G h22 dX7_bar_128 ?_
          cases hd
          exact pt_iret G hQ dX7_bar_129
        replace hd := ifn c18 hd
        by_cases c23 : x2 = (2 : Int32)
        · replace hd := ifp c23 hd
          refine pt_tsIn G 130 dX7_bar_66 (by rw [c23]; decide) (by rw [c23]; decide) (by rw [c23]; rfl) (by decide) ?_
          refine pt_aload_n G 0 dX7_bar_130 rfl rfl ?_
          obtain ⟨w24, h25, hd⟩ := bnd hd
          refine pt_get G (ci := 0) (j := 0) rfl (by decide) u_X7_bar_X0 m_X7_bar_5 (gR_o h25) dX7_bar_131 ?_
          refine pt_iconst G (2 : Int32) dX7_bar_134 ci_2 ?_
          obtain ⟨v26, h27, hd⟩ := bnd hd
          refine pt_iald G h27 dX7_bar_135 ?_
          cases hd
          exact pt_iret G hQ dX7_bar_136
        replace hd := ifn c23 hd
        by_cases c28 : x2 = (3 : Int32)
        · replace hd := ifp c28 hd
          refine pt_tsIn G 137 dX7_bar_66 (by rw [c28]; decide) (by rw [c28]; decide) (by rw [c28]; rfl) (by decide) ?_
          refine pt_aload_n G 0 dX7_bar_137 rfl rfl ?_
          obtain ⟨w29, h30, hd⟩ := bnd hd
          refine pt_get G (ci := 0) (j := 1) rfl (by decide) u_X7_bar_X0 m_X7_bar_3 (gR_o h30) dX7_bar_138 ?_
          obtain ⟨v31, h32, hd⟩ := bnd hd
          refine pt_get G (ci := 5) (j := 1) rfl (by decide) u_X7_bar_X5 m_X7_bar_6 (gI_o h32) dX7_bar_141 ?_
          cases hd
          exact pt_iret G hQ dX7_bar_144
        replace hd := ifn c28 hd
        by_cases c33 : x2 = (4 : Int32)
        · replace hd := ifp c33 hd
          refine pt_tsIn G 145 dX7_bar_66 (by rw [c33]; decide) (by rw [c33]; decide) (by rw [c33]; rfl) (by decide) ?_
          refine pt_aload_n G 0 dX7_bar_145 rfl rfl ?_
          obtain ⟨w34, h35, hd⟩ := bnd hd
          refine pt_get G (ci := 0) (j := 2) rfl (by decide) u_X7_bar_X0 m_X7_bar_4 (gR_o h35) dX7_bar_146 ?_
          obtain ⟨v36, h37, hd⟩ := bnd hd
          refine pt_get G (ci := 5) (j := 1) rfl (by decide) u_X7_bar_X5 m_X7_bar_6 (gI_o h37) dX7_bar_149 ?_
          cases hd
          exact pt_iret G hQ dX7_bar_152
        replace hd := ifn c33 hd
        by_cases c38 : x2 = (5 : Int32)
        · replace hd := ifp c38 hd
          refine pt_tsIn G 153 dX7_bar_66 (by rw [c38]; decide) (by rw [c38]; decide) (by rw [c38]; rfl) (by decide) ?_
          refine pt_aload_n G 0 dX7_bar_153 rfl rfl ?_
          obtain ⟨w39, h40, hd⟩ := bnd hd
          refine pt_get G (ci := 0) (j := 1) rfl (by decide) u_X7_bar_X0 m_X7_bar_3 (gR_o h40) dX7_bar_154 ?_
          obtain ⟨v42, h41, hd⟩ := bnd hd
          refine X5_total_v G gX7_bar_X5_total ⟨(Nat.le_of_ble_eq_true rfl), (Nat.le_of_ble_eq_true rfl)⟩ h41 dX7_bar_157 (Nat.le_of_ble_eq_true rfl) ⟨(Nat.le_of_ble_eq_true rfl), (Nat.le_of_ble_eq_true rfl)⟩ ?_
          cases hd
          exact pt_iret G hQ dX7_bar_160
        replace hd := ifn c38 hd
        by_cases c43 : x2 = (6 : Int32)
        · replace hd := ifp c43 hd
          refine pt_tsIn G 161 dX7_bar_66 (by rw [c43]; decide) (by rw [c43]; decide) (by rw [c43]; rfl) (by decide) ?_
          refine pt_aload_n G 0 dX7_bar_161 rfl rfl ?_
          obtain ⟨w44, h45, hd⟩ := bnd hd
          refine pt_get G (ci := 0) (j := 2) rfl (by decide) u_X7_bar_X0 m_X7_bar_4 (gR_o h45) dX7_bar_162 ?_
          obtain ⟨v47, h46, hd⟩ := bnd hd
          refine X5_total_v G gX7_bar_X5_total ⟨(Nat.le_of_ble_eq_true rfl), (Nat.le_of_ble_eq_true rfl)⟩ h46 dX7_bar_165 (Nat.le_of_ble_eq_true rfl) ⟨(Nat.le_of_ble_eq_true rfl), (Nat.le_of_ble_eq_true rfl)⟩ ?_
          cases hd
          exact pt_iret G hQ dX7_bar_168
        replace hd := ifn c43 hd
        by_cases c48 : x2 = (7 : Int32)
        · replace hd := ifp c48 hd
          refine pt_tsIn G 169 dX7_bar_66 (by rw [c48]; decide) (by rw [c48]; decide) (by rw [c48]; rfl) (by decide) ?_
          refine pt_aload_n G 0 dX7_bar_169 rfl rfl ?_
          refine pt_aload_n G 1 dX7_bar_170 rfl rfl ?_
          obtain ⟨w49, h50, hd⟩ := bnd hd
          refine pt_get G (ci := 7) (j := 0) rfl (by decide) u_X7_bar_X7 m_X7_bar_1 (gR_o h50) dX7_bar_171 ?_
          obtain ⟨v51, h52, hd⟩ := bnd hd
          refine pt_get G (ci := 6) (j := 3) rfl (by decide) u_X7_bar_X6 m_X7_bar_7 (gI_o h52) dX7_bar_174 ?_
          obtain ⟨v54, h53, hd⟩ := bnd hd
          refine X0_isEven_v G gX7_bar_X0_isEven ⟨(Nat.le_of_ble_eq_true rfl), (Nat.le_of_ble_eq_true rfl)⟩ h53 dX7_bar_177 (Nat.le_of_ble_eq_true rfl) ⟨(Nat.le_of_ble_eq_true rfl), (Nat.le_of_ble_eq_true rfl)⟩ ?_
          refine pt_if_eq G 187 dX7_bar_180 (by decide) (fun c55 => ?_) (fun c55 => ?_)
          · replace hd := ifp c55 hd
            refine pt_iconst G (0 : Int32) dX7_bar_187 ci_0 ?_
            cases hd
            exact pt_iret G hQ dX7_bar_188
          · replace hd := ifn c55 hd
            refine pt_iconst G (1 : Int32) dX7_bar_183 ci_1 ?_
            refine pt_goto G 188 dX7_bar_184 (by decide) ?_
            cases hd
            exact pt_iret G hQ dX7_bar_188
        replace hd := ifn c48 hd
        by_cases c56 : x2 = (8 : Int32)
        · replace hd := ifp c56 hd
          refine pt_tsIn G 189 dX7_bar_66 (by rw [c56]; decide) (by rw [c56]; decide) (by rw [c56]; rfl) (by decide) ?_
          refine pt_aload_n G 1 dX7_bar_189 rfl rfl ?_
          obtain ⟨w57, h58, hd⟩ := bnd hd
          refine pt_get G (ci := 7) (j := 0) rfl (by decide) u_X7_bar_X7 m_X7_bar_1 (gR_o h58) dX7_bar_190 ?_
          refine pt_iload_n G 2 dX7_bar_193 rfl rfl ?_
          obtain ⟨v60, h59, hd⟩ := bnd hd
          refine X6_movesOf_v G gX7_bar_X6_movesOf ⟨(Nat.le_of_ble_eq_true rfl), (Nat.le_of_ble_eq_true rfl)⟩ h59 dX7_bar_194 (Nat.le_of_ble_eq_true rfl) ⟨(Nat.le_of_ble_eq_true rfl), (Nat.le_of_ble_eq_true rfl)⟩ ?_
          cases hd
          exact pt_iret G hQ dX7_bar_197
        replace hd := ifn c56 hd
        have nc13 : x2.toInt ≠ 0 := fun h => c13 (Int32.toInt_inj.mp (h.trans (by decide)))
        have nc18 : x2.toInt ≠ 1 := fun h => c18 (Int32.toInt_inj.mp (h.trans (by decide)))
        have nc23 : x2.toInt ≠ 2 := fun h => c23 (Int32.toInt_inj.mp (h.trans (by decide)))
        have nc28 : x2.toInt ≠ 3 := fun h => c28 (Int32.toInt_inj.mp (h.trans (by decide)))
        have nc33 : x2.toInt ≠ 4 := fun h => c33 (Int32.toInt_inj.mp (h.trans (by decide)))
        have nc38 : x2.toInt ≠ 5 := fun h => c38 (Int32.toInt_inj.mp (h.trans (by decide)))
        have nc43 : x2.toInt ≠ 6 := fun h => c43 (Int32.toInt_inj.mp (h.trans (by decide)))
        have nc48 : x2.toInt ≠ 7 := fun h => c48 (Int32.toInt_inj.mp (h.trans (by decide)))
        have nc56 : x2.toInt ≠ 8 := fun h => c56 (Int32.toInt_inj.mp (h.trans (by decide)))
        refine pt_tsOut G 198 dX7_bar_66 (by omega) (by decide) ?_
        refine pt_bipush G (-2 : Int32) dX7_bar_198 bi_m2 ?_
        cases hd
        exact pt_iret G hQ dX7_bar_200
      · replace hd := ifn c65 hd
        refine pt_aload_n G 0 dX7_bar_53 rfl rfl ?_
        obtain ⟨w61, h62, hd⟩ := bnd hd
        refine pt_get G (ci := 0) (j := 2) rfl (by decide) u_X7_bar_X0 m_X7_bar_4 (gR_o h62) dX7_bar_54 ?_
        refine pt_iload_n G 3 dX7_bar_57 rfl rfl ?_
        refine pt_bipush G (20 : Int32) dX7_bar_58 bi_20 ?_
        refine pt_isub G dX7_bar_60 ?_
        obtain ⟨v64, h63, hd⟩ := bnd hd
        refine X5_weightOf_v G gX7_bar_X5_weightOf ⟨(Nat.le_of_ble_eq_true rfl), (Nat.le_of_ble_eq_true rfl)⟩ h63 dX7_bar_61 (Nat.le_of_ble_eq_true rfl) ⟨(Nat.le_of_ble_eq_true rfl), (Nat.le_of_ble_eq_true rfl)⟩ ?_
        cases hd
        exact pt_iret G hQ dX7_bar_64
    · replace hd := ifn c70 hd
      refine pt_aload_n G 0 dX7_bar_30 rfl rfl ?_
      obtain ⟨w66, h67, hd⟩ := bnd hd
      refine pt_get G (ci := 0) (j := 1) rfl (by decide) u_X7_bar_X0 m_X7_bar_3 (gR_o h67) dX7_bar_31 ?_
      refine pt_iload_n G 3 dX7_bar_34 rfl rfl ?_
      refine pt_bipush G (10 : Int32) dX7_bar_35 bi_10 ?_
      refine pt_isub G dX7_bar_37 ?_
      obtain ⟨v69, h68, hd⟩ := bnd hd
      refine X5_weightOf_v G gX7_bar_X5_weightOf ⟨(Nat.le_of_ble_eq_true rfl), (Nat.le_of_ble_eq_true rfl)⟩ h68 dX7_bar_38 (Nat.le_of_ble_eq_true rfl) ⟨(Nat.le_of_ble_eq_true rfl), (Nat.le_of_ble_eq_true rfl)⟩ ?_
      cases hd
      exact pt_iret G hQ dX7_bar_41
  · replace hd := ifp c71 hd
    refine pt_iconst G (-1 : Int32) dX7_bar_7 ci_m1 ?_
    cases hd
    exact pt_iret G hQ dX7_bar_8
theorem X7_bar_c {l : Launch} {D : va_G} {dA : Nat → ClassId} {b : Nat} {M : Wo} {a0 : Nat} {x1 : Int32} {x2 : Int32} {r : Int32} (h : X7_bar M a0 x1 x2 = some r) : Met l yX7_bar wsX7_bar rX7_bar (va_Pc [.ref a0, .int x1, .int x2] (Wd D dA b M)) (Ei D dA b r M) 0 0 (Ab b) := met_i (by decide) rfl (Nat.le_of_ble_eq_true rfl) (fun X G hN hQ => X7_bar_w G h hQ)
theorem X7_bar_v {X : Cx} {y : MethodName} {cc : ByteArray} {Ts : List Cond} {nL : Nat} {ret : Option FieldType} {R : Room} (G : Gd X y cc Ts nL ret R) {index : Nat} (hg : GoodIn Ts (wsV y.cls index RX7 yX7_bar wsX7_bar)) (hR : rX7_bar.frames + 1 ≤ R.frames ∧ 8 + (4 + 11) + rX7_bar.locals ≤ R.locals) {k n pc : Nat} {M : Wo} {lv : List (Nat × Value)} {st : List Value} {a0 : Nat} {x1 : Int32} {x2 : Int32} {r : Int32} (hv : X7_bar M a0 x1 x2 = some r) (hd : decode cc pc = .ok (.invokevirtual index, 3)) (h8 : (st.map fun v => v.category).sum ≤ 8) (hf : k ≤ R.cells ∧ n ≤ R.slots) (kk : Pt X k n (pc + 3) M lv (.int r :: st)) : Pt X k n pc M lv (.int x2 :: .int x1 :: .ref a0 :: st) := pt_cVi (ci := 7) (nA := 2) (As := [.int x1, .int x2]) G (X7_bar_c hv) hg rfl rfl rfl (by decide +kernel) hR rfl (rcv hv) rfl rfl h8 hd hf kk
abbrev rX7_loading : Room := { frames := 3, cells := 0, slots := 0, locals := 85 }
theorem m_X7_loading_1 : Cond.fieldLink RX7 27 "StageLines" "loader" "LStageLines$Loader;" ∈ wsX7_loading := List.mem_of_getElem? (i := 1) rfl
theorem u_X7_loading_X7 : ∀ w ∈ u_ws RX7 TX7 6, w ∈ wsX7_loading := mem_r [57, 58, 59, 60, 61, 62] (by decide +kernel)
theorem m_X7_loading_4 : Cond.fieldLink RX7 57 "StageLines$Stage" "sway" "I" ∈ wsX7_loading := List.mem_of_getElem? (i := 4) rfl
theorem u_X7_loading_X6 : ∀ w ∈ u_ws RX6 TX6 4, w ∈ wsX7_loading := mem_r [63, 64, 65, 66] (by decide +kernel)
theorem m_X7_loading_2 : Cond.fieldLink RX7 12 "StageLines" "stage" "LStageLines$Stage;" ∈ wsX7_loading := List.mem_of_getElem? (i := 2) rfl
theorem m_X7_loading_3 : Cond.fieldLink RX7 60 "StageLines$Stage" "bars" "[LStageLines$Bar;" ∈ wsX7_loading := List.mem_of_getElem? (i := 3) rfl
def X7_loading (M : Wo) (a0 : Nat) (x1 : Int32) (x2 : Int32) : Option (Int32 × Wo) :=
  (ckO M a0 7).bind fun _ => (X7_isBar M x1).bind fun v2 => if v2 = 0 then (some ((-1 : Int32), M)) else (if (-1 : Int32) ≤ x2 then ((gR M a0 7 3).bind fun w3 => (gR M a0 7 0).bind fun w5 => (gR M w5 6 0).bind fun w7 => (lR M 2 w7 x1).bind fun w9 => (gR M a0 7 0).bind fun w11 => (gI M w11 6 3).bind fun v13 => (X3_reckon M w3 w9 v13).bind fun M16 => (gR M16 a0 7 3).bind fun w17 => (X3_allOrders M16 w17).bind fun v20 => if v20 = 0 then (some ((-6 : Int32), M16)) else (if x2 = (-1 : Int32) then ((gR M16 a0 7 3).bind fun w25 => (X3_things M16 w25).bind fun v28 => some (v28, M16)) else ((gR M16 a0 7 3).bind fun w21 => (X3_placed M16 w21 x2).bind fun v24 => some (v24, M16)))) else (some ((-2 : Int32), M)))
theorem X7_loading_w {X : Cx} (G : Gd X yX7_loading cX7_loading wsX7_loading 3 (some .int) rX7_loading) {M : Wo} {a0 : Nat} {x1 : Int32} {x2 : Int32} {o : (Int32 × Wo)} (hd : X7_loading M a0 x1 x2 = some o) (hQ : Qi X o.1 o.2 0 0) : Pt X 0 0 0 M [(0, .ref a0), (1, .int x1), (2, .int x2)] [] := by
  unfold X7_loading at hd
  obtain ⟨_, _, hd⟩ := bnd hd
  refine pt_iload_n G 1 dX7_loading_0 rfl rfl ?_
  obtain ⟨v2, h1, hd⟩ := bnd hd
  refine X7_isBar_v G gX7_loading_X7_isBar ⟨(Nat.le_of_ble_eq_true rfl), (Nat.le_of_ble_eq_true rfl)⟩ h1 dX7_loading_1 (Nat.le_of_ble_eq_true rfl) ⟨(Nat.le_of_ble_eq_true rfl), (Nat.le_of_ble_eq_true rfl)⟩ ?_
  refine pt_if_ne G 9 dX7_loading_4 (by decide) (fun c32 => ?_) (fun c32 => ?_)
  · replace hd := ifn c32 hd
    refine pt_iload_n G 2 dX7_loading_9 rfl rfl ?_
    refine pt_iconst G (-1 : Int32) dX7_loading_10 ci_m1 ?_
    refine pt_icmp_ge G 17 dX7_loading_11 (by decide) (fun c31 => ?_) (fun c31 => ?_)
    · replace hd := ifp c31 hd
      refine pt_aload_n G 0 dX7_loading_17 rfl rfl ?_
      obtain ⟨w3, h4, hd⟩ := bnd hd
      refine pt_get G (ci := 7) (j := 3) rfl (by decide) u_X7_loading_X7 m_X7_loading_1 (gR_o h4) dX7_loading_18 ?_
      refine pt_aload_n G 0 dX7_loading_21 rfl rfl ?_
      obtain ⟨w5, h6, hd⟩ := bnd hd
      refine pt_get G (ci := 7) (j := 0) rfl (by decide) u_X7_loading_X7 m_X7_loading_2 (gR_o h6) dX7_loading_22 ?_
      obtain ⟨w7, h8, hd⟩ := bnd hd
      refine pt_get G (ci := 6) (j := 0) rfl (by decide) u_X7_loading_X6 m_X7_loading_3 (gR_o h8) dX7_loading_25 ?_
      refine pt_iload_n G 1 dX7_loading_28 rfl rfl ?_
      obtain ⟨w9, h10, hd⟩ := bnd hd
      refine pt_aald G (kd := 2) rfl rfl h10 dX7_loading_29 ?_
      refine pt_aload_n G 0 dX7_loading_30 rfl rfl ?_
      obtain ⟨w11, h12, hd⟩ := bnd hd
      refine pt_get G (ci := 7) (j := 0) rfl (by decide) u_X7_loading_X7 m_X7_loading_2 (gR_o h12) dX7_loading_31 ?_
      obtain ⟨v13, h14, hd⟩ := bnd hd
      refine pt_get G (ci := 6) (j := 3) rfl (by decide) u_X7_loading_X6 m_X7_loading_4 (gI_o h14) dX7_loading_34 ?_
      obtain ⟨M16, h15, hd⟩ := bnd hd
      refine X3_reckon_v G gX7_loading_X3_reckon ⟨(Nat.le_of_ble_eq_true rfl), (Nat.le_of_ble_eq_true rfl)⟩ h15 dX7_loading_37 (Nat.le_of_ble_eq_true rfl) ⟨(Nat.le_of_ble_eq_true rfl), (Nat.le_of_ble_eq_true rfl)⟩ ?_
      refine pt_aload_n G 0 dX7_loading_40 rfl rfl ?_
      obtain ⟨w17, h18, hd⟩ := bnd hd
      refine pt_get G (ci := 7) (j := 3) rfl (by decide) u_X7_loading_X7 m_X7_loading_1 (gR_o h18) dX7_loading_41 ?_
      obtain ⟨v20, h19, hd⟩ := bnd hd
      refine X3_allOrders_v G gX7_loading_X3_allOrders ⟨(Nat.le_of_ble_eq_true rfl), (Nat.le_of_ble_eq_true rfl)⟩ h19 dX7_loading_44 (Nat.le_of_ble_eq_true rfl) ⟨(Nat.le_of_ble_eq_true rfl), (Nat.le_of_ble_eq_true rfl)⟩ ?_
      refine pt_if_ne G 53 dX7_loading_47 (by decide) (fun c30 => ?_) (fun c30 => ?_)
      · replace hd := ifn c30 hd
        refine pt_iload_n G 2 dX7_loading_53 rfl rfl ?_
        refine pt_iconst G (-1 : Int32) dX7_loading_54 ci_m1 ?_
        refine pt_icmp_ne G 68 dX7_loading_55 (by decide) (fun c29 => ?_) (fun c29 => ?_)
        · replace hd := ifn c29 hd
          refine pt_aload_n G 0 dX7_loading_68 rfl rfl ?_
          obtain ⟨w21, h22, hd⟩ := bnd hd
          refine pt_get G (ci := 7) (j := 3) rfl (by decide) u_X7_loading_X7 m_X7_loading_1 (gR_o h22) dX7_loading_69 ?_
          refine pt_iload_n G 2 dX7_loading_72 rfl rfl ?_
          obtain ⟨v24, h23, hd⟩ := bnd hd
          refine X3_placed_v G gX7_loading_X3_placed ⟨(Nat.le_of_ble_eq_true rfl), (Nat.le_of_ble_eq_true rfl)⟩ h23 dX7_loading_73 (Nat.le_of_ble_eq_true rfl) ⟨(Nat.le_of_ble_eq_true rfl), (Nat.le_of_ble_eq_true rfl)⟩ ?_
          cases hd
          exact pt_iret G hQ dX7_loading_76
        · replace hd := ifp c29 hd
          refine pt_aload_n G 0 dX7_loading_58 rfl rfl ?_
          obtain ⟨w25, h26, hd⟩ := bnd hd
          refine pt_get G (ci := 7) (j := 3) rfl (by decide) u_X7_loading_X7 m_X7_loading_1 (gR_o h26) dX7_loading_59 ?_
          obtain ⟨v28, h27, hd⟩ := bnd hd
          refine X3_things_v G gX7_loading_X3_things ⟨(Nat.le_of_ble_eq_true rfl), (Nat.le_of_ble_eq_true rfl)⟩ h27 dX7_loading_62 (Nat.le_of_ble_eq_true rfl) ⟨(Nat.le_of_ble_eq_true rfl), (Nat.le_of_ble_eq_true rfl)⟩ ?_
          refine pt_goto G 76 dX7_loading_65 (by decide) ?_
          cases hd
          exact pt_iret G hQ dX7_loading_76
      · replace hd := ifp c30 hd
        refine pt_bipush G (-6 : Int32) dX7_loading_50 bi_m6 ?_
        cases hd
        exact pt_iret G hQ dX7_loading_52
    · replace hd := ifn c31 hd
      refine pt_bipush G (-2 : Int32) dX7_loading_14 bi_m2 ?_
      cases hd
      exact pt_iret G hQ dX7_loading_16
  · replace hd := ifp c32 hd
    refine pt_iconst G (-1 : Int32) dX7_loading_7 ci_m1 ?_
    cases hd
    exact pt_iret G hQ dX7_loading_8
theorem X7_loading_c {l : Launch} {D : va_G} {dA : Nat → ClassId} {b : Nat} {M : Wo} {a0 : Nat} {x1 : Int32} {x2 : Int32} {r : Int32} {M2 : Wo} (h : X7_loading M a0 x1 x2 = some (r, M2)) : Met l yX7_loading wsX7_loading rX7_loading (va_Pc [.ref a0, .int x1, .int x2] (Wd D dA b M)) (Ei D dA b r M2) 0 0 (Ab b) := met_i (by decide) rfl (Nat.le_of_ble_eq_true rfl) (fun X G hN hQ => X7_loading_w G h hQ)
theorem X7_loading_v {X : Cx} {y : MethodName} {cc : ByteArray} {Ts : List Cond} {nL : Nat} {ret : Option FieldType} {R : Room} (G : Gd X y cc Ts nL ret R) {index : Nat} (hg : GoodIn Ts (wsV y.cls index RX7 yX7_loading wsX7_loading)) (hR : rX7_loading.frames + 1 ≤ R.frames ∧ 8 + (3 + 11) + rX7_loading.locals ≤ R.locals) {k n pc : Nat} {M : Wo} {lv : List (Nat × Value)} {st : List Value} {a0 : Nat} {x1 : Int32} {x2 : Int32} {r : Int32} {M2 : Wo} (hv : X7_loading M a0 x1 x2 = some (r, M2)) (hd : decode cc pc = .ok (.invokevirtual index, 3)) (h8 : (st.map fun v => v.category).sum ≤ 8) (hf : k ≤ R.cells ∧ n ≤ R.slots) (kk : Pt X k n (pc + 3) M2 lv (.int r :: st)) : Pt X k n pc M lv (.int x2 :: .int x1 :: .ref a0 :: st) := pt_cVi (ci := 7) (nA := 2) (As := [.int x1, .int x2]) G (X7_loading_c hv) hg rfl rfl rfl (by decide +kernel) hR rfl (rcv hv) rfl rfl h8 hd hf kk
abbrev rX7_loadings : Room := { frames := 3, cells := 0, slots := 0, locals := 85 }
theorem m_X7_loadings_1 : Cond.fieldLink RX7 27 "StageLines" "loader" "LStageLines$Loader;" ∈ wsX7_loadings := List.mem_of_getElem? (i := 1) rfl
theorem u_X7_loadings_X7 : ∀ w ∈ u_ws RX7 TX7 6, w ∈ wsX7_loadings := mem_r [44, 45, 46, 47, 48, 49] (by decide +kernel)
theorem m_X7_loadings_4 : Cond.fieldLink RX7 57 "StageLines$Stage" "sway" "I" ∈ wsX7_loadings := List.mem_of_getElem? (i := 4) rfl
theorem u_X7_loadings_X6 : ∀ w ∈ u_ws RX6 TX6 4, w ∈ wsX7_loadings := mem_r [50, 51, 52, 53] (by decide +kernel)
theorem m_X7_loadings_2 : Cond.fieldLink RX7 12 "StageLines" "stage" "LStageLines$Stage;" ∈ wsX7_loadings := List.mem_of_getElem? (i := 2) rfl
theorem m_X7_loadings_3 : Cond.fieldLink RX7 60 "StageLines$Stage" "bars" "[LStageLines$Bar;" ∈ wsX7_loadings := List.mem_of_getElem? (i := 3) rfl
def X7_loadings (M : Wo) (a0 : Nat) (x1 : Int32) : Option (Int32 × Wo) :=
  (ckO M a0 7).bind fun _ => (X7_isBar M x1).bind fun v2 => if v2 = 0 then (some ((-1 : Int32), M)) else ((gR M a0 7 3).bind fun w3 => (gR M a0 7 0).bind fun w5 => (gR M w5 6 0).bind fun w7 => (lR M 2 w7 x1).bind fun w9 => (gR M a0 7 0).bind fun w11 => (gI M w11 6 3).bind fun v13 => (X3_reckon M w3 w9 v13).bind fun M16 => (gR M16 a0 7 3).bind fun w17 => (X3_allOrders M16 w17).bind fun v20 => some (v20, M16))
theorem X7_loadings_w {X : Cx} (G : Gd X yX7_loadings cX7_loadings wsX7_loadings 2 (some .int) rX7_loadings) {M : Wo} {a0 : Nat} {x1 : Int32} {o : (Int32 × Wo)} (hd : X7_loadings M a0 x1 = some o) (hQ : Qi X o.1 o.2 0 0) : Pt X 0 0 0 M [(0, .ref a0), (1, .int x1)] [] := by
  unfold X7_loadings at hd
  obtain ⟨_, _, hd⟩ := bnd hd
  refine pt_iload_n G 1 dX7_loadings_0 rfl rfl ?_
  obtain ⟨v2, h1, hd⟩ := bnd hd
  refine X7_isBar_v G gX7_loadings_X7_isBar ⟨(Nat.le_of_ble_eq_true rfl), (Nat.le_of_ble_eq_true rfl)⟩ h1 dX7_loadings_1 (Nat.le_of_ble_eq_true rfl) ⟨(Nat.le_of_ble_eq_true rfl), (Nat.le_of_ble_eq_true rfl)⟩ ?_
  refine pt_if_ne G 9 dX7_loadings_4 (by decide) (fun c21 => ?_) (fun c21 => ?_)
  · replace hd := ifn c21 hd
    refine pt_aload_n G 0 dX7_loadings_9 rfl rfl ?_
    obtain ⟨w3, h4, hd⟩ := bnd hd
    refine pt_get G (ci := 7) (j := 3) rfl (by decide) u_X7_loadings_X7 m_X7_loadings_1 (gR_o h4) dX7_loadings_10 ?_
    refine pt_aload_n G 0 dX7_loadings_13 rfl rfl ?_
    obtain ⟨w5, h6, hd⟩ := bnd hd
    refine pt_get G (ci := 7) (j := 0) rfl (by decide) u_X7_loadings_X7 m_X7_loadings_2 (gR_o h6) dX7_loadings_14 ?_
    obtain ⟨w7, h8, hd⟩ := bnd hd
    refine pt_get G (ci := 6) (j := 0) rfl (by decide) u_X7_loadings_X6 m_X7_loadings_3 (gR_o h8) dX7_loadings_17 ?_
    refine pt_iload_n G 1 dX7_loadings_20 rfl rfl ?_
    obtain ⟨w9, h10, hd⟩ := bnd hd
    refine pt_aald G (kd := 2) rfl rfl h10 dX7_loadings_21 ?_
    refine pt_aload_n G 0 dX7_loadings_22 rfl rfl ?_
    obtain ⟨w11, h12, hd⟩ := bnd hd
    refine pt_get G (ci := 7) (j := 0) rfl (by decide) u_X7_loadings_X7 m_X7_loadings_2 (gR_o h12) dX7_loadings_23 ?_
    obtain ⟨v13, h14, hd⟩ := bnd hd
    refine pt_get G (ci := 6) (j := 3) rfl (by decide) u_X7_loadings_X6 m_X7_loadings_4 (gI_o h14) dX7_loadings_26 ?_
    obtain ⟨M16, h15, hd⟩ := bnd hd
    refine X3_reckon_v G gX7_loadings_X3_reckon ⟨(Nat.le_of_ble_eq_true rfl), (Nat.le_of_ble_eq_true rfl)⟩ h15 dX7_loadings_29 (Nat.le_of_ble_eq_true rfl) ⟨(Nat.le_of_ble_eq_true rfl), (Nat.le_of_ble_eq_true rfl)⟩ ?_
    refine pt_aload_n G 0 dX7_loadings_32 rfl rfl ?_
    obtain ⟨w17, h18, hd⟩ := bnd hd
    refine pt_get G (ci := 7) (j := 3) rfl (by decide) u_X7_loadings_X7 m_X7_loadings_1 (gR_o h18) dX7_loadings_33 ?_
    obtain ⟨v20, h19, hd⟩ := bnd hd
    refine X3_allOrders_v G gX7_loadings_X3_allOrders ⟨(Nat.le_of_ble_eq_true rfl), (Nat.le_of_ble_eq_true rfl)⟩ h19 dX7_loadings_36 (Nat.le_of_ble_eq_true rfl) ⟨(Nat.le_of_ble_eq_true rfl), (Nat.le_of_ble_eq_true rfl)⟩ ?_
    cases hd
    exact pt_iret G hQ dX7_loadings_39
  · replace hd := ifp c21 hd
    refine pt_iconst G (-1 : Int32) dX7_loadings_7 ci_m1 ?_
    cases hd
    exact pt_iret G hQ dX7_loadings_8
theorem X7_loadings_c {l : Launch} {D : va_G} {dA : Nat → ClassId} {b : Nat} {M : Wo} {a0 : Nat} {x1 : Int32} {r : Int32} {M2 : Wo} (h : X7_loadings M a0 x1 = some (r, M2)) : Met l yX7_loadings wsX7_loadings rX7_loadings (va_Pc [.ref a0, .int x1] (Wd D dA b M)) (Ei D dA b r M2) 0 0 (Ab b) := met_i (by decide) rfl (Nat.le_of_ble_eq_true rfl) (fun X G hN hQ => X7_loadings_w G h hQ)
theorem X7_loadings_v {X : Cx} {y : MethodName} {cc : ByteArray} {Ts : List Cond} {nL : Nat} {ret : Option FieldType} {R : Room} (G : Gd X y cc Ts nL ret R) {index : Nat} (hg : GoodIn Ts (wsV y.cls index RX7 yX7_loadings wsX7_loadings)) (hR : rX7_loadings.frames + 1 ≤ R.frames ∧ 8 + (2 + 11) + rX7_loadings.locals ≤ R.locals) {k n pc : Nat} {M : Wo} {lv : List (Nat × Value)} {st : List Value} {a0 : Nat} {x1 : Int32} {r : Int32} {M2 : Wo} (hv : X7_loadings M a0 x1 = some (r, M2)) (hd : decode cc pc = .ok (.invokevirtual index, 3)) (h8 : (st.map fun v => v.category).sum ≤ 8) (hf : k ≤ R.cells ∧ n ≤ R.slots) (kk : Pt X k n (pc + 3) M2 lv (.int r :: st)) : Pt X k n pc M lv (.int x1 :: .ref a0 :: st) := pt_cVi (ci := 7) (nA := 1) (As := [.int x1]) G (X7_loadings_c hv) hg rfl rfl rfl (by decide +kernel) hR rfl (rcv hv) rfl rfl h8 hd hf kk
abbrev rX7_move : Room := { frames := 2, cells := 0, slots := 0, locals := 48 }
theorem m_X7_move_1 : Cond.fieldLink RX7 12 "StageLines" "stage" "LStageLines$Stage;" ∈ wsX7_move := List.mem_of_getElem? (i := 1) rfl
theorem u_X7_move_X7 : ∀ w ∈ u_ws RX7 TX7 6, w ∈ wsX7_move := mem_r [29, 30, 31, 32, 33, 34] (by decide +kernel)
theorem m_X7_move_2 : Cond.fieldLink RX7 123 "StageLines$Stage" "moveCount" "I" ∈ wsX7_move := List.mem_of_getElem? (i := 2) rfl
theorem u_X7_move_X6 : ∀ w ∈ u_ws RX6 TX6 4, w ∈ wsX7_move := mem_r [35, 36, 37, 38] (by decide +kernel)
def X7_move (M : Wo) (a0 : Nat) (x1 : Int32) (x2 : Int32) (x3 : Int32) (x4 : Int32) : Option (Int32 × Wo) :=
  (ckO M a0 7).bind fun _ => (X7_isBar M x1).bind fun v2 => if v2 = 0 then (some ((-1 : Int32), M)) else ((X7_within M x2 (0 : Int32) (200 : Int32)).bind fun v4 => if v4 = 0 then (some ((-2 : Int32), M)) else ((X7_within M x3 (0 : Int32) (60 : Int32)).bind fun v6 => if v6 = 0 then (some ((-2 : Int32), M)) else ((X7_within M x4 (1 : Int32) (5 : Int32)).bind fun v8 => if v8 = 0 then (some ((-2 : Int32), M)) else ((gR M a0 7 0).bind fun w9 => (X6_moveAt M w9 x1 x2).bind fun v12 => if v12 < 0 then ((gR M a0 7 0).bind fun w13 => (gI M w13 6 2).bind fun v15 => if v15 < (10 : Int32) then ((gR M a0 7 0).bind fun w17 => (X6_addMove M w17 x1 x2 x3 x4).bind (un2 fun v20 M21 => some (v20, M21))) else (some ((-4 : Int32), M))) else (some ((-5 : Int32), M))))))
theorem X7_move_w {X : Cx} (G : Gd X yX7_move cX7_move wsX7_move 5 (some .int) rX7_move) {M : Wo} {a0 : Nat} {x1 : Int32} {x2 : Int32} {x3 : Int32} {x4 : Int32} {o : (Int32 × Wo)} (hd : X7_move M a0 x1 x2 x3 x4 = some o) (hQ : Qi X o.1 o.2 0 0) : Pt X 0 0 0 M [(0, .ref a0), (1, .int x1), (2, .int x2), (3, .int x3), (4, .int x4)] [] := by
  unfold X7_move at hd
  obtain ⟨_, _, hd⟩ := bnd hd
  refine pt_iload_n G 1 dX7_move_0 rfl rfl ?_
  obtain ⟨v2, h1, hd⟩ := bnd hd
  refine X7_isBar_v G gX7_move_X7_isBar ⟨(Nat.le_of_ble_eq_true rfl), (Nat.le_of_ble_eq_true rfl)⟩ h1 dX7_move_1 (Nat.le_of_ble_eq_true rfl) ⟨(Nat.le_of_ble_eq_true rfl), (Nat.le_of_ble_eq_true rfl)⟩ ?_
  refine pt_if_ne G 9 dX7_move_4 (by decide) (fun c27 => ?_) (fun c27 => ?_)
  · replace hd := ifn c27 hd
    refine pt_iload_n G 2 dX7_move_9 rfl rfl ?_
    refine pt_iconst G (0 : Int32) dX7_move_10 ci_0 ?_
    refine pt_sipush G (200 : Int32) dX7_move_11 si_200 ?_
    obtain ⟨v4, h3, hd⟩ := bnd hd
    refine X7_within_v G gX7_move_X7_within ⟨(Nat.le_of_ble_eq_true rfl), (Nat.le_of_ble_eq_true rfl)⟩ h3 dX7_move_14 (Nat.le_of_ble_eq_true rfl) ⟨(Nat.le_of_ble_eq_true rfl), (Nat.le_of_ble_eq_true rfl)⟩ ?_
    refine pt_if_eq G 40 dX7_move_17 (by decide) (fun c26 => ?_) (fun c26 => ?_)
    · replace hd := ifp c26 hd
      refine pt_bipush G (-2 : Int32) dX7_move_40 bi_m2 ?_
      cases hd
      exact pt_iret G hQ dX7_move_42
    · replace hd := ifn c26 hd
      refine pt_iload_n G 3 dX7_move_20 rfl rfl ?_
      refine pt_iconst G (0 : Int32) dX7_move_21 ci_0 ?_
      refine pt_bipush G (60 : Int32) dX7_move_22 bi_60 ?_
      obtain ⟨v6, h5, hd⟩ := bnd hd
      refine X7_within_v G gX7_move_X7_within ⟨(Nat.le_of_ble_eq_true rfl), (Nat.le_of_ble_eq_true rfl)⟩ h5 dX7_move_24 (Nat.le_of_ble_eq_true rfl) ⟨(Nat.le_of_ble_eq_true rfl), (Nat.le_of_ble_eq_true rfl)⟩ ?_
      refine pt_if_eq G 40 dX7_move_27 (by decide) (fun c25 => ?_) (fun c25 => ?_)
      · replace hd := ifp c25 hd
        refine pt_bipush G (-2 : Int32) dX7_move_40 bi_m2 ?_
        cases hd
        exact pt_iret G hQ dX7_move_42
      · replace hd := ifn c25 hd
        refine pt_iload G 4 dX7_move_30 rfl ?_
        refine pt_iconst G (1 : Int32) dX7_move_32 ci_1 ?_
        refine pt_iconst G (5 : Int32) dX7_move_33 ci_5 ?_
        obtain ⟨v8, h7, hd⟩ := bnd hd
        refine X7_within_v G gX7_move_X7_within ⟨(Nat.le_of_ble_eq_true rfl), (Nat.le_of_ble_eq_true rfl)⟩ h7 dX7_move_34 (Nat.le_of_ble_eq_true rfl) ⟨(Nat.le_of_ble_eq_true rfl), (Nat.le_of_ble_eq_true rfl)⟩ ?_
        refine pt_if_ne G 43 dX7_move_37 (by decide) (fun c24 => ?_) (fun c24 => ?_)
        · replace hd := ifn c24 hd
          refine pt_aload_n G 0 dX7_move_43 rfl rfl ?_
          obtain ⟨w9, h10, hd⟩ := bnd hd
          refine pt_get G (ci := 7) (j := 0) rfl (by decide) u_X7_move_X7 m_X7_move_1 (gR_o h10) dX7_move_44 ?_
          refine pt_iload_n G 1 dX7_move_47 rfl rfl ?_
          refine pt_iload_n G 2 dX7_move_48 rfl rfl ?_
          obtain ⟨v12, h11, hd⟩ := bnd hd
          refine X6_moveAt_v G gX7_move_X6_moveAt ⟨(Nat.le_of_ble_eq_true rfl), (Nat.le_of_ble_eq_true rfl)⟩ h11 dX7_move_49 (Nat.le_of_ble_eq_true rfl) ⟨(Nat.le_of_ble_eq_true rfl), (Nat.le_of_ble_eq_true rfl)⟩ ?_
          refine pt_if_lt G 58 dX7_move_52 (by decide) (fun c23 => ?_) (fun c23 => ?_)
          · replace hd := ifp c23 hd
            refine pt_aload_n G 0 dX7_move_58 rfl rfl ?_
            obtain ⟨w13, h14, hd⟩ := bnd hd
            refine pt_get G (ci := 7) (j := 0) rfl (by decide) u_X7_move_X7 m_X7_move_1 (gR_o h14) dX7_move_59 ?_
            obtain ⟨v15, h16, hd⟩ := bnd hd
            refine pt_get G (ci := 6) (j := 2) rfl (by decide) u_X7_move_X6 m_X7_move_2 (gI_o h16) dX7_move_62 ?_
            refine pt_bipush G (10 : Int32) dX7_move_65 bi_10 ?_
            refine pt_icmp_lt G 73 dX7_move_67 (by decide) (fun c22 => ?_) (fun c22 => ?_)
            · replace hd := ifp c22 hd
              refine pt_aload_n G 0 dX7_move_73 rfl rfl ?_
              obtain ⟨w17, h18, hd⟩ := bnd hd
              refine pt_get G (ci := 7) (j := 0) rfl (by decide) u_X7_move_X7 m_X7_move_1 (gR_o h18) dX7_move_74 ?_
              refine pt_iload_n G 1 dX7_move_77 rfl rfl ?_
              refine pt_iload_n G 2 dX7_move_78 rfl rfl ?_
              refine pt_iload_n G 3 dX7_move_79 rfl rfl ?_
              refine pt_iload G 4 dX7_move_80 rfl ?_
              obtain ⟨⟨v20, M21⟩, h19, hd⟩ := bnd hd
              replace hd := un2_e hd
              refine X6_addMove_v G gX7_move_X6_addMove ⟨(Nat.le_of_ble_eq_true rfl), (Nat.le_of_ble_eq_true rfl)⟩ h19 dX7_move_82 (Nat.le_of_ble_eq_true rfl) ⟨(Nat.le_of_ble_eq_true rfl), (Nat.le_of_ble_eq_true rfl)⟩ ?_
              cases hd
              exact pt_iret G hQ dX7_move_85
            · replace hd := ifn c22 hd
              refine pt_bipush G (-4 : Int32) dX7_move_70 bi_m4 ?_
              cases hd
              exact pt_iret G hQ dX7_move_72
          · replace hd := ifn c23 hd
            refine pt_bipush G (-5 : Int32) dX7_move_55 bi_m5 ?_
            cases hd
            exact pt_iret G hQ dX7_move_57
        · replace hd := ifp c24 hd
          refine pt_bipush G (-2 : Int32) dX7_move_40 bi_m2 ?_
          cases hd
          exact pt_iret G hQ dX7_move_42
  · replace hd := ifp c27 hd
    refine pt_iconst G (-1 : Int32) dX7_move_7 ci_m1 ?_
    cases hd
    exact pt_iret G hQ dX7_move_8
theorem X7_move_c {l : Launch} {D : va_G} {dA : Nat → ClassId} {b : Nat} {M : Wo} {a0 : Nat} {x1 : Int32} {x2 : Int32} {x3 : Int32} {x4 : Int32} {r : Int32} {M2 : Wo} (h : X7_move M a0 x1 x2 x3 x4 = some (r, M2)) : Met l yX7_move wsX7_move rX7_move (va_Pc [.ref a0, .int x1, .int x2, .int x3, .int x4] (Wd D dA b M)) (Ei D dA b r M2) 0 0 (Ab b) := met_i (by decide) rfl (Nat.le_of_ble_eq_true rfl) (fun X G hN hQ => X7_move_w G h hQ)
theorem X7_move_v {X : Cx} {y : MethodName} {cc : ByteArray} {Ts : List Cond} {nL : Nat} {ret : Option FieldType} {R : Room} (G : Gd X y cc Ts nL ret R) {index : Nat} (hg : GoodIn Ts (wsV y.cls index RX7 yX7_move wsX7_move)) (hR : rX7_move.frames + 1 ≤ R.frames ∧ 8 + (5 + 11) + rX7_move.locals ≤ R.locals) {k n pc : Nat} {M : Wo} {lv : List (Nat × Value)} {st : List Value} {a0 : Nat} {x1 : Int32} {x2 : Int32} {x3 : Int32} {x4 : Int32} {r : Int32} {M2 : Wo} (hv : X7_move M a0 x1 x2 x3 x4 = some (r, M2)) (hd : decode cc pc = .ok (.invokevirtual index, 3)) (h8 : (st.map fun v => v.category).sum ≤ 8) (hf : k ≤ R.cells ∧ n ≤ R.slots) (kk : Pt X k n (pc + 3) M2 lv (.int r :: st)) : Pt X k n pc M lv (.int x4 :: .int x3 :: .int x2 :: .int x1 :: .ref a0 :: st) := pt_cVi (ci := 7) (nA := 4) (As := [.int x1, .int x2, .int x3, .int x4]) G (X7_move_c hv) hg rfl rfl rfl (by decide +kernel) hR rfl (rcv hv) rfl rfl h8 hd hf kk
abbrev rX7_isMove : Room := { frames := 1, cells := 0, slots := 0, locals := 22 }
theorem m_X7_isMove_2 : Cond.fieldLink RX7 123 "StageLines$Stage" "moveCount" "I" ∈ wsX7_isMove := List.mem_of_getElem? (i := 2) rfl
theorem u_X7_isMove_X6 : ∀ w ∈ u_ws RX6 TX6 4, w ∈ wsX7_isMove := mem_r [13, 14, 15, 16] (by decide +kernel)
theorem m_X7_isMove_1 : Cond.fieldLink RX7 12 "StageLines" "stage" "LStageLines$Stage;" ∈ wsX7_isMove := List.mem_of_getElem? (i := 1) rfl
theorem u_X7_isMove_X7 : ∀ w ∈ u_ws RX7 TX7 6, w ∈ wsX7_isMove := mem_r [7, 8, 9, 10, 11, 12] (by decide +kernel)
def X7_isMove (M : Wo) (a0 : Nat) (x1 : Int32) : Option Int32 :=
  (ckO M a0 7).bind fun _ => (gR M a0 7 0).bind fun w1 => (gI M w1 6 2).bind fun v3 => (X7_within M x1 (0 : Int32) (v3 - (1 : Int32))).bind fun v6 => (ckB v6).bind fun _ => some v6
theorem X7_isMove_w {X : Cx} (G : Gd X yX7_isMove cX7_isMove wsX7_isMove 2 (some .boolean) rX7_isMove) {M : Wo} {a0 : Nat} {x1 : Int32} {o : Int32} (hd : X7_isMove M a0 x1 = some o) (hQ : Qi X o M 0 0) : Pt X 0 0 0 M [(0, .ref a0), (1, .int x1)] [] := by
  unfold X7_isMove at hd
  obtain ⟨_, _, hd⟩ := bnd hd
  refine pt_iload_n G 1 dX7_isMove_0 rfl rfl ?_
  refine pt_iconst G (0 : Int32) dX7_isMove_1 ci_0 ?_
  refine pt_aload_n G 0 dX7_isMove_2 rfl rfl ?_
  obtain ⟨w1, h2, hd⟩ := bnd hd
  refine pt_get G (ci := 7) (j := 0) rfl (by decide) u_X7_isMove_X7 m_X7_isMove_1 (gR_o h2) dX7_isMove_3 ?_
  obtain ⟨v3, h4, hd⟩ := bnd hd
  refine pt_get G (ci := 6) (j := 2) rfl (by decide) u_X7_isMove_X6 m_X7_isMove_2 (gI_o h4) dX7_isMove_6 ?_
  refine pt_iconst G (1 : Int32) dX7_isMove_9 ci_1 ?_
  refine pt_isub G dX7_isMove_10 ?_
  obtain ⟨v6, h5, hd⟩ := bnd hd
  refine X7_within_v G gX7_isMove_X7_within ⟨(Nat.le_of_ble_eq_true rfl), (Nat.le_of_ble_eq_true rfl)⟩ h5 dX7_isMove_11 (Nat.le_of_ble_eq_true rfl) ⟨(Nat.le_of_ble_eq_true rfl), (Nat.le_of_ble_eq_true rfl)⟩ ?_
  obtain ⟨_, h7, hd⟩ := bnd hd
  cases hd
  exact pt_zret G (ckB_o h7) hQ dX7_isMove_14
theorem X7_isMove_c {l : Launch} {D : va_G} {dA : Nat → ClassId} {b : Nat} {M : Wo} {a0 : Nat} {x1 : Int32} {r : Int32} (h : X7_isMove M a0 x1 = some r) : Met l yX7_isMove wsX7_isMove rX7_isMove (va_Pc [.ref a0, .int x1] (Wd D dA b M)) (Ei D dA b r M) 0 0 (Ab b) := met_i (by decide) rfl (Nat.le_of_ble_eq_true rfl) (fun X G hN hQ => X7_isMove_w G h hQ)
theorem X7_isMove_v {X : Cx} {y : MethodName} {cc : ByteArray} {Ts : List Cond} {nL : Nat} {ret : Option FieldType} {R : Room} (G : Gd X y cc Ts nL ret R) {index : Nat} (hg : GoodIn Ts (wsV y.cls index RX7 yX7_isMove wsX7_isMove)) (hR : rX7_isMove.frames + 1 ≤ R.frames ∧ 8 + (2 + 11) + rX7_isMove.locals ≤ R.locals) {k n pc : Nat} {M : Wo} {lv : List (Nat × Value)} {st : List Value} {a0 : Nat} {x1 : Int32} {r : Int32} (hv : X7_isMove M a0 x1 = some r) (hd : decode cc pc = .ok (.invokevirtual index, 3)) (h8 : (st.map fun v => v.category).sum ≤ 8) (hf : k ≤ R.cells ∧ n ≤ R.slots) (kk : Pt X k n (pc + 3) M lv (.int r :: st)) : Pt X k n pc M lv (.int x1 :: .ref a0 :: st) := pt_cVi (ci := 7) (nA := 1) (As := [.int x1]) G (X7_isMove_c hv) hg rfl rfl rfl (by decide +kernel) hR rfl (rcv hv) rfl rfl h8 hd hf kk
abbrev rX7_drop : Room := { frames := 2, cells := 0, slots := 0, locals := 43 }
theorem m_X7_drop_2 : Cond.fieldLink RX7 123 "StageLines$Stage" "moveCount" "I" ∈ wsX7_drop := List.mem_of_getElem? (i := 2) rfl
theorem u_X7_drop_X6 : ∀ w ∈ u_ws RX6 TX6 4, w ∈ wsX7_drop := mem_r [33, 34, 35, 36] (by decide +kernel)
theorem m_X7_drop_1 : Cond.fieldLink RX7 12 "StageLines" "stage" "LStageLines$Stage;" ∈ wsX7_drop := List.mem_of_getElem? (i := 1) rfl
theorem u_X7_drop_X7 : ∀ w ∈ u_ws RX7 TX7 6, w ∈ wsX7_drop := mem_r [27, 28, 29, 30, 31, 32] (by decide +kernel)
def X7_drop (M : Wo) (a0 : Nat) (x1 : Int32) : Option (Int32 × Wo) :=
  (ckO M a0 7).bind fun _ => (X7_isMove M a0 x1).bind fun v2 => if v2 = 0 then (some ((-1 : Int32), M)) else ((gR M a0 7 0).bind fun w3 => (X6_removeMove M w3 x1).bind fun M6 => (gR M6 a0 7 0).bind fun w7 => (gI M6 w7 6 2).bind fun v9 => some (v9, M6))
theorem X7_drop_w {X : Cx} (G : Gd X yX7_drop cX7_drop wsX7_drop 2 (some .int) rX7_drop) {M : Wo} {a0 : Nat} {x1 : Int32} {o : (Int32 × Wo)} (hd : X7_drop M a0 x1 = some o) (hQ : Qi X o.1 o.2 0 0) : Pt X 0 0 0 M [(0, .ref a0), (1, .int x1)] [] := by
  unfold X7_drop at hd
  obtain ⟨_, _, hd⟩ := bnd hd
  refine pt_aload_n G 0 dX7_drop_0 rfl rfl ?_
  refine pt_iload_n G 1 dX7_drop_1 rfl rfl ?_
  obtain ⟨v2, h1, hd⟩ := bnd hd
  refine X7_isMove_v G gX7_drop_X7_isMove ⟨(Nat.le_of_ble_eq_true rfl), (Nat.le_of_ble_eq_true rfl)⟩ h1 dX7_drop_2 (Nat.le_of_ble_eq_true rfl) ⟨(Nat.le_of_ble_eq_true rfl), (Nat.le_of_ble_eq_true rfl)⟩ ?_
  refine pt_if_ne G 10 dX7_drop_5 (by decide) (fun c11 => ?_) (fun c11 => ?_)
  · replace hd := ifn c11 hd
    refine pt_aload_n G 0 dX7_drop_10 rfl rfl ?_
    obtain ⟨w3, h4, hd⟩ := bnd hd
    refine pt_get G (ci := 7) (j := 0) rfl (by decide) u_X7_drop_X7 m_X7_drop_1 (gR_o h4) dX7_drop_11 ?_
    refine pt_iload_n G 1 dX7_drop_14 rfl rfl ?_
    obtain ⟨M6, h5, hd⟩ := bnd hd
    refine X6_removeMove_v G gX7_drop_X6_removeMove ⟨(Nat.le_of_ble_eq_true rfl), (Nat.le_of_ble_eq_true rfl)⟩ h5 dX7_drop_15 (Nat.le_of_ble_eq_true rfl) ⟨(Nat.le_of_ble_eq_true rfl), (Nat.le_of_ble_eq_true rfl)⟩ ?_
    refine pt_aload_n G 0 dX7_drop_18 rfl rfl ?_
    obtain ⟨w7, h8, hd⟩ := bnd hd
    refine pt_get G (ci := 7) (j := 0) rfl (by decide) u_X7_drop_X7 m_X7_drop_1 (gR_o h8) dX7_drop_19 ?_
    obtain ⟨v9, h10, hd⟩ := bnd hd
    refine pt_get G (ci := 6) (j := 2) rfl (by decide) u_X7_drop_X6 m_X7_drop_2 (gI_o h10) dX7_drop_22 ?_
    cases hd
    exact pt_iret G hQ dX7_drop_25
  · replace hd := ifp c11 hd
    refine pt_iconst G (-1 : Int32) dX7_drop_8 ci_m1 ?_
    cases hd
    exact pt_iret G hQ dX7_drop_9
theorem X7_drop_c {l : Launch} {D : va_G} {dA : Nat → ClassId} {b : Nat} {M : Wo} {a0 : Nat} {x1 : Int32} {r : Int32} {M2 : Wo} (h : X7_drop M a0 x1 = some (r, M2)) : Met l yX7_drop wsX7_drop rX7_drop (va_Pc [.ref a0, .int x1] (Wd D dA b M)) (Ei D dA b r M2) 0 0 (Ab b) := met_i (by decide) rfl (Nat.le_of_ble_eq_true rfl) (fun X G hN hQ => X7_drop_w G h hQ)
theorem X7_drop_v {X : Cx} {y : MethodName} {cc : ByteArray} {Ts : List Cond} {nL : Nat} {ret : Option FieldType} {R : Room} (G : Gd X y cc Ts nL ret R) {index : Nat} (hg : GoodIn Ts (wsV y.cls index RX7 yX7_drop wsX7_drop)) (hR : rX7_drop.frames + 1 ≤ R.frames ∧ 8 + (2 + 11) + rX7_drop.locals ≤ R.locals) {k n pc : Nat} {M : Wo} {lv : List (Nat × Value)} {st : List Value} {a0 : Nat} {x1 : Int32} {r : Int32} {M2 : Wo} (hv : X7_drop M a0 x1 = some (r, M2)) (hd : decode cc pc = .ok (.invokevirtual index, 3)) (h8 : (st.map fun v => v.category).sum ≤ 8) (hf : k ≤ R.cells ∧ n ≤ R.slots) (kk : Pt X k n (pc + 3) M2 lv (.int r :: st)) : Pt X k n pc M lv (.int x1 :: .ref a0 :: st) := pt_cVi (ci := 7) (nA := 1) (As := [.int x1]) G (X7_drop_c hv) hg rfl rfl rfl (by decide +kernel) hR rfl (rcv hv) rfl rfl h8 hd hf kk
abbrev rX7_shift : Room := { frames := 2, cells := 0, slots := 0, locals := 48 }
theorem m_X7_shift_3 : Cond.fieldLink RX7 140 "StageLines$Move" "begin" "I" ∈ wsX7_shift := List.mem_of_getElem? (i := 3) rfl
theorem u_X7_shift_X4 : ∀ w ∈ u_ws RX4 TX4 4, w ∈ wsX7_shift := mem_r [37, 38, 39, 40] (by decide +kernel)
theorem m_X7_shift_4 : Cond.fieldLink RX7 145 "StageLines$Move" "bar" "I" ∈ wsX7_shift := List.mem_of_getElem? (i := 4) rfl
theorem m_X7_shift_1 : Cond.fieldLink RX7 12 "StageLines" "stage" "LStageLines$Stage;" ∈ wsX7_shift := List.mem_of_getElem? (i := 1) rfl
theorem u_X7_shift_X7 : ∀ w ∈ u_ws RX7 TX7 6, w ∈ wsX7_shift := mem_r [27, 28, 29, 30, 31, 32] (by decide +kernel)
theorem m_X7_shift_2 : Cond.fieldLink RX7 136 "StageLines$Stage" "moves" "[LStageLines$Move;" ∈ wsX7_shift := List.mem_of_getElem? (i := 2) rfl
theorem u_X7_shift_X6 : ∀ w ∈ u_ws RX6 TX6 4, w ∈ wsX7_shift := mem_r [33, 34, 35, 36] (by decide +kernel)
def X7_shift (M : Wo) (a0 : Nat) (x1 : Int32) (x2 : Int32) : Option (Int32 × Wo) :=
  (ckO M a0 7).bind fun _ => (X7_isMove M a0 x1).bind fun v2 => if v2 = 0 then (some ((-1 : Int32), M)) else ((gR M a0 7 0).bind fun w3 => (gR M w3 6 1).bind fun w5 => (lR M 3 w5 x1).bind fun w7 => (gI M w7 4 1).bind fun v9 => (gI M w7 4 1).bind fun v11 => (X7_within M x2 (-v9) ((200 : Int32) - v11)).bind fun v14 => if v14 = 0 then (some ((-2 : Int32), M)) else ((gI M w7 4 1).bind fun v15 => (gR M a0 7 0).bind fun w17 => (gI M w7 4 0).bind fun v19 => (X6_moveAt M w17 v19 (v15 + x2)).bind fun v22 => if v22 < 0 then ((pV M w7 4 1 (.int (v15 + x2))).bind fun M23 => some ((v15 + x2), M23)) else (if v22 = x1 then ((pV M w7 4 1 (.int (v15 + x2))).bind fun M25 => some ((v15 + x2), M25)) else (some ((-5 : Int32), M)))))
theorem X7_shift_w {X : Cx} (G : Gd X yX7_shift cX7_shift wsX7_shift 6 (some .int) rX7_shift) {M : Wo} {a0 : Nat} {x1 : Int32} {x2 : Int32} {o : (Int32 × Wo)} (hd : X7_shift M a0 x1 x2 = some o) (hQ : Qi X o.1 o.2 0 0) : Pt X 0 0 0 M [(0, .ref a0), (1, .int x1), (2, .int x2)] [] := by
  unfold X7_shift at hd
  obtain ⟨_, _, hd⟩ := bnd hd
  refine pt_aload_n G 0 dX7_shift_0 rfl rfl ?_
  refine pt_iload_n G 1 dX7_shift_1 rfl rfl ?_
  obtain ⟨v2, h1, hd⟩ := bnd hd
  refine X7_isMove_v G gX7_shift_X7_isMove ⟨(Nat.le_of_ble_eq_true rfl), (Nat.le_of_ble_eq_true rfl)⟩ h1 dX7_shift_2 (Nat.le_of_ble_eq_true rfl) ⟨(Nat.le_of_ble_eq_true rfl), (Nat.le_of_ble_eq_true rfl)⟩ ?_
  refine pt_if_ne G 10 dX7_shift_5 (by decide) (fun c30 => ?_) (fun c30 => ?_)
  · replace hd := ifn c30 hd
    refine pt_aload_n G 0 dX7_shift_10 rfl rfl ?_
    obtain ⟨w3, h4, hd⟩ := bnd hd
    refine pt_get G (ci := 7) (j := 0) rfl (by decide) u_X7_shift_X7 m_X7_shift_1 (gR_o h4) dX7_shift_11 ?_
    obtain ⟨w5, h6, hd⟩ := bnd hd
    refine pt_get G (ci := 6) (j := 1) rfl (by decide) u_X7_shift_X6 m_X7_shift_2 (gR_o h6) dX7_shift_14 ?_
    refine pt_iload_n G 1 dX7_shift_17 rfl rfl ?_
    obtain ⟨w7, h8, hd⟩ := bnd hd
    refine pt_aald G (kd := 3) rfl rfl h8 dX7_shift_18 ?_
    refine pt_astore_n G [(3, .ref w7), (0, .ref a0), (1, .int x1), (2, .int x2)] dX7_shift_19 rfl (by decide) rfl ?_
    refine pt_iload_n G 3 dX7_shift_20 rfl rfl ?_
    refine pt_aload_n G 0 dX7_shift_21 rfl rfl ?_
    obtain ⟨v9, h10, hd⟩ := bnd hd
    refine pt_get G (ci := 4) (j := 1) rfl (by decide) u_X7_shift_X4 m_X7_shift_3 (gI_o h10) dX7_shift_22 ?_
    refine pt_ineg G dX7_shift_25 ?_
    refine pt_sipush G (200 : Int32) dX7_shift_26 si_200 ?_
    refine pt_aload_n G 0 dX7_shift_29 rfl rfl ?_
    obtain ⟨v11, h12, hd⟩ := bnd hd
    refine pt_get G (ci := 4) (j := 1) rfl (by decide) u_X7_shift_X4 m_X7_shift_3 (gI_o h12) dX7_shift_30 ?_
    refine pt_isub G dX7_shift_33 ?_
    obtain ⟨v14, h13, hd⟩ := bnd hd
    refine X7_within_v G gX7_shift_X7_within ⟨(Nat.le_of_ble_eq_true rfl), (Nat.le_of_ble_eq_true rfl)⟩ h13 dX7_shift_34 (Nat.le_of_ble_eq_true rfl) ⟨(Nat.le_of_ble_eq_true rfl), (Nat.le_of_ble_eq_true rfl)⟩ ?_
    refine pt_if_ne G 43 dX7_shift_37 (by decide) (fun c29 => ?_) (fun c29 => ?_)
    · replace hd := ifn c29 hd
      refine pt_aload_n G 0 dX7_shift_43 rfl rfl ?_
      obtain ⟨v15, h16, hd⟩ := bnd hd
      refine pt_get G (ci := 4) (j := 1) rfl (by decide) u_X7_shift_X4 m_X7_shift_3 (gI_o h16) dX7_shift_44 ?_
      refine pt_iload_n G 3 dX7_shift_47 rfl rfl ?_
      refine pt_iadd G dX7_shift_48 ?_
      refine pt_istore G [(4, .int (v15 + x2)), (3, .ref w7), (0, .ref a0), (1, .int x1), (2, .int x2)] dX7_shift_49 (by decide) rfl ?_
      refine pt_aload_n G 2 dX7_shift_51 rfl rfl ?_
      obtain ⟨w17, h18, hd⟩ := bnd hd
      refine pt_get G (ci := 7) (j := 0) rfl (by decide) u_X7_shift_X7 m_X7_shift_1 (gR_o h18) dX7_shift_52 ?_
      refine pt_aload_n G 1 dX7_shift_55 rfl rfl ?_
      obtain ⟨v19, h20, hd⟩ := bnd hd
      refine pt_get G (ci := 4) (j := 0) rfl (by decide) u_X7_shift_X4 m_X7_shift_4 (gI_o h20) dX7_shift_56 ?_
      refine pt_iload G 0 dX7_shift_59 rfl ?_
      obtain ⟨v22, h21, hd⟩ := bnd hd
      refine X6_moveAt_v G gX7_shift_X6_moveAt ⟨(Nat.le_of_ble_eq_true rfl), (Nat.le_of_ble_eq_true rfl)⟩ h21 dX7_shift_61 (Nat.le_of_ble_eq_true rfl) ⟨(Nat.le_of_ble_eq_true rfl), (Nat.le_of_ble_eq_true rfl)⟩ ?_
      refine pt_istore G [(5, .int v22), (4, .int (v15 + x2)), (3, .ref w7), (0, .ref a0), (1, .int x1), (2, .int x2)] dX7_shift_64 (by decide) rfl ?_
      refine pt_iload G 0 dX7_shift_66 rfl ?_
      refine pt_if_lt G 80 dX7_shift_68 (by decide) (fun c28 => ?_) (fun c28 => ?_)
      · replace hd := ifp c28 hd
        refine pt_aload_n G 2 dX7_shift_80 rfl rfl ?_
        refine pt_iload G 1 dX7_shift_81 rfl ?_
        obtain ⟨M23, h24, hd⟩ := bnd hd
        refine pt_put G (ci := 4) (j := 1) rfl (by decide) u_X7_shift_X4 m_X7_shift_3 tyX4 tyX4_ok nmX4 rfl rfl rfl h24 dX7_shift_83 ?_
        refine pt_iload G 1 dX7_shift_86 rfl ?_
        cases hd
        exact pt_iret G hQ dX7_shift_88
      · replace hd := ifn c28 hd
        refine pt_iload G 0 dX7_shift_71 rfl ?_
        refine pt_iload_n G 4 dX7_shift_73 rfl rfl ?_
        refine pt_icmp_eq G 80 dX7_shift_74 (by decide) (fun c27 => ?_) (fun c27 => ?_)
        · replace hd := ifp c27 hd
          refine pt_aload_n G 2 dX7_shift_80 rfl rfl ?_
          refine pt_iload G 1 dX7_shift_81 rfl ?_
          obtain ⟨M25, h26, hd⟩ := bnd hd
          refine pt_put G (ci := 4) (j := 1) rfl (by decide) u_X7_shift_X4 m_X7_shift_3 tyX4 tyX4_ok nmX4 rfl rfl rfl h26 dX7_shift_83 ?_
          refine pt_iload G 1 dX7_shift_86 rfl ?_
          cases hd
          exact pt_iret G hQ dX7_shift_88
        · replace hd := ifn c27 hd
          refine pt_bipush G (-5 : Int32) dX7_shift_77 bi_m5 ?_
          cases hd
          exact pt_iret G hQ dX7_shift_79
    · replace hd := ifp c29 hd
      refine pt_bipush G (-2 : Int32) dX7_shift_40 bi_m2 ?_
      cases hd
      exact pt_iret G hQ dX7_shift_42
  · replace hd := ifp c30 hd
    refine pt_iconst G (-1 : Int32) dX7_shift_8 ci_m1 ?_
    cases hd
    exact pt_iret G hQ dX7_shift_9
theorem X7_shift_c {l : Launch} {D : va_G} {dA : Nat → ClassId} {b : Nat} {M : Wo} {a0 : Nat} {x1 : Int32} {x2 : Int32} {r : Int32} {M2 : Wo} (h : X7_shift M a0 x1 x2 = some (r, M2)) : Met l yX7_shift wsX7_shift rX7_shift (va_Pc [.ref a0, .int x1, .int x2] (Wd D dA b M)) (Ei D dA b r M2) 0 0 (Ab b) := met_i (by decide) rfl (Nat.le_of_ble_eq_true rfl) (fun X G hN hQ => X7_shift_w G h hQ)
theorem X7_shift_v {X : Cx} {y : MethodName} {cc : ByteArray} {Ts : List Cond} {nL : Nat} {ret : Option FieldType} {R : Room} (G : Gd X y cc Ts nL ret R) {index : Nat} (hg : GoodIn Ts (wsV y.cls index RX7 yX7_shift wsX7_shift)) (hR : rX7_shift.frames + 1 ≤ R.frames ∧ 8 + (6 + 11) + rX7_shift.locals ≤ R.locals) {k n pc : Nat} {M : Wo} {lv : List (Nat × Value)} {st : List Value} {a0 : Nat} {x1 : Int32} {x2 : Int32} {r : Int32} {M2 : Wo} (hv : X7_shift M a0 x1 x2 = some (r, M2)) (hd : decode cc pc = .ok (.invokevirtual index, 3)) (h8 : (st.map fun v => v.category).sum ≤ 8) (hf : k ≤ R.cells ∧ n ≤ R.slots) (kk : Pt X k n (pc + 3) M2 lv (.int r :: st)) : Pt X k n pc M lv (.int x2 :: .int x1 :: .ref a0 :: st) := pt_cVi (ci := 7) (nA := 2) (As := [.int x1, .int x2]) G (X7_shift_c hv) hg rfl rfl rfl (by decide +kernel) hR rfl (rcv hv) rfl rfl h8 hd hf kk
abbrev rX7_flownBy : Room := { frames := 3, cells := 0, slots := 0, locals := 107 }
theorem m_X7_flownBy_6 : Cond.fieldLink RX7 140 "StageLines$Move" "begin" "I" ∈ wsX7_flownBy := List.mem_of_getElem? (i := 6) rfl
theorem u_X7_flownBy_X4 : ∀ w ∈ u_ws RX4 TX4 4, w ∈ wsX7_flownBy := mem_r [54, 55, 56, 57] (by decide +kernel)
theorem m_X7_flownBy_4 : Cond.fieldLink RX7 145 "StageLines$Move" "bar" "I" ∈ wsX7_flownBy := List.mem_of_getElem? (i := 4) rfl
theorem m_X7_flownBy_5 : Cond.fieldLink RX7 171 "StageLines$Flight" "heights" "[[I" ∈ wsX7_flownBy := List.mem_of_getElem? (i := 5) rfl
theorem u_X7_flownBy_X2 : ∀ w ∈ u_ws RX2 TX2 1, w ∈ wsX7_flownBy := mem_r [58] (by decide +kernel)
theorem m_X7_flownBy_3 : Cond.fieldLink RX7 34 "StageLines" "flight" "LStageLines$Flight;" ∈ wsX7_flownBy := List.mem_of_getElem? (i := 3) rfl
theorem u_X7_flownBy_X7 : ∀ w ∈ u_ws RX7 TX7 6, w ∈ wsX7_flownBy := mem_r [44, 45, 46, 47, 48, 49] (by decide +kernel)
theorem m_X7_flownBy_7 : Cond.fieldLink RX7 148 "StageLines$Move" "target" "I" ∈ wsX7_flownBy := List.mem_of_getElem? (i := 7) rfl
theorem m_X7_flownBy_1 : Cond.fieldLink RX7 12 "StageLines" "stage" "LStageLines$Stage;" ∈ wsX7_flownBy := List.mem_of_getElem? (i := 1) rfl
theorem m_X7_flownBy_2 : Cond.fieldLink RX7 136 "StageLines$Stage" "moves" "[LStageLines$Move;" ∈ wsX7_flownBy := List.mem_of_getElem? (i := 2) rfl
theorem u_X7_flownBy_X6 : ∀ w ∈ u_ws RX6 TX6 4, w ∈ wsX7_flownBy := mem_r [50, 51, 52, 53] (by decide +kernel)
def X7_flownBy (M : Wo) (a0 : Nat) (x1 : Int32) (x2 : Int32) : Option (Int32 × Wo) :=
  (ckO M a0 7).bind fun _ => (gR M a0 7 0).bind fun w1 => (gR M w1 6 1).bind fun w3 => (lR M 3 w3 x1).bind fun w5 => (gR M a0 7 4).bind fun w7 => (gR M a0 7 0).bind fun w9 => (gI M w5 4 0).bind fun v11 => (X2_trace M w7 w9 v11).bind fun M14 => (gR M14 a0 7 4).bind fun w15 => (gR M14 a0 7 0).bind fun w17 => (X2_endOf M14 w15 w17 x1).bind fun v20 => (gR M14 a0 7 4).bind fun w21 => (gR M14 w21 2 0).bind fun w23 => (gI M14 w5 4 0).bind fun v25 => (lR M14 5 w23 v25).bind fun w27 => (lA M14 0 w27 v20).bind fun v29 => if x2 = (4 : Int32) then (some (v20, M14)) else if x2 = (5 : Int32) then ((gR M14 a0 7 4).bind fun w33 => (gR M14 w33 2 0).bind fun w35 => (gI M14 w5 4 0).bind fun v37 => (lR M14 5 w35 v37).bind fun w39 => (gI M14 w5 4 1).bind fun v41 => (lA M14 0 w39 v41).bind fun v43 => some (v43, M14)) else if x2 = (6 : Int32) then (some (v29, M14)) else ((gI M14 w5 4 2).bind fun v46 => if v29 = v46 then (some ((0 : Int32), M14)) else (some ((1 : Int32), M14)))
theorem X7_flownBy_w {X : Cx} (G : Gd X yX7_flownBy cX7_flownBy wsX7_flownBy 6 (some .int) rX7_flownBy) {M : Wo} {a0 : Nat} {x1 : Int32} {x2 : Int32} {o : (Int32 × Wo)} (hd : X7_flownBy M a0 x1 x2 = some o) (hQ : Qi X o.1 o.2 0 0) : Pt X 0 0 0 M [(0, .ref a0), (1, .int x1), (2, .int x2)] [] := by
  unfold X7_flownBy at hd
  obtain ⟨_, _, hd⟩ := bnd hd
  refine pt_aload_n G 0 dX7_flownBy_0 rfl rfl ?_
  obtain ⟨w1, h2, hd⟩ := bnd hd
  refine pt_get G (ci := 7) (j := 0) rfl (by decide) u_X7_flownBy_X7 m_X7_flownBy_1 (gR_o h2) dX7_flownBy_1 ?_
  obtain ⟨w3, h4, hd⟩ := bnd hd
  refine pt_get G (ci := 6) (j := 1) rfl (by decide) u_X7_flownBy_X6 m_X7_flownBy_2 (gR_o h4) dX7_flownBy_4 ?_
  refine pt_iload_n G 1 dX7_flownBy_7 rfl rfl ?_
  obtain ⟨w5, h6, hd⟩ := bnd hd
  refine pt_aald G (kd := 3) rfl rfl h6 dX7_flownBy_8 ?_
  refine pt_astore_n G [(3, .ref w5), (0, .ref a0), (1, .int x1), (2, .int x2)] dX7_flownBy_9 rfl (by decide) rfl ?_
  refine pt_aload_n G 1 dX7_flownBy_10 rfl rfl ?_
  obtain ⟨w7, h8, hd⟩ := bnd hd
  refine pt_get G (ci := 7) (j := 4) rfl (by decide) u_X7_flownBy_X7 m_X7_flownBy_3 (gR_o h8) dX7_flownBy_11 ?_
  refine pt_aload_n G 1 dX7_flownBy_14 rfl rfl ?_
  obtain ⟨w9, h10, hd⟩ := bnd hd
  refine pt_get G (ci := 7) (j := 0) rfl (by decide) u_X7_flownBy_X7 m_X7_flownBy_1 (gR_o h10) dX7_flownBy_15 ?_
  refine pt_aload_n G 0 dX7_flownBy_18 rfl rfl ?_
  obtain ⟨v11, h12, hd⟩ := bnd hd
  refine pt_get G (ci := 4) (j := 0) rfl (by decide) u_X7_flownBy_X4 m_X7_flownBy_4 (gI_o h12) dX7_flownBy_19 ?_
  obtain ⟨M14, h13, hd⟩ := bnd hd
  refine X2_trace_v G gX7_flownBy_X2_trace ⟨(Nat.le_of_ble_eq_true rfl), (Nat.le_of_ble_eq_true rfl)⟩ h13 dX7_flownBy_22 (Nat.le_of_ble_eq_true rfl) ⟨(Nat.le_of_ble_eq_true rfl), (Nat.le_of_ble_eq_true rfl)⟩ ?_
  refine pt_aload_n G 1 dX7_flownBy_25 rfl rfl ?_
  obtain ⟨w15, h16, hd⟩ := bnd hd
  refine pt_get G (ci := 7) (j := 4) rfl (by decide) u_X7_flownBy_X7 m_X7_flownBy_3 (gR_o h16) dX7_flownBy_26 ?_
  refine pt_aload_n G 1 dX7_flownBy_29 rfl rfl ?_
  obtain ⟨w17, h18, hd⟩ := bnd hd
  refine pt_get G (ci := 7) (j := 0) rfl (by decide) u_X7_flownBy_X7 m_X7_flownBy_1 (gR_o h18) dX7_flownBy_30 ?_
  refine pt_iload_n G 2 dX7_flownBy_33 rfl rfl ?_
  obtain ⟨v20, h19, hd⟩ := bnd hd
  refine X2_endOf_v G gX7_flownBy_X2_endOf ⟨(Nat.le_of_ble_eq_true rfl), (Nat.le_of_ble_eq_true rfl)⟩ h19 dX7_flownBy_34 (Nat.le_of_ble_eq_true rfl) ⟨(Nat.le_of_ble_eq_true rfl), (Nat.le_of_ble_eq_true rfl)⟩ ?_
  refine pt_istore G [(4, .int v20), (3, .ref w5), (0, .ref a0), (1, .int x1), (2, .int x2)] dX7_flownBy_37 (by decide) rfl ?_
  refine pt_aload_n G 2 dX7_flownBy_39 rfl rfl ?_
  obtain ⟨w21, h22, hd⟩ := bnd hd
  refine pt_get G (ci := 7) (j := 4) rfl (by decide) u_X7_flownBy_X7 m_X7_flownBy_3 (gR_o h22) dX7_flownBy_40 ?_
  obtain ⟨w23, h24, hd⟩ := bnd hd
  refine pt_get G (ci := 2) (j := 0) rfl (by decide) u_X7_flownBy_X2 m_X7_flownBy_5 (gR_o h24) dX7_flownBy_43 ?_
  refine pt_aload_n G 1 dX7_flownBy_46 rfl rfl ?_
  obtain ⟨v25, h26, hd⟩ := bnd hd
  refine pt_get G (ci := 4) (j := 0) rfl (by decide) u_X7_flownBy_X4 m_X7_flownBy_4 (gI_o h26) dX7_flownBy_47 ?_
  obtain ⟨w27, h28, hd⟩ := bnd hd
  refine pt_aald G (kd := 5) rfl rfl h28 dX7_flownBy_50 ?_
  refine pt_iload G 0 dX7_flownBy_51 rfl ?_
  obtain ⟨v29, h30, hd⟩ := bnd hd
  refine pt_iald G h30 dX7_flownBy_53 ?_
  refine pt_istore G [(5, .int v29), (4, .int v20), (3, .ref w5), (0, .ref a0), (1, .int x1), (2, .int x2)] dX7_flownBy_54 (by decide) rfl ?_
  refine pt_iload_n G 5 dX7_flownBy_56 rfl rfl ?_
  by_cases c31 : x2 = (4 : Int32)
  · replace hd := ifp c31 hd
    refine pt_tsIn G 84 dX7_flownBy_57 (by rw [c31]; decide) (by rw [c31]; decide) (by rw [c31]; rfl) (by decide) ?_
    refine pt_iload G 1 dX7_flownBy_84 rfl ?_
    cases hd
    exact pt_iret G hQ dX7_flownBy_86
  replace hd := ifn c31 hd
  by_cases c32 : x2 = (5 : Int32)
  · replace hd := ifp c32 hd
    refine pt_tsIn G 87 dX7_flownBy_57 (by rw [c32]; decide) (by rw [c32]; decide) (by rw [c32]; rfl) (by decide) ?_
    refine pt_aload_n G 3 dX7_flownBy_87 rfl rfl ?_
    obtain ⟨w33, h34, hd⟩ := bnd hd
    refine pt_get G (ci := 7) (j := 4) rfl (by decide) u_X7_flownBy_X7 m_X7_flownBy_3 (gR_o h34) dX7_flownBy_88 ?_
    obtain ⟨w35, h36, hd⟩ := bnd hd
    refine pt_get G (ci := 2) (j := 0) rfl (by decide) u_X7_flownBy_X2 m_X7_flownBy_5 (gR_o h36) dX7_flownBy_91 ?_
    refine pt_aload_n G 2 dX7_flownBy_94 rfl rfl ?_
    obtain ⟨v37, h38, hd⟩ := bnd hd
    refine pt_get G (ci := 4) (j := 0) rfl (by decide) u_X7_flownBy_X4 m_X7_flownBy_4 (gI_o h38) dX7_flownBy_95 ?_
    obtain ⟨w39, h40, hd⟩ := bnd hd
    refine pt_aald G (kd := 5) rfl rfl h40 dX7_flownBy_98 ?_
    refine pt_aload_n G 2 dX7_flownBy_99 rfl rfl ?_
    obtain ⟨v41, h42, hd⟩ := bnd hd
    refine pt_get G (ci := 4) (j := 1) rfl (by decide) u_X7_flownBy_X4 m_X7_flownBy_6 (gI_o h42) dX7_flownBy_100 ?_
    obtain ⟨v43, h44, hd⟩ := bnd hd
    refine pt_iald G h44 dX7_flownBy_103 ?_
    cases hd
    exact pt_iret G hQ dX7_flownBy_104
  replace hd := ifn c32 hd
  by_cases c45 : x2 = (6 : Int32)
  · replace hd := ifp c45 hd
    refine pt_tsIn G 105 dX7_flownBy_57 (by rw [c45]; decide) (by rw [c45]; decide) (by rw [c45]; rfl) (by decide) ?_
    refine pt_iload G 0 dX7_flownBy_105 rfl ?_
    cases hd
    exact pt_iret G hQ dX7_flownBy_107
  replace hd := ifn c45 hd
  have nc31 : x2.toInt ≠ 4 := fun h => c31 (Int32.toInt_inj.mp (h.trans (by decide)))
  have nc32 : x2.toInt ≠ 5 := fun h => c32 (Int32.toInt_inj.mp (h.trans (by decide)))
  have nc45 : x2.toInt ≠ 6 := fun h => c45 (Int32.toInt_inj.mp (h.trans (by decide)))
  refine pt_tsOut G 108 dX7_flownBy_57 (by omega) (by decide) ?_
  refine pt_iload G 0 dX7_flownBy_108 rfl ?_
  refine pt_aload_n G 2 dX7_flownBy_110 rfl rfl ?_
  obtain ⟨v46, h47, hd⟩ := bnd hd
  refine pt_get G (ci := 4) (j := 2) rfl (by decide) u_X7_flownBy_X4 m_X7_flownBy_7 (gI_o h47) dX7_flownBy_111 ?_
  refine pt_icmp_eq G 121 dX7_flownBy_114 (by decide) (fun c48 => ?_) (fun c48 => ?_)
  · replace hd := ifp c48 hd
    refine pt_iconst G (0 : Int32) dX7_flownBy_121 ci_0 ?_
    cases hd
    exact pt_iret G hQ dX7_flownBy_122
  · replace hd := ifn c48 hd
    refine pt_iconst G (1 : Int32) dX7_flownBy_117 ci_1 ?_
    refine pt_goto G 122 dX7_flownBy_118 (by decide) ?_
    cases hd
    exact pt_iret G hQ dX7_flownBy_122
theorem X7_flownBy_c {l : Launch} {D : va_G} {dA : Nat → ClassId} {b : Nat} {M : Wo} {a0 : Nat} {x1 : Int32} {x2 : Int32} {r : Int32} {M2 : Wo} (h : X7_flownBy M a0 x1 x2 = some (r, M2)) : Met l yX7_flownBy wsX7_flownBy rX7_flownBy (va_Pc [.ref a0, .int x1, .int x2] (Wd D dA b M)) (Ei D dA b r M2) 0 0 (Ab b) := met_i (by decide) rfl (Nat.le_of_ble_eq_true rfl) (fun X G hN hQ => X7_flownBy_w G h hQ)
theorem X7_flownBy_v {X : Cx} {y : MethodName} {cc : ByteArray} {Ts : List Cond} {nL : Nat} {ret : Option FieldType} {R : Room} (G : Gd X y cc Ts nL ret R) {index : Nat} (hg : GoodIn Ts (wsV y.cls index RX7 yX7_flownBy wsX7_flownBy)) (hR : rX7_flownBy.frames + 1 ≤ R.frames ∧ 8 + (6 + 11) + rX7_flownBy.locals ≤ R.locals) {k n pc : Nat} {M : Wo} {lv : List (Nat × Value)} {st : List Value} {a0 : Nat} {x1 : Int32} {x2 : Int32} {r : Int32} {M2 : Wo} (hv : X7_flownBy M a0 x1 x2 = some (r, M2)) (hd : decode cc pc = .ok (.invokevirtual index, 3)) (h8 : (st.map fun v => v.category).sum ≤ 8) (hf : k ≤ R.cells ∧ n ≤ R.slots) (kk : Pt X k n (pc + 3) M2 lv (.int r :: st)) : Pt X k n pc M lv (.int x2 :: .int x1 :: .ref a0 :: st) := pt_cVi (ci := 7) (nA := 2) (As := [.int x1, .int x2]) G (X7_flownBy_c hv) hg rfl rfl rfl (by decide +kernel) hR rfl (rcv hv) rfl rfl h8 hd hf kk
abbrev rX7_told : Room := { frames := 16, cells := 0, slots := 0, locals := 946 }
theorem m_X7_told_3 : Cond.fieldLink RX7 145 "StageLines$Move" "bar" "I" ∈ wsX7_told := List.mem_of_getElem? (i := 3) rfl
theorem u_X7_told_X4 : ∀ w ∈ u_ws RX4 TX4 4, w ∈ wsX7_told := mem_r [130, 131, 132, 133] (by decide +kernel)
theorem m_X7_told_4 : Cond.fieldLink RX7 140 "StageLines$Move" "begin" "I" ∈ wsX7_told := List.mem_of_getElem? (i := 4) rfl
theorem m_X7_told_5 : Cond.fieldLink RX7 148 "StageLines$Move" "target" "I" ∈ wsX7_told := List.mem_of_getElem? (i := 5) rfl
theorem m_X7_told_6 : Cond.fieldLink RX7 151 "StageLines$Move" "pace" "I" ∈ wsX7_told := List.mem_of_getElem? (i := 6) rfl
theorem m_X7_told_9 : Cond.fieldLink RX7 161 "StageLines$CrewFinder" "handOf" "[I" ∈ wsX7_told := List.mem_of_getElem? (i := 9) rfl
theorem u_X7_told_X1 : ∀ w ∈ u_ws RX1 TX1 7, w ∈ wsX7_told := mem_r [134, 135, 136, 137, 138, 139, 140] (by decide +kernel)
theorem m_X7_told_7 : Cond.fieldLink RX7 41 "StageLines" "crewFinder" "LStageLines$CrewFinder;" ∈ wsX7_told := List.mem_of_getElem? (i := 7) rfl
theorem u_X7_told_X7 : ∀ w ∈ u_ws RX7 TX7 6, w ∈ wsX7_told := mem_r [120, 121, 122, 123, 124, 125] (by decide +kernel)
theorem m_X7_told_8 : Cond.fieldLink RX7 34 "StageLines" "flight" "LStageLines$Flight;" ∈ wsX7_told := List.mem_of_getElem? (i := 8) rfl
theorem m_X7_told_1 : Cond.fieldLink RX7 12 "StageLines" "stage" "LStageLines$Stage;" ∈ wsX7_told := List.mem_of_getElem? (i := 1) rfl
theorem m_X7_told_2 : Cond.fieldLink RX7 136 "StageLines$Stage" "moves" "[LStageLines$Move;" ∈ wsX7_told := List.mem_of_getElem? (i := 2) rfl
theorem u_X7_told_X6 : ∀ w ∈ u_ws RX6 TX6 4, w ∈ wsX7_told := mem_r [126, 127, 128, 129] (by decide +kernel)
def X7_told (M : Wo) (a0 : Nat) (x1 : Int32) (x2 : Int32) : Option (Int32 × Wo) :=
  (ckO M a0 7).bind fun _ => (X7_isMove M a0 x1).bind fun v2 => if v2 = 0 then (some ((-1 : Int32), M)) else ((gR M a0 7 0).bind fun w3 => (gR M w3 6 1).bind fun w5 => (lR M 3 w5 x1).bind fun w7 => if x2 = (0 : Int32) then ((gI M w7 4 0).bind fun v10 => some (v10, M)) else if x2 = (1 : Int32) then ((gI M w7 4 1).bind fun v13 => some (v13, M)) else if x2 = (2 : Int32) then ((gI M w7 4 2).bind fun v16 => some (v16, M)) else if x2 = (3 : Int32) then ((gI M w7 4 3).bind fun v19 => some (v19, M)) else if x2 = (4 : Int32) then ((X7_flownBy M a0 x1 x2).bind (un2 fun v23 M24 => some (v23, M24))) else if x2 = (5 : Int32) then ((X7_flownBy M a0 x1 x2).bind (un2 fun v27 M28 => some (v27, M28))) else if x2 = (6 : Int32) then ((X7_flownBy M a0 x1 x2).bind (un2 fun v31 M32 => some (v31, M32))) else if x2 = (7 : Int32) then ((X7_flownBy M a0 x1 x2).bind (un2 fun v35 M36 => some (v35, M36))) else if x2 = (8 : Int32) then ((gR M a0 7 5).bind fun w38 => (gR M a0 7 0).bind fun w40 => (gR M a0 7 4).bind fun w42 => (X1_gather M w38 w40 w42).bind fun M45 => (gR M45 a0 7 5).bind fun w46 => (gR M45 w46 1 1).bind fun w48 => (lA M45 0 w48 x1).bind fun v50 => some (v50, M45)) else (some ((-2 : Int32), M)))
theorem X7_told_w {X : Cx} (G : Gd X yX7_told cX7_told wsX7_told 4 (some .int) rX7_told) {M : Wo} {a0 : Nat} {x1 : Int32} {x2 : Int32} {o : (Int32 × Wo)} (hd : X7_told M a0 x1 x2 = some o) (hQ : Qi X o.1 o.2 0 0) : Pt X 0 0 0 M [(0, .ref a0), (1, .int x1), (2, .int x2)] [] := by
  unfold X7_told at hd
  obtain ⟨_, _, hd⟩ := bnd hd
  refine pt_aload_n G 0 dX7_told_0 rfl rfl ?_
  refine pt_iload_n G 1 dX7_told_1 rfl rfl ?_
  obtain ⟨v2, h1, hd⟩ := bnd hd
  refine X7_isMove_v G gX7_told_X7_isMove ⟨(Nat.le_of_ble_eq_true rfl), (Nat.le_of_ble_eq_true rfl)⟩ h1 dX7_told_2 (Nat.le_of_ble_eq_true rfl) ⟨(Nat.le_of_ble_eq_true rfl), (Nat.le_of_ble_eq_true rfl)⟩ ?_
  refine pt_if_ne G 10 dX7_told_5 (by decide) (fun c52 => ?_) (fun c52 => ?_)
  · replace hd := ifn c52 hd
    refine pt_aload_n G 0 dX7_told_10 rfl rfl ?_
    obtain ⟨w3, h4, hd⟩ := bnd hd
    refine pt_get G (ci := 7) (j := 0) rfl (by decide) u_X7_told_X7 m_X7_told_1 (gR_o h4) dX7_told_11 ?_
    obtain ⟨w5, h6, hd⟩ := bnd hd
    refine pt_get G (ci := 6) (j := 1) rfl (by decide) u_X7_told_X6 m_X7_told_2 (gR_o h6) dX7_told_14 ?_
    refine pt_iload_n G 1 dX7_told_17 rfl rfl ?_
    obtain ⟨w7, h8, hd⟩ := bnd hd
    refine pt_aald G (kd := 3) rfl rfl h8 dX7_told_18 ?_
    refine pt_astore_n G [(3, .ref w7), (0, .ref a0), (1, .int x1), (2, .int x2)] dX7_told_19 rfl (by decide) rfl ?_
    refine pt_iload_n G 3 dX7_told_20 rfl rfl ?_
    by_cases c9 : x2 = (0 : Int32)
    · replace hd := ifp c9 hd
      refine pt_tsIn G 72 dX7_told_21 (by rw [c9]; decide) (by rw [c9]; decide) (by rw [c9]; rfl) (by decide) ?_
      refine pt_aload_n G 0 dX7_told_72 rfl rfl ?_
      obtain ⟨v10, h11, hd⟩ := bnd hd
      refine pt_get G (ci := 4) (j := 0) rfl (by decide) u_X7_told_X4 m_X7_told_3 (gI_o h11) dX7_told_73 ?_
      cases hd
      exact pt_iret G hQ dX7_told_76
    replace hd := ifn c9 hd
    by_cases c12 : x2 = (1 : Int32)
    · replace hd := ifp c12 hd
      refine pt_tsIn G 77 dX7_told_21 (by rw [c12]; decide) (by rw [c12]; decide) (by rw [c12]; rfl) (by decide) ?_
      refine pt_aload_n G 0 dX7_told_77 rfl rfl ?_
      obtain ⟨v13, h14, hd⟩ := bnd hd
      refine pt_get G (ci := 4) (j := 1) rfl (by decide) u_X7_told_X4 m_X7_told_4 (gI_o h14) dX7_told_78 ?_
      cases hd
      exact pt_iret G hQ dX7_told_81
    replace hd := ifn c12 hd
    by_cases c15 : x2 = (2 : Int32)
    · replace hd := ifp c15 hd
      refine pt_tsIn G 82 dX7_told_21 (by rw [c15]; decide) (by rw [c15]; decide) (by rw [c15]; rfl) (by decide) ?_
      refine pt_aload_n G 0 dX7_told_82 rfl rfl ?_
      obtain ⟨v16, h17, hd⟩ := bnd hd
      refine pt_get G (ci := 4) (j := 2) rfl (by decide) u_X7_told_X4 m_X7_told_5 (gI_o h17) dX7_told_83 ?_
      cases hd
      exact pt_iret G hQ dX7_told_86
    replace hd := ifn c15 hd
    by_cases c18 : x2 = (3 : Int32)
    · replace hd := ifp c18 hd
      refine pt_tsIn G 87 dX7_told_21 (by rw [c18]; decide) (by rw [c18]; decide) (by rw [c18]; rfl) (by decide) ?_
      refine pt_aload_n G 0 dX7_told_87 rfl rfl ?_
      obtain ⟨v19, h20, hd⟩ := bnd hd
      refine pt_get G (ci := 4) (j := 3) rfl (by decide) u_X7_told_X4 m_X7_told_6 (gI_o h20) dX7_told_88 ?_
      cases hd
      exact pt_iret G hQ dX7_told_91
    replace hd := ifn c18 hd
    by_cases c21 : x2 = (4 : Int32)
    · replace hd := ifp c21 hd
      refine pt_tsIn G 92 dX7_told_21 (by rw [c21]; decide) (by rw [c21]; decide) (by rw [c21]; rfl) (by decide) ?_
      refine pt_aload_n G 1 dX7_told_92 rfl rfl ?_
      refine pt_iload_n G 2 dX7_told_93 rfl rfl ?_
      refine pt_iload_n G 3 dX7_told_94 rfl rfl ?_
      obtain ⟨⟨v23, M24⟩, h22, hd⟩ := bnd hd
      replace hd := un2_e hd
      refine X7_flownBy_v G gX7_told_X7_flownBy ⟨(Nat.le_of_ble_eq_true rfl), (Nat.le_of_ble_eq_true rfl)⟩ h22 dX7_told_95 (Nat.le_of_ble_eq_true rfl) ⟨(Nat.le_of_ble_eq_true rfl), (Nat.le_of_ble_eq_true rfl)⟩ ?_
      cases hd
      exact pt_iret G hQ dX7_told_98
    replace hd := ifn c21 hd
    by_cases c25 : x2 = (5 : Int32)
    · replace hd := ifp c25 hd
      refine pt_tsIn G 92 dX7_told_21 (by rw [c25]; decide) (by rw [c25]; decide) (by rw [c25]; rfl) (by decide) ?_
      refine pt_aload_n G 1 dX7_told_92 rfl rfl ?_
      refine pt_iload_n G 2 dX7_told_93 rfl rfl ?_
      refine pt_iload_n G 3 dX7_told_94 rfl rfl ?_
      obtain ⟨⟨v27, M28⟩, h26, hd⟩ := bnd hd
      replace hd := un2_e hd
      refine X7_flownBy_v G gX7_told_X7_flownBy ⟨(Nat.le_of_ble_eq_true rfl), (Nat.le_of_ble_eq_true rfl)⟩ h26 dX7_told_95 (Nat.le_of_ble_eq_true rfl) ⟨(Nat.le_of_ble_eq_true rfl), (Nat.le_of_ble_eq_true rfl)⟩ ?_
      cases hd
      exact pt_iret G hQ dX7_told_98
    replace hd := ifn c25 hd
    by_cases c29 : x2 = (6 : Int32)
    · replace hd := ifp c29 hd
      refine pt_tsIn G 92 dX7_told_21 (by rw [c29]; decide) (by rw [c29]; decide) (by rw [c29]; rfl) (by decide) ?_
      refine pt_aload_n G 1 dX7_told_92 rfl rfl ?_
      refine pt_iload_n G 2 dX7_told_93 rfl rfl ?_
      refine pt_iload_n G 3 dX7_told_94 rfl rfl ?_
      obtain ⟨⟨v31, M32⟩, h30, hd⟩ := bnd hd
      replace hd := un2_e hd
      refine X7_flownBy_v G gX7_told_X7_flownBy ⟨(Nat.le_of_ble_eq_true rfl), (Nat.le_of_ble_eq_true rfl)⟩ h30 dX7_told_95 (Nat.le_of_ble_eq_true rfl) ⟨(Nat.le_of_ble_eq_true rfl), (Nat.le_of_ble_eq_true rfl)⟩ ?_
      cases hd
      exact pt_iret G hQ dX7_told_98
    replace hd := ifn c29 hd
    by_cases c33 : x2 = (7 : Int32)
    · replace hd := ifp c33 hd
      refine pt_tsIn G 92 dX7_told_21 (by rw [c33]; decide) (by rw [c33]; decide) (by rw [c33]; rfl) (by decide) ?_
      refine pt_aload_n G 1 dX7_told_92 rfl rfl ?_
      refine pt_iload_n G 2 dX7_told_93 rfl rfl ?_
      refine pt_iload_n G 3 dX7_told_94 rfl rfl ?_
      obtain ⟨⟨v35, M36⟩, h34, hd⟩ := bnd hd
      replace hd := un2_e hd
      refine X7_flownBy_v G gX7_told_X7_flownBy ⟨(Nat.le_of_ble_eq_true rfl), (Nat.le_of_ble_eq_true rfl)⟩ h34 dX7_told_95 (Nat.le_of_ble_eq_true rfl) ⟨(Nat.le_of_ble_eq_true rfl), (Nat.le_of_ble_eq_true rfl)⟩ ?_
      cases hd
      exact pt_iret G hQ dX7_told_98
    replace hd := ifn c33 hd
    by_cases c37 : x2 = (8 : Int32)
    · replace hd := ifp c37 hd
      refine pt_tsIn G 99 dX7_told_21 (by rw [c37]; decide) (by rw [c37]; decide) (by rw [c37]; rfl) (by decide) ?_
      refine pt_aload_n G 1 dX7_told_99 rfl rfl ?_
      obtain ⟨w38, h39, hd⟩ := bnd hd
      refine pt_get G (ci := 7) (j := 5) rfl (by decide) u_X7_told_X7 m_X7_told_7 (gR_o h39) dX7_told_100 ?_
      refine pt_aload_n G 1 dX7_told_103 rfl rfl ?_
      obtain ⟨w40, h41, hd⟩ := bnd hd
      refine pt_get G (ci := 7) (j := 0) rfl (by decide) u_X7_told_X7 m_X7_told_1 (gR_o h41) dX7_told_104 ?_
      refine pt_aload_n G 1 dX7_told_107 rfl rfl ?_
      obtain ⟨w42, h43, hd⟩ := bnd hd
      refine pt_get G (ci := 7) (j := 4) rfl (by decide) u_X7_told_X7 m_X7_told_8 (gR_o h43) dX7_told_108 ?_
      obtain ⟨M45, h44, hd⟩ := bnd hd
      refine X1_gather_v G gX7_told_X1_gather ⟨(Nat.le_of_ble_eq_true rfl), (Nat.le_of_ble_eq_true rfl)⟩ h44 dX7_told_111 (Nat.le_of_ble_eq_true rfl) ⟨(Nat.le_of_ble_eq_true rfl), (Nat.le_of_ble_eq_true rfl)⟩ ?_
      refine pt_aload_n G 1 dX7_told_114 rfl rfl ?_
      obtain ⟨w46, h47, hd⟩ := bnd hd
      refine pt_get G (ci := 7) (j := 5) rfl (by decide) u_X7_told_X7 m_X7_told_7 (gR_o h47) dX7_told_115 ?_
      obtain ⟨w48, h49, hd⟩ := bnd hd
      refine pt_get G (ci := 1) (j := 1) rfl (by decide) u_X7_told_X1 m_X7_told_9 (gR_o h49) dX7_told_118 ?_
      refine pt_iload_n G 2 dX7_told_121 rfl rfl ?_
      obtain ⟨v50, h51, hd⟩ := bnd hd
      refine pt_iald G h51 dX7_told_122 ?_
      cases hd
      exact pt_iret G hQ dX7_told_123
    replace hd := ifn c37 hd
    have nc9 : x2.toInt ≠ 0 := fun h => c9 (Int32.toInt_inj.mp (h.trans (by decide)))
    have nc12 : x2.toInt ≠ 1 := fun h => c12 (Int32.toInt_inj.mp (h.trans (by decide)))
    have nc15 : x2.toInt ≠ 2 := fun h => c15 (Int32.toInt_inj.mp (h.trans (by decide)))
    have nc18 : x2.toInt ≠ 3 := fun h => c18 (Int32.toInt_inj.mp (h.trans (by decide)))
    have nc21 : x2.toInt ≠ 4 := fun h => c21 (Int32.toInt_inj.mp (h.trans (by decide)))
    have nc25 : x2.toInt ≠ 5 := fun h => c25 (Int32.toInt_inj.mp (h.trans (by decide)))
    have nc29 : x2.toInt ≠ 6 := fun h => c29 (Int32.toInt_inj.mp (h.trans (by decide)))
    have nc33 : x2.toInt ≠ 7 := fun h => c33 (Int32.toInt_inj.mp (h.trans (by decide)))
    have nc37 : x2.toInt ≠ 8 := fun h => c37 (Int32.toInt_inj.mp (h.trans (by decide)))
    refine pt_tsOut G 124 dX7_told_21 (by omega) (by decide) ?_
    refine pt_bipush G (-2 : Int32) dX7_told_124 bi_m2 ?_
    cases hd
    exact pt_iret G hQ dX7_told_126
  · replace hd := ifp c52 hd
    refine pt_iconst G (-1 : Int32) dX7_told_8 ci_m1 ?_
    cases hd
    exact pt_iret G hQ dX7_told_9
theorem X7_told_c {l : Launch} {D : va_G} {dA : Nat → ClassId} {b : Nat} {M : Wo} {a0 : Nat} {x1 : Int32} {x2 : Int32} {r : Int32} {M2 : Wo} (h : X7_told M a0 x1 x2 = some (r, M2)) : Met l yX7_told wsX7_told rX7_told (va_Pc [.ref a0, .int x1, .int x2] (Wd D dA b M)) (Ei D dA b r M2) 0 0 (Ab b) := met_i (by decide) rfl (Nat.le_of_ble_eq_true rfl) (fun X G hN hQ => X7_told_w G h hQ)
theorem X7_told_v {X : Cx} {y : MethodName} {cc : ByteArray} {Ts : List Cond} {nL : Nat} {ret : Option FieldType} {R : Room} (G : Gd X y cc Ts nL ret R) {index : Nat} (hg : GoodIn Ts (wsV y.cls index RX7 yX7_told wsX7_told)) (hR : rX7_told.frames + 1 ≤ R.frames ∧ 8 + (4 + 11) + rX7_told.locals ≤ R.locals) {k n pc : Nat} {M : Wo} {lv : List (Nat × Value)} {st : List Value} {a0 : Nat} {x1 : Int32} {x2 : Int32} {r : Int32} {M2 : Wo} (hv : X7_told M a0 x1 x2 = some (r, M2)) (hd : decode cc pc = .ok (.invokevirtual index, 3)) (h8 : (st.map fun v => v.category).sum ≤ 8) (hf : k ≤ R.cells ∧ n ≤ R.slots) (kk : Pt X k n (pc + 3) M2 lv (.int r :: st)) : Pt X k n pc M lv (.int x2 :: .int x1 :: .ref a0 :: st) := pt_cVi (ci := 7) (nA := 2) (As := [.int x1, .int x2]) G (X7_told_c hv) hg rfl rfl rfl (by decide +kernel) hR rfl (rcv hv) rfl rfl h8 hd hf kk
abbrev rX7_isTime : Room := { frames := 1, cells := 0, slots := 0, locals := 22 }
def X7_isTime (M : Wo) (x0 : Int32) : Option Int32 :=
  (X7_within M x0 (0 : Int32) (300 : Int32)).bind fun v2 => (ckB v2).bind fun _ => some v2
theorem X7_isTime_w {X : Cx} (G : Gd X yX7_isTime cX7_isTime wsX7_isTime 1 (some .boolean) rX7_isTime) {M : Wo} {x0 : Int32} {o : Int32} (hd : X7_isTime M x0 = some o) (hQ : Qi X o M 0 0) : Pt X 0 0 0 M [(0, .int x0)] [] := by
  unfold X7_isTime at hd
  refine pt_iload_n G 0 dX7_isTime_0 rfl rfl ?_
  refine pt_iconst G (0 : Int32) dX7_isTime_1 ci_0 ?_
  refine pt_sipush G (300 : Int32) dX7_isTime_2 si_300 ?_
  obtain ⟨v2, h1, hd⟩ := bnd hd
  refine X7_within_v G gX7_isTime_X7_within ⟨(Nat.le_of_ble_eq_true rfl), (Nat.le_of_ble_eq_true rfl)⟩ h1 dX7_isTime_5 (Nat.le_of_ble_eq_true rfl) ⟨(Nat.le_of_ble_eq_true rfl), (Nat.le_of_ble_eq_true rfl)⟩ ?_
  obtain ⟨_, h3, hd⟩ := bnd hd
  cases hd
  exact pt_zret G (ckB_o h3) hQ dX7_isTime_8
theorem X7_isTime_c {l : Launch} {D : va_G} {dA : Nat → ClassId} {b : Nat} {M : Wo} {x0 : Int32} {r : Int32} (h : X7_isTime M x0 = some r) : Met l yX7_isTime wsX7_isTime rX7_isTime (va_Pc [.int x0] (Wd D dA b M)) (Ei D dA b r M) 0 0 (Ab b) := met_i (by decide) rfl (Nat.le_of_ble_eq_true rfl) (fun X G hN hQ => X7_isTime_w G h hQ)
theorem X7_isTime_v {X : Cx} {y : MethodName} {cc : ByteArray} {Ts : List Cond} {nL : Nat} {ret : Option FieldType} {R : Room} (G : Gd X y cc Ts nL ret R) {index : Nat} (hg : GoodIn Ts (va_wsS y.cls index yX7_isTime wsX7_isTime)) (hR : rX7_isTime.frames + 1 ≤ R.frames ∧ 8 + (1 + 11) + rX7_isTime.locals ≤ R.locals) {k n pc : Nat} {M : Wo} {lv : List (Nat × Value)} {st : List Value} {x0 : Int32} {r : Int32} (hv : X7_isTime M x0 = some r) (hd : decode cc pc = .ok (.invokestatic index, 3)) (h8 : (st.map fun v => v.category).sum ≤ 8) (hf : k ≤ R.cells ∧ n ≤ R.slots) (kk : Pt X k n (pc + 3) M lv (.int r :: st)) : Pt X k n pc M lv (.int x0 :: st) := pt_cSi (nA := 1) (As := [.int x0]) G (X7_isTime_c hv) hg rfl rfl rfl (by decide +kernel) hR rfl rfl h8 hd hf kk
abbrev rX7_height : Room := { frames := 3, cells := 0, slots := 0, locals := 107 }
theorem m_X7_height_3 : Cond.fieldLink RX7 171 "StageLines$Flight" "heights" "[[I" ∈ wsX7_height := List.mem_of_getElem? (i := 3) rfl
theorem u_X7_height_X2 : ∀ w ∈ u_ws RX2 TX2 1, w ∈ wsX7_height := mem_r [50] (by decide +kernel)
theorem m_X7_height_1 : Cond.fieldLink RX7 34 "StageLines" "flight" "LStageLines$Flight;" ∈ wsX7_height := List.mem_of_getElem? (i := 1) rfl
theorem u_X7_height_X7 : ∀ w ∈ u_ws RX7 TX7 6, w ∈ wsX7_height := mem_r [44, 45, 46, 47, 48, 49] (by decide +kernel)
theorem m_X7_height_2 : Cond.fieldLink RX7 12 "StageLines" "stage" "LStageLines$Stage;" ∈ wsX7_height := List.mem_of_getElem? (i := 2) rfl
def X7_height (M : Wo) (a0 : Nat) (x1 : Int32) (x2 : Int32) : Option (Int32 × Wo) :=
  (ckO M a0 7).bind fun _ => (X7_isBar M x1).bind fun v2 => if v2 = 0 then (some ((-1 : Int32), M)) else ((X7_isTime M x2).bind fun v4 => if v4 = 0 then (some ((-2 : Int32), M)) else ((gR M a0 7 4).bind fun w5 => (gR M a0 7 0).bind fun w7 => (X2_trace M w5 w7 x1).bind fun M10 => (gR M10 a0 7 4).bind fun w11 => (gR M10 w11 2 0).bind fun w13 => (lR M10 5 w13 x1).bind fun w15 => (lA M10 0 w15 x2).bind fun v17 => some (v17, M10)))
theorem X7_height_w {X : Cx} (G : Gd X yX7_height cX7_height wsX7_height 3 (some .int) rX7_height) {M : Wo} {a0 : Nat} {x1 : Int32} {x2 : Int32} {o : (Int32 × Wo)} (hd : X7_height M a0 x1 x2 = some o) (hQ : Qi X o.1 o.2 0 0) : Pt X 0 0 0 M [(0, .ref a0), (1, .int x1), (2, .int x2)] [] := by
  unfold X7_height at hd
  obtain ⟨_, _, hd⟩ := bnd hd
  refine pt_iload_n G 1 dX7_height_0 rfl rfl ?_
  obtain ⟨v2, h1, hd⟩ := bnd hd
  refine X7_isBar_v G gX7_height_X7_isBar ⟨(Nat.le_of_ble_eq_true rfl), (Nat.le_of_ble_eq_true rfl)⟩ h1 dX7_height_1 (Nat.le_of_ble_eq_true rfl) ⟨(Nat.le_of_ble_eq_true rfl), (Nat.le_of_ble_eq_true rfl)⟩ ?_
  refine pt_if_ne G 9 dX7_height_4 (by decide) (fun c20 => ?_) (fun c20 => ?_)
  · replace hd := ifn c20 hd
    refine pt_iload_n G 2 dX7_height_9 rfl rfl ?_
    obtain ⟨v4, h3, hd⟩ := bnd hd
    refine X7_isTime_v G gX7_height_X7_isTime ⟨(Nat.le_of_ble_eq_true rfl), (Nat.le_of_ble_eq_true rfl)⟩ h3 dX7_height_10 (Nat.le_of_ble_eq_true rfl) ⟨(Nat.le_of_ble_eq_true rfl), (Nat.le_of_ble_eq_true rfl)⟩ ?_
    refine pt_if_ne G 19 dX7_height_13 (by decide) (fun c19 => ?_) (fun c19 => ?_)
    · replace hd := ifn c19 hd
      refine pt_aload_n G 0 dX7_height_19 rfl rfl ?_
      obtain ⟨w5, h6, hd⟩ := bnd hd
      refine pt_get G (ci := 7) (j := 4) rfl (by decide) u_X7_height_X7 m_X7_height_1 (gR_o h6) dX7_height_20 ?_
      refine pt_aload_n G 0 dX7_height_23 rfl rfl ?_
      obtain ⟨w7, h8, hd⟩ := bnd hd
      refine pt_get G (ci := 7) (j := 0) rfl (by decide) u_X7_height_X7 m_X7_height_2 (gR_o h8) dX7_height_24 ?_
      refine pt_iload_n G 1 dX7_height_27 rfl rfl ?_
      obtain ⟨M10, h9, hd⟩ := bnd hd
      refine X2_trace_v G gX7_height_X2_trace ⟨(Nat.le_of_ble_eq_true rfl), (Nat.le_of_ble_eq_true rfl)⟩ h9 dX7_height_28 (Nat.le_of_ble_eq_true rfl) ⟨(Nat.le_of_ble_eq_true rfl), (Nat.le_of_ble_eq_true rfl)⟩ ?_
      refine pt_aload_n G 0 dX7_height_31 rfl rfl ?_
      obtain ⟨w11, h12, hd⟩ := bnd hd
      refine pt_get G (ci := 7) (j := 4) rfl (by decide) u_X7_height_X7 m_X7_height_1 (gR_o h12) dX7_height_32 ?_
      obtain ⟨w13, h14, hd⟩ := bnd hd
      refine pt_get G (ci := 2) (j := 0) rfl (by decide) u_X7_height_X2 m_X7_height_3 (gR_o h14) dX7_height_35 ?_
      refine pt_iload_n G 1 dX7_height_38 rfl rfl ?_
      obtain ⟨w15, h16, hd⟩ := bnd hd
      refine pt_aald G (kd := 5) rfl rfl h16 dX7_height_39 ?_
      refine pt_iload_n G 2 dX7_height_40 rfl rfl ?_
      obtain ⟨v17, h18, hd⟩ := bnd hd
      refine pt_iald G h18 dX7_height_41 ?_
      cases hd
      exact pt_iret G hQ dX7_height_42
    · replace hd := ifp c19 hd
      refine pt_bipush G (-2 : Int32) dX7_height_16 bi_m2 ?_
      cases hd
      exact pt_iret G hQ dX7_height_18
  · replace hd := ifp c20 hd
    refine pt_iconst G (-1 : Int32) dX7_height_7 ci_m1 ?_
    cases hd
    exact pt_iret G hQ dX7_height_8
theorem X7_height_c {l : Launch} {D : va_G} {dA : Nat → ClassId} {b : Nat} {M : Wo} {a0 : Nat} {x1 : Int32} {x2 : Int32} {r : Int32} {M2 : Wo} (h : X7_height M a0 x1 x2 = some (r, M2)) : Met l yX7_height wsX7_height rX7_height (va_Pc [.ref a0, .int x1, .int x2] (Wd D dA b M)) (Ei D dA b r M2) 0 0 (Ab b) := met_i (by decide) rfl (Nat.le_of_ble_eq_true rfl) (fun X G hN hQ => X7_height_w G h hQ)
theorem X7_height_v {X : Cx} {y : MethodName} {cc : ByteArray} {Ts : List Cond} {nL : Nat} {ret : Option FieldType} {R : Room} (G : Gd X y cc Ts nL ret R) {index : Nat} (hg : GoodIn Ts (wsV y.cls index RX7 yX7_height wsX7_height)) (hR : rX7_height.frames + 1 ≤ R.frames ∧ 8 + (3 + 11) + rX7_height.locals ≤ R.locals) {k n pc : Nat} {M : Wo} {lv : List (Nat × Value)} {st : List Value} {a0 : Nat} {x1 : Int32} {x2 : Int32} {r : Int32} {M2 : Wo} (hv : X7_height M a0 x1 x2 = some (r, M2)) (hd : decode cc pc = .ok (.invokevirtual index, 3)) (h8 : (st.map fun v => v.category).sum ≤ 8) (hf : k ≤ R.cells ∧ n ≤ R.slots) (kk : Pt X k n (pc + 3) M2 lv (.int r :: st)) : Pt X k n pc M lv (.int x2 :: .int x1 :: .ref a0 :: st) := pt_cVi (ci := 7) (nA := 2) (As := [.int x1, .int x2]) G (X7_height_c hv) hg rfl rfl rfl (by decide +kernel) hR rfl (rcv hv) rfl rfl h8 hd hf kk
abbrev rX7_strike : Room := { frames := 3, cells := 0, slots := 0, locals := 107 }
theorem m_X7_strike_2 : Cond.fieldLink RX7 12 "StageLines" "stage" "LStageLines$Stage;" ∈ wsX7_strike := List.mem_of_getElem? (i := 2) rfl
theorem u_X7_strike_X7 : ∀ w ∈ u_ws RX7 TX7 6, w ∈ wsX7_strike := mem_r [64, 65, 66, 67, 68, 69] (by decide +kernel)
theorem m_X7_strike_1 : Cond.fieldLink RX7 34 "StageLines" "flight" "LStageLines$Flight;" ∈ wsX7_strike := List.mem_of_getElem? (i := 1) rfl
def X7_strike (M : Wo) (a0 : Nat) (x1 : Int32) (x2 : Int32) (x3 : Int32) : Option (Int32 × Wo) :=
  (ckO M a0 7).bind fun _ => (X7_isBar M x1).bind fun v2 => if v2 = 0 then (some ((-1 : Int32), M)) else ((X7_isBar M x2).bind fun v4 => if v4 = 0 then (some ((-1 : Int32), M)) else (if x1 = x2 then (some ((-2 : Int32), M)) else ((X7_isTime M x3).bind fun v6 => if v6 = 0 then (some ((-2 : Int32), M)) else ((gR M a0 7 4).bind fun w7 => (gR M a0 7 0).bind fun w9 => (X2_trace M w7 w9 x1).bind fun M12 => (gR M12 a0 7 4).bind fun w13 => (gR M12 a0 7 0).bind fun w15 => (X2_trace M12 w13 w15 x2).bind fun M18 => (gR M18 a0 7 4).bind fun w19 => (gR M18 a0 7 0).bind fun w21 => (X2_canStrike M18 w19 w21 x1 x2).bind fun v24 => if v24 = 0 then (some ((0 : Int32), M18)) else ((gR M18 a0 7 4).bind fun w25 => (gR M18 a0 7 0).bind fun w27 => (X2_overlap M18 w25 w27 x1 x2 x3).bind fun v30 => if v30 = 0 then (some ((0 : Int32), M18)) else (some ((1 : Int32), M18)))))))
theorem X7_strike_w {X : Cx} (G : Gd X yX7_strike cX7_strike wsX7_strike 4 (some .int) rX7_strike) {M : Wo} {a0 : Nat} {x1 : Int32} {x2 : Int32} {x3 : Int32} {o : (Int32 × Wo)} (hd : X7_strike M a0 x1 x2 x3 = some o) (hQ : Qi X o.1 o.2 0 0) : Pt X 0 0 0 M [(0, .ref a0), (1, .int x1), (2, .int x2), (3, .int x3)] [] := by
  unfold X7_strike at hd
  obtain ⟨_, _, hd⟩ := bnd hd
  refine pt_iload_n G 1 dX7_strike_0 rfl rfl ?_
  obtain ⟨v2, h1, hd⟩ := bnd hd
  refine X7_isBar_v G gX7_strike_X7_isBar ⟨(Nat.le_of_ble_eq_true rfl), (Nat.le_of_ble_eq_true rfl)⟩ h1 dX7_strike_1 (Nat.le_of_ble_eq_true rfl) ⟨(Nat.le_of_ble_eq_true rfl), (Nat.le_of_ble_eq_true rfl)⟩ ?_
  refine pt_if_eq G 14 dX7_strike_4 (by decide) (fun c36 => ?_) (fun c36 => ?_)
  · replace hd := ifp c36 hd
    refine pt_iconst G (-1 : Int32) dX7_strike_14 ci_m1 ?_
    cases hd
    exact pt_iret G hQ dX7_strike_15
  · replace hd := ifn c36 hd
    refine pt_iload_n G 2 dX7_strike_7 rfl rfl ?_
    obtain ⟨v4, h3, hd⟩ := bnd hd
    refine X7_isBar_v G gX7_strike_X7_isBar ⟨(Nat.le_of_ble_eq_true rfl), (Nat.le_of_ble_eq_true rfl)⟩ h3 dX7_strike_8 (Nat.le_of_ble_eq_true rfl) ⟨(Nat.le_of_ble_eq_true rfl), (Nat.le_of_ble_eq_true rfl)⟩ ?_
    refine pt_if_ne G 16 dX7_strike_11 (by decide) (fun c35 => ?_) (fun c35 => ?_)
    · replace hd := ifn c35 hd
      refine pt_iload_n G 1 dX7_strike_16 rfl rfl ?_
      refine pt_iload_n G 2 dX7_strike_17 rfl rfl ?_
      refine pt_icmp_eq G 28 dX7_strike_18 (by decide) (fun c34 => ?_) (fun c34 => ?_)
      · replace hd := ifp c34 hd
        refine pt_bipush G (-2 : Int32) dX7_strike_28 bi_m2 ?_
        cases hd
        exact pt_iret G hQ dX7_strike_30
      · replace hd := ifn c34 hd
        refine pt_iload_n G 3 dX7_strike_21 rfl rfl ?_
        obtain ⟨v6, h5, hd⟩ := bnd hd
        refine X7_isTime_v G gX7_strike_X7_isTime ⟨(Nat.le_of_ble_eq_true rfl), (Nat.le_of_ble_eq_true rfl)⟩ h5 dX7_strike_22 (Nat.le_of_ble_eq_true rfl) ⟨(Nat.le_of_ble_eq_true rfl), (Nat.le_of_ble_eq_true rfl)⟩ ?_
        refine pt_if_ne G 31 dX7_strike_25 (by decide) (fun c33 => ?_) (fun c33 => ?_)
        · replace hd := ifn c33 hd
          refine pt_aload_n G 0 dX7_strike_31 rfl rfl ?_
          obtain ⟨w7, h8, hd⟩ := bnd hd
          refine pt_get G (ci := 7) (j := 4) rfl (by decide) u_X7_strike_X7 m_X7_strike_1 (gR_o h8) dX7_strike_32 ?_
          refine pt_aload_n G 0 dX7_strike_35 rfl rfl ?_
          obtain ⟨w9, h10, hd⟩ := bnd hd
          refine pt_get G (ci := 7) (j := 0) rfl (by decide) u_X7_strike_X7 m_X7_strike_2 (gR_o h10) dX7_strike_36 ?_
          refine pt_iload_n G 1 dX7_strike_39 rfl rfl ?_
          obtain ⟨M12, h11, hd⟩ := bnd hd
          refine X2_trace_v G gX7_strike_X2_trace ⟨(Nat.le_of_ble_eq_true rfl), (Nat.le_of_ble_eq_true rfl)⟩ h11 dX7_strike_40 (Nat.le_of_ble_eq_true rfl) ⟨(Nat.le_of_ble_eq_true rfl), (Nat.le_of_ble_eq_true rfl)⟩ ?_
          refine pt_aload_n G 0 dX7_strike_43 rfl rfl ?_
          obtain ⟨w13, h14, hd⟩ := bnd hd
          refine pt_get G (ci := 7) (j := 4) rfl (by decide) u_X7_strike_X7 m_X7_strike_1 (gR_o h14) dX7_strike_44 ?_
          refine pt_aload_n G 0 dX7_strike_47 rfl rfl ?_
          obtain ⟨w15, h16, hd⟩ := bnd hd
          refine pt_get G (ci := 7) (j := 0) rfl (by decide) u_X7_strike_X7 m_X7_strike_2 (gR_o h16) dX7_strike_48 ?_
          refine pt_iload_n G 2 dX7_strike_51 rfl rfl ?_
          obtain ⟨M18, h17, hd⟩ := bnd hd
          refine X2_trace_v G gX7_strike_X2_trace ⟨(Nat.le_of_ble_eq_true rfl), (Nat.le_of_ble_eq_true rfl)⟩ h17 dX7_strike_52 (Nat.le_of_ble_eq_true rfl) ⟨(Nat.le_of_ble_eq_true rfl), (Nat.le_of_ble_eq_true rfl)⟩ ?_
          refine pt_aload_n G 0 dX7_strike_55 rfl rfl ?_
          obtain ⟨w19, h20, hd⟩ := bnd hd
          refine pt_get G (ci := 7) (j := 4) rfl (by decide) u_X7_strike_X7 m_X7_strike_1 (gR_o h20) dX7_strike_56 ?_
          refine pt_aload_n G 0 dX7_strike_59 rfl rfl ?_
          obtain ⟨w21, h22, hd⟩ := bnd hd
          refine pt_get G (ci := 7) (j := 0) rfl (by decide) u_X7_strike_X7 m_X7_strike_2 (gR_o h22) dX7_strike_60 ?_
          refine pt_iload_n G 1 dX7_strike_63 rfl rfl ?_
          refine pt_iload_n G 2 dX7_strike_64 rfl rfl ?_
          obtain ⟨v24, h23, hd⟩ := bnd hd
          refine X2_canStrike_v G gX7_strike_X2_canStrike ⟨(Nat.le_of_ble_eq_true rfl), (Nat.le_of_ble_eq_true rfl)⟩ h23 dX7_strike_65 (Nat.le_of_ble_eq_true rfl) ⟨(Nat.le_of_ble_eq_true rfl), (Nat.le_of_ble_eq_true rfl)⟩ ?_
          refine pt_if_eq G 92 dX7_strike_68 (by decide) (fun c32 => ?_) (fun c32 => ?_)
          · replace hd := ifp c32 hd
            refine pt_iconst G (0 : Int32) dX7_strike_92 ci_0 ?_
            cases hd
            exact pt_iret G hQ dX7_strike_93
          · replace hd := ifn c32 hd
            refine pt_aload_n G 0 dX7_strike_71 rfl rfl ?_
            obtain ⟨w25, h26, hd⟩ := bnd hd
            refine pt_get G (ci := 7) (j := 4) rfl (by decide) u_X7_strike_X7 m_X7_strike_1 (gR_o h26) dX7_strike_72 ?_
            refine pt_aload_n G 0 dX7_strike_75 rfl rfl ?_
            obtain ⟨w27, h28, hd⟩ := bnd hd
            refine pt_get G (ci := 7) (j := 0) rfl (by decide) u_X7_strike_X7 m_X7_strike_2 (gR_o h28) dX7_strike_76 ?_
            refine pt_iload_n G 1 dX7_strike_79 rfl rfl ?_
            refine pt_iload_n G 2 dX7_strike_80 rfl rfl ?_
            refine pt_iload_n G 3 dX7_strike_81 rfl rfl ?_
            obtain ⟨v30, h29, hd⟩ := bnd hd
            refine X2_overlap_v G gX7_strike_X2_overlap ⟨(Nat.le_of_ble_eq_true rfl), (Nat.le_of_ble_eq_true rfl)⟩ h29 dX7_strike_82 (Nat.le_of_ble_eq_true rfl) ⟨(Nat.le_of_ble_eq_true rfl), (Nat.le_of_ble_eq_true rfl)⟩ ?_
            refine pt_if_eq G 92 dX7_strike_85 (by decide) (fun c31 => ?_) (fun c31 => ?_)
            · replace hd := ifp c31 hd
              refine pt_iconst G (0 : Int32) dX7_strike_92 ci_0 ?_
              cases hd
              exact pt_iret G hQ dX7_strike_93
            · replace hd := ifn c31 hd
              refine pt_iconst G (1 : Int32) dX7_strike_88 ci_1 ?_
              refine pt_goto G 93 dX7_strike_89 (by decide) ?_
              cases hd
              exact pt_iret G hQ dX7_strike_93
        · replace hd := ifp c33 hd
          refine pt_bipush G (-2 : Int32) dX7_strike_28 bi_m2 ?_
          cases hd
          exact pt_iret G hQ dX7_strike_30
    · replace hd := ifp c35 hd
      refine pt_iconst G (-1 : Int32) dX7_strike_14 ci_m1 ?_
      cases hd
      exact pt_iret G hQ dX7_strike_15
theorem X7_strike_c {l : Launch} {D : va_G} {dA : Nat → ClassId} {b : Nat} {M : Wo} {a0 : Nat} {x1 : Int32} {x2 : Int32} {x3 : Int32} {r : Int32} {M2 : Wo} (h : X7_strike M a0 x1 x2 x3 = some (r, M2)) : Met l yX7_strike wsX7_strike rX7_strike (va_Pc [.ref a0, .int x1, .int x2, .int x3] (Wd D dA b M)) (Ei D dA b r M2) 0 0 (Ab b) := met_i (by decide) rfl (Nat.le_of_ble_eq_true rfl) (fun X G hN hQ => X7_strike_w G h hQ)
theorem X7_strike_v {X : Cx} {y : MethodName} {cc : ByteArray} {Ts : List Cond} {nL : Nat} {ret : Option FieldType} {R : Room} (G : Gd X y cc Ts nL ret R) {index : Nat} (hg : GoodIn Ts (wsV y.cls index RX7 yX7_strike wsX7_strike)) (hR : rX7_strike.frames + 1 ≤ R.frames ∧ 8 + (4 + 11) + rX7_strike.locals ≤ R.locals) {k n pc : Nat} {M : Wo} {lv : List (Nat × Value)} {st : List Value} {a0 : Nat} {x1 : Int32} {x2 : Int32} {x3 : Int32} {r : Int32} {M2 : Wo} (hv : X7_strike M a0 x1 x2 x3 = some (r, M2)) (hd : decode cc pc = .ok (.invokevirtual index, 3)) (h8 : (st.map fun v => v.category).sum ≤ 8) (hf : k ≤ R.cells ∧ n ≤ R.slots) (kk : Pt X k n (pc + 3) M2 lv (.int r :: st)) : Pt X k n pc M lv (.int x3 :: .int x2 :: .int x1 :: .ref a0 :: st) := pt_cVi (ci := 7) (nA := 3) (As := [.int x1, .int x2, .int x3]) G (X7_strike_c hv) hg rfl rfl rfl (by decide +kernel) hR rfl (rcv hv) rfl rfl h8 hd hf kk
abbrev rX7_clash : Room := { frames := 4, cells := 0, slots := 0, locals := 132 }
theorem m_X7_clash_2 : Cond.fieldLink RX7 12 "StageLines" "stage" "LStageLines$Stage;" ∈ wsX7_clash := List.mem_of_getElem? (i := 2) rfl
theorem u_X7_clash_X7 : ∀ w ∈ u_ws RX7 TX7 6, w ∈ wsX7_clash := mem_r [69, 70, 71, 72, 73, 74] (by decide +kernel)
theorem m_X7_clash_1 : Cond.fieldLink RX7 34 "StageLines" "flight" "LStageLines$Flight;" ∈ wsX7_clash := List.mem_of_getElem? (i := 1) rfl
abbrev X7_clash_P45 (X : Cx) (M : Wo) (a0 : Nat) (x1 : Int32) (x2 : Int32) : (Int32 × Int32 × Int32 × Int32) → Prop := un4 (fun x3 x4 x5 x6 => Pt X 0 0 45 M [(0, .ref a0), (1, .int x1), (2, .int x2), (3, .int x3), (4, .int x4), (5, .int x5), (6, .int x6)] [])
abbrev X7_clash_Z45 (X : Cx) (M : Wo) (a0 : Nat) (x1 : Int32) (x2 : Int32) : (Int32 × Int32 × Int32) → Prop := (un3 (fun x3 x4 x5 => Pt X 0 0 113 M [(2, .int x2), (3, .int x3), (4, .int x4), (5, .int x5)] []))
abbrev X7_clash_P58 (X : Cx) (M : Wo) (a0 : Nat) (x1 : Int32) (x2 : Int32) (x6 : Int32) : (Int32 × Int32 × Int32 × Int32) → Prop := un4 (fun x3 x4 x5 x7 => Pt X 0 0 58 M [(0, .ref a0), (1, .int x1), (2, .int x2), (3, .int x3), (4, .int x4), (5, .int x5), (6, .int x6), (7, .int x7)] [])
abbrev X7_clash_Z58 (X : Cx) (M : Wo) (a0 : Nat) (x1 : Int32) (x2 : Int32) (x6 : Int32) : (Int32 × Int32 × Int32) → Prop := (un3 (fun x3 x4 x5 => Pt X 0 0 107 M [(0, .ref a0), (1, .int x1), (2, .int x2), (3, .int x3), (4, .int x4), (5, .int x5), (6, .int x6)] []))
def X7_clash_b58 (M : Wo) (a0 : Nat) (x1 : Int32) (x2 : Int32) (x6 : Int32) (x3 : Int32) (x4 : Int32) (x5 : Int32) (x7 : Int32) : Option ((Int32 × Int32 × Int32 × Int32) ⊕ (Int32 × Int32 × Int32)) :=
  if (10 : Int32) ≤ x7 then (some (.inr (x3, x4, x5))) else ((gR M a0 7 4).bind fun w11 => (gR M a0 7 0).bind fun w13 => (X2_firstStrike M w11 w13 x6 x7 x1 x3).bind fun v16 => if x3 ≤ v16 then (some (.inl (x3, x4, x5, (x7 + 1)))) else (some (.inl (v16, x6, x7, (x7 + 1)))))
theorem X7_clash_b58_w {X : Cx} (G : Gd X yX7_clash cX7_clash wsX7_clash 9 (some .int) rX7_clash) {M : Wo} {a0 : Nat} {x1 : Int32} {x2 : Int32} {x6 : Int32} {x3 : Int32} {x4 : Int32} {x5 : Int32} {x7 : Int32} {o : ((Int32 × Int32 × Int32 × Int32) ⊕ (Int32 × Int32 × Int32))} (hd : X7_clash_b58 M a0 x1 x2 x6 x3 x4 x5 x7 = some o) (hc : ∀ s9, o = .inl s9 → X7_clash_P58 X M a0 x1 x2 x6 s9) (he : ∀ e9, o = .inr e9 → X7_clash_Z58 X M a0 x1 x2 x6 e9) : Pt X 0 0 58 M [(0, .ref a0), (1, .int x1), (2, .int x2), (3, .int x3), (4, .int x4), (5, .int x5), (6, .int x6), (7, .int x7)] [] := by
  unfold X7_clash_b58 at hd
  refine pt_iload G 7 dX7_clash_58 rfl ?_
  refine pt_bipush G (10 : Int32) dX7_clash_60 bi_10 ?_
  refine pt_icmp_ge G 107 dX7_clash_62 (by decide) (fun c18 => ?_) (fun c18 => ?_)
  · replace hd := ifp c18 hd
    exact pt_sub [0, 1, 2, 3, 4, 5, 6] rfl (he (x3, x4, x5) (Option.some.inj hd).symm)
  · replace hd := ifn c18 hd
    refine pt_aload_n G 0 dX7_clash_65 rfl rfl ?_
    obtain ⟨w11, h12, hd⟩ := bnd hd
    refine pt_get G (ci := 7) (j := 4) rfl (by decide) u_X7_clash_X7 m_X7_clash_1 (gR_o h12) dX7_clash_66 ?_
    refine pt_aload_n G 0 dX7_clash_69 rfl rfl ?_
    obtain ⟨w13, h14, hd⟩ := bnd hd
    refine pt_get G (ci := 7) (j := 0) rfl (by decide) u_X7_clash_X7 m_X7_clash_2 (gR_o h14) dX7_clash_70 ?_
    refine pt_iload G 6 dX7_clash_73 rfl ?_
    refine pt_iload G 7 dX7_clash_75 rfl ?_
    refine pt_iload_n G 1 dX7_clash_77 rfl rfl ?_
    refine pt_iload_n G 3 dX7_clash_78 rfl rfl ?_
    obtain ⟨v16, h15, hd⟩ := bnd hd
    refine X2_firstStrike_v G gX7_clash_X2_firstStrike ⟨(Nat.le_of_ble_eq_true rfl), (Nat.le_of_ble_eq_true rfl)⟩ h15 dX7_clash_79 (Nat.le_of_ble_eq_true rfl) ⟨(Nat.le_of_ble_eq_true rfl), (Nat.le_of_ble_eq_true rfl)⟩ ?_
    refine pt_istore G [(8, .int v16), (0, .ref a0), (1, .int x1), (2, .int x2), (3, .int x3), (4, .int x4), (5, .int x5), (6, .int x6), (7, .int x7)] dX7_clash_82 (by decide) rfl ?_
    refine pt_iload G 0 dX7_clash_84 rfl ?_
    refine pt_iload_n G 4 dX7_clash_86 rfl rfl ?_
    refine pt_icmp_ge G 101 dX7_clash_87 (by decide) (fun c17 => ?_) (fun c17 => ?_)
    · replace hd := ifp c17 hd
      refine pt_iinc G 8 (x7 + 1) [(7, .int (x7 + 1)), (8, .int v16), (0, .ref a0), (1, .int x1), (2, .int x2), (3, .int x3), (4, .int x4), (5, .int x5), (6, .int x6)] dX7_clash_101 rfl (inc_1 _) (by decide) rfl ?_
      refine pt_goto G 58 dX7_clash_104 (by decide) ?_
      exact pt_sub [2, 3, 4, 5, 6, 7, 8, 0] rfl (hc (x3, x4, x5, (x7 + 1)) (Option.some.inj hd).symm)
    · replace hd := ifn c17 hd
      refine pt_iload G 0 dX7_clash_90 rfl ?_
      refine pt_istore_n G [(3, .int v16), (8, .int v16), (0, .ref a0), (1, .int x1), (2, .int x2), (4, .int x4), (5, .int x5), (6, .int x6), (7, .int x7)] dX7_clash_92 rfl (by decide) rfl ?_
      refine pt_iload G 7 dX7_clash_93 rfl ?_
      refine pt_istore G [(4, .int x6), (3, .int v16), (8, .int v16), (0, .ref a0), (1, .int x1), (2, .int x2), (5, .int x5), (6, .int x6), (7, .int x7)] dX7_clash_95 (by decide) rfl ?_
      refine pt_iload G 8 dX7_clash_97 rfl ?_
      refine pt_istore G [(5, .int x7), (4, .int x6), (3, .int v16), (8, .int v16), (0, .ref a0), (1, .int x1), (2, .int x2), (6, .int x6), (7, .int x7)] dX7_clash_99 (by decide) rfl ?_
      refine pt_iinc G 8 (x7 + 1) [(7, .int (x7 + 1)), (5, .int x7), (4, .int x6), (3, .int v16), (8, .int v16), (0, .ref a0), (1, .int x1), (2, .int x2), (6, .int x6)] dX7_clash_101 rfl (inc_1 _) (by decide) rfl ?_
      refine pt_goto G 58 dX7_clash_104 (by decide) ?_
      exact pt_sub [5, 6, 7, 3, 2, 1, 8, 0] rfl (hc (v16, x6, x7, (x7 + 1)) (Option.some.inj hd).symm)
theorem X7_clash_w58_w {X : Cx} (G : Gd X yX7_clash cX7_clash wsX7_clash 9 (some .int) rX7_clash) {M : Wo} {a0 : Nat} {x1 : Int32} {x2 : Int32} {x6 : Int32} (n9 : Nat) (s9 : (Int32 × Int32 × Int32 × Int32)) (e9 : (Int32 × Int32 × Int32)) (hw : wloop (un4 (X7_clash_b58 M a0 x1 x2 x6)) n9 s9 = some e9) (hz : X7_clash_Z58 X M a0 x1 x2 x6 e9) : X7_clash_P58 X M a0 x1 x2 x6 s9 := by
  refine wl_ind (P := X7_clash_P58 X M a0 x1 x2 x6) (Z := X7_clash_Z58 X M a0 x1 x2 x6) ?_ n9 s9 e9 hw hz
  intro s9 o9 hd hc he
  obtain ⟨x3, x4, x5, x7⟩ := s9
  exact X7_clash_b58_w G hd hc he
def X7_clash_b45 (M : Wo) (a0 : Nat) (x1 : Int32) (x2 : Int32) (x3 : Int32) (x4 : Int32) (x5 : Int32) (x6 : Int32) : Option ((Int32 × Int32 × Int32 × Int32) ⊕ (Int32 × Int32 × Int32)) :=
  if (10 : Int32) ≤ x6 then (some (.inr (x3, x4, x5))) else ((wloop (un4 (X7_clash_b58 M a0 x1 x2 x6)) FU (x3, x4, x5, (x6 + (1 : Int32)))).bind (un3 fun v19 v20 v21 => some (.inl (v19, v20, v21, (x6 + 1)))))
theorem X7_clash_b45_w {X : Cx} (G : Gd X yX7_clash cX7_clash wsX7_clash 9 (some .int) rX7_clash) {M : Wo} {a0 : Nat} {x1 : Int32} {x2 : Int32} {x3 : Int32} {x4 : Int32} {x5 : Int32} {x6 : Int32} {o : ((Int32 × Int32 × Int32 × Int32) ⊕ (Int32 × Int32 × Int32))} (hd : X7_clash_b45 M a0 x1 x2 x3 x4 x5 x6 = some o) (hc : ∀ s9, o = .inl s9 → X7_clash_P45 X M a0 x1 x2 s9) (he : ∀ e9, o = .inr e9 → X7_clash_Z45 X M a0 x1 x2 e9) : Pt X 0 0 45 M [(0, .ref a0), (1, .int x1), (2, .int x2), (3, .int x3), (4, .int x4), (5, .int x5), (6, .int x6)] [] := by
  unfold X7_clash_b45 at hd
  refine pt_iload G 6 dX7_clash_45 rfl ?_
  refine pt_bipush G (10 : Int32) dX7_clash_47 bi_10 ?_
  refine pt_icmp_ge G 113 dX7_clash_49 (by decide) (fun c23 => ?_) (fun c23 => ?_)
  · replace hd := ifp c23 hd
    exact pt_sub [2, 3, 4, 5] rfl (he (x3, x4, x5) (Option.some.inj hd).symm)
  · replace hd := ifn c23 hd
    refine pt_iload G 6 dX7_clash_52 rfl ?_
    refine pt_iconst G (1 : Int32) dX7_clash_54 ci_1 ?_
    refine pt_iadd G dX7_clash_55 ?_
    refine pt_istore G [(7, .int (x6 + (1 : Int32))), (0, .ref a0), (1, .int x1), (2, .int x2), (3, .int x3), (4, .int x4), (5, .int x5), (6, .int x6)] dX7_clash_56 (by decide) rfl ?_
    obtain ⟨⟨v19, v20, v21⟩, hw22, hd⟩ := bnd hd
    replace hd := un3_e hd
    refine pt_sub [1, 2, 3, 4, 5, 6, 7, 0] rfl (X7_clash_w58_w G _ _ _ hw22 ?_)
    show Pt X 0 0 _ _ _ []
    refine pt_iinc G 6 (x6 + 1) [(6, .int (x6 + 1)), (0, .ref a0), (1, .int x1), (2, .int x2), (3, .int v19), (4, .int v20), (5, .int v21)] dX7_clash_107 rfl (inc_1 _) (by decide) rfl ?_
    refine pt_goto G 45 dX7_clash_110 (by decide) ?_
    exact pt_sub [1, 2, 3, 4, 5, 6, 0] rfl (hc (v19, v20, v21, (x6 + 1)) (Option.some.inj hd).symm)
theorem X7_clash_w45_w {X : Cx} (G : Gd X yX7_clash cX7_clash wsX7_clash 9 (some .int) rX7_clash) {M : Wo} {a0 : Nat} {x1 : Int32} {x2 : Int32} (n9 : Nat) (s9 : (Int32 × Int32 × Int32 × Int32)) (e9 : (Int32 × Int32 × Int32)) (hw : wloop (un4 (X7_clash_b45 M a0 x1 x2)) n9 s9 = some e9) (hz : X7_clash_Z45 X M a0 x1 x2 e9) : X7_clash_P45 X M a0 x1 x2 s9 := by
  refine wl_ind (P := X7_clash_P45 X M a0 x1 x2) (Z := X7_clash_Z45 X M a0 x1 x2) ?_ n9 s9 e9 hw hz
  intro s9 o9 hd hc he
  obtain ⟨x3, x4, x5, x6⟩ := s9
  exact X7_clash_b45_w G hd hc he
def X7_clash (M : Wo) (a0 : Nat) (x1 : Int32) (x2 : Int32) : Option (Int32 × Wo) :=
  (ckO M a0 7).bind fun _ => (X7_isTime M x1).bind fun v2 => if v2 = 0 then (some ((-2 : Int32), M)) else ((X7_within M x2 (0 : Int32) (2 : Int32)).bind fun v4 => if v4 = 0 then (some ((-2 : Int32), M)) else ((gR M a0 7 4).bind fun w5 => (gR M a0 7 0).bind fun w7 => (X2_traceAll M w5 w7).bind fun M10 => (wloop (un4 (X7_clash_b45 M10 a0 x1 x2)) FU ((301 : Int32), (-6 : Int32), (-6 : Int32), (0 : Int32))).bind (un3 fun v24 v25 v26 => if v24 ≤ (300 : Int32) then (if x2 = 0 then (some (v24, M10)) else (if x2 = (1 : Int32) then (some (v25, M10)) else (some (v26, M10)))) else (some ((-6 : Int32), M10)))))
theorem X7_clash_w {X : Cx} (G : Gd X yX7_clash cX7_clash wsX7_clash 9 (some .int) rX7_clash) {M : Wo} {a0 : Nat} {x1 : Int32} {x2 : Int32} {o : (Int32 × Wo)} (hd : X7_clash M a0 x1 x2 = some o) (hQ : Qi X o.1 o.2 0 0) : Pt X 0 0 0 M [(0, .ref a0), (1, .int x1), (2, .int x2)] [] := by
  unfold X7_clash at hd
  obtain ⟨_, _, hd⟩ := bnd hd
  refine pt_iload_n G 1 dX7_clash_0 rfl rfl ?_
  obtain ⟨v2, h1, hd⟩ := bnd hd
  refine X7_isTime_v G gX7_clash_X7_isTime ⟨(Nat.le_of_ble_eq_true rfl), (Nat.le_of_ble_eq_true rfl)⟩ h1 dX7_clash_1 (Nat.le_of_ble_eq_true rfl) ⟨(Nat.le_of_ble_eq_true rfl), (Nat.le_of_ble_eq_true rfl)⟩ ?_
  refine pt_if_eq G 16 dX7_clash_4 (by decide) (fun c32 => ?_) (fun c32 => ?_)
  · replace hd := ifp c32 hd
    refine pt_bipush G (-2 : Int32) dX7_clash_16 bi_m2 ?_
    cases hd
    exact pt_iret G hQ dX7_clash_18
  · replace hd := ifn c32 hd
    refine pt_iload_n G 2 dX7_clash_7 rfl rfl ?_
    refine pt_iconst G (0 : Int32) dX7_clash_8 ci_0 ?_
    refine pt_iconst G (2 : Int32) dX7_clash_9 ci_2 ?_
    obtain ⟨v4, h3, hd⟩ := bnd hd
    refine X7_within_v G gX7_clash_X7_within ⟨(Nat.le_of_ble_eq_true rfl), (Nat.le_of_ble_eq_true rfl)⟩ h3 dX7_clash_10 (Nat.le_of_ble_eq_true rfl) ⟨(Nat.le_of_ble_eq_true rfl), (Nat.le_of_ble_eq_true rfl)⟩ ?_
    refine pt_if_ne G 19 dX7_clash_13 (by decide) (fun c31 => ?_) (fun c31 => ?_)
    · replace hd := ifn c31 hd
      refine pt_aload_n G 0 dX7_clash_19 rfl rfl ?_
      obtain ⟨w5, h6, hd⟩ := bnd hd
      refine pt_get G (ci := 7) (j := 4) rfl (by decide) u_X7_clash_X7 m_X7_clash_1 (gR_o h6) dX7_clash_20 ?_
      refine pt_aload_n G 0 dX7_clash_23 rfl rfl ?_
      obtain ⟨w7, h8, hd⟩ := bnd hd
      refine pt_get G (ci := 7) (j := 0) rfl (by decide) u_X7_clash_X7 m_X7_clash_2 (gR_o h8) dX7_clash_24 ?_
      obtain ⟨M10, h9, hd⟩ := bnd hd
      refine X2_traceAll_v G gX7_clash_X2_traceAll ⟨(Nat.le_of_ble_eq_true rfl), (Nat.le_of_ble_eq_true rfl)⟩ h9 dX7_clash_27 (Nat.le_of_ble_eq_true rfl) ⟨(Nat.le_of_ble_eq_true rfl), (Nat.le_of_ble_eq_true rfl)⟩ ?_
      refine pt_sipush G (301 : Int32) dX7_clash_30 si_301 ?_
      refine pt_istore_n G [(3, .int (301 : Int32)), (0, .ref a0), (1, .int x1), (2, .int x2)] dX7_clash_33 rfl (by decide) rfl ?_
      refine pt_bipush G (-6 : Int32) dX7_clash_34 bi_m6 ?_
      refine pt_istore G [(4, .int (-6 : Int32)), (3, .int (301 : Int32)), (0, .ref a0), (1, .int x1), (2, .int x2)] dX7_clash_36 (by decide) rfl ?_
      refine pt_bipush G (-6 : Int32) dX7_clash_38 bi_m6 ?_
      refine pt_istore G [(5, .int (-6 : Int32)), (4, .int (-6 : Int32)), (3, .int (301 : Int32)), (0, .ref a0), (1, .int x1), (2, .int x2)] dX7_clash_40 (by decide) rfl ?_
      refine pt_iconst G (0 : Int32) dX7_clash_42 ci_0 ?_
      refine pt_istore G [(6, .int (0 : Int32)), (5, .int (-6 : Int32)), (4, .int (-6 : Int32)), (3, .int (301 : Int32)), (0, .ref a0), (1, .int x1), (2, .int x2)] dX7_clash_43 (by decide) rfl ?_
      obtain ⟨⟨v24, v25, v26⟩, hw30, hd⟩ := bnd hd
      replace hd := un3_e hd
      refine pt_sub [4, 5, 6, 3, 2, 1, 0] rfl (X7_clash_w45_w G _ _ _ hw30 ?_)
      show Pt X 0 0 _ _ _ []
      refine pt_iload_n G 1 dX7_clash_113 rfl rfl ?_
      refine pt_sipush G (300 : Int32) dX7_clash_114 si_300 ?_
      refine pt_icmp_le G 123 dX7_clash_117 (by decide) (fun c29 => ?_) (fun c29 => ?_)
      · replace hd := ifp c29 hd
        refine pt_iload_n G 0 dX7_clash_123 rfl rfl ?_
        refine pt_if_ne G 131 dX7_clash_124 (by decide) (fun c28 => ?_) (fun c28 => ?_)
        · replace hd := ifn c28 hd
          refine pt_iload_n G 0 dX7_clash_131 rfl rfl ?_
          refine pt_iconst G (1 : Int32) dX7_clash_132 ci_1 ?_
          refine pt_icmp_ne G 141 dX7_clash_133 (by decide) (fun c27 => ?_) (fun c27 => ?_)
          · replace hd := ifn c27 hd
            refine pt_iload G 3 dX7_clash_141 rfl ?_
            cases hd
            exact pt_iret G hQ dX7_clash_143
          · replace hd := ifp c27 hd
            refine pt_iload G 2 dX7_clash_136 rfl ?_
            refine pt_goto G 143 dX7_clash_138 (by decide) ?_
            cases hd
            exact pt_iret G hQ dX7_clash_143
        · replace hd := ifp c28 hd
          refine pt_iload_n G 1 dX7_clash_127 rfl rfl ?_
          refine pt_goto G 143 dX7_clash_128 (by decide) ?_
          cases hd
          exact pt_iret G hQ dX7_clash_143
      · replace hd := ifn c29 hd
        refine pt_bipush G (-6 : Int32) dX7_clash_120 bi_m6 ?_
        cases hd
        exact pt_iret G hQ dX7_clash_122
    · replace hd := ifp c31 hd
      refine pt_bipush G (-2 : Int32) dX7_clash_16 bi_m2 ?_
      cases hd
      exact pt_iret G hQ dX7_clash_18
theorem X7_clash_c {l : Launch} {D : va_G} {dA : Nat → ClassId} {b : Nat} {M : Wo} {a0 : Nat} {x1 : Int32} {x2 : Int32} {r : Int32} {M2 : Wo} (h : X7_clash M a0 x1 x2 = some (r, M2)) : Met l yX7_clash wsX7_clash rX7_clash (va_Pc [.ref a0, .int x1, .int x2] (Wd D dA b M)) (Ei D dA b r M2) 0 0 (Ab b) := met_i (by decide) rfl (Nat.le_of_ble_eq_true rfl) (fun X G hN hQ => X7_clash_w G h hQ)
theorem X7_clash_v {X : Cx} {y : MethodName} {cc : ByteArray} {Ts : List Cond} {nL : Nat} {ret : Option FieldType} {R : Room} (G : Gd X y cc Ts nL ret R) {index : Nat} (hg : GoodIn Ts (wsV y.cls index RX7 yX7_clash wsX7_clash)) (hR : rX7_clash.frames + 1 ≤ R.frames ∧ 8 + (9 + 11) + rX7_clash.locals ≤ R.locals) {k n pc : Nat} {M : Wo} {lv : List (Nat × Value)} {st : List Value} {a0 : Nat} {x1 : Int32} {x2 : Int32} {r : Int32} {M2 : Wo} (hv : X7_clash M a0 x1 x2 = some (r, M2)) (hd : decode cc pc = .ok (.invokevirtual index, 3)) (h8 : (st.map fun v => v.category).sum ≤ 8) (hf : k ≤ R.cells ∧ n ≤ R.slots) (kk : Pt X k n (pc + 3) M2 lv (.int r :: st)) : Pt X k n pc M lv (.int x2 :: .int x1 :: .ref a0 :: st) := pt_cVi (ci := 7) (nA := 2) (As := [.int x1, .int x2]) G (X7_clash_c hv) hg rfl rfl rfl (by decide +kernel) hR rfl (rcv hv) rfl rfl h8 hd hf kk
abbrev rX7_often : Room := { frames := 4, cells := 0, slots := 0, locals := 131 }
theorem m_X7_often_2 : Cond.fieldLink RX7 12 "StageLines" "stage" "LStageLines$Stage;" ∈ wsX7_often := List.mem_of_getElem? (i := 2) rfl
theorem u_X7_often_X7 : ∀ w ∈ u_ws RX7 TX7 6, w ∈ wsX7_often := mem_r [65, 66, 67, 68, 69, 70] (by decide +kernel)
theorem m_X7_often_1 : Cond.fieldLink RX7 34 "StageLines" "flight" "LStageLines$Flight;" ∈ wsX7_often := List.mem_of_getElem? (i := 1) rfl
def X7_often (M : Wo) (a0 : Nat) (x1 : Int32) (x2 : Int32) : Option (Int32 × Wo) :=
  (ckO M a0 7).bind fun _ => (X7_isBar M x1).bind fun v2 => if v2 = 0 then (some ((-1 : Int32), M)) else ((X7_isBar M x2).bind fun v4 => if v4 = 0 then (some ((-1 : Int32), M)) else (if x1 = x2 then (some ((-2 : Int32), M)) else ((gR M a0 7 4).bind fun w5 => (gR M a0 7 0).bind fun w7 => (X2_trace M w5 w7 x1).bind fun M10 => (gR M10 a0 7 4).bind fun w11 => (gR M10 a0 7 0).bind fun w13 => (X2_trace M10 w11 w13 x2).bind fun M16 => (gR M16 a0 7 4).bind fun w17 => (gR M16 a0 7 0).bind fun w19 => (X2_strikesOf M16 w17 w19 x1 x2).bind fun v22 => some (v22, M16))))
theorem X7_often_w {X : Cx} (G : Gd X yX7_often cX7_often wsX7_often 3 (some .int) rX7_often) {M : Wo} {a0 : Nat} {x1 : Int32} {x2 : Int32} {o : (Int32 × Wo)} (hd : X7_often M a0 x1 x2 = some o) (hQ : Qi X o.1 o.2 0 0) : Pt X 0 0 0 M [(0, .ref a0), (1, .int x1), (2, .int x2)] [] := by
  unfold X7_often at hd
  obtain ⟨_, _, hd⟩ := bnd hd
  refine pt_iload_n G 1 dX7_often_0 rfl rfl ?_
  obtain ⟨v2, h1, hd⟩ := bnd hd
  refine X7_isBar_v G gX7_often_X7_isBar ⟨(Nat.le_of_ble_eq_true rfl), (Nat.le_of_ble_eq_true rfl)⟩ h1 dX7_often_1 (Nat.le_of_ble_eq_true rfl) ⟨(Nat.le_of_ble_eq_true rfl), (Nat.le_of_ble_eq_true rfl)⟩ ?_
  refine pt_if_eq G 14 dX7_often_4 (by decide) (fun c25 => ?_) (fun c25 => ?_)
  · replace hd := ifp c25 hd
    refine pt_iconst G (-1 : Int32) dX7_often_14 ci_m1 ?_
    cases hd
    exact pt_iret G hQ dX7_often_15
  · replace hd := ifn c25 hd
    refine pt_iload_n G 2 dX7_often_7 rfl rfl ?_
    obtain ⟨v4, h3, hd⟩ := bnd hd
    refine X7_isBar_v G gX7_often_X7_isBar ⟨(Nat.le_of_ble_eq_true rfl), (Nat.le_of_ble_eq_true rfl)⟩ h3 dX7_often_8 (Nat.le_of_ble_eq_true rfl) ⟨(Nat.le_of_ble_eq_true rfl), (Nat.le_of_ble_eq_true rfl)⟩ ?_
    refine pt_if_ne G 16 dX7_often_11 (by decide) (fun c24 => ?_) (fun c24 => ?_)
    · replace hd := ifn c24 hd
      refine pt_iload_n G 1 dX7_often_16 rfl rfl ?_
      refine pt_iload_n G 2 dX7_often_17 rfl rfl ?_
      refine pt_icmp_ne G 24 dX7_often_18 (by decide) (fun c23 => ?_) (fun c23 => ?_)
      · replace hd := ifn c23 hd
        refine pt_aload_n G 0 dX7_often_24 rfl rfl ?_
        obtain ⟨w5, h6, hd⟩ := bnd hd
        refine pt_get G (ci := 7) (j := 4) rfl (by decide) u_X7_often_X7 m_X7_often_1 (gR_o h6) dX7_often_25 ?_
        refine pt_aload_n G 0 dX7_often_28 rfl rfl ?_
        obtain ⟨w7, h8, hd⟩ := bnd hd
        refine pt_get G (ci := 7) (j := 0) rfl (by decide) u_X7_often_X7 m_X7_often_2 (gR_o h8) dX7_often_29 ?_
        refine pt_iload_n G 1 dX7_often_32 rfl rfl ?_
        obtain ⟨M10, h9, hd⟩ := bnd hd
        refine X2_trace_v G gX7_often_X2_trace ⟨(Nat.le_of_ble_eq_true rfl), (Nat.le_of_ble_eq_true rfl)⟩ h9 dX7_often_33 (Nat.le_of_ble_eq_true rfl) ⟨(Nat.le_of_ble_eq_true rfl), (Nat.le_of_ble_eq_true rfl)⟩ ?_
        refine pt_aload_n G 0 dX7_often_36 rfl rfl ?_
        obtain ⟨w11, h12, hd⟩ := bnd hd
        refine pt_get G (ci := 7) (j := 4) rfl (by decide) u_X7_often_X7 m_X7_often_1 (gR_o h12) dX7_often_37 ?_
        refine pt_aload_n G 0 dX7_often_40 rfl rfl ?_
        obtain ⟨w13, h14, hd⟩ := bnd hd
        refine pt_get G (ci := 7) (j := 0) rfl (by decide) u_X7_often_X7 m_X7_often_2 (gR_o h14) dX7_often_41 ?_
        refine pt_iload_n G 2 dX7_often_44 rfl rfl ?_
        obtain ⟨M16, h15, hd⟩ := bnd hd
        refine X2_trace_v G gX7_often_X2_trace ⟨(Nat.le_of_ble_eq_true rfl), (Nat.le_of_ble_eq_true rfl)⟩ h15 dX7_often_45 (Nat.le_of_ble_eq_true rfl) ⟨(Nat.le_of_ble_eq_true rfl), (Nat.le_of_ble_eq_true rfl)⟩ ?_
        refine pt_aload_n G 0 dX7_often_48 rfl rfl ?_
        obtain ⟨w17, h18, hd⟩ := bnd hd
        refine pt_get G (ci := 7) (j := 4) rfl (by decide) u_X7_often_X7 m_X7_often_1 (gR_o h18) dX7_often_49 ?_
        refine pt_aload_n G 0 dX7_often_52 rfl rfl ?_
        obtain ⟨w19, h20, hd⟩ := bnd hd
        refine pt_get G (ci := 7) (j := 0) rfl (by decide) u_X7_often_X7 m_X7_often_2 (gR_o h20) dX7_often_53 ?_
        refine pt_iload_n G 1 dX7_often_56 rfl rfl ?_
        refine pt_iload_n G 2 dX7_often_57 rfl rfl ?_
        obtain ⟨v22, h21, hd⟩ := bnd hd
        refine X2_strikesOf_v G gX7_often_X2_strikesOf ⟨(Nat.le_of_ble_eq_true rfl), (Nat.le_of_ble_eq_true rfl)⟩ h21 dX7_often_58 (Nat.le_of_ble_eq_true rfl) ⟨(Nat.le_of_ble_eq_true rfl), (Nat.le_of_ble_eq_true rfl)⟩ ?_
        cases hd
        exact pt_iret G hQ dX7_often_61
      · replace hd := ifp c23 hd
        refine pt_bipush G (-2 : Int32) dX7_often_21 bi_m2 ?_
        cases hd
        exact pt_iret G hQ dX7_often_23
    · replace hd := ifp c24 hd
      refine pt_iconst G (-1 : Int32) dX7_often_14 ci_m1 ?_
      cases hd
      exact pt_iret G hQ dX7_often_15
theorem X7_often_c {l : Launch} {D : va_G} {dA : Nat → ClassId} {b : Nat} {M : Wo} {a0 : Nat} {x1 : Int32} {x2 : Int32} {r : Int32} {M2 : Wo} (h : X7_often M a0 x1 x2 = some (r, M2)) : Met l yX7_often wsX7_often rX7_often (va_Pc [.ref a0, .int x1, .int x2] (Wd D dA b M)) (Ei D dA b r M2) 0 0 (Ab b) := met_i (by decide) rfl (Nat.le_of_ble_eq_true rfl) (fun X G hN hQ => X7_often_w G h hQ)
theorem X7_often_v {X : Cx} {y : MethodName} {cc : ByteArray} {Ts : List Cond} {nL : Nat} {ret : Option FieldType} {R : Room} (G : Gd X y cc Ts nL ret R) {index : Nat} (hg : GoodIn Ts (wsV y.cls index RX7 yX7_often wsX7_often)) (hR : rX7_often.frames + 1 ≤ R.frames ∧ 8 + (3 + 11) + rX7_often.locals ≤ R.locals) {k n pc : Nat} {M : Wo} {lv : List (Nat × Value)} {st : List Value} {a0 : Nat} {x1 : Int32} {x2 : Int32} {r : Int32} {M2 : Wo} (hv : X7_often M a0 x1 x2 = some (r, M2)) (hd : decode cc pc = .ok (.invokevirtual index, 3)) (h8 : (st.map fun v => v.category).sum ≤ 8) (hf : k ≤ R.cells ∧ n ≤ R.slots) (kk : Pt X k n (pc + 3) M2 lv (.int r :: st)) : Pt X k n pc M lv (.int x2 :: .int x1 :: .ref a0 :: st) := pt_cVi (ci := 7) (nA := 2) (As := [.int x1, .int x2]) G (X7_often_c hv) hg rfl rfl rfl (by decide +kernel) hR rfl (rcv hv) rfl rfl h8 hd hf kk
abbrev rX7_hands : Room := { frames := 16, cells := 0, slots := 0, locals := 946 }
theorem m_X7_hands_2 : Cond.fieldLink RX7 12 "StageLines" "stage" "LStageLines$Stage;" ∈ wsX7_hands := List.mem_of_getElem? (i := 2) rfl
theorem u_X7_hands_X7 : ∀ w ∈ u_ws RX7 TX7 6, w ∈ wsX7_hands := mem_r [118, 119, 120, 121, 122, 123] (by decide +kernel)
theorem m_X7_hands_1 : Cond.fieldLink RX7 41 "StageLines" "crewFinder" "LStageLines$CrewFinder;" ∈ wsX7_hands := List.mem_of_getElem? (i := 1) rfl
theorem m_X7_hands_4 : Cond.fieldLink RX7 195 "StageLines$CrewFinder" "least" "I" ∈ wsX7_hands := List.mem_of_getElem? (i := 4) rfl
theorem u_X7_hands_X1 : ∀ w ∈ u_ws RX1 TX1 7, w ∈ wsX7_hands := mem_r [124, 125, 126, 127, 128, 129, 130] (by decide +kernel)
theorem m_X7_hands_3 : Cond.fieldLink RX7 34 "StageLines" "flight" "LStageLines$Flight;" ∈ wsX7_hands := List.mem_of_getElem? (i := 3) rfl
def X7_hands (M : Wo) (a0 : Nat) (x1 : Int32) : Option (Int32 × Wo) :=
  (ckO M a0 7).bind fun _ => (X7_within M x1 (0 : Int32) (2 : Int32)).bind fun v2 => if v2 = 0 then (some ((-2 : Int32), M)) else ((gR M a0 7 5).bind fun w3 => (gR M a0 7 0).bind fun w5 => (gR M a0 7 4).bind fun w7 => (X1_gather M w3 w5 w7).bind fun M10 => if x1 = 0 then ((gR M10 a0 7 5).bind fun w22 => (gI M10 w22 1 0).bind fun v24 => some (v24, M10)) else (if x1 = (1 : Int32) then ((gR M10 a0 7 5).bind fun w17 => (X1_doableCount M10 w17).bind fun v20 => some (v20, M10)) else ((gR M10 a0 7 5).bind fun w11 => (gR M10 a0 7 0).bind fun w13 => (X1_mostAtOnce M10 w11 w13).bind fun v16 => some (v16, M10))))
theorem X7_hands_w {X : Cx} (G : Gd X yX7_hands cX7_hands wsX7_hands 2 (some .int) rX7_hands) {M : Wo} {a0 : Nat} {x1 : Int32} {o : (Int32 × Wo)} (hd : X7_hands M a0 x1 = some o) (hQ : Qi X o.1 o.2 0 0) : Pt X 0 0 0 M [(0, .ref a0), (1, .int x1)] [] := by
  unfold X7_hands at hd
  obtain ⟨_, _, hd⟩ := bnd hd
  refine pt_iload_n G 1 dX7_hands_0 rfl rfl ?_
  refine pt_iconst G (0 : Int32) dX7_hands_1 ci_0 ?_
  refine pt_iconst G (2 : Int32) dX7_hands_2 ci_2 ?_
  obtain ⟨v2, h1, hd⟩ := bnd hd
  refine X7_within_v G gX7_hands_X7_within ⟨(Nat.le_of_ble_eq_true rfl), (Nat.le_of_ble_eq_true rfl)⟩ h1 dX7_hands_3 (Nat.le_of_ble_eq_true rfl) ⟨(Nat.le_of_ble_eq_true rfl), (Nat.le_of_ble_eq_true rfl)⟩ ?_
  refine pt_if_ne G 12 dX7_hands_6 (by decide) (fun c27 => ?_) (fun c27 => ?_)
  · replace hd := ifn c27 hd
    refine pt_aload_n G 0 dX7_hands_12 rfl rfl ?_
    obtain ⟨w3, h4, hd⟩ := bnd hd
    refine pt_get G (ci := 7) (j := 5) rfl (by decide) u_X7_hands_X7 m_X7_hands_1 (gR_o h4) dX7_hands_13 ?_
    refine pt_aload_n G 0 dX7_hands_16 rfl rfl ?_
    obtain ⟨w5, h6, hd⟩ := bnd hd
    refine pt_get G (ci := 7) (j := 0) rfl (by decide) u_X7_hands_X7 m_X7_hands_2 (gR_o h6) dX7_hands_17 ?_
    refine pt_aload_n G 0 dX7_hands_20 rfl rfl ?_
    obtain ⟨w7, h8, hd⟩ := bnd hd
    refine pt_get G (ci := 7) (j := 4) rfl (by decide) u_X7_hands_X7 m_X7_hands_3 (gR_o h8) dX7_hands_21 ?_
    obtain ⟨M10, h9, hd⟩ := bnd hd
    refine X1_gather_v G gX7_hands_X1_gather ⟨(Nat.le_of_ble_eq_true rfl), (Nat.le_of_ble_eq_true rfl)⟩ h9 dX7_hands_24 (Nat.le_of_ble_eq_true rfl) ⟨(Nat.le_of_ble_eq_true rfl), (Nat.le_of_ble_eq_true rfl)⟩ ?_
    refine pt_iload_n G 1 dX7_hands_27 rfl rfl ?_
    refine pt_if_ne G 41 dX7_hands_28 (by decide) (fun c26 => ?_) (fun c26 => ?_)
    · replace hd := ifn c26 hd
      refine pt_iload_n G 1 dX7_hands_41 rfl rfl ?_
      refine pt_iconst G (1 : Int32) dX7_hands_42 ci_1 ?_
      refine pt_icmp_ne G 56 dX7_hands_43 (by decide) (fun c21 => ?_) (fun c21 => ?_)
      · replace hd := ifn c21 hd
        refine pt_aload_n G 0 dX7_hands_56 rfl rfl ?_
        obtain ⟨w11, h12, hd⟩ := bnd hd
        refine pt_get G (ci := 7) (j := 5) rfl (by decide) u_X7_hands_X7 m_X7_hands_1 (gR_o h12) dX7_hands_57 ?_
        refine pt_aload_n G 0 dX7_hands_60 rfl rfl ?_
        obtain ⟨w13, h14, hd⟩ := bnd hd
        refine pt_get G (ci := 7) (j := 0) rfl (by decide) u_X7_hands_X7 m_X7_hands_2 (gR_o h14) dX7_hands_61 ?_
        obtain ⟨v16, h15, hd⟩ := bnd hd
        refine X1_mostAtOnce_v G gX7_hands_X1_mostAtOnce ⟨(Nat.le_of_ble_eq_true rfl), (Nat.le_of_ble_eq_true rfl)⟩ h15 dX7_hands_64 (Nat.le_of_ble_eq_true rfl) ⟨(Nat.le_of_ble_eq_true rfl), (Nat.le_of_ble_eq_true rfl)⟩ ?_
        cases hd
        exact pt_iret G hQ dX7_hands_67
      · replace hd := ifp c21 hd
        refine pt_aload_n G 0 dX7_hands_46 rfl rfl ?_
        obtain ⟨w17, h18, hd⟩ := bnd hd
        refine pt_get G (ci := 7) (j := 5) rfl (by decide) u_X7_hands_X7 m_X7_hands_1 (gR_o h18) dX7_hands_47 ?_
        obtain ⟨v20, h19, hd⟩ := bnd hd
        refine X1_doableCount_v G gX7_hands_X1_doableCount ⟨(Nat.le_of_ble_eq_true rfl), (Nat.le_of_ble_eq_true rfl)⟩ h19 dX7_hands_50 (Nat.le_of_ble_eq_true rfl) ⟨(Nat.le_of_ble_eq_true rfl), (Nat.le_of_ble_eq_true rfl)⟩ ?_
        refine pt_goto G 67 dX7_hands_53 (by decide) ?_
        cases hd
        exact pt_iret G hQ dX7_hands_67
    · replace hd := ifp c26 hd
      refine pt_aload_n G 0 dX7_hands_31 rfl rfl ?_
      obtain ⟨w22, h23, hd⟩ := bnd hd
      refine pt_get G (ci := 7) (j := 5) rfl (by decide) u_X7_hands_X7 m_X7_hands_1 (gR_o h23) dX7_hands_32 ?_
      obtain ⟨v24, h25, hd⟩ := bnd hd
      refine pt_get G (ci := 1) (j := 0) rfl (by decide) u_X7_hands_X1 m_X7_hands_4 (gI_o h25) dX7_hands_35 ?_
      refine pt_goto G 67 dX7_hands_38 (by decide) ?_
      cases hd
      exact pt_iret G hQ dX7_hands_67
  · replace hd := ifp c27 hd
    refine pt_bipush G (-2 : Int32) dX7_hands_9 bi_m2 ?_
    cases hd
    exact pt_iret G hQ dX7_hands_11
theorem X7_hands_c {l : Launch} {D : va_G} {dA : Nat → ClassId} {b : Nat} {M : Wo} {a0 : Nat} {x1 : Int32} {r : Int32} {M2 : Wo} (h : X7_hands M a0 x1 = some (r, M2)) : Met l yX7_hands wsX7_hands rX7_hands (va_Pc [.ref a0, .int x1] (Wd D dA b M)) (Ei D dA b r M2) 0 0 (Ab b) := met_i (by decide) rfl (Nat.le_of_ble_eq_true rfl) (fun X G hN hQ => X7_hands_w G h hQ)
theorem X7_hands_v {X : Cx} {y : MethodName} {cc : ByteArray} {Ts : List Cond} {nL : Nat} {ret : Option FieldType} {R : Room} (G : Gd X y cc Ts nL ret R) {index : Nat} (hg : GoodIn Ts (wsV y.cls index RX7 yX7_hands wsX7_hands)) (hR : rX7_hands.frames + 1 ≤ R.frames ∧ 8 + (2 + 11) + rX7_hands.locals ≤ R.locals) {k n pc : Nat} {M : Wo} {lv : List (Nat × Value)} {st : List Value} {a0 : Nat} {x1 : Int32} {r : Int32} {M2 : Wo} (hv : X7_hands M a0 x1 = some (r, M2)) (hd : decode cc pc = .ok (.invokevirtual index, 3)) (h8 : (st.map fun v => v.category).sum ≤ 8) (hf : k ≤ R.cells ∧ n ≤ R.slots) (kk : Pt X k n (pc + 3) M2 lv (.int r :: st)) : Pt X k n pc M lv (.int x1 :: .ref a0 :: st) := pt_cVi (ci := 7) (nA := 1) (As := [.int x1]) G (X7_hands_c hv) hg rfl rfl rfl (by decide +kernel) hR rfl (rcv hv) rfl rfl h8 hd hf kk
abbrev rX7_crew : Room := { frames := 16, cells := 0, slots := 0, locals := 946 }
theorem m_X7_crew_2 : Cond.fieldLink RX7 12 "StageLines" "stage" "LStageLines$Stage;" ∈ wsX7_crew := List.mem_of_getElem? (i := 2) rfl
theorem u_X7_crew_X7 : ∀ w ∈ u_ws RX7 TX7 6, w ∈ wsX7_crew := mem_r [110, 111, 112, 113, 114, 115] (by decide +kernel)
theorem m_X7_crew_1 : Cond.fieldLink RX7 41 "StageLines" "crewFinder" "LStageLines$CrewFinder;" ∈ wsX7_crew := List.mem_of_getElem? (i := 1) rfl
theorem m_X7_crew_3 : Cond.fieldLink RX7 34 "StageLines" "flight" "LStageLines$Flight;" ∈ wsX7_crew := List.mem_of_getElem? (i := 3) rfl
def X7_crew (M : Wo) (a0 : Nat) (x1 : Int32) (x2 : Int32) : Option (Int32 × Wo) :=
  (ckO M a0 7).bind fun _ => (X7_within M x1 (0 : Int32) (9 : Int32)).bind fun v2 => if v2 = 0 then (some ((-2 : Int32), M)) else ((gR M a0 7 5).bind fun w3 => (gR M a0 7 0).bind fun w5 => (gR M a0 7 4).bind fun w7 => (X1_gather M w3 w5 w7).bind fun M10 => (gR M10 a0 7 5).bind fun w11 => (gR M10 a0 7 0).bind fun w13 => (X1_turn M10 w11 w13 x1 x2).bind fun v16 => some (v16, M10))
theorem X7_crew_w {X : Cx} (G : Gd X yX7_crew cX7_crew wsX7_crew 3 (some .int) rX7_crew) {M : Wo} {a0 : Nat} {x1 : Int32} {x2 : Int32} {o : (Int32 × Wo)} (hd : X7_crew M a0 x1 x2 = some o) (hQ : Qi X o.1 o.2 0 0) : Pt X 0 0 0 M [(0, .ref a0), (1, .int x1), (2, .int x2)] [] := by
  unfold X7_crew at hd
  obtain ⟨_, _, hd⟩ := bnd hd
  refine pt_iload_n G 1 dX7_crew_0 rfl rfl ?_
  refine pt_iconst G (0 : Int32) dX7_crew_1 ci_0 ?_
  refine pt_bipush G (9 : Int32) dX7_crew_2 bi_9 ?_
  obtain ⟨v2, h1, hd⟩ := bnd hd
  refine X7_within_v G gX7_crew_X7_within ⟨(Nat.le_of_ble_eq_true rfl), (Nat.le_of_ble_eq_true rfl)⟩ h1 dX7_crew_4 (Nat.le_of_ble_eq_true rfl) ⟨(Nat.le_of_ble_eq_true rfl), (Nat.le_of_ble_eq_true rfl)⟩ ?_
  refine pt_if_ne G 13 dX7_crew_7 (by decide) (fun c17 => ?_) (fun c17 => ?_)
  · replace hd := ifn c17 hd
    refine pt_aload_n G 0 dX7_crew_13 rfl rfl ?_
    obtain ⟨w3, h4, hd⟩ := bnd hd
    refine pt_get G (ci := 7) (j := 5) rfl (by decide) u_X7_crew_X7 m_X7_crew_1 (gR_o h4) dX7_crew_14 ?_
    refine pt_aload_n G 0 dX7_crew_17 rfl rfl ?_
    obtain ⟨w5, h6, hd⟩ := bnd hd
    refine pt_get G (ci := 7) (j := 0) rfl (by decide) u_X7_crew_X7 m_X7_crew_2 (gR_o h6) dX7_crew_18 ?_
    refine pt_aload_n G 0 dX7_crew_21 rfl rfl ?_
    obtain ⟨w7, h8, hd⟩ := bnd hd
    refine pt_get G (ci := 7) (j := 4) rfl (by decide) u_X7_crew_X7 m_X7_crew_3 (gR_o h8) dX7_crew_22 ?_
    obtain ⟨M10, h9, hd⟩ := bnd hd
    refine X1_gather_v G gX7_crew_X1_gather ⟨(Nat.le_of_ble_eq_true rfl), (Nat.le_of_ble_eq_true rfl)⟩ h9 dX7_crew_25 (Nat.le_of_ble_eq_true rfl) ⟨(Nat.le_of_ble_eq_true rfl), (Nat.le_of_ble_eq_true rfl)⟩ ?_
    refine pt_aload_n G 0 dX7_crew_28 rfl rfl ?_
    obtain ⟨w11, h12, hd⟩ := bnd hd
    refine pt_get G (ci := 7) (j := 5) rfl (by decide) u_X7_crew_X7 m_X7_crew_1 (gR_o h12) dX7_crew_29 ?_
    refine pt_aload_n G 0 dX7_crew_32 rfl rfl ?_
    obtain ⟨w13, h14, hd⟩ := bnd hd
    refine pt_get G (ci := 7) (j := 0) rfl (by decide) u_X7_crew_X7 m_X7_crew_2 (gR_o h14) dX7_crew_33 ?_
    refine pt_iload_n G 1 dX7_crew_36 rfl rfl ?_
    refine pt_iload_n G 2 dX7_crew_37 rfl rfl ?_
    obtain ⟨v16, h15, hd⟩ := bnd hd
    refine X1_turn_v G gX7_crew_X1_turn ⟨(Nat.le_of_ble_eq_true rfl), (Nat.le_of_ble_eq_true rfl)⟩ h15 dX7_crew_38 (Nat.le_of_ble_eq_true rfl) ⟨(Nat.le_of_ble_eq_true rfl), (Nat.le_of_ble_eq_true rfl)⟩ ?_
    cases hd
    exact pt_iret G hQ dX7_crew_41
  · replace hd := ifp c17 hd
    refine pt_bipush G (-2 : Int32) dX7_crew_10 bi_m2 ?_
    cases hd
    exact pt_iret G hQ dX7_crew_12
theorem X7_crew_c {l : Launch} {D : va_G} {dA : Nat → ClassId} {b : Nat} {M : Wo} {a0 : Nat} {x1 : Int32} {x2 : Int32} {r : Int32} {M2 : Wo} (h : X7_crew M a0 x1 x2 = some (r, M2)) : Met l yX7_crew wsX7_crew rX7_crew (va_Pc [.ref a0, .int x1, .int x2] (Wd D dA b M)) (Ei D dA b r M2) 0 0 (Ab b) := met_i (by decide) rfl (Nat.le_of_ble_eq_true rfl) (fun X G hN hQ => X7_crew_w G h hQ)
theorem X7_crew_v {X : Cx} {y : MethodName} {cc : ByteArray} {Ts : List Cond} {nL : Nat} {ret : Option FieldType} {R : Room} (G : Gd X y cc Ts nL ret R) {index : Nat} (hg : GoodIn Ts (wsV y.cls index RX7 yX7_crew wsX7_crew)) (hR : rX7_crew.frames + 1 ≤ R.frames ∧ 8 + (3 + 11) + rX7_crew.locals ≤ R.locals) {k n pc : Nat} {M : Wo} {lv : List (Nat × Value)} {st : List Value} {a0 : Nat} {x1 : Int32} {x2 : Int32} {r : Int32} {M2 : Wo} (hv : X7_crew M a0 x1 x2 = some (r, M2)) (hd : decode cc pc = .ok (.invokevirtual index, 3)) (h8 : (st.map fun v => v.category).sum ≤ 8) (hf : k ≤ R.cells ∧ n ≤ R.slots) (kk : Pt X k n (pc + 3) M2 lv (.int r :: st)) : Pt X k n pc M lv (.int x2 :: .int x1 :: .ref a0 :: st) := pt_cVi (ci := 7) (nA := 2) (As := [.int x1, .int x2]) G (X7_crew_c hv) hg rfl rfl rfl (by decide +kernel) hR rfl (rcv hv) rfl rfl h8 hd hf kk
abbrev rX7_image : Room := { frames := 4, cells := 0, slots := 0, locals := 124 }
theorem m_X7_image_3 : Cond.fieldLink RX7 20 "StageLines" "keptImages" "I" ∈ wsX7_image := List.mem_of_getElem? (i := 3) rfl
theorem u_X7_image_X7 : ∀ w ∈ u_ws RX7 TX7 6, w ∈ wsX7_image := mem_r [46, 47, 48, 49, 50, 51] (by decide +kernel)
theorem m_X7_image_2 : Cond.fieldLink RX7 12 "StageLines" "stage" "LStageLines$Stage;" ∈ wsX7_image := List.mem_of_getElem? (i := 2) rfl
theorem m_X7_image_1 : Cond.fieldLink RX7 16 "StageLines" "images" "[LStageLines$Stage;" ∈ wsX7_image := List.mem_of_getElem? (i := 1) rfl
def X7_image (M : Wo) (a0 : Nat) (x1 : Int32) : Option (Int32 × Wo) :=
  (ckO M a0 7).bind fun _ => (X7_within M x1 (0 : Int32) (1 : Int32)).bind fun v2 => if v2 = 0 then (some ((-2 : Int32), M)) else ((gR M a0 7 1).bind fun w3 => (lR M 4 w3 x1).bind fun w5 => (gR M a0 7 0).bind fun w7 => (X6_copyFrom M w5 w7).bind fun M10 => (gI M10 a0 7 2).bind fun v11 => (pV M10 a0 7 2 (.int (v11 ||| ((1 : Int32) <<< (x1 &&& 31))))).bind fun M13 => some ((1 : Int32), M13))
theorem X7_image_w {X : Cx} (G : Gd X yX7_image cX7_image wsX7_image 2 (some .int) rX7_image) {M : Wo} {a0 : Nat} {x1 : Int32} {o : (Int32 × Wo)} (hd : X7_image M a0 x1 = some o) (hQ : Qi X o.1 o.2 0 0) : Pt X 0 0 0 M [(0, .ref a0), (1, .int x1)] [] := by
  unfold X7_image at hd
  obtain ⟨_, _, hd⟩ := bnd hd
  refine pt_iload_n G 1 dX7_image_0 rfl rfl ?_
  refine pt_iconst G (0 : Int32) dX7_image_1 ci_0 ?_
  refine pt_iconst G (1 : Int32) dX7_image_2 ci_1 ?_
  obtain ⟨v2, h1, hd⟩ := bnd hd
  refine X7_within_v G gX7_image_X7_within ⟨(Nat.le_of_ble_eq_true rfl), (Nat.le_of_ble_eq_true rfl)⟩ h1 dX7_image_3 (Nat.le_of_ble_eq_true rfl) ⟨(Nat.le_of_ble_eq_true rfl), (Nat.le_of_ble_eq_true rfl)⟩ ?_
  refine pt_if_ne G 12 dX7_image_6 (by decide) (fun c15 => ?_) (fun c15 => ?_)
  · replace hd := ifn c15 hd
    refine pt_aload_n G 0 dX7_image_12 rfl rfl ?_
    obtain ⟨w3, h4, hd⟩ := bnd hd
    refine pt_get G (ci := 7) (j := 1) rfl (by decide) u_X7_image_X7 m_X7_image_1 (gR_o h4) dX7_image_13 ?_
    refine pt_iload_n G 1 dX7_image_16 rfl rfl ?_
    obtain ⟨w5, h6, hd⟩ := bnd hd
    refine pt_aald G (kd := 4) rfl rfl h6 dX7_image_17 ?_
    refine pt_aload_n G 0 dX7_image_18 rfl rfl ?_
    obtain ⟨w7, h8, hd⟩ := bnd hd
    refine pt_get G (ci := 7) (j := 0) rfl (by decide) u_X7_image_X7 m_X7_image_2 (gR_o h8) dX7_image_19 ?_
    obtain ⟨M10, h9, hd⟩ := bnd hd
    refine X6_copyFrom_v G gX7_image_X6_copyFrom ⟨(Nat.le_of_ble_eq_true rfl), (Nat.le_of_ble_eq_true rfl)⟩ h9 dX7_image_22 (Nat.le_of_ble_eq_true rfl) ⟨(Nat.le_of_ble_eq_true rfl), (Nat.le_of_ble_eq_true rfl)⟩ ?_
    refine pt_aload_n G 0 dX7_image_25 rfl rfl ?_
    refine pt_dup G dX7_image_26 rfl ?_
    obtain ⟨v11, h12, hd⟩ := bnd hd
    refine pt_get G (ci := 7) (j := 2) rfl (by decide) u_X7_image_X7 m_X7_image_3 (gI_o h12) dX7_image_27 ?_
    refine pt_iconst G (1 : Int32) dX7_image_30 ci_1 ?_
    refine pt_iload_n G 1 dX7_image_31 rfl rfl ?_
    refine pt_ishl G dX7_image_32 ?_
    refine pt_ior G dX7_image_33 ?_
    obtain ⟨M13, h14, hd⟩ := bnd hd
    refine pt_put G (ci := 7) (j := 2) rfl (by decide) u_X7_image_X7 m_X7_image_3 tyX7 tyX7_ok nmX7 rfl rfl rfl h14 dX7_image_34 ?_
    refine pt_iconst G (1 : Int32) dX7_image_37 ci_1 ?_
    cases hd
    exact pt_iret G hQ dX7_image_38
  · replace hd := ifp c15 hd
    refine pt_bipush G (-2 : Int32) dX7_image_9 bi_m2 ?_
    cases hd
    exact pt_iret G hQ dX7_image_11
theorem X7_image_c {l : Launch} {D : va_G} {dA : Nat → ClassId} {b : Nat} {M : Wo} {a0 : Nat} {x1 : Int32} {r : Int32} {M2 : Wo} (h : X7_image M a0 x1 = some (r, M2)) : Met l yX7_image wsX7_image rX7_image (va_Pc [.ref a0, .int x1] (Wd D dA b M)) (Ei D dA b r M2) 0 0 (Ab b) := met_i (by decide) rfl (Nat.le_of_ble_eq_true rfl) (fun X G hN hQ => X7_image_w G h hQ)
theorem X7_image_v {X : Cx} {y : MethodName} {cc : ByteArray} {Ts : List Cond} {nL : Nat} {ret : Option FieldType} {R : Room} (G : Gd X y cc Ts nL ret R) {index : Nat} (hg : GoodIn Ts (wsV y.cls index RX7 yX7_image wsX7_image)) (hR : rX7_image.frames + 1 ≤ R.frames ∧ 8 + (2 + 11) + rX7_image.locals ≤ R.locals) {k n pc : Nat} {M : Wo} {lv : List (Nat × Value)} {st : List Value} {a0 : Nat} {x1 : Int32} {r : Int32} {M2 : Wo} (hv : X7_image M a0 x1 = some (r, M2)) (hd : decode cc pc = .ok (.invokevirtual index, 3)) (h8 : (st.map fun v => v.category).sum ≤ 8) (hf : k ≤ R.cells ∧ n ≤ R.slots) (kk : Pt X k n (pc + 3) M2 lv (.int r :: st)) : Pt X k n pc M lv (.int x1 :: .ref a0 :: st) := pt_cVi (ci := 7) (nA := 1) (As := [.int x1]) G (X7_image_c hv) hg rfl rfl rfl (by decide +kernel) hR rfl (rcv hv) rfl rfl h8 hd hf kk
abbrev rX7_restore : Room := { frames := 4, cells := 0, slots := 0, locals := 124 }
theorem m_X7_restore_3 : Cond.fieldLink RX7 16 "StageLines" "images" "[LStageLines$Stage;" ∈ wsX7_restore := List.mem_of_getElem? (i := 3) rfl
theorem u_X7_restore_X7 : ∀ w ∈ u_ws RX7 TX7 6, w ∈ wsX7_restore := mem_r [46, 47, 48, 49, 50, 51] (by decide +kernel)
theorem m_X7_restore_2 : Cond.fieldLink RX7 12 "StageLines" "stage" "LStageLines$Stage;" ∈ wsX7_restore := List.mem_of_getElem? (i := 2) rfl
theorem m_X7_restore_1 : Cond.fieldLink RX7 20 "StageLines" "keptImages" "I" ∈ wsX7_restore := List.mem_of_getElem? (i := 1) rfl
def X7_restore (M : Wo) (a0 : Nat) (x1 : Int32) : Option (Int32 × Wo) :=
  (ckO M a0 7).bind fun _ => (X7_within M x1 (0 : Int32) (1 : Int32)).bind fun v2 => if v2 = 0 then (some ((-2 : Int32), M)) else ((gI M a0 7 2).bind fun v3 => if ((v3 >>> (x1 &&& 31)) &&& (1 : Int32)) = 0 then (some ((-3 : Int32), M)) else ((gR M a0 7 0).bind fun w5 => (gR M a0 7 1).bind fun w7 => (lR M 4 w7 x1).bind fun w9 => (X6_copyFrom M w5 w9).bind fun M12 => some ((1 : Int32), M12)))
theorem X7_restore_w {X : Cx} (G : Gd X yX7_restore cX7_restore wsX7_restore 2 (some .int) rX7_restore) {M : Wo} {a0 : Nat} {x1 : Int32} {o : (Int32 × Wo)} (hd : X7_restore M a0 x1 = some o) (hQ : Qi X o.1 o.2 0 0) : Pt X 0 0 0 M [(0, .ref a0), (1, .int x1)] [] := by
  unfold X7_restore at hd
  obtain ⟨_, _, hd⟩ := bnd hd
  refine pt_iload_n G 1 dX7_restore_0 rfl rfl ?_
  refine pt_iconst G (0 : Int32) dX7_restore_1 ci_0 ?_
  refine pt_iconst G (1 : Int32) dX7_restore_2 ci_1 ?_
  obtain ⟨v2, h1, hd⟩ := bnd hd
  refine X7_within_v G gX7_restore_X7_within ⟨(Nat.le_of_ble_eq_true rfl), (Nat.le_of_ble_eq_true rfl)⟩ h1 dX7_restore_3 (Nat.le_of_ble_eq_true rfl) ⟨(Nat.le_of_ble_eq_true rfl), (Nat.le_of_ble_eq_true rfl)⟩ ?_
  refine pt_if_ne G 12 dX7_restore_6 (by decide) (fun c14 => ?_) (fun c14 => ?_)
  · replace hd := ifn c14 hd
    refine pt_aload_n G 0 dX7_restore_12 rfl rfl ?_
    obtain ⟨v3, h4, hd⟩ := bnd hd
    refine pt_get G (ci := 7) (j := 2) rfl (by decide) u_X7_restore_X7 m_X7_restore_1 (gI_o h4) dX7_restore_13 ?_
    refine pt_iload_n G 1 dX7_restore_16 rfl rfl ?_
    refine pt_ishr G dX7_restore_17 ?_
    refine pt_iconst G (1 : Int32) dX7_restore_18 ci_1 ?_
    refine pt_iand G dX7_restore_19 ?_
    refine pt_if_ne G 26 dX7_restore_20 (by decide) (fun c13 => ?_) (fun c13 => ?_)
    · replace hd := ifn c13 hd
      refine pt_aload_n G 0 dX7_restore_26 rfl rfl ?_
      obtain ⟨w5, h6, hd⟩ := bnd hd
      refine pt_get G (ci := 7) (j := 0) rfl (by decide) u_X7_restore_X7 m_X7_restore_2 (gR_o h6) dX7_restore_27 ?_
      refine pt_aload_n G 0 dX7_restore_30 rfl rfl ?_
      obtain ⟨w7, h8, hd⟩ := bnd hd
      refine pt_get G (ci := 7) (j := 1) rfl (by decide) u_X7_restore_X7 m_X7_restore_3 (gR_o h8) dX7_restore_31 ?_
      refine pt_iload_n G 1 dX7_restore_34 rfl rfl ?_
      obtain ⟨w9, h10, hd⟩ := bnd hd
      refine pt_aald G (kd := 4) rfl rfl h10 dX7_restore_35 ?_
      obtain ⟨M12, h11, hd⟩ := bnd hd
      refine X6_copyFrom_v G gX7_restore_X6_copyFrom ⟨(Nat.le_of_ble_eq_true rfl), (Nat.le_of_ble_eq_true rfl)⟩ h11 dX7_restore_36 (Nat.le_of_ble_eq_true rfl) ⟨(Nat.le_of_ble_eq_true rfl), (Nat.le_of_ble_eq_true rfl)⟩ ?_
      refine pt_iconst G (1 : Int32) dX7_restore_39 ci_1 ?_
      cases hd
      exact pt_iret G hQ dX7_restore_40
    · replace hd := ifp c13 hd
      refine pt_bipush G (-3 : Int32) dX7_restore_23 bi_m3 ?_
      cases hd
      exact pt_iret G hQ dX7_restore_25
  · replace hd := ifp c14 hd
    refine pt_bipush G (-2 : Int32) dX7_restore_9 bi_m2 ?_
    cases hd
    exact pt_iret G hQ dX7_restore_11
theorem X7_restore_c {l : Launch} {D : va_G} {dA : Nat → ClassId} {b : Nat} {M : Wo} {a0 : Nat} {x1 : Int32} {r : Int32} {M2 : Wo} (h : X7_restore M a0 x1 = some (r, M2)) : Met l yX7_restore wsX7_restore rX7_restore (va_Pc [.ref a0, .int x1] (Wd D dA b M)) (Ei D dA b r M2) 0 0 (Ab b) := met_i (by decide) rfl (Nat.le_of_ble_eq_true rfl) (fun X G hN hQ => X7_restore_w G h hQ)
theorem X7_restore_v {X : Cx} {y : MethodName} {cc : ByteArray} {Ts : List Cond} {nL : Nat} {ret : Option FieldType} {R : Room} (G : Gd X y cc Ts nL ret R) {index : Nat} (hg : GoodIn Ts (wsV y.cls index RX7 yX7_restore wsX7_restore)) (hR : rX7_restore.frames + 1 ≤ R.frames ∧ 8 + (2 + 11) + rX7_restore.locals ≤ R.locals) {k n pc : Nat} {M : Wo} {lv : List (Nat × Value)} {st : List Value} {a0 : Nat} {x1 : Int32} {r : Int32} {M2 : Wo} (hv : X7_restore M a0 x1 = some (r, M2)) (hd : decode cc pc = .ok (.invokevirtual index, 3)) (h8 : (st.map fun v => v.category).sum ≤ 8) (hf : k ≤ R.cells ∧ n ≤ R.slots) (kk : Pt X k n (pc + 3) M2 lv (.int r :: st)) : Pt X k n pc M lv (.int x1 :: .ref a0 :: st) := pt_cVi (ci := 7) (nA := 1) (As := [.int x1]) G (X7_restore_c hv) hg rfl rfl rfl (by decide +kernel) hR rfl (rcv hv) rfl rfl h8 hd hf kk
abbrev rX7_lastEnd : Room := { frames := 4, cells := 0, slots := 0, locals := 129 }
theorem m_X7_lastEnd_4 : Cond.methodLink RX7 224 Lib.Math.max.name ∈ wsX7_lastEnd := List.mem_of_getElem? (i := 4) rfl
theorem m_X7_lastEnd_5 : Cond.static Lib.Math.max.name ∈ wsX7_lastEnd := List.mem_of_getElem? (i := 5) rfl
theorem m_X7_lastEnd_6 : Cond.initialized "java/lang/Math" ∈ wsX7_lastEnd := List.mem_of_getElem? (i := 6) rfl
theorem m_X7_lastEnd_7 : Cond.code Lib.Math.max.name Lib.Math.max.code 2 (some .int) ∈ wsX7_lastEnd := List.mem_of_getElem? (i := 7) rfl
theorem m_X7_lastEnd_2 : Cond.fieldLink RX7 12 "StageLines" "stage" "LStageLines$Stage;" ∈ wsX7_lastEnd := List.mem_of_getElem? (i := 2) rfl
theorem u_X7_lastEnd_X7 : ∀ w ∈ u_ws RX7 TX7 6, w ∈ wsX7_lastEnd := mem_r [47, 48, 49, 50, 51, 52] (by decide +kernel)
theorem m_X7_lastEnd_1 : Cond.fieldLink RX7 34 "StageLines" "flight" "LStageLines$Flight;" ∈ wsX7_lastEnd := List.mem_of_getElem? (i := 1) rfl
theorem m_X7_lastEnd_3 : Cond.fieldLink RX7 123 "StageLines$Stage" "moveCount" "I" ∈ wsX7_lastEnd := List.mem_of_getElem? (i := 3) rfl
theorem u_X7_lastEnd_X6 : ∀ w ∈ u_ws RX6 TX6 4, w ∈ wsX7_lastEnd := mem_r [53, 54, 55, 56] (by decide +kernel)
abbrev X7_lastEnd_P16 (X : Cx) (M : Wo) (a0 : Nat) : (Int32 × Int32) → Prop := un2 (fun x1 x2 => Pt X 0 0 16 M [(0, .ref a0), (1, .int x1), (2, .int x2)] [])
abbrev X7_lastEnd_Z16 (X : Cx) (M : Wo) (a0 : Nat) : Int32 → Prop := (un1 (fun x1 => Pt X 0 0 50 M [(1, .int x1)] []))
def X7_lastEnd_b16 (M : Wo) (a0 : Nat) (x1 : Int32) (x2 : Int32) : Option ((Int32 × Int32) ⊕ Int32) :=
  (gR M a0 7 0).bind fun w7 => (gI M w7 6 2).bind fun v9 => if v9 ≤ x2 then (some (.inr x1)) else ((gR M a0 7 4).bind fun w11 => (gR M a0 7 0).bind fun w13 => (X2_endOf M w11 w13 x2).bind fun v16 => some (.inl ((iMax x1 v16), (x2 + 1))))
theorem X7_lastEnd_b16_w {X : Cx} (G : Gd X yX7_lastEnd cX7_lastEnd wsX7_lastEnd 3 (some .int) rX7_lastEnd) {M : Wo} {a0 : Nat} {x1 : Int32} {x2 : Int32} {o : ((Int32 × Int32) ⊕ Int32)} (hd : X7_lastEnd_b16 M a0 x1 x2 = some o) (hc : ∀ s9, o = .inl s9 → X7_lastEnd_P16 X M a0 s9) (he : ∀ e9, o = .inr e9 → X7_lastEnd_Z16 X M a0 e9) : Pt X 0 0 16 M [(0, .ref a0), (1, .int x1), (2, .int x2)] [] := by
  unfold X7_lastEnd_b16 at hd
  refine pt_iload_n G 2 dX7_lastEnd_16 rfl rfl ?_
  refine pt_aload_n G 0 dX7_lastEnd_17 rfl rfl ?_
  obtain ⟨w7, h8, hd⟩ := bnd hd
  refine pt_get G (ci := 7) (j := 0) rfl (by decide) u_X7_lastEnd_X7 m_X7_lastEnd_2 (gR_o h8) dX7_lastEnd_18 ?_
  obtain ⟨v9, h10, hd⟩ := bnd hd
  refine pt_get G (ci := 6) (j := 2) rfl (by decide) u_X7_lastEnd_X6 m_X7_lastEnd_3 (gI_o h10) dX7_lastEnd_21 ?_
  refine pt_icmp_ge G 50 dX7_lastEnd_24 (by decide) (fun c17 => ?_) (fun c17 => ?_)
  · replace hd := ifp c17 hd
    exact pt_sub [1] rfl (he x1 (Option.some.inj hd).symm)
  · replace hd := ifn c17 hd
    refine pt_iload_n G 1 dX7_lastEnd_27 rfl rfl ?_
    refine pt_aload_n G 0 dX7_lastEnd_28 rfl rfl ?_
    obtain ⟨w11, h12, hd⟩ := bnd hd
    refine pt_get G (ci := 7) (j := 4) rfl (by decide) u_X7_lastEnd_X7 m_X7_lastEnd_1 (gR_o h12) dX7_lastEnd_29 ?_
    refine pt_aload_n G 0 dX7_lastEnd_32 rfl rfl ?_
    obtain ⟨w13, h14, hd⟩ := bnd hd
    refine pt_get G (ci := 7) (j := 0) rfl (by decide) u_X7_lastEnd_X7 m_X7_lastEnd_2 (gR_o h14) dX7_lastEnd_33 ?_
    refine pt_iload_n G 2 dX7_lastEnd_36 rfl rfl ?_
    obtain ⟨v16, h15, hd⟩ := bnd hd
    refine X2_endOf_v G gX7_lastEnd_X2_endOf ⟨(Nat.le_of_ble_eq_true rfl), (Nat.le_of_ble_eq_true rfl)⟩ h15 dX7_lastEnd_37 (Nat.le_of_ble_eq_true rfl) ⟨(Nat.le_of_ble_eq_true rfl), (Nat.le_of_ble_eq_true rfl)⟩ ?_
    refine pt_mmax G m_X7_lastEnd_4 m_X7_lastEnd_5 m_X7_lastEnd_6 m_X7_lastEnd_7 (Nat.le_of_ble_eq_true rfl) (Nat.le_of_ble_eq_true rfl) ⟨(Nat.le_of_ble_eq_true rfl), (Nat.le_of_ble_eq_true rfl)⟩ dX7_lastEnd_40 ?_
    refine pt_istore_n G [(1, .int (iMax x1 v16)), (0, .ref a0), (2, .int x2)] dX7_lastEnd_43 rfl (by decide) rfl ?_
    refine pt_iinc G 2 (x2 + 1) [(2, .int (x2 + 1)), (1, .int (iMax x1 v16)), (0, .ref a0)] dX7_lastEnd_44 rfl (inc_1 _) (by decide) rfl ?_
    refine pt_goto G 16 dX7_lastEnd_47 (by decide) ?_
    exact pt_sub [2, 1, 0] rfl (hc ((iMax x1 v16), (x2 + 1)) (Option.some.inj hd).symm)
theorem X7_lastEnd_w16_w {X : Cx} (G : Gd X yX7_lastEnd cX7_lastEnd wsX7_lastEnd 3 (some .int) rX7_lastEnd) {M : Wo} {a0 : Nat} (n9 : Nat) (s9 : (Int32 × Int32)) (e9 : Int32) (hw : wloop (un2 (X7_lastEnd_b16 M a0)) n9 s9 = some e9) (hz : X7_lastEnd_Z16 X M a0 e9) : X7_lastEnd_P16 X M a0 s9 := by
  refine wl_ind (P := X7_lastEnd_P16 X M a0) (Z := X7_lastEnd_Z16 X M a0) ?_ n9 s9 e9 hw hz
  intro s9 o9 hd hc he
  obtain ⟨x1, x2⟩ := s9
  exact X7_lastEnd_b16_w G hd hc he
def X7_lastEnd (M : Wo) (a0 : Nat) : Option (Int32 × Wo) :=
  (ckO M a0 7).bind fun _ => (gR M a0 7 4).bind fun w1 => (gR M a0 7 0).bind fun w3 => (X2_traceAll M w1 w3).bind fun M6 => (wloop (un2 (X7_lastEnd_b16 M6 a0)) FU ((-6 : Int32), (0 : Int32))).bind fun v18 => some (v18, M6)
theorem X7_lastEnd_w {X : Cx} (G : Gd X yX7_lastEnd cX7_lastEnd wsX7_lastEnd 3 (some .int) rX7_lastEnd) {M : Wo} {a0 : Nat} {o : (Int32 × Wo)} (hd : X7_lastEnd M a0 = some o) (hQ : Qi X o.1 o.2 0 0) : Pt X 0 0 0 M [(0, .ref a0)] [] := by
  unfold X7_lastEnd at hd
  obtain ⟨_, _, hd⟩ := bnd hd
  refine pt_aload_n G 0 dX7_lastEnd_0 rfl rfl ?_
  obtain ⟨w1, h2, hd⟩ := bnd hd
  refine pt_get G (ci := 7) (j := 4) rfl (by decide) u_X7_lastEnd_X7 m_X7_lastEnd_1 (gR_o h2) dX7_lastEnd_1 ?_
  refine pt_aload_n G 0 dX7_lastEnd_4 rfl rfl ?_
  obtain ⟨w3, h4, hd⟩ := bnd hd
  refine pt_get G (ci := 7) (j := 0) rfl (by decide) u_X7_lastEnd_X7 m_X7_lastEnd_2 (gR_o h4) dX7_lastEnd_5 ?_
  obtain ⟨M6, h5, hd⟩ := bnd hd
  refine X2_traceAll_v G gX7_lastEnd_X2_traceAll ⟨(Nat.le_of_ble_eq_true rfl), (Nat.le_of_ble_eq_true rfl)⟩ h5 dX7_lastEnd_8 (Nat.le_of_ble_eq_true rfl) ⟨(Nat.le_of_ble_eq_true rfl), (Nat.le_of_ble_eq_true rfl)⟩ ?_
  refine pt_bipush G (-6 : Int32) dX7_lastEnd_11 bi_m6 ?_
  refine pt_istore_n G [(1, .int (-6 : Int32)), (0, .ref a0)] dX7_lastEnd_13 rfl (by decide) rfl ?_
  refine pt_iconst G (0 : Int32) dX7_lastEnd_14 ci_0 ?_
  refine pt_istore_n G [(2, .int (0 : Int32)), (1, .int (-6 : Int32)), (0, .ref a0)] dX7_lastEnd_15 rfl (by decide) rfl ?_
  obtain ⟨v18, hw19, hd⟩ := bnd hd
  refine pt_sub [2, 1, 0] rfl (X7_lastEnd_w16_w G _ _ _ hw19 ?_)
  show Pt X 0 0 _ _ _ []
  refine pt_iload_n G 0 dX7_lastEnd_50 rfl rfl ?_
  cases hd
  exact pt_iret G hQ dX7_lastEnd_51
theorem X7_lastEnd_c {l : Launch} {D : va_G} {dA : Nat → ClassId} {b : Nat} {M : Wo} {a0 : Nat} {r : Int32} {M2 : Wo} (h : X7_lastEnd M a0 = some (r, M2)) : Met l yX7_lastEnd wsX7_lastEnd rX7_lastEnd (va_Pc [.ref a0] (Wd D dA b M)) (Ei D dA b r M2) 0 0 (Ab b) := met_i (by decide) rfl (Nat.le_of_ble_eq_true rfl) (fun X G hN hQ => X7_lastEnd_w G h hQ)
theorem X7_lastEnd_v {X : Cx} {y : MethodName} {cc : ByteArray} {Ts : List Cond} {nL : Nat} {ret : Option FieldType} {R : Room} (G : Gd X y cc Ts nL ret R) {index : Nat} (hg : GoodIn Ts (wsV y.cls index RX7 yX7_lastEnd wsX7_lastEnd)) (hR : rX7_lastEnd.frames + 1 ≤ R.frames ∧ 8 + (3 + 11) + rX7_lastEnd.locals ≤ R.locals) {k n pc : Nat} {M : Wo} {lv : List (Nat × Value)} {st : List Value} {a0 : Nat} {r : Int32} {M2 : Wo} (hv : X7_lastEnd M a0 = some (r, M2)) (hd : decode cc pc = .ok (.invokevirtual index, 3)) (h8 : (st.map fun v => v.category).sum ≤ 8) (hf : k ≤ R.cells ∧ n ≤ R.slots) (kk : Pt X k n (pc + 3) M2 lv (.int r :: st)) : Pt X k n pc M lv (.ref a0 :: st) := pt_cVi (ci := 7) (nA := 0) (As := []) G (X7_lastEnd_c hv) hg rfl rfl rfl (by decide +kernel) hR rfl (rcv hv) rfl rfl h8 hd hf kk
abbrev rX7_count : Room := { frames := 5, cells := 0, slots := 0, locals := 151 }
theorem m_X7_count_2 : Cond.fieldLink RX7 123 "StageLines$Stage" "moveCount" "I" ∈ wsX7_count := List.mem_of_getElem? (i := 2) rfl
theorem u_X7_count_X6 : ∀ w ∈ u_ws RX6 TX6 4, w ∈ wsX7_count := mem_r [91, 92, 93, 94] (by decide +kernel)
theorem m_X7_count_1 : Cond.fieldLink RX7 12 "StageLines" "stage" "LStageLines$Stage;" ∈ wsX7_count := List.mem_of_getElem? (i := 1) rfl
theorem u_X7_count_X7 : ∀ w ∈ u_ws RX7 TX7 6, w ∈ wsX7_count := mem_r [85, 86, 87, 88, 89, 90] (by decide +kernel)
theorem m_X7_count_3 : Cond.fieldLink RX7 57 "StageLines$Stage" "sway" "I" ∈ wsX7_count := List.mem_of_getElem? (i := 3) rfl
theorem m_X7_count_4 : Cond.fieldLink RX7 20 "StageLines" "keptImages" "I" ∈ wsX7_count := List.mem_of_getElem? (i := 4) rfl
def X7_count (M : Wo) (a0 : Nat) (x1 : Int32) : Option (Int32 × Wo) :=
  (ckO M a0 7).bind fun _ => if x1 = (0 : Int32) then ((gR M a0 7 0).bind fun w2 => (gI M w2 6 2).bind fun v4 => some (v4, M)) else if x1 = (1 : Int32) then ((gR M a0 7 0).bind fun w7 => (gI M w7 6 3).bind fun v9 => some (v9, M)) else if x1 = (2 : Int32) then ((gR M a0 7 0).bind fun w12 => (X6_evenBars M w12).bind fun v15 => some (v15, M)) else if x1 = (3 : Int32) then ((gR M a0 7 0).bind fun w17 => (X6_nearPairs M w17).bind fun v20 => some (v20, M)) else if x1 = (4 : Int32) then ((X7_lastEnd M a0).bind (un2 fun v23 M24 => some (v23, M24))) else if x1 = (5 : Int32) then ((gI M a0 7 2).bind fun v26 => some (v26, M)) else (some ((-2 : Int32), M))
theorem X7_count_w {X : Cx} (G : Gd X yX7_count cX7_count wsX7_count 2 (some .int) rX7_count) {M : Wo} {a0 : Nat} {x1 : Int32} {o : (Int32 × Wo)} (hd : X7_count M a0 x1 = some o) (hQ : Qi X o.1 o.2 0 0) : Pt X 0 0 0 M [(0, .ref a0), (1, .int x1)] [] := by
  unfold X7_count at hd
  obtain ⟨_, _, hd⟩ := bnd hd
  refine pt_iload_n G 1 dX7_count_0 rfl rfl ?_
  by_cases c1 : x1 = (0 : Int32)
  · replace hd := ifp c1 hd
    refine pt_tsIn G 40 dX7_count_1 (by rw [c1]; decide) (by rw [c1]; decide) (by rw [c1]; rfl) (by decide) ?_
    refine pt_aload_n G 0 dX7_count_40 rfl rfl ?_
    obtain ⟨w2, h3, hd⟩ := bnd hd
    refine pt_get G (ci := 7) (j := 0) rfl (by decide) u_X7_count_X7 m_X7_count_1 (gR_o h3) dX7_count_41 ?_
    obtain ⟨v4, h5, hd⟩ := bnd hd
    refine pt_get G (ci := 6) (j := 2) rfl (by decide) u_X7_count_X6 m_X7_count_2 (gI_o h5) dX7_count_44 ?_
    cases hd
    exact pt_iret G hQ dX7_count_47
  replace hd := ifn c1 hd
  by_cases c6 : x1 = (1 : Int32)
  · replace hd := ifp c6 hd
    refine pt_tsIn G 48 dX7_count_1 (by rw [c6]; decide) (by rw [c6]; decide) (by rw [c6]; rfl) (by decide) ?_
    refine pt_aload_n G 0 dX7_count_48 rfl rfl ?_
    obtain ⟨w7, h8, hd⟩ := bnd hd
    refine pt_get G (ci := 7) (j := 0) rfl (by decide) u_X7_count_X7 m_X7_count_1 (gR_o h8) dX7_count_49 ?_
    obtain ⟨v9, h10, hd⟩ := bnd hd
    refine pt_get G (ci := 6) (j := 3) rfl (by decide) u_X7_count_X6 m_X7_count_3 (gI_o h10) dX7_count_52 ?_
    cases hd
    exact pt_iret G hQ dX7_count_55
  replace hd := ifn c6 hd
  by_cases c11 : x1 = (2 : Int32)
  · replace hd := ifp c11 hd
    refine pt_tsIn G 56 dX7_count_1 (by rw [c11]; decide) (by rw [c11]; decide) (by rw [c11]; rfl) (by decide) ?_
    refine pt_aload_n G 0 dX7_count_56 rfl rfl ?_
    obtain ⟨w12, h13, hd⟩ := bnd hd
    refine pt_get G (ci := 7) (j := 0) rfl (by decide) u_X7_count_X7 m_X7_count_1 (gR_o h13) dX7_count_57 ?_
    obtain ⟨v15, h14, hd⟩ := bnd hd
    refine X6_evenBars_v G gX7_count_X6_evenBars ⟨(Nat.le_of_ble_eq_true rfl), (Nat.le_of_ble_eq_true rfl)⟩ h14 dX7_count_60 (Nat.le_of_ble_eq_true rfl) ⟨(Nat.le_of_ble_eq_true rfl), (Nat.le_of_ble_eq_true rfl)⟩ ?_
    cases hd
    exact pt_iret G hQ dX7_count_63
  replace hd := ifn c11 hd
  by_cases c16 : x1 = (3 : Int32)
  · replace hd := ifp c16 hd
    refine pt_tsIn G 64 dX7_count_1 (by rw [c16]; decide) (by rw [c16]; decide) (by rw [c16]; rfl) (by decide) ?_
    refine pt_aload_n G 0 dX7_count_64 rfl rfl ?_
    obtain ⟨w17, h18, hd⟩ := bnd hd
    refine pt_get G (ci := 7) (j := 0) rfl (by decide) u_X7_count_X7 m_X7_count_1 (gR_o h18) dX7_count_65 ?_
    obtain ⟨v20, h19, hd⟩ := bnd hd
    refine X6_nearPairs_v G gX7_count_X6_nearPairs ⟨(Nat.le_of_ble_eq_true rfl), (Nat.le_of_ble_eq_true rfl)⟩ h19 dX7_count_68 (Nat.le_of_ble_eq_true rfl) ⟨(Nat.le_of_ble_eq_true rfl), (Nat.le_of_ble_eq_true rfl)⟩ ?_
    cases hd
    exact pt_iret G hQ dX7_count_71
  replace hd := ifn c16 hd
  by_cases c21 : x1 = (4 : Int32)
  · replace hd := ifp c21 hd
    refine pt_tsIn G 72 dX7_count_1 (by rw [c21]; decide) (by rw [c21]; decide) (by rw [c21]; rfl) (by decide) ?_
    refine pt_aload_n G 0 dX7_count_72 rfl rfl ?_
    obtain ⟨⟨v23, M24⟩, h22, hd⟩ := bnd hd
    replace hd := un2_e hd
    refine X7_lastEnd_v G gX7_count_X7_lastEnd ⟨(Nat.le_of_ble_eq_true rfl), (Nat.le_of_ble_eq_true rfl)⟩ h22 dX7_count_73 (Nat.le_of_ble_eq_true rfl) ⟨(Nat.le_of_ble_eq_true rfl), (Nat.le_of_ble_eq_true rfl)⟩ ?_
    cases hd
    exact pt_iret G hQ dX7_count_76
  replace hd := ifn c21 hd
  by_cases c25 : x1 = (5 : Int32)
  · replace hd := ifp c25 hd
    refine pt_tsIn G 77 dX7_count_1 (by rw [c25]; decide) (by rw [c25]; decide) (by rw [c25]; rfl) (by decide) ?_
    refine pt_aload_n G 0 dX7_count_77 rfl rfl ?_
    obtain ⟨v26, h27, hd⟩ := bnd hd
    refine pt_get G (ci := 7) (j := 2) rfl (by decide) u_X7_count_X7 m_X7_count_4 (gI_o h27) dX7_count_78 ?_
    cases hd
    exact pt_iret G hQ dX7_count_81
  replace hd := ifn c25 hd
  have nc1 : x1.toInt ≠ 0 := fun h => c1 (Int32.toInt_inj.mp (h.trans (by decide)))
  have nc6 : x1.toInt ≠ 1 := fun h => c6 (Int32.toInt_inj.mp (h.trans (by decide)))
  have nc11 : x1.toInt ≠ 2 := fun h => c11 (Int32.toInt_inj.mp (h.trans (by decide)))
  have nc16 : x1.toInt ≠ 3 := fun h => c16 (Int32.toInt_inj.mp (h.trans (by decide)))
  have nc21 : x1.toInt ≠ 4 := fun h => c21 (Int32.toInt_inj.mp (h.trans (by decide)))
  have nc25 : x1.toInt ≠ 5 := fun h => c25 (Int32.toInt_inj.mp (h.trans (by decide)))
  refine pt_tsOut G 82 dX7_count_1 (by omega) (by decide) ?_
  refine pt_bipush G (-2 : Int32) dX7_count_82 bi_m2 ?_
  cases hd
  exact pt_iret G hQ dX7_count_84
theorem X7_count_c {l : Launch} {D : va_G} {dA : Nat → ClassId} {b : Nat} {M : Wo} {a0 : Nat} {x1 : Int32} {r : Int32} {M2 : Wo} (h : X7_count M a0 x1 = some (r, M2)) : Met l yX7_count wsX7_count rX7_count (va_Pc [.ref a0, .int x1] (Wd D dA b M)) (Ei D dA b r M2) 0 0 (Ab b) := met_i (by decide) rfl (Nat.le_of_ble_eq_true rfl) (fun X G hN hQ => X7_count_w G h hQ)
theorem X7_count_v {X : Cx} {y : MethodName} {cc : ByteArray} {Ts : List Cond} {nL : Nat} {ret : Option FieldType} {R : Room} (G : Gd X y cc Ts nL ret R) {index : Nat} (hg : GoodIn Ts (wsV y.cls index RX7 yX7_count wsX7_count)) (hR : rX7_count.frames + 1 ≤ R.frames ∧ 8 + (2 + 11) + rX7_count.locals ≤ R.locals) {k n pc : Nat} {M : Wo} {lv : List (Nat × Value)} {st : List Value} {a0 : Nat} {x1 : Int32} {r : Int32} {M2 : Wo} (hv : X7_count M a0 x1 = some (r, M2)) (hd : decode cc pc = .ok (.invokevirtual index, 3)) (h8 : (st.map fun v => v.category).sum ≤ 8) (hf : k ≤ R.cells ∧ n ≤ R.slots) (kk : Pt X k n (pc + 3) M2 lv (.int r :: st)) : Pt X k n pc M lv (.int x1 :: .ref a0 :: st) := pt_cVi (ci := 7) (nA := 1) (As := [.int x1]) G (X7_count_c hv) hg rfl rfl rfl (by decide +kernel) hR rfl (rcv hv) rfl rfl h8 hd hf kk
