abbrev rX8_init : Room := { frames := 1, cells := 11, slots := 10123, locals := 60 }
theorem m_X8_init_5 : Cond.fieldLink RX8 7 "StageLinesModel" "state" "[I" ∈ wsX8_init := List.mem_of_getElem? (i := 5) rfl
theorem u_X8_init_X8 : ∀ w ∈ u_ws RX8 TX8 13, w ∈ wsX8_init := mem_r [17, 18, 19, 20, 21, 22, 23, 24, 25, 26, 27, 28, 29] (by decide +kernel)
theorem m_X8_init_16 : Cond.fieldLink RX8 41 "StageLinesModel" "hand" "[I" ∈ wsX8_init := List.mem_of_getElem? (i := 16) rfl
theorem m_X8_init_4 : Cond.arrayClass .int ∈ wsX8_init := List.mem_of_getElem? (i := 4) rfl
theorem m_X8_init_15 : Cond.fieldLink RX8 38 "StageLinesModel" "least" "[I" ∈ wsX8_init := List.mem_of_getElem? (i := 15) rfl
theorem m_X8_init_14 : Cond.fieldLink RX8 35 "StageLinesModel" "isOne" "[Z" ∈ wsX8_init := List.mem_of_getElem? (i := 14) rfl
theorem m_X8_init_7 : Cond.arrayClass .boolean ∈ wsX8_init := List.mem_of_getElem? (i := 7) rfl
theorem m_X8_init_13 : Cond.fieldLink RX8 32 "StageLinesModel" "ends" "[I" ∈ wsX8_init := List.mem_of_getElem? (i := 13) rfl
theorem m_X8_init_12 : Cond.fieldLink RX8 29 "StageLinesModel" "able" "[I" ∈ wsX8_init := List.mem_of_getElem? (i := 12) rfl
theorem m_X8_init_11 : Cond.fieldLink RX8 26 "StageLinesModel" "rows" "[I" ∈ wsX8_init := List.mem_of_getElem? (i := 11) rfl
theorem m_X8_init_10 : Cond.fieldLink RX8 23 "StageLinesModel" "heights" "[I" ∈ wsX8_init := List.mem_of_getElem? (i := 10) rfl
theorem m_X8_init_9 : Cond.fieldLink RX8 20 "StageLinesModel" "ways" "[I" ∈ wsX8_init := List.mem_of_getElem? (i := 9) rfl
theorem m_X8_init_8 : Cond.fieldLink RX8 16 "StageLinesModel" "isKept" "[Z" ∈ wsX8_init := List.mem_of_getElem? (i := 8) rfl
theorem m_X8_init_6 : Cond.fieldLink RX8 13 "StageLinesModel" "images" "[I" ∈ wsX8_init := List.mem_of_getElem? (i := 6) rfl
theorem m_X8_init_1 : Cond.methodLink RX8 1 objectInit ∈ wsX8_init := List.mem_of_getElem? (i := 1) rfl
theorem m_X8_init_2 : Cond.instanceMethod objectInit ∈ wsX8_init := List.mem_of_getElem? (i := 2) rfl
theorem m_X8_init_3 : Cond.code objectInit ⟨#[0xb1]⟩ 1 none ∈ wsX8_init := List.mem_of_getElem? (i := 3) rfl
abbrev X8_init_P100 (X : Cx) (a0 : Nat) : (Wo × Int32) → Prop := un2 (fun M x1 => Pt X 11 10123 100 M [(0, .ref a0), (1, .int x1)] [])
abbrev X8_init_Z100 (X : Cx) (a0 : Nat) : Wo → Prop := (un1 (fun M => Pt X 11 10123 122 M [(0, .ref a0)] []))
def X8_init_b100 (a0 : Nat) (M : Wo) (x1 : Int32) : Option ((Wo × Int32) ⊕ Wo) :=
  if (10 : Int32) ≤ x1 then (some (.inr M)) else ((gR M a0 8 0).bind fun w56 => (sA M w56 ((0 : Int32) + x1) (60 : Int32)).bind fun M58 => some (.inl (M58, (x1 + 1))))
theorem X8_init_b100_w {X : Cx} (G : Gd X yX8_init cX8_init wsX8_init 2 none rX8_init) (hN : (xT X).name = "<init>") {a0 : Nat} {M : Wo} {x1 : Int32} {o : ((Wo × Int32) ⊕ Wo)} (hd : X8_init_b100 a0 M x1 = some o) (hc : ∀ s9, o = .inl s9 → X8_init_P100 X a0 s9) (he : ∀ e9, o = .inr e9 → X8_init_Z100 X a0 e9) : Pt X 11 10123 100 M [(0, .ref a0), (1, .int x1)] [] := by
  unfold X8_init_b100 at hd
  refine pt_iload_n G 1 dX8_init_100 rfl rfl ?_
  refine pt_bipush G (10 : Int32) dX8_init_101 bi_10 ?_
  refine pt_icmp_ge G 122 dX8_init_103 (by decide) (fun c60 => ?_) (fun c60 => ?_)
  · replace hd := ifp c60 hd
    exact pt_sub [0] rfl (he M (Option.some.inj hd).symm)
  · replace hd := ifn c60 hd
    refine pt_aload_n G 0 dX8_init_106 rfl rfl ?_
    obtain ⟨w56, h57, hd⟩ := bnd hd
    refine pt_get G (ci := 8) (j := 0) rfl (by decide) u_X8_init_X8 m_X8_init_5 (gR_o h57) dX8_init_107 ?_
    refine pt_iconst G (0 : Int32) dX8_init_110 ci_0 ?_
    refine pt_iload_n G 1 dX8_init_111 rfl rfl ?_
    refine pt_iadd G dX8_init_112 ?_
    refine pt_bipush G (60 : Int32) dX8_init_113 bi_60 ?_
    obtain ⟨M58, h59, hd⟩ := bnd hd
    refine pt_iast G h59 dX8_init_115 ?_
    refine pt_iinc G 1 (x1 + 1) [(1, .int (x1 + 1)), (0, .ref a0)] dX8_init_116 rfl (inc_1 _) (by decide) rfl ?_
    refine pt_goto G 100 dX8_init_119 (by decide) ?_
    exact pt_sub [1, 0] rfl (hc (M58, (x1 + 1)) (Option.some.inj hd).symm)
theorem X8_init_w100_w {X : Cx} (G : Gd X yX8_init cX8_init wsX8_init 2 none rX8_init) (hN : (xT X).name = "<init>") {a0 : Nat} (n9 : Nat) (s9 : (Wo × Int32)) (e9 : Wo) (hw : wloop (un2 (X8_init_b100 a0)) n9 s9 = some e9) (hz : X8_init_Z100 X a0 e9) : X8_init_P100 X a0 s9 := by
  refine wl_ind (P := X8_init_P100 X a0) (Z := X8_init_Z100 X a0) ?_ n9 s9 e9 hw hz
  intro s9 o9 hd hc he
  obtain ⟨M, x1⟩ := s9
  exact X8_init_b100_w G hN hd hc he
def X8_init (M : Wo) (a0 : Nat) : Option Wo :=
  (ckO M a0 8).bind fun _ => (nwA M 0 212).bind (un2 fun w1 M2 => (pV M2 a0 8 0 (.ref w1)).bind fun M4 => (nwA M4 0 424).bind (un2 fun w6 M7 => (pV M7 a0 8 1 (.ref w6)).bind fun M9 => (nwA M9 1 2).bind (un2 fun w11 M12 => (pV M12 a0 8 2 (.ref w11)).bind fun M14 => (nwA M14 0 4096).bind (un2 fun w16 M17 => (pV M17 a0 8 3 (.ref w16)).bind fun M19 => (nwA M19 0 301).bind (un2 fun w21 M22 => (pV M22 a0 8 5 (.ref w21)).bind fun M24 => (nwA M24 0 3010).bind (un2 fun w26 M27 => (pV M27 a0 8 6 (.ref w26)).bind fun M29 => (nwA M29 0 10).bind (un2 fun w31 M32 => (pV M32 a0 8 7 (.ref w31)).bind fun M34 => (nwA M34 0 10).bind (un2 fun w36 M37 => (pV M37 a0 8 8 (.ref w36)).bind fun M39 => (nwA M39 1 1024).bind (un2 fun w41 M42 => (pV M42 a0 8 10 (.ref w41)).bind fun M44 => (nwA M44 0 1024).bind (un2 fun w46 M47 => (pV M47 a0 8 11 (.ref w46)).bind fun M49 => (nwA M49 0 10).bind (un2 fun w51 M52 => (pV M52 a0 8 12 (.ref w51)).bind fun M54 => (wloop (un2 (X8_init_b100 a0)) FU (M54, (0 : Int32))).bind fun M61 => (gR M61 a0 8 0).bind fun w62 => (sA M61 w62 (170 : Int32) (20 : Int32)).bind fun M64 => some M64)))))))))))
theorem X8_init_w {X : Cx} (G : Gd X yX8_init cX8_init wsX8_init 2 none rX8_init) (hN : (xT X).name = "<init>") {M : Wo} {a0 : Nat} {o : Wo} (hd : X8_init M a0 = some o) (hQ : Qv X o 11 10123) : Pt X 0 0 0 M [(0, .ref a0)] [] := by
  unfold X8_init at hd
  obtain ⟨_, _, hd⟩ := bnd hd
  refine pt_aload_n G 0 dX8_init_0 rfl rfl ?_
  refine pt_obj G m_X8_init_1 m_X8_init_2 m_X8_init_3 (Nat.le_of_ble_eq_true rfl) (Nat.le_of_ble_eq_true rfl) dX8_init_1 ?_
  refine pt_aload_n G 0 dX8_init_4 rfl rfl ?_
  refine pt_sipush G (212 : Int32) dX8_init_5 si_212 ?_
  obtain ⟨⟨w1, M2⟩, h3, hd⟩ := bnd hd
  replace hd := un2_e hd
  refine pt_newaE G (kd := 0) (N := 212) (atype := .int) rfl (fun _ => rfl) m_X8_init_4 rfl (by decide) (by decide) (by decide) (by decide) (by decide) h3 dX8_init_8 ?_
  obtain ⟨M4, h5, hd⟩ := bnd hd
  refine pt_putF G hN (ci := 8) (j := 0) rfl (by decide) u_X8_init_X8 m_X8_init_5 tyX8 tyX8_ok nmX8 rfl rfl rfl rfl h5 dX8_init_10 ?_
  refine pt_aload_n G 0 dX8_init_13 rfl rfl ?_
  refine pt_sipush G (424 : Int32) dX8_init_14 si_424 ?_
  obtain ⟨⟨w6, M7⟩, h8, hd⟩ := bnd hd
  replace hd := un2_e hd
  refine pt_newaE G (kd := 0) (N := 424) (atype := .int) rfl (fun _ => rfl) m_X8_init_4 rfl (by decide) (by decide) (by decide) (by decide) (by decide) h8 dX8_init_17 ?_
  obtain ⟨M9, h10, hd⟩ := bnd hd
  refine pt_putF G hN (ci := 8) (j := 1) rfl (by decide) u_X8_init_X8 m_X8_init_6 tyX8 tyX8_ok nmX8 rfl rfl rfl rfl h10 dX8_init_19 ?_
  refine pt_aload_n G 0 dX8_init_22 rfl rfl ?_
  refine pt_iconst G (2 : Int32) dX8_init_23 ci_2 ?_
  obtain ⟨⟨w11, M12⟩, h13, hd⟩ := bnd hd
  replace hd := un2_e hd
  refine pt_newaE G (kd := 1) (N := 2) (atype := .boolean) rfl (fun _ => rfl) m_X8_init_7 rfl (by decide) (by decide) (by decide) (by decide) (by decide) h13 dX8_init_24 ?_
  obtain ⟨M14, h15, hd⟩ := bnd hd
  refine pt_putF G hN (ci := 8) (j := 2) rfl (by decide) u_X8_init_X8 m_X8_init_8 tyX8 tyX8_ok nmX8 rfl rfl rfl rfl h15 dX8_init_26 ?_
  refine pt_aload_n G 0 dX8_init_29 rfl rfl ?_
  refine pt_sipush G (4096 : Int32) dX8_init_30 si_4096 ?_
  obtain ⟨⟨w16, M17⟩, h18, hd⟩ := bnd hd
  replace hd := un2_e hd
  refine pt_newaE G (kd := 0) (N := 4096) (atype := .int) rfl (fun _ => rfl) m_X8_init_4 rfl (by decide) (by decide) (by decide) (by decide) (by decide) h18 dX8_init_33 ?_
  obtain ⟨M19, h20, hd⟩ := bnd hd
  refine pt_putF G hN (ci := 8) (j := 3) rfl (by decide) u_X8_init_X8 m_X8_init_9 tyX8 tyX8_ok nmX8 rfl rfl rfl rfl h20 dX8_init_35 ?_
  refine pt_aload_n G 0 dX8_init_38 rfl rfl ?_
  refine pt_sipush G (301 : Int32) dX8_init_39 si_301 ?_
  obtain ⟨⟨w21, M22⟩, h23, hd⟩ := bnd hd
  replace hd := un2_e hd
  refine pt_newaE G (kd := 0) (N := 301) (atype := .int) rfl (fun _ => rfl) m_X8_init_4 rfl (by decide) (by decide) (by decide) (by decide) (by decide) h23 dX8_init_42 ?_
  obtain ⟨M24, h25, hd⟩ := bnd hd
  refine pt_putF G hN (ci := 8) (j := 5) rfl (by decide) u_X8_init_X8 m_X8_init_10 tyX8 tyX8_ok nmX8 rfl rfl rfl rfl h25 dX8_init_44 ?_
  refine pt_aload_n G 0 dX8_init_47 rfl rfl ?_
  refine pt_sipush G (3010 : Int32) dX8_init_48 si_3010 ?_
  obtain ⟨⟨w26, M27⟩, h28, hd⟩ := bnd hd
  replace hd := un2_e hd
  refine pt_newaE G (kd := 0) (N := 3010) (atype := .int) rfl (fun _ => rfl) m_X8_init_4 rfl (by decide) (by decide) (by decide) (by decide) (by decide) h28 dX8_init_51 ?_
  obtain ⟨M29, h30, hd⟩ := bnd hd
  refine pt_putF G hN (ci := 8) (j := 6) rfl (by decide) u_X8_init_X8 m_X8_init_11 tyX8 tyX8_ok nmX8 rfl rfl rfl rfl h30 dX8_init_53 ?_
  refine pt_aload_n G 0 dX8_init_56 rfl rfl ?_
  refine pt_bipush G (10 : Int32) dX8_init_57 bi_10 ?_
  obtain ⟨⟨w31, M32⟩, h33, hd⟩ := bnd hd
  replace hd := un2_e hd
  refine pt_newaE G (kd := 0) (N := 10) (atype := .int) rfl (fun _ => rfl) m_X8_init_4 rfl (by decide) (by decide) (by decide) (by decide) (by decide) h33 dX8_init_59 ?_
  obtain ⟨M34, h35, hd⟩ := bnd hd
  refine pt_putF G hN (ci := 8) (j := 7) rfl (by decide) u_X8_init_X8 m_X8_init_12 tyX8 tyX8_ok nmX8 rfl rfl rfl rfl h35 dX8_init_61 ?_
  refine pt_aload_n G 0 dX8_init_64 rfl rfl ?_
  refine pt_bipush G (10 : Int32) dX8_init_65 bi_10 ?_
  obtain ⟨⟨w36, M37⟩, h38, hd⟩ := bnd hd
  replace hd := un2_e hd
  refine pt_newaE G (kd := 0) (N := 10) (atype := .int) rfl (fun _ => rfl) m_X8_init_4 rfl (by decide) (by decide) (by decide) (by decide) (by decide) h38 dX8_init_67 ?_
  obtain ⟨M39, h40, hd⟩ := bnd hd
  refine pt_putF G hN (ci := 8) (j := 8) rfl (by decide) u_X8_init_X8 m_X8_init_13 tyX8 tyX8_ok nmX8 rfl rfl rfl rfl h40 dX8_init_69 ?_
  refine pt_aload_n G 0 dX8_init_72 rfl rfl ?_
  refine pt_sipush G (1024 : Int32) dX8_init_73 si_1024 ?_
  obtain ⟨⟨w41, M42⟩, h43, hd⟩ := bnd hd
  replace hd := un2_e hd
  refine pt_newaE G (kd := 1) (N := 1024) (atype := .boolean) rfl (fun _ => rfl) m_X8_init_7 rfl (by decide) (by decide) (by decide) (by decide) (by decide) h43 dX8_init_76 ?_
  obtain ⟨M44, h45, hd⟩ := bnd hd
  refine pt_putF G hN (ci := 8) (j := 10) rfl (by decide) u_X8_init_X8 m_X8_init_14 tyX8 tyX8_ok nmX8 rfl rfl rfl rfl h45 dX8_init_78 ?_
  refine pt_aload_n G 0 dX8_init_81 rfl rfl ?_
  refine pt_sipush G (1024 : Int32) dX8_init_82 si_1024 ?_
  obtain ⟨⟨w46, M47⟩, h48, hd⟩ := bnd hd
  replace hd := un2_e hd
  refine pt_newaE G (kd := 0) (N := 1024) (atype := .int) rfl (fun _ => rfl) m_X8_init_4 rfl (by decide) (by decide) (by decide) (by decide) (by decide) h48 dX8_init_85 ?_
  obtain ⟨M49, h50, hd⟩ := bnd hd
  refine pt_putF G hN (ci := 8) (j := 11) rfl (by decide) u_X8_init_X8 m_X8_init_15 tyX8 tyX8_ok nmX8 rfl rfl rfl rfl h50 dX8_init_87 ?_
  refine pt_aload_n G 0 dX8_init_90 rfl rfl ?_
  refine pt_bipush G (10 : Int32) dX8_init_91 bi_10 ?_
  obtain ⟨⟨w51, M52⟩, h53, hd⟩ := bnd hd
  replace hd := un2_e hd
  refine pt_newaE G (kd := 0) (N := 10) (atype := .int) rfl (fun _ => rfl) m_X8_init_4 rfl (by decide) (by decide) (by decide) (by decide) (by decide) h53 dX8_init_93 ?_
  obtain ⟨M54, h55, hd⟩ := bnd hd
  refine pt_putF G hN (ci := 8) (j := 12) rfl (by decide) u_X8_init_X8 m_X8_init_16 tyX8 tyX8_ok nmX8 rfl rfl rfl rfl h55 dX8_init_95 ?_
  refine pt_iconst G (0 : Int32) dX8_init_98 ci_0 ?_
  refine pt_istore_n G [(1, .int (0 : Int32)), (0, .ref a0)] dX8_init_99 rfl (by decide) rfl ?_
  obtain ⟨M61, hw66, hd⟩ := bnd hd
  refine pt_sub [1, 0] rfl (X8_init_w100_w G hN _ _ _ hw66 ?_)
  show Pt X 11 10123 _ _ _ []
  refine pt_aload_n G 0 dX8_init_122 rfl rfl ?_
  obtain ⟨w62, h63, hd⟩ := bnd hd
  refine pt_get G (ci := 8) (j := 0) rfl (by decide) u_X8_init_X8 m_X8_init_5 (gR_o h63) dX8_init_123 ?_
  refine pt_sipush G (170 : Int32) dX8_init_126 si_170 ?_
  refine pt_bipush G (20 : Int32) dX8_init_129 bi_20 ?_
  obtain ⟨M64, h65, hd⟩ := bnd hd
  refine pt_iast G h65 dX8_init_131 ?_
  cases hd
  exact pt_vret G hQ dX8_init_132
theorem X8_init_c {l : Launch} {D : va_G} {dA : Nat → ClassId} {b : Nat} {M : Wo} {a0 : Nat} {M2 : Wo} (h : X8_init M a0 = some M2) : Met l yX8_init wsX8_init rX8_init (va_Pc [.ref a0] (Wd D dA b M)) (Ev D dA b M2) 11 10123 (Ab b) := met_v (by decide) rfl (Nat.le_of_ble_eq_true rfl) (fun X G hN hQ => X8_init_w G hN h hQ)
theorem X8_init_vi {X : Cx} {y : MethodName} {cc : ByteArray} {Ts : List Cond} {nL : Nat} {ret : Option FieldType} {R : Room} (G : Gd X y cc Ts nL ret R) {index : Nat} (hg : GoodIn Ts wsX8_init) (hini : Cond.initialized yX8_init.cls ∈ Ts) (hl : Cond.methodLink y.cls index yX8_init ∈ Ts) (hi : Cond.instanceMethod yX8_init ∈ Ts) (hR : rX8_init.frames + 1 ≤ R.frames ∧ 8 + (2 + 11) + rX8_init.locals ≤ R.locals) {k n pc : Nat} {M : Wo} {lv : List (Nat × Value)} {st : List Value} {a0 : Nat} {M2 : Wo} (hv : X8_init M a0 = some M2) (hd : decode cc pc = .ok (.invokespecial index, 3)) (h8 : (st.map fun v => v.category).sum ≤ 8) (hf : k + 11 ≤ R.cells ∧ n + 10123 ≤ R.slots) (kk : Pt X (k + 11) (n + 10123) (pc + 3) M2 lv st) : Pt X k n pc M lv (.ref a0 :: st) := pt_cI (nA := 0) (As := []) G (X8_init_c hv) hg rfl rfl rfl hini hl hi rfl (by decide +kernel) hR rfl rfl h8 hd hf kk
theorem X8_init_vn {X : Cx} {y : MethodName} {cc : ByteArray} {Ts : List Cond} {nL : Nat} {ret : Option FieldType} {R : Room} (G : Gd X y cc Ts nL ret R) {index : Nat} (hg : GoodIn Ts wsX8_init) (hini : Cond.initialized yX8_init.cls ∈ Ts) (hl : va_Nw (.methodLinkNest y.cls index yX8_init "StageLines") (xS X)) (hi : Cond.instanceMethod yX8_init ∈ Ts) (hR : rX8_init.frames + 1 ≤ R.frames ∧ 8 + (2 + 11) + rX8_init.locals ≤ R.locals) {k n pc : Nat} {M : Wo} {lv : List (Nat × Value)} {st : List Value} {a0 : Nat} {M2 : Wo} (hv : X8_init M a0 = some M2) (hd : decode cc pc = .ok (.invokespecial index, 3)) (h8 : (st.map fun v => v.category).sum ≤ 8) (hf : k + 11 ≤ R.cells ∧ n + 10123 ≤ R.slots) (kk : Pt X (k + 11) (n + 10123) (pc + 3) M2 lv st) : Pt X k n pc M lv (.ref a0 :: st) := pt_cN (nA := 0) (As := []) G (X8_init_c hv) hg rfl rfl rfl hini hl hi rfl (by decide +kernel) hR rfl rfl h8 hd hf kk
abbrev rX8_in : Room := { frames := 0, cells := 0, slots := 0, locals := 0 }
def X8_in (M : Wo) (x0 : Int32) (x1 : Int32) (x2 : Int32) : Option Int32 :=
  if x0 < x1 then (some (0 : Int32)) else (if x2 < x0 then (some (0 : Int32)) else (some (1 : Int32)))
theorem X8_in_w {X : Cx} (G : Gd X yX8_in cX8_in wsX8_in 3 (some .boolean) rX8_in) {M : Wo} {x0 : Int32} {x1 : Int32} {x2 : Int32} {o : Int32} (hd : X8_in M x0 x1 x2 = some o) (hQ : Qi X o M 0 0) : Pt X 0 0 0 M [(0, .int x0), (1, .int x1), (2, .int x2)] [] := by
  unfold X8_in at hd
  refine pt_iload_n G 0 dX8_in_0 rfl rfl ?_
  refine pt_iload_n G 1 dX8_in_1 rfl rfl ?_
  refine pt_icmp_lt G 14 dX8_in_2 (by decide) (fun c2 => ?_) (fun c2 => ?_)
  · replace hd := ifp c2 hd
    refine pt_iconst G (0 : Int32) dX8_in_14 ci_0 ?_
    cases hd
    exact pt_zret G (by decide) hQ dX8_in_15
  · replace hd := ifn c2 hd
    refine pt_iload_n G 0 dX8_in_5 rfl rfl ?_
    refine pt_iload_n G 2 dX8_in_6 rfl rfl ?_
    refine pt_icmp_gt G 14 dX8_in_7 (by decide) (fun c1 => ?_) (fun c1 => ?_)
    · replace hd := ifp c1 hd
      refine pt_iconst G (0 : Int32) dX8_in_14 ci_0 ?_
      cases hd
      exact pt_zret G (by decide) hQ dX8_in_15
    · replace hd := ifn c1 hd
      refine pt_iconst G (1 : Int32) dX8_in_10 ci_1 ?_
      refine pt_goto G 15 dX8_in_11 (by decide) ?_
      cases hd
      exact pt_zret G (by decide) hQ dX8_in_15
theorem X8_in_c {l : Launch} {D : va_G} {dA : Nat → ClassId} {b : Nat} {M : Wo} {x0 : Int32} {x1 : Int32} {x2 : Int32} {r : Int32} (h : X8_in M x0 x1 x2 = some r) : Met l yX8_in wsX8_in rX8_in (va_Pc [.int x0, .int x1, .int x2] (Wd D dA b M)) (Ei D dA b r M) 0 0 (Ab b) := met_i (by decide) rfl (Nat.le_of_ble_eq_true rfl) (fun X G hN hQ => X8_in_w G h hQ)
theorem X8_in_v {X : Cx} {y : MethodName} {cc : ByteArray} {Ts : List Cond} {nL : Nat} {ret : Option FieldType} {R : Room} (G : Gd X y cc Ts nL ret R) {index : Nat} (hg : GoodIn Ts (va_wsS y.cls index yX8_in wsX8_in)) (hR : rX8_in.frames + 1 ≤ R.frames ∧ 8 + (3 + 11) + rX8_in.locals ≤ R.locals) {k n pc : Nat} {M : Wo} {lv : List (Nat × Value)} {st : List Value} {x0 : Int32} {x1 : Int32} {x2 : Int32} {r : Int32} (hv : X8_in M x0 x1 x2 = some r) (hd : decode cc pc = .ok (.invokestatic index, 3)) (h8 : (st.map fun v => v.category).sum ≤ 8) (hf : k ≤ R.cells ∧ n ≤ R.slots) (kk : Pt X k n (pc + 3) M lv (.int r :: st)) : Pt X k n pc M lv (.int x2 :: .int x1 :: .int x0 :: st) := pt_cSi (nA := 3) (As := [.int x0, .int x1, .int x2]) G (X8_in_c hv) hg rfl rfl rfl (by decide +kernel) hR rfl rfl h8 hd hf kk
abbrev rX8_isBar : Room := { frames := 1, cells := 0, slots := 0, locals := 22 }
def X8_isBar (M : Wo) (x0 : Int32) : Option Int32 :=
  (X8_in M x0 (0 : Int32) (9 : Int32)).bind fun v2 => (ckB v2).bind fun _ => some v2
theorem X8_isBar_w {X : Cx} (G : Gd X yX8_isBar cX8_isBar wsX8_isBar 1 (some .boolean) rX8_isBar) {M : Wo} {x0 : Int32} {o : Int32} (hd : X8_isBar M x0 = some o) (hQ : Qi X o M 0 0) : Pt X 0 0 0 M [(0, .int x0)] [] := by
  unfold X8_isBar at hd
  refine pt_iload_n G 0 dX8_isBar_0 rfl rfl ?_
  refine pt_iconst G (0 : Int32) dX8_isBar_1 ci_0 ?_
  refine pt_bipush G (9 : Int32) dX8_isBar_2 bi_9 ?_
  obtain ⟨v2, h1, hd⟩ := bnd hd
  refine X8_in_v G gX8_isBar_X8_in ⟨(Nat.le_of_ble_eq_true rfl), (Nat.le_of_ble_eq_true rfl)⟩ h1 dX8_isBar_4 (Nat.le_of_ble_eq_true rfl) ⟨(Nat.le_of_ble_eq_true rfl), (Nat.le_of_ble_eq_true rfl)⟩ ?_
  obtain ⟨_, h3, hd⟩ := bnd hd
  cases hd
  exact pt_zret G (ckB_o h3) hQ dX8_isBar_7
theorem X8_isBar_c {l : Launch} {D : va_G} {dA : Nat → ClassId} {b : Nat} {M : Wo} {x0 : Int32} {r : Int32} (h : X8_isBar M x0 = some r) : Met l yX8_isBar wsX8_isBar rX8_isBar (va_Pc [.int x0] (Wd D dA b M)) (Ei D dA b r M) 0 0 (Ab b) := met_i (by decide) rfl (Nat.le_of_ble_eq_true rfl) (fun X G hN hQ => X8_isBar_w G h hQ)
theorem X8_isBar_v {X : Cx} {y : MethodName} {cc : ByteArray} {Ts : List Cond} {nL : Nat} {ret : Option FieldType} {R : Room} (G : Gd X y cc Ts nL ret R) {index : Nat} (hg : GoodIn Ts (va_wsS y.cls index yX8_isBar wsX8_isBar)) (hR : rX8_isBar.frames + 1 ≤ R.frames ∧ 8 + (1 + 11) + rX8_isBar.locals ≤ R.locals) {k n pc : Nat} {M : Wo} {lv : List (Nat × Value)} {st : List Value} {x0 : Int32} {r : Int32} (hv : X8_isBar M x0 = some r) (hd : decode cc pc = .ok (.invokestatic index, 3)) (h8 : (st.map fun v => v.category).sum ≤ 8) (hf : k ≤ R.cells ∧ n ≤ R.slots) (kk : Pt X k n (pc + 3) M lv (.int r :: st)) : Pt X k n pc M lv (.int x0 :: st) := pt_cSi (nA := 1) (As := [.int x0]) G (X8_isBar_c hv) hg rfl rfl rfl (by decide +kernel) hR rfl rfl h8 hd hf kk
abbrev rX8_isMove : Room := { frames := 1, cells := 0, slots := 0, locals := 22 }
theorem m_X8_isMove_1 : Cond.fieldLink RX8 7 "StageLinesModel" "state" "[I" ∈ wsX8_isMove := List.mem_of_getElem? (i := 1) rfl
theorem u_X8_isMove_X8 : ∀ w ∈ u_ws RX8 TX8 13, w ∈ wsX8_isMove := mem_r [6, 7, 8, 9, 10, 11, 12, 13, 14, 15, 16, 17, 18] (by decide +kernel)
def X8_isMove (M : Wo) (a0 : Nat) (x1 : Int32) : Option Int32 :=
  (ckO M a0 8).bind fun _ => (gR M a0 8 0).bind fun w1 => (lA M 0 w1 (211 : Int32)).bind fun v3 => (X8_in M x1 (0 : Int32) (v3 - (1 : Int32))).bind fun v6 => (ckB v6).bind fun _ => some v6
theorem X8_isMove_w {X : Cx} (G : Gd X yX8_isMove cX8_isMove wsX8_isMove 2 (some .boolean) rX8_isMove) {M : Wo} {a0 : Nat} {x1 : Int32} {o : Int32} (hd : X8_isMove M a0 x1 = some o) (hQ : Qi X o M 0 0) : Pt X 0 0 0 M [(0, .ref a0), (1, .int x1)] [] := by
  unfold X8_isMove at hd
  obtain ⟨_, _, hd⟩ := bnd hd
  refine pt_iload_n G 1 dX8_isMove_0 rfl rfl ?_
  refine pt_iconst G (0 : Int32) dX8_isMove_1 ci_0 ?_
  refine pt_aload_n G 0 dX8_isMove_2 rfl rfl ?_
  obtain ⟨w1, h2, hd⟩ := bnd hd
  refine pt_get G (ci := 8) (j := 0) rfl (by decide) u_X8_isMove_X8 m_X8_isMove_1 (gR_o h2) dX8_isMove_3 ?_
  refine pt_sipush G (211 : Int32) dX8_isMove_6 si_211 ?_
  obtain ⟨v3, h4, hd⟩ := bnd hd
  refine pt_iald G h4 dX8_isMove_9 ?_
  refine pt_iconst G (1 : Int32) dX8_isMove_10 ci_1 ?_
  refine pt_isub G dX8_isMove_11 ?_
  obtain ⟨v6, h5, hd⟩ := bnd hd
  refine X8_in_v G gX8_isMove_X8_in ⟨(Nat.le_of_ble_eq_true rfl), (Nat.le_of_ble_eq_true rfl)⟩ h5 dX8_isMove_12 (Nat.le_of_ble_eq_true rfl) ⟨(Nat.le_of_ble_eq_true rfl), (Nat.le_of_ble_eq_true rfl)⟩ ?_
  obtain ⟨_, h7, hd⟩ := bnd hd
  cases hd
  exact pt_zret G (ckB_o h7) hQ dX8_isMove_15
theorem X8_isMove_c {l : Launch} {D : va_G} {dA : Nat → ClassId} {b : Nat} {M : Wo} {a0 : Nat} {x1 : Int32} {r : Int32} (h : X8_isMove M a0 x1 = some r) : Met l yX8_isMove wsX8_isMove rX8_isMove (va_Pc [.ref a0, .int x1] (Wd D dA b M)) (Ei D dA b r M) 0 0 (Ab b) := met_i (by decide) rfl (Nat.le_of_ble_eq_true rfl) (fun X G hN hQ => X8_isMove_w G h hQ)
theorem X8_isMove_v {X : Cx} {y : MethodName} {cc : ByteArray} {Ts : List Cond} {nL : Nat} {ret : Option FieldType} {R : Room} (G : Gd X y cc Ts nL ret R) {index : Nat} (hg : GoodIn Ts (wsV y.cls index RX8 yX8_isMove wsX8_isMove)) (hR : rX8_isMove.frames + 1 ≤ R.frames ∧ 8 + (2 + 11) + rX8_isMove.locals ≤ R.locals) {k n pc : Nat} {M : Wo} {lv : List (Nat × Value)} {st : List Value} {a0 : Nat} {x1 : Int32} {r : Int32} (hv : X8_isMove M a0 x1 = some r) (hd : decode cc pc = .ok (.invokevirtual index, 3)) (h8 : (st.map fun v => v.category).sum ≤ 8) (hf : k ≤ R.cells ∧ n ≤ R.slots) (kk : Pt X k n (pc + 3) M lv (.int r :: st)) : Pt X k n pc M lv (.int x1 :: .ref a0 :: st) := pt_cVi (ci := 8) (nA := 1) (As := [.int x1]) G (X8_isMove_c hv) hg rfl rfl rfl (by decide +kernel) hR rfl (rcv hv) rfl rfl h8 hd hf kk
abbrev rX8_has : Room := { frames := 0, cells := 0, slots := 0, locals := 0 }
def X8_has (M : Wo) (x0 : Int32) (x1 : Int32) : Option Int32 :=
  if ((x0 >>> (x1 &&& 31)) &&& (1 : Int32)) = (1 : Int32) then (some (1 : Int32)) else (some (0 : Int32))
theorem X8_has_w {X : Cx} (G : Gd X yX8_has cX8_has wsX8_has 2 (some .boolean) rX8_has) {M : Wo} {x0 : Int32} {x1 : Int32} {o : Int32} (hd : X8_has M x0 x1 = some o) (hQ : Qi X o M 0 0) : Pt X 0 0 0 M [(0, .int x0), (1, .int x1)] [] := by
  unfold X8_has at hd
  refine pt_iload_n G 0 dX8_has_0 rfl rfl ?_
  refine pt_iload_n G 1 dX8_has_1 rfl rfl ?_
  refine pt_ishr G dX8_has_2 ?_
  refine pt_iconst G (1 : Int32) dX8_has_3 ci_1 ?_
  refine pt_iand G dX8_has_4 ?_
  refine pt_iconst G (1 : Int32) dX8_has_5 ci_1 ?_
  refine pt_icmp_ne G 13 dX8_has_6 (by decide) (fun c1 => ?_) (fun c1 => ?_)
  · replace hd := ifn c1 hd
    refine pt_iconst G (0 : Int32) dX8_has_13 ci_0 ?_
    cases hd
    exact pt_zret G (by decide) hQ dX8_has_14
  · replace hd := ifp c1 hd
    refine pt_iconst G (1 : Int32) dX8_has_9 ci_1 ?_
    refine pt_goto G 14 dX8_has_10 (by decide) ?_
    cases hd
    exact pt_zret G (by decide) hQ dX8_has_14
theorem X8_has_c {l : Launch} {D : va_G} {dA : Nat → ClassId} {b : Nat} {M : Wo} {x0 : Int32} {x1 : Int32} {r : Int32} (h : X8_has M x0 x1 = some r) : Met l yX8_has wsX8_has rX8_has (va_Pc [.int x0, .int x1] (Wd D dA b M)) (Ei D dA b r M) 0 0 (Ab b) := met_i (by decide) rfl (Nat.le_of_ble_eq_true rfl) (fun X G hN hQ => X8_has_w G h hQ)
theorem X8_has_v {X : Cx} {y : MethodName} {cc : ByteArray} {Ts : List Cond} {nL : Nat} {ret : Option FieldType} {R : Room} (G : Gd X y cc Ts nL ret R) {index : Nat} (hg : GoodIn Ts (va_wsS y.cls index yX8_has wsX8_has)) (hR : rX8_has.frames + 1 ≤ R.frames ∧ 8 + (2 + 11) + rX8_has.locals ≤ R.locals) {k n pc : Nat} {M : Wo} {lv : List (Nat × Value)} {st : List Value} {x0 : Int32} {x1 : Int32} {r : Int32} (hv : X8_has M x0 x1 = some r) (hd : decode cc pc = .ok (.invokestatic index, 3)) (h8 : (st.map fun v => v.category).sum ≤ 8) (hf : k ≤ R.cells ∧ n ≤ R.slots) (kk : Pt X k n (pc + 3) M lv (.int r :: st)) : Pt X k n pc M lv (.int x1 :: .int x0 :: st) := pt_cSi (nA := 2) (As := [.int x0, .int x1]) G (X8_has_c hv) hg rfl rfl rfl (by decide +kernel) hR rfl rfl h8 hd hf kk
abbrev rX8_size : Room := { frames := 0, cells := 0, slots := 0, locals := 0 }
def X8_size (M : Wo) (x0 : Int32) : Option Int32 :=
  if 0 ≤ x0 then (some x0) else (some (-x0))
theorem X8_size_w {X : Cx} (G : Gd X yX8_size cX8_size wsX8_size 1 (some .int) rX8_size) {M : Wo} {x0 : Int32} {o : Int32} (hd : X8_size M x0 = some o) (hQ : Qi X o M 0 0) : Pt X 0 0 0 M [(0, .int x0)] [] := by
  unfold X8_size at hd
  refine pt_iload_n G 0 dX8_size_0 rfl rfl ?_
  refine pt_if_ge G 9 dX8_size_1 (by decide) (fun c1 => ?_) (fun c1 => ?_)
  · replace hd := ifp c1 hd
    refine pt_iload_n G 0 dX8_size_9 rfl rfl ?_
    cases hd
    exact pt_iret G hQ dX8_size_10
  · replace hd := ifn c1 hd
    refine pt_iload_n G 0 dX8_size_4 rfl rfl ?_
    refine pt_ineg G dX8_size_5 ?_
    refine pt_goto G 10 dX8_size_6 (by decide) ?_
    cases hd
    exact pt_iret G hQ dX8_size_10
theorem X8_size_c {l : Launch} {D : va_G} {dA : Nat → ClassId} {b : Nat} {M : Wo} {x0 : Int32} {r : Int32} (h : X8_size M x0 = some r) : Met l yX8_size wsX8_size rX8_size (va_Pc [.int x0] (Wd D dA b M)) (Ei D dA b r M) 0 0 (Ab b) := met_i (by decide) rfl (Nat.le_of_ble_eq_true rfl) (fun X G hN hQ => X8_size_w G h hQ)
theorem X8_size_v {X : Cx} {y : MethodName} {cc : ByteArray} {Ts : List Cond} {nL : Nat} {ret : Option FieldType} {R : Room} (G : Gd X y cc Ts nL ret R) {index : Nat} (hg : GoodIn Ts (va_wsS y.cls index yX8_size wsX8_size)) (hR : rX8_size.frames + 1 ≤ R.frames ∧ 8 + (1 + 11) + rX8_size.locals ≤ R.locals) {k n pc : Nat} {M : Wo} {lv : List (Nat × Value)} {st : List Value} {x0 : Int32} {r : Int32} (hv : X8_size M x0 = some r) (hd : decode cc pc = .ok (.invokestatic index, 3)) (h8 : (st.map fun v => v.category).sum ≤ 8) (hf : k ≤ R.cells ∧ n ≤ R.slots) (kk : Pt X k n (pc + 3) M lv (.int r :: st)) : Pt X k n pc M lv (.int x0 :: st) := pt_cSi (nA := 1) (As := [.int x0]) G (X8_size_c hv) hg rfl rfl rfl (by decide +kernel) hR rfl rfl h8 hd hf kk
abbrev rX8_many : Room := { frames := 0, cells := 0, slots := 0, locals := 0 }
theorem m_X8_many_1 : Cond.fieldLink RX8 7 "StageLinesModel" "state" "[I" ∈ wsX8_many := List.mem_of_getElem? (i := 1) rfl
theorem u_X8_many_X8 : ∀ w ∈ u_ws RX8 TX8 13, w ∈ wsX8_many := mem_r [2, 3, 4, 5, 6, 7, 8, 9, 10, 11, 12, 13, 14] (by decide +kernel)
def X8_many (M : Wo) (a0 : Nat) (x1 : Int32) (x2 : Int32) : Option Int32 :=
  (ckO M a0 8).bind fun _ => (gR M a0 8 0).bind fun w1 => (lA M 0 w1 (((30 : Int32) + ((10 : Int32) * x2)) + x1)).bind fun v3 => some v3
theorem X8_many_w {X : Cx} (G : Gd X yX8_many cX8_many wsX8_many 3 (some .int) rX8_many) {M : Wo} {a0 : Nat} {x1 : Int32} {x2 : Int32} {o : Int32} (hd : X8_many M a0 x1 x2 = some o) (hQ : Qi X o M 0 0) : Pt X 0 0 0 M [(0, .ref a0), (1, .int x1), (2, .int x2)] [] := by
  unfold X8_many at hd
  obtain ⟨_, _, hd⟩ := bnd hd
  refine pt_aload_n G 0 dX8_many_0 rfl rfl ?_
  obtain ⟨w1, h2, hd⟩ := bnd hd
  refine pt_get G (ci := 8) (j := 0) rfl (by decide) u_X8_many_X8 m_X8_many_1 (gR_o h2) dX8_many_1 ?_
  refine pt_bipush G (30 : Int32) dX8_many_4 bi_30 ?_
  refine pt_bipush G (10 : Int32) dX8_many_6 bi_10 ?_
  refine pt_iload_n G 2 dX8_many_8 rfl rfl ?_
  refine pt_imul G dX8_many_9 ?_
  refine pt_iadd G dX8_many_10 ?_
  refine pt_iload_n G 1 dX8_many_11 rfl rfl ?_
  refine pt_iadd G dX8_many_12 ?_
  obtain ⟨v3, h4, hd⟩ := bnd hd
  refine pt_iald G h4 dX8_many_13 ?_
  cases hd
  exact pt_iret G hQ dX8_many_14
theorem X8_many_c {l : Launch} {D : va_G} {dA : Nat → ClassId} {b : Nat} {M : Wo} {a0 : Nat} {x1 : Int32} {x2 : Int32} {r : Int32} (h : X8_many M a0 x1 x2 = some r) : Met l yX8_many wsX8_many rX8_many (va_Pc [.ref a0, .int x1, .int x2] (Wd D dA b M)) (Ei D dA b r M) 0 0 (Ab b) := met_i (by decide) rfl (Nat.le_of_ble_eq_true rfl) (fun X G hN hQ => X8_many_w G h hQ)
theorem X8_many_v {X : Cx} {y : MethodName} {cc : ByteArray} {Ts : List Cond} {nL : Nat} {ret : Option FieldType} {R : Room} (G : Gd X y cc Ts nL ret R) {index : Nat} (hg : GoodIn Ts (wsV y.cls index RX8 yX8_many wsX8_many)) (hR : rX8_many.frames + 1 ≤ R.frames ∧ 8 + (3 + 11) + rX8_many.locals ≤ R.locals) {k n pc : Nat} {M : Wo} {lv : List (Nat × Value)} {st : List Value} {a0 : Nat} {x1 : Int32} {x2 : Int32} {r : Int32} (hv : X8_many M a0 x1 x2 = some r) (hd : decode cc pc = .ok (.invokevirtual index, 3)) (h8 : (st.map fun v => v.category).sum ≤ 8) (hf : k ≤ R.cells ∧ n ≤ R.slots) (kk : Pt X k n (pc + 3) M lv (.int r :: st)) : Pt X k n pc M lv (.int x2 :: .int x1 :: .ref a0 :: st) := pt_cVi (ci := 8) (nA := 2) (As := [.int x1, .int x2]) G (X8_many_c hv) hg rfl rfl rfl (by decide +kernel) hR rfl (rcv hv) rfl rfl h8 hd hf kk
abbrev rX8_weight : Room := { frames := 0, cells := 0, slots := 0, locals := 0 }
theorem m_X8_weight_1 : Cond.fieldLink RX8 7 "StageLinesModel" "state" "[I" ∈ wsX8_weight := List.mem_of_getElem? (i := 1) rfl
theorem u_X8_weight_X8 : ∀ w ∈ u_ws RX8 TX8 13, w ∈ wsX8_weight := mem_r [2, 3, 4, 5, 6, 7, 8, 9, 10, 11, 12, 13, 14] (by decide +kernel)
def X8_weight (M : Wo) (a0 : Nat) (x1 : Int32) (x2 : Int32) (x3 : Int32) : Option Int32 :=
  (ckO M a0 8).bind fun _ => (gR M a0 8 0).bind fun w1 => (lA M 0 w1 ((((50 : Int32) + ((12 : Int32) * x1)) + ((6 : Int32) * x2)) + x3)).bind fun v3 => some v3
theorem X8_weight_w {X : Cx} (G : Gd X yX8_weight cX8_weight wsX8_weight 4 (some .int) rX8_weight) {M : Wo} {a0 : Nat} {x1 : Int32} {x2 : Int32} {x3 : Int32} {o : Int32} (hd : X8_weight M a0 x1 x2 x3 = some o) (hQ : Qi X o M 0 0) : Pt X 0 0 0 M [(0, .ref a0), (1, .int x1), (2, .int x2), (3, .int x3)] [] := by
  unfold X8_weight at hd
  obtain ⟨_, _, hd⟩ := bnd hd
  refine pt_aload_n G 0 dX8_weight_0 rfl rfl ?_
  obtain ⟨w1, h2, hd⟩ := bnd hd
  refine pt_get G (ci := 8) (j := 0) rfl (by decide) u_X8_weight_X8 m_X8_weight_1 (gR_o h2) dX8_weight_1 ?_
  refine pt_bipush G (50 : Int32) dX8_weight_4 bi_50 ?_
  refine pt_bipush G (12 : Int32) dX8_weight_6 bi_12 ?_
  refine pt_iload_n G 1 dX8_weight_8 rfl rfl ?_
  refine pt_imul G dX8_weight_9 ?_
  refine pt_iadd G dX8_weight_10 ?_
  refine pt_bipush G (6 : Int32) dX8_weight_11 bi_6 ?_
  refine pt_iload_n G 2 dX8_weight_13 rfl rfl ?_
  refine pt_imul G dX8_weight_14 ?_
  refine pt_iadd G dX8_weight_15 ?_
  refine pt_iload_n G 3 dX8_weight_16 rfl rfl ?_
  refine pt_iadd G dX8_weight_17 ?_
  obtain ⟨v3, h4, hd⟩ := bnd hd
  refine pt_iald G h4 dX8_weight_18 ?_
  cases hd
  exact pt_iret G hQ dX8_weight_19
theorem X8_weight_c {l : Launch} {D : va_G} {dA : Nat → ClassId} {b : Nat} {M : Wo} {a0 : Nat} {x1 : Int32} {x2 : Int32} {x3 : Int32} {r : Int32} (h : X8_weight M a0 x1 x2 x3 = some r) : Met l yX8_weight wsX8_weight rX8_weight (va_Pc [.ref a0, .int x1, .int x2, .int x3] (Wd D dA b M)) (Ei D dA b r M) 0 0 (Ab b) := met_i (by decide) rfl (Nat.le_of_ble_eq_true rfl) (fun X G hN hQ => X8_weight_w G h hQ)
theorem X8_weight_v {X : Cx} {y : MethodName} {cc : ByteArray} {Ts : List Cond} {nL : Nat} {ret : Option FieldType} {R : Room} (G : Gd X y cc Ts nL ret R) {index : Nat} (hg : GoodIn Ts (wsV y.cls index RX8 yX8_weight wsX8_weight)) (hR : rX8_weight.frames + 1 ≤ R.frames ∧ 8 + (4 + 11) + rX8_weight.locals ≤ R.locals) {k n pc : Nat} {M : Wo} {lv : List (Nat × Value)} {st : List Value} {a0 : Nat} {x1 : Int32} {x2 : Int32} {x3 : Int32} {r : Int32} (hv : X8_weight M a0 x1 x2 x3 = some r) (hd : decode cc pc = .ok (.invokevirtual index, 3)) (h8 : (st.map fun v => v.category).sum ≤ 8) (hf : k ≤ R.cells ∧ n ≤ R.slots) (kk : Pt X k n (pc + 3) M lv (.int r :: st)) : Pt X k n pc M lv (.int x3 :: .int x2 :: .int x1 :: .ref a0 :: st) := pt_cVi (ci := 8) (nA := 3) (As := [.int x1, .int x2, .int x3]) G (X8_weight_c hv) hg rfl rfl rfl (by decide +kernel) hR rfl (rcv hv) rfl rfl h8 hd hf kk
abbrev rX8_together : Room := { frames := 1, cells := 0, slots := 0, locals := 23 }
abbrev X8_together_P5 (X : Cx) (M : Wo) (a0 : Nat) (x1 : Int32) (x2 : Int32) : (Int32 × Int32) → Prop := un2 (fun x3 x4 => Pt X 0 0 5 M [(0, .ref a0), (1, .int x1), (2, .int x2), (3, .int x3), (4, .int x4)] [])
abbrev X8_together_Z5 (X : Cx) (M : Wo) (a0 : Nat) (x1 : Int32) (x2 : Int32) : Int32 → Prop := (un1 (fun x3 => Pt X 0 0 33 M [(3, .int x3)] []))
def X8_together_b5 (M : Wo) (a0 : Nat) (x1 : Int32) (x2 : Int32) (x3 : Int32) (x4 : Int32) : Option ((Int32 × Int32) ⊕ Int32) :=
  (X8_many M a0 x1 x2).bind fun v2 => if v2 ≤ x4 then (some (.inr x3)) else ((X8_weight M a0 x1 x2 x4).bind fun v4 => some (.inl ((x3 + v4), (x4 + 1))))
theorem X8_together_b5_w {X : Cx} (G : Gd X yX8_together cX8_together wsX8_together 5 (some .int) rX8_together) {M : Wo} {a0 : Nat} {x1 : Int32} {x2 : Int32} {x3 : Int32} {x4 : Int32} {o : ((Int32 × Int32) ⊕ Int32)} (hd : X8_together_b5 M a0 x1 x2 x3 x4 = some o) (hc : ∀ s9, o = .inl s9 → X8_together_P5 X M a0 x1 x2 s9) (he : ∀ e9, o = .inr e9 → X8_together_Z5 X M a0 x1 x2 e9) : Pt X 0 0 5 M [(0, .ref a0), (1, .int x1), (2, .int x2), (3, .int x3), (4, .int x4)] [] := by
  unfold X8_together_b5 at hd
  refine pt_iload G 4 dX8_together_5 rfl ?_
  refine pt_aload_n G 0 dX8_together_7 rfl rfl ?_
  refine pt_iload_n G 1 dX8_together_8 rfl rfl ?_
  refine pt_iload_n G 2 dX8_together_9 rfl rfl ?_
  obtain ⟨v2, h1, hd⟩ := bnd hd
  refine X8_many_v G gX8_together_X8_many ⟨(Nat.le_of_ble_eq_true rfl), (Nat.le_of_ble_eq_true rfl)⟩ h1 dX8_together_10 (Nat.le_of_ble_eq_true rfl) ⟨(Nat.le_of_ble_eq_true rfl), (Nat.le_of_ble_eq_true rfl)⟩ ?_
  refine pt_icmp_ge G 33 dX8_together_13 (by decide) (fun c5 => ?_) (fun c5 => ?_)
  · replace hd := ifp c5 hd
    exact pt_sub [3] rfl (he x3 (Option.some.inj hd).symm)
  · replace hd := ifn c5 hd
    refine pt_iload_n G 3 dX8_together_16 rfl rfl ?_
    refine pt_aload_n G 0 dX8_together_17 rfl rfl ?_
    refine pt_iload_n G 1 dX8_together_18 rfl rfl ?_
    refine pt_iload_n G 2 dX8_together_19 rfl rfl ?_
    refine pt_iload G 4 dX8_together_20 rfl ?_
    obtain ⟨v4, h3, hd⟩ := bnd hd
    refine X8_weight_v G gX8_together_X8_weight ⟨(Nat.le_of_ble_eq_true rfl), (Nat.le_of_ble_eq_true rfl)⟩ h3 dX8_together_22 (Nat.le_of_ble_eq_true rfl) ⟨(Nat.le_of_ble_eq_true rfl), (Nat.le_of_ble_eq_true rfl)⟩ ?_
    refine pt_iadd G dX8_together_25 ?_
    refine pt_istore_n G [(3, .int (x3 + v4)), (0, .ref a0), (1, .int x1), (2, .int x2), (4, .int x4)] dX8_together_26 rfl (by decide) rfl ?_
    refine pt_iinc G 4 (x4 + 1) [(4, .int (x4 + 1)), (3, .int (x3 + v4)), (0, .ref a0), (1, .int x1), (2, .int x2)] dX8_together_27 rfl (inc_1 _) (by decide) rfl ?_
    refine pt_goto G 5 dX8_together_30 (by decide) ?_
    exact pt_sub [2, 3, 4, 1, 0] rfl (hc ((x3 + v4), (x4 + 1)) (Option.some.inj hd).symm)
theorem X8_together_w5_w {X : Cx} (G : Gd X yX8_together cX8_together wsX8_together 5 (some .int) rX8_together) {M : Wo} {a0 : Nat} {x1 : Int32} {x2 : Int32} (n9 : Nat) (s9 : (Int32 × Int32)) (e9 : Int32) (hw : wloop (un2 (X8_together_b5 M a0 x1 x2)) n9 s9 = some e9) (hz : X8_together_Z5 X M a0 x1 x2 e9) : X8_together_P5 X M a0 x1 x2 s9 := by
  refine wl_ind (P := X8_together_P5 X M a0 x1 x2) (Z := X8_together_Z5 X M a0 x1 x2) ?_ n9 s9 e9 hw hz
  intro s9 o9 hd hc he
  obtain ⟨x3, x4⟩ := s9
  exact X8_together_b5_w G hd hc he
def X8_together (M : Wo) (a0 : Nat) (x1 : Int32) (x2 : Int32) : Option Int32 :=
  (ckO M a0 8).bind fun _ => (wloop (un2 (X8_together_b5 M a0 x1 x2)) FU ((0 : Int32), (0 : Int32))).bind fun v6 => some v6
theorem X8_together_w {X : Cx} (G : Gd X yX8_together cX8_together wsX8_together 5 (some .int) rX8_together) {M : Wo} {a0 : Nat} {x1 : Int32} {x2 : Int32} {o : Int32} (hd : X8_together M a0 x1 x2 = some o) (hQ : Qi X o M 0 0) : Pt X 0 0 0 M [(0, .ref a0), (1, .int x1), (2, .int x2)] [] := by
  unfold X8_together at hd
  obtain ⟨_, _, hd⟩ := bnd hd
  refine pt_iconst G (0 : Int32) dX8_together_0 ci_0 ?_
  refine pt_istore_n G [(3, .int (0 : Int32)), (0, .ref a0), (1, .int x1), (2, .int x2)] dX8_together_1 rfl (by decide) rfl ?_
  refine pt_iconst G (0 : Int32) dX8_together_2 ci_0 ?_
  refine pt_istore G [(4, .int (0 : Int32)), (3, .int (0 : Int32)), (0, .ref a0), (1, .int x1), (2, .int x2)] dX8_together_3 (by decide) rfl ?_
  obtain ⟨v6, hw7, hd⟩ := bnd hd
  refine pt_sub [2, 3, 4, 1, 0] rfl (X8_together_w5_w G _ _ _ hw7 ?_)
  show Pt X 0 0 _ _ _ []
  refine pt_iload_n G 0 dX8_together_33 rfl rfl ?_
  cases hd
  exact pt_iret G hQ dX8_together_34
theorem X8_together_c {l : Launch} {D : va_G} {dA : Nat → ClassId} {b : Nat} {M : Wo} {a0 : Nat} {x1 : Int32} {x2 : Int32} {r : Int32} (h : X8_together M a0 x1 x2 = some r) : Met l yX8_together wsX8_together rX8_together (va_Pc [.ref a0, .int x1, .int x2] (Wd D dA b M)) (Ei D dA b r M) 0 0 (Ab b) := met_i (by decide) rfl (Nat.le_of_ble_eq_true rfl) (fun X G hN hQ => X8_together_w G h hQ)
theorem X8_together_v {X : Cx} {y : MethodName} {cc : ByteArray} {Ts : List Cond} {nL : Nat} {ret : Option FieldType} {R : Room} (G : Gd X y cc Ts nL ret R) {index : Nat} (hg : GoodIn Ts (wsV y.cls index RX8 yX8_together wsX8_together)) (hR : rX8_together.frames + 1 ≤ R.frames ∧ 8 + (5 + 11) + rX8_together.locals ≤ R.locals) {k n pc : Nat} {M : Wo} {lv : List (Nat × Value)} {st : List Value} {a0 : Nat} {x1 : Int32} {x2 : Int32} {r : Int32} (hv : X8_together M a0 x1 x2 = some r) (hd : decode cc pc = .ok (.invokevirtual index, 3)) (h8 : (st.map fun v => v.category).sum ≤ 8) (hf : k ≤ R.cells ∧ n ≤ R.slots) (kk : Pt X k n (pc + 3) M lv (.int r :: st)) : Pt X k n pc M lv (.int x2 :: .int x1 :: .ref a0 :: st) := pt_cVi (ci := 8) (nA := 2) (As := [.int x1, .int x2]) G (X8_together_c hv) hg rfl rfl rfl (by decide +kernel) hR rfl (rcv hv) rfl rfl h8 hd hf kk
abbrev rX8_isEven : Room := { frames := 2, cells := 0, slots := 0, locals := 47 }
theorem m_X8_isEven_1 : Cond.fieldLink RX8 7 "StageLinesModel" "state" "[I" ∈ wsX8_isEven := List.mem_of_getElem? (i := 1) rfl
theorem u_X8_isEven_X8 : ∀ w ∈ u_ws RX8 TX8 13, w ∈ wsX8_isEven := mem_r [18, 19, 20, 21, 22, 23, 24, 25, 26, 27, 28, 29, 30] (by decide +kernel)
def X8_isEven (M : Wo) (a0 : Nat) (x1 : Int32) : Option Int32 :=
  (ckO M a0 8).bind fun _ => (X8_together M a0 x1 (0 : Int32)).bind fun v2 => (X8_together M a0 x1 (1 : Int32)).bind fun v4 => (X8_size M (v2 - v4)).bind fun v6 => (gR M a0 8 0).bind fun w7 => (lA M 0 w7 (170 : Int32)).bind fun v9 => if v9 < v6 then (some (0 : Int32)) else (some (1 : Int32))
theorem X8_isEven_w {X : Cx} (G : Gd X yX8_isEven cX8_isEven wsX8_isEven 2 (some .boolean) rX8_isEven) {M : Wo} {a0 : Nat} {x1 : Int32} {o : Int32} (hd : X8_isEven M a0 x1 = some o) (hQ : Qi X o M 0 0) : Pt X 0 0 0 M [(0, .ref a0), (1, .int x1)] [] := by
  unfold X8_isEven at hd
  obtain ⟨_, _, hd⟩ := bnd hd
  refine pt_aload_n G 0 dX8_isEven_0 rfl rfl ?_
  refine pt_iload_n G 1 dX8_isEven_1 rfl rfl ?_
  refine pt_iconst G (0 : Int32) dX8_isEven_2 ci_0 ?_
  obtain ⟨v2, h1, hd⟩ := bnd hd
  refine X8_together_v G gX8_isEven_X8_together ⟨(Nat.le_of_ble_eq_true rfl), (Nat.le_of_ble_eq_true rfl)⟩ h1 dX8_isEven_3 (Nat.le_of_ble_eq_true rfl) ⟨(Nat.le_of_ble_eq_true rfl), (Nat.le_of_ble_eq_true rfl)⟩ ?_
  refine pt_aload_n G 0 dX8_isEven_6 rfl rfl ?_
  refine pt_iload_n G 1 dX8_isEven_7 rfl rfl ?_
  refine pt_iconst G (1 : Int32) dX8_isEven_8 ci_1 ?_
  obtain ⟨v4, h3, hd⟩ := bnd hd
  refine X8_together_v G gX8_isEven_X8_together ⟨(Nat.le_of_ble_eq_true rfl), (Nat.le_of_ble_eq_true rfl)⟩ h3 dX8_isEven_9 (Nat.le_of_ble_eq_true rfl) ⟨(Nat.le_of_ble_eq_true rfl), (Nat.le_of_ble_eq_true rfl)⟩ ?_
  refine pt_isub G dX8_isEven_12 ?_
  obtain ⟨v6, h5, hd⟩ := bnd hd
  refine X8_size_v G gX8_isEven_X8_size ⟨(Nat.le_of_ble_eq_true rfl), (Nat.le_of_ble_eq_true rfl)⟩ h5 dX8_isEven_13 (Nat.le_of_ble_eq_true rfl) ⟨(Nat.le_of_ble_eq_true rfl), (Nat.le_of_ble_eq_true rfl)⟩ ?_
  refine pt_aload_n G 0 dX8_isEven_16 rfl rfl ?_
  obtain ⟨w7, h8, hd⟩ := bnd hd
  refine pt_get G (ci := 8) (j := 0) rfl (by decide) u_X8_isEven_X8 m_X8_isEven_1 (gR_o h8) dX8_isEven_17 ?_
  refine pt_sipush G (170 : Int32) dX8_isEven_20 si_170 ?_
  obtain ⟨v9, h10, hd⟩ := bnd hd
  refine pt_iald G h10 dX8_isEven_23 ?_
  refine pt_icmp_gt G 31 dX8_isEven_24 (by decide) (fun c11 => ?_) (fun c11 => ?_)
  · replace hd := ifp c11 hd
    refine pt_iconst G (0 : Int32) dX8_isEven_31 ci_0 ?_
    cases hd
    exact pt_zret G (by decide) hQ dX8_isEven_32
  · replace hd := ifn c11 hd
    refine pt_iconst G (1 : Int32) dX8_isEven_27 ci_1 ?_
    refine pt_goto G 32 dX8_isEven_28 (by decide) ?_
    cases hd
    exact pt_zret G (by decide) hQ dX8_isEven_32
theorem X8_isEven_c {l : Launch} {D : va_G} {dA : Nat → ClassId} {b : Nat} {M : Wo} {a0 : Nat} {x1 : Int32} {r : Int32} (h : X8_isEven M a0 x1 = some r) : Met l yX8_isEven wsX8_isEven rX8_isEven (va_Pc [.ref a0, .int x1] (Wd D dA b M)) (Ei D dA b r M) 0 0 (Ab b) := met_i (by decide) rfl (Nat.le_of_ble_eq_true rfl) (fun X G hN hQ => X8_isEven_w G h hQ)
theorem X8_isEven_v {X : Cx} {y : MethodName} {cc : ByteArray} {Ts : List Cond} {nL : Nat} {ret : Option FieldType} {R : Room} (G : Gd X y cc Ts nL ret R) {index : Nat} (hg : GoodIn Ts (wsV y.cls index RX8 yX8_isEven wsX8_isEven)) (hR : rX8_isEven.frames + 1 ≤ R.frames ∧ 8 + (2 + 11) + rX8_isEven.locals ≤ R.locals) {k n pc : Nat} {M : Wo} {lv : List (Nat × Value)} {st : List Value} {a0 : Nat} {x1 : Int32} {r : Int32} (hv : X8_isEven M a0 x1 = some r) (hd : decode cc pc = .ok (.invokevirtual index, 3)) (h8 : (st.map fun v => v.category).sum ≤ 8) (hf : k ≤ R.cells ∧ n ≤ R.slots) (kk : Pt X k n (pc + 3) M lv (.int r :: st)) : Pt X k n pc M lv (.int x1 :: .ref a0 :: st) := pt_cVi (ci := 8) (nA := 1) (As := [.int x1]) G (X8_isEven_c hv) hg rfl rfl rfl (by decide +kernel) hR rfl (rcv hv) rfl rfl h8 hd hf kk
abbrev rX8_set : Room := { frames := 2, cells := 0, slots := 0, locals := 42 }
theorem m_X8_set_1 : Cond.fieldLink RX8 7 "StageLinesModel" "state" "[I" ∈ wsX8_set := List.mem_of_getElem? (i := 1) rfl
theorem u_X8_set_X8 : ∀ w ∈ u_ws RX8 TX8 13, w ∈ wsX8_set := mem_r [9, 10, 11, 12, 13, 14, 15, 16, 17, 18, 19, 20, 21] (by decide +kernel)
def X8_set_L76 (M : Wo) (a0 : Nat) (x3 : Int32) (t0 : Int32) : Option (Int32 × Wo) :=
  (gR M a0 8 0).bind fun w7 => (lA M 0 w7 t0).bind fun v9 => (gR M a0 8 0).bind fun w11 => (sA M w11 t0 x3).bind fun M13 => some (v9, M13)
theorem X8_set_L76_w {X : Cx} (G : Gd X yX8_set cX8_set wsX8_set 6 (some .int) rX8_set) {M : Wo} {a0 : Nat} {x3 : Int32} {t0 : Int32} {o : (Int32 × Wo)} (hd : X8_set_L76 M a0 x3 t0 = some o) (hQ : Qi X o.1 o.2 0 0) : Pt X 0 0 76 M [(0, .ref a0), (3, .int x3)] [.int t0] := by
  unfold X8_set_L76 at hd
  refine pt_istore G [(4, .int t0), (0, .ref a0), (3, .int x3)] dX8_set_76 (by decide) rfl ?_
  refine pt_aload_n G 1 dX8_set_78 rfl rfl ?_
  obtain ⟨w7, h8, hd⟩ := bnd hd
  refine pt_get G (ci := 8) (j := 0) rfl (by decide) u_X8_set_X8 m_X8_set_1 (gR_o h8) dX8_set_79 ?_
  refine pt_iload G 0 dX8_set_82 rfl ?_
  obtain ⟨v9, h10, hd⟩ := bnd hd
  refine pt_iald G h10 dX8_set_84 ?_
  refine pt_istore G [(5, .int v9), (4, .int t0), (0, .ref a0), (3, .int x3)] dX8_set_85 (by decide) rfl ?_
  refine pt_aload_n G 2 dX8_set_87 rfl rfl ?_
  obtain ⟨w11, h12, hd⟩ := bnd hd
  refine pt_get G (ci := 8) (j := 0) rfl (by decide) u_X8_set_X8 m_X8_set_1 (gR_o h12) dX8_set_88 ?_
  refine pt_iload G 1 dX8_set_91 rfl ?_
  refine pt_iload_n G 3 dX8_set_93 rfl rfl ?_
  obtain ⟨M13, h14, hd⟩ := bnd hd
  refine pt_iast G h14 dX8_set_94 ?_
  refine pt_iload G 0 dX8_set_95 rfl ?_
  cases hd
  exact pt_iret G hQ dX8_set_97
def X8_set_L50 (M : Wo) (a0 : Nat) (x1 : Int32) (x2 : Int32) (x3 : Int32) (t0 : Int32) (t1 : Int32) (t2 : Int32) : Option (Int32 × Wo) :=
  (X8_in M t2 t1 t0).bind fun v6 => if v6 = 0 then (some ((-2 : Int32), M)) else (if x2 = (3 : Int32) then (X8_set_L76 M a0 x3 (170 : Int32)) else (X8_set_L76 M a0 x3 (((10 : Int32) * x2) + x1)))
theorem X8_set_L50_w {X : Cx} (G : Gd X yX8_set cX8_set wsX8_set 6 (some .int) rX8_set) {M : Wo} {a0 : Nat} {x1 : Int32} {x2 : Int32} {x3 : Int32} {t0 : Int32} {t1 : Int32} {t2 : Int32} {o : (Int32 × Wo)} (hd : X8_set_L50 M a0 x1 x2 x3 t0 t1 t2 = some o) (hQ : Qi X o.1 o.2 0 0) : Pt X 0 0 50 M [(0, .ref a0), (1, .int x1), (2, .int x2), (3, .int x3)] [.int t0, .int t1, .int t2] := by
  unfold X8_set_L50 at hd
  obtain ⟨v6, h5, hd⟩ := bnd hd
  refine X8_in_v G gX8_set_X8_in ⟨(Nat.le_of_ble_eq_true rfl), (Nat.le_of_ble_eq_true rfl)⟩ h5 dX8_set_50 (Nat.le_of_ble_eq_true rfl) ⟨(Nat.le_of_ble_eq_true rfl), (Nat.le_of_ble_eq_true rfl)⟩ ?_
  refine pt_if_ne G 59 dX8_set_53 (by decide) (fun c16 => ?_) (fun c16 => ?_)
  · replace hd := ifn c16 hd
    refine pt_iload_n G 2 dX8_set_59 rfl rfl ?_
    refine pt_iconst G (3 : Int32) dX8_set_60 ci_3 ?_
    refine pt_icmp_ne G 70 dX8_set_61 (by decide) (fun c15 => ?_) (fun c15 => ?_)
    · replace hd := ifn c15 hd
      refine pt_bipush G (10 : Int32) dX8_set_70 bi_10 ?_
      refine pt_iload_n G 2 dX8_set_72 rfl rfl ?_
      refine pt_imul G dX8_set_73 ?_
      refine pt_iload_n G 1 dX8_set_74 rfl rfl ?_
      refine pt_iadd G dX8_set_75 ?_
      exact pt_sub [0, 3] rfl (X8_set_L76_w G hd hQ)
    · replace hd := ifp c15 hd
      refine pt_sipush G (170 : Int32) dX8_set_64 si_170 ?_
      refine pt_goto G 76 dX8_set_67 (by decide) ?_
      exact pt_sub [0, 3] rfl (X8_set_L76_w G hd hQ)
  · replace hd := ifp c16 hd
    refine pt_bipush G (-2 : Int32) dX8_set_56 bi_m2 ?_
    cases hd
    exact pt_iret G hQ dX8_set_58
def X8_set (M : Wo) (a0 : Nat) (x1 : Int32) (x2 : Int32) (x3 : Int32) : Option (Int32 × Wo) :=
  (ckO M a0 8).bind fun _ => (X8_isBar M x1).bind fun v2 => if v2 = 0 then (some ((-1 : Int32), M)) else ((X8_in M x2 (0 : Int32) (3 : Int32)).bind fun v4 => if v4 = 0 then (some ((-2 : Int32), M)) else (if x2 = 0 then (X8_set_L50 M a0 x1 x2 x3 (60 : Int32) (0 : Int32) x3) else (if x2 = (1 : Int32) then (X8_set_L50 M a0 x1 x2 x3 (40 : Int32) (0 : Int32) x3) else (if x2 = (2 : Int32) then (X8_set_L50 M a0 x1 x2 x3 (3 : Int32) (0 : Int32) x3) else (X8_set_L50 M a0 x1 x2 x3 (100 : Int32) (0 : Int32) x3)))))
theorem X8_set_w {X : Cx} (G : Gd X yX8_set cX8_set wsX8_set 6 (some .int) rX8_set) {M : Wo} {a0 : Nat} {x1 : Int32} {x2 : Int32} {x3 : Int32} {o : (Int32 × Wo)} (hd : X8_set M a0 x1 x2 x3 = some o) (hQ : Qi X o.1 o.2 0 0) : Pt X 0 0 0 M [(0, .ref a0), (1, .int x1), (2, .int x2), (3, .int x3)] [] := by
  unfold X8_set at hd
  obtain ⟨_, _, hd⟩ := bnd hd
  refine pt_iload_n G 1 dX8_set_0 rfl rfl ?_
  obtain ⟨v2, h1, hd⟩ := bnd hd
  refine X8_isBar_v G gX8_set_X8_isBar ⟨(Nat.le_of_ble_eq_true rfl), (Nat.le_of_ble_eq_true rfl)⟩ h1 dX8_set_1 (Nat.le_of_ble_eq_true rfl) ⟨(Nat.le_of_ble_eq_true rfl), (Nat.le_of_ble_eq_true rfl)⟩ ?_
  refine pt_if_ne G 9 dX8_set_4 (by decide) (fun c21 => ?_) (fun c21 => ?_)
  · replace hd := ifn c21 hd
    refine pt_iload_n G 2 dX8_set_9 rfl rfl ?_
    refine pt_iconst G (0 : Int32) dX8_set_10 ci_0 ?_
    refine pt_iconst G (3 : Int32) dX8_set_11 ci_3 ?_
    obtain ⟨v4, h3, hd⟩ := bnd hd
    refine X8_in_v G gX8_set_X8_in ⟨(Nat.le_of_ble_eq_true rfl), (Nat.le_of_ble_eq_true rfl)⟩ h3 dX8_set_12 (Nat.le_of_ble_eq_true rfl) ⟨(Nat.le_of_ble_eq_true rfl), (Nat.le_of_ble_eq_true rfl)⟩ ?_
    refine pt_if_eq G 56 dX8_set_15 (by decide) (fun c20 => ?_) (fun c20 => ?_)
    · replace hd := ifp c20 hd
      refine pt_bipush G (-2 : Int32) dX8_set_56 bi_m2 ?_
      cases hd
      exact pt_iret G hQ dX8_set_58
    · replace hd := ifn c20 hd
      refine pt_iload_n G 3 dX8_set_18 rfl rfl ?_
      refine pt_iconst G (0 : Int32) dX8_set_19 ci_0 ?_
      refine pt_iload_n G 2 dX8_set_20 rfl rfl ?_
      refine pt_if_ne G 29 dX8_set_21 (by decide) (fun c19 => ?_) (fun c19 => ?_)
      · replace hd := ifn c19 hd
        refine pt_iload_n G 2 dX8_set_29 rfl rfl ?_
        refine pt_iconst G (1 : Int32) dX8_set_30 ci_1 ?_
        refine pt_icmp_ne G 39 dX8_set_31 (by decide) (fun c18 => ?_) (fun c18 => ?_)
        · replace hd := ifn c18 hd
          refine pt_iload_n G 2 dX8_set_39 rfl rfl ?_
          refine pt_iconst G (2 : Int32) dX8_set_40 ci_2 ?_
          refine pt_icmp_ne G 48 dX8_set_41 (by decide) (fun c17 => ?_) (fun c17 => ?_)
          · replace hd := ifn c17 hd
            refine pt_bipush G (100 : Int32) dX8_set_48 bi_100 ?_
            exact pt_sub [0, 1, 2, 3] rfl (X8_set_L50_w G hd hQ)
          · replace hd := ifp c17 hd
            refine pt_iconst G (3 : Int32) dX8_set_44 ci_3 ?_
            refine pt_goto G 50 dX8_set_45 (by decide) ?_
            exact pt_sub [0, 1, 2, 3] rfl (X8_set_L50_w G hd hQ)
        · replace hd := ifp c18 hd
          refine pt_bipush G (40 : Int32) dX8_set_34 bi_40 ?_
          refine pt_goto G 50 dX8_set_36 (by decide) ?_
          exact pt_sub [0, 1, 2, 3] rfl (X8_set_L50_w G hd hQ)
      · replace hd := ifp c19 hd
        refine pt_bipush G (60 : Int32) dX8_set_24 bi_60 ?_
        refine pt_goto G 50 dX8_set_26 (by decide) ?_
        exact pt_sub [0, 1, 2, 3] rfl (X8_set_L50_w G hd hQ)
  · replace hd := ifp c21 hd
    refine pt_iconst G (-1 : Int32) dX8_set_7 ci_m1 ?_
    cases hd
    exact pt_iret G hQ dX8_set_8
theorem X8_set_c {l : Launch} {D : va_G} {dA : Nat → ClassId} {b : Nat} {M : Wo} {a0 : Nat} {x1 : Int32} {x2 : Int32} {x3 : Int32} {r : Int32} {M2 : Wo} (h : X8_set M a0 x1 x2 x3 = some (r, M2)) : Met l yX8_set wsX8_set rX8_set (va_Pc [.ref a0, .int x1, .int x2, .int x3] (Wd D dA b M)) (Ei D dA b r M2) 0 0 (Ab b) := met_i (by decide) rfl (Nat.le_of_ble_eq_true rfl) (fun X G hN hQ => X8_set_w G h hQ)
theorem X8_set_v {X : Cx} {y : MethodName} {cc : ByteArray} {Ts : List Cond} {nL : Nat} {ret : Option FieldType} {R : Room} (G : Gd X y cc Ts nL ret R) {index : Nat} (hg : GoodIn Ts (wsV y.cls index RX8 yX8_set wsX8_set)) (hR : rX8_set.frames + 1 ≤ R.frames ∧ 8 + (6 + 11) + rX8_set.locals ≤ R.locals) {k n pc : Nat} {M : Wo} {lv : List (Nat × Value)} {st : List Value} {a0 : Nat} {x1 : Int32} {x2 : Int32} {x3 : Int32} {r : Int32} {M2 : Wo} (hv : X8_set M a0 x1 x2 x3 = some (r, M2)) (hd : decode cc pc = .ok (.invokevirtual index, 3)) (h8 : (st.map fun v => v.category).sum ≤ 8) (hf : k ≤ R.cells ∧ n ≤ R.slots) (kk : Pt X k n (pc + 3) M2 lv (.int r :: st)) : Pt X k n pc M lv (.int x3 :: .int x2 :: .int x1 :: .ref a0 :: st) := pt_cVi (ci := 8) (nA := 3) (As := [.int x1, .int x2, .int x3]) G (X8_set_c hv) hg rfl rfl rfl (by decide +kernel) hR rfl (rcv hv) rfl rfl h8 hd hf kk
abbrev rX8_load : Room := { frames := 2, cells := 0, slots := 0, locals := 42 }
theorem m_X8_load_1 : Cond.fieldLink RX8 7 "StageLinesModel" "state" "[I" ∈ wsX8_load := List.mem_of_getElem? (i := 1) rfl
theorem u_X8_load_X8 : ∀ w ∈ u_ws RX8 TX8 13, w ∈ wsX8_load := mem_r [13, 14, 15, 16, 17, 18, 19, 20, 21, 22, 23, 24, 25] (by decide +kernel)
def X8_load (M : Wo) (a0 : Nat) (x1 : Int32) (x2 : Int32) (x3 : Int32) : Option (Int32 × Wo) :=
  (ckO M a0 8).bind fun _ => (X8_isBar M x1).bind fun v2 => if v2 = 0 then (some ((-1 : Int32), M)) else ((X8_in M x2 (0 : Int32) (1 : Int32)).bind fun v4 => if v4 = 0 then (some ((-2 : Int32), M)) else ((X8_in M x3 (1 : Int32) (50 : Int32)).bind fun v6 => if v6 = 0 then (some ((-2 : Int32), M)) else ((X8_many M a0 x1 x2).bind fun v8 => if v8 = (6 : Int32) then (some ((-4 : Int32), M)) else ((gR M a0 8 0).bind fun w9 => (sA M w9 ((((50 : Int32) + ((12 : Int32) * x1)) + ((6 : Int32) * x2)) + v8) x3).bind fun M11 => (gR M11 a0 8 0).bind fun w13 => (lA M11 0 w13 (((30 : Int32) + ((10 : Int32) * x2)) + x1)).bind fun v15 => (sA M11 w13 (((30 : Int32) + ((10 : Int32) * x2)) + x1) (v15 + (1 : Int32))).bind fun M17 => some ((v8 + (1 : Int32)), M17)))))
theorem X8_load_w {X : Cx} (G : Gd X yX8_load cX8_load wsX8_load 5 (some .int) rX8_load) {M : Wo} {a0 : Nat} {x1 : Int32} {x2 : Int32} {x3 : Int32} {o : (Int32 × Wo)} (hd : X8_load M a0 x1 x2 x3 = some o) (hQ : Qi X o.1 o.2 0 0) : Pt X 0 0 0 M [(0, .ref a0), (1, .int x1), (2, .int x2), (3, .int x3)] [] := by
  unfold X8_load at hd
  obtain ⟨_, _, hd⟩ := bnd hd
  refine pt_iload_n G 1 dX8_load_0 rfl rfl ?_
  obtain ⟨v2, h1, hd⟩ := bnd hd
  refine X8_isBar_v G gX8_load_X8_isBar ⟨(Nat.le_of_ble_eq_true rfl), (Nat.le_of_ble_eq_true rfl)⟩ h1 dX8_load_1 (Nat.le_of_ble_eq_true rfl) ⟨(Nat.le_of_ble_eq_true rfl), (Nat.le_of_ble_eq_true rfl)⟩ ?_
  refine pt_if_ne G 9 dX8_load_4 (by decide) (fun c22 => ?_) (fun c22 => ?_)
  · replace hd := ifn c22 hd
    refine pt_iload_n G 2 dX8_load_9 rfl rfl ?_
    refine pt_iconst G (0 : Int32) dX8_load_10 ci_0 ?_
    refine pt_iconst G (1 : Int32) dX8_load_11 ci_1 ?_
    obtain ⟨v4, h3, hd⟩ := bnd hd
    refine X8_in_v G gX8_load_X8_in ⟨(Nat.le_of_ble_eq_true rfl), (Nat.le_of_ble_eq_true rfl)⟩ h3 dX8_load_12 (Nat.le_of_ble_eq_true rfl) ⟨(Nat.le_of_ble_eq_true rfl), (Nat.le_of_ble_eq_true rfl)⟩ ?_
    refine pt_if_eq G 28 dX8_load_15 (by decide) (fun c21 => ?_) (fun c21 => ?_)
    · replace hd := ifp c21 hd
      refine pt_bipush G (-2 : Int32) dX8_load_28 bi_m2 ?_
      cases hd
      exact pt_iret G hQ dX8_load_30
    · replace hd := ifn c21 hd
      refine pt_iload_n G 3 dX8_load_18 rfl rfl ?_
      refine pt_iconst G (1 : Int32) dX8_load_19 ci_1 ?_
      refine pt_bipush G (50 : Int32) dX8_load_20 bi_50 ?_
      obtain ⟨v6, h5, hd⟩ := bnd hd
      refine X8_in_v G gX8_load_X8_in ⟨(Nat.le_of_ble_eq_true rfl), (Nat.le_of_ble_eq_true rfl)⟩ h5 dX8_load_22 (Nat.le_of_ble_eq_true rfl) ⟨(Nat.le_of_ble_eq_true rfl), (Nat.le_of_ble_eq_true rfl)⟩ ?_
      refine pt_if_ne G 31 dX8_load_25 (by decide) (fun c20 => ?_) (fun c20 => ?_)
      · replace hd := ifn c20 hd
        refine pt_aload_n G 0 dX8_load_31 rfl rfl ?_
        refine pt_iload_n G 1 dX8_load_32 rfl rfl ?_
        refine pt_iload_n G 2 dX8_load_33 rfl rfl ?_
        obtain ⟨v8, h7, hd⟩ := bnd hd
        refine X8_many_v G gX8_load_X8_many ⟨(Nat.le_of_ble_eq_true rfl), (Nat.le_of_ble_eq_true rfl)⟩ h7 dX8_load_34 (Nat.le_of_ble_eq_true rfl) ⟨(Nat.le_of_ble_eq_true rfl), (Nat.le_of_ble_eq_true rfl)⟩ ?_
        refine pt_istore G [(4, .int v8), (0, .ref a0), (1, .int x1), (2, .int x2), (3, .int x3)] dX8_load_37 (by decide) rfl ?_
        refine pt_iload G 0 dX8_load_39 rfl ?_
        refine pt_bipush G (6 : Int32) dX8_load_41 bi_6 ?_
        refine pt_icmp_ne G 49 dX8_load_43 (by decide) (fun c19 => ?_) (fun c19 => ?_)
        · replace hd := ifn c19 hd
          refine pt_aload_n G 1 dX8_load_49 rfl rfl ?_
          obtain ⟨w9, h10, hd⟩ := bnd hd
          refine pt_get G (ci := 8) (j := 0) rfl (by decide) u_X8_load_X8 m_X8_load_1 (gR_o h10) dX8_load_50 ?_
          refine pt_bipush G (50 : Int32) dX8_load_53 bi_50 ?_
          refine pt_bipush G (12 : Int32) dX8_load_55 bi_12 ?_
          refine pt_iload_n G 2 dX8_load_57 rfl rfl ?_
          refine pt_imul G dX8_load_58 ?_
          refine pt_iadd G dX8_load_59 ?_
          refine pt_bipush G (6 : Int32) dX8_load_60 bi_6 ?_
          refine pt_iload_n G 3 dX8_load_62 rfl rfl ?_
          refine pt_imul G dX8_load_63 ?_
          refine pt_iadd G dX8_load_64 ?_
          refine pt_iload G 0 dX8_load_65 rfl ?_
          refine pt_iadd G dX8_load_67 ?_
          refine pt_iload_n G 4 dX8_load_68 rfl rfl ?_
          obtain ⟨M11, h12, hd⟩ := bnd hd
          refine pt_iast G h12 dX8_load_69 ?_
          refine pt_aload_n G 1 dX8_load_70 rfl rfl ?_
          obtain ⟨w13, h14, hd⟩ := bnd hd
          refine pt_get G (ci := 8) (j := 0) rfl (by decide) u_X8_load_X8 m_X8_load_1 (gR_o h14) dX8_load_71 ?_
          refine pt_bipush G (30 : Int32) dX8_load_74 bi_30 ?_
          refine pt_bipush G (10 : Int32) dX8_load_76 bi_10 ?_
          refine pt_iload_n G 3 dX8_load_78 rfl rfl ?_
          refine pt_imul G dX8_load_79 ?_
          refine pt_iadd G dX8_load_80 ?_
          refine pt_iload_n G 2 dX8_load_81 rfl rfl ?_
          refine pt_iadd G dX8_load_82 ?_
          refine pt_dup2 G dX8_load_83 rfl rfl ?_
          obtain ⟨v15, h16, hd⟩ := bnd hd
          refine pt_iald G h16 dX8_load_84 ?_
          refine pt_iconst G (1 : Int32) dX8_load_85 ci_1 ?_
          refine pt_iadd G dX8_load_86 ?_
          obtain ⟨M17, h18, hd⟩ := bnd hd
          refine pt_iast G h18 dX8_load_87 ?_
          refine pt_iload G 0 dX8_load_88 rfl ?_
          refine pt_iconst G (1 : Int32) dX8_load_90 ci_1 ?_
          refine pt_iadd G dX8_load_91 ?_
          cases hd
          exact pt_iret G hQ dX8_load_92
        · replace hd := ifp c19 hd
          refine pt_bipush G (-4 : Int32) dX8_load_46 bi_m4 ?_
          cases hd
          exact pt_iret G hQ dX8_load_48
      · replace hd := ifp c20 hd
        refine pt_bipush G (-2 : Int32) dX8_load_28 bi_m2 ?_
        cases hd
        exact pt_iret G hQ dX8_load_30
  · replace hd := ifp c22 hd
    refine pt_iconst G (-1 : Int32) dX8_load_7 ci_m1 ?_
    cases hd
    exact pt_iret G hQ dX8_load_8
theorem X8_load_c {l : Launch} {D : va_G} {dA : Nat → ClassId} {b : Nat} {M : Wo} {a0 : Nat} {x1 : Int32} {x2 : Int32} {x3 : Int32} {r : Int32} {M2 : Wo} (h : X8_load M a0 x1 x2 x3 = some (r, M2)) : Met l yX8_load wsX8_load rX8_load (va_Pc [.ref a0, .int x1, .int x2, .int x3] (Wd D dA b M)) (Ei D dA b r M2) 0 0 (Ab b) := met_i (by decide) rfl (Nat.le_of_ble_eq_true rfl) (fun X G hN hQ => X8_load_w G h hQ)
theorem X8_load_v {X : Cx} {y : MethodName} {cc : ByteArray} {Ts : List Cond} {nL : Nat} {ret : Option FieldType} {R : Room} (G : Gd X y cc Ts nL ret R) {index : Nat} (hg : GoodIn Ts (wsV y.cls index RX8 yX8_load wsX8_load)) (hR : rX8_load.frames + 1 ≤ R.frames ∧ 8 + (5 + 11) + rX8_load.locals ≤ R.locals) {k n pc : Nat} {M : Wo} {lv : List (Nat × Value)} {st : List Value} {a0 : Nat} {x1 : Int32} {x2 : Int32} {x3 : Int32} {r : Int32} {M2 : Wo} (hv : X8_load M a0 x1 x2 x3 = some (r, M2)) (hd : decode cc pc = .ok (.invokevirtual index, 3)) (h8 : (st.map fun v => v.category).sum ≤ 8) (hf : k ≤ R.cells ∧ n ≤ R.slots) (kk : Pt X k n (pc + 3) M2 lv (.int r :: st)) : Pt X k n pc M lv (.int x3 :: .int x2 :: .int x1 :: .ref a0 :: st) := pt_cVi (ci := 8) (nA := 3) (As := [.int x1, .int x2, .int x3]) G (X8_load_c hv) hg rfl rfl rfl (by decide +kernel) hR rfl (rcv hv) rfl rfl h8 hd hf kk
abbrev rX8_take : Room := { frames := 2, cells := 0, slots := 0, locals := 42 }
theorem m_X8_take_1 : Cond.fieldLink RX8 7 "StageLinesModel" "state" "[I" ∈ wsX8_take := List.mem_of_getElem? (i := 1) rfl
theorem u_X8_take_X8 : ∀ w ∈ u_ws RX8 TX8 13, w ∈ wsX8_take := mem_r [17, 18, 19, 20, 21, 22, 23, 24, 25, 26, 27, 28, 29] (by decide +kernel)
abbrev X8_take_P70 (X : Cx) (a0 : Nat) (x1 : Int32) (x2 : Int32) (x4 : Int32) : (Wo × Int32) → Prop := un2 (fun M x5 => Pt X 0 0 70 M [(0, .ref a0), (1, .int x1), (2, .int x2), (4, .int x4), (5, .int x5)] [])
abbrev X8_take_Z70 (X : Cx) (a0 : Nat) (x1 : Int32) (x2 : Int32) (x4 : Int32) : Wo → Prop := (un1 (fun M => Pt X 0 0 117 M [(4, .int x4)] []))
def X8_take_b70 (a0 : Nat) (x1 : Int32) (x2 : Int32) (x4 : Int32) (M : Wo) (x5 : Int32) : Option ((Wo × Int32) ⊕ Wo) :=
  (X8_many M a0 x1 x2).bind fun v18 => if v18 ≤ x5 then (some (.inr M)) else ((gR M a0 8 0).bind fun w19 => (X8_weight M a0 x1 x2 (x5 + (1 : Int32))).bind fun v22 => (sA M w19 ((((50 : Int32) + ((12 : Int32) * x1)) + ((6 : Int32) * x2)) + x5) v22).bind fun M23 => some (.inl (M23, (x5 + 1))))
theorem X8_take_b70_w {X : Cx} (G : Gd X yX8_take cX8_take wsX8_take 6 (some .int) rX8_take) {a0 : Nat} {x1 : Int32} {x2 : Int32} {x4 : Int32} {M : Wo} {x5 : Int32} {o : ((Wo × Int32) ⊕ Wo)} (hd : X8_take_b70 a0 x1 x2 x4 M x5 = some o) (hc : ∀ s9, o = .inl s9 → X8_take_P70 X a0 x1 x2 x4 s9) (he : ∀ e9, o = .inr e9 → X8_take_Z70 X a0 x1 x2 x4 e9) : Pt X 0 0 70 M [(0, .ref a0), (1, .int x1), (2, .int x2), (4, .int x4), (5, .int x5)] [] := by
  unfold X8_take_b70 at hd
  refine pt_iload G 4 dX8_take_70 rfl ?_
  refine pt_aload_n G 0 dX8_take_72 rfl rfl ?_
  refine pt_iload_n G 1 dX8_take_73 rfl rfl ?_
  refine pt_iload_n G 2 dX8_take_74 rfl rfl ?_
  obtain ⟨v18, h17, hd⟩ := bnd hd
  refine X8_many_v G gX8_take_X8_many ⟨(Nat.le_of_ble_eq_true rfl), (Nat.le_of_ble_eq_true rfl)⟩ h17 dX8_take_75 (Nat.le_of_ble_eq_true rfl) ⟨(Nat.le_of_ble_eq_true rfl), (Nat.le_of_ble_eq_true rfl)⟩ ?_
  refine pt_icmp_ge G 117 dX8_take_78 (by decide) (fun c25 => ?_) (fun c25 => ?_)
  · replace hd := ifp c25 hd
    exact pt_sub [3] rfl (he M (Option.some.inj hd).symm)
  · replace hd := ifn c25 hd
    refine pt_aload_n G 0 dX8_take_81 rfl rfl ?_
    obtain ⟨w19, h20, hd⟩ := bnd hd
    refine pt_get G (ci := 8) (j := 0) rfl (by decide) u_X8_take_X8 m_X8_take_1 (gR_o h20) dX8_take_82 ?_
    refine pt_bipush G (50 : Int32) dX8_take_85 bi_50 ?_
    refine pt_bipush G (12 : Int32) dX8_take_87 bi_12 ?_
    refine pt_iload_n G 1 dX8_take_89 rfl rfl ?_
    refine pt_imul G dX8_take_90 ?_
    refine pt_iadd G dX8_take_91 ?_
    refine pt_bipush G (6 : Int32) dX8_take_92 bi_6 ?_
    refine pt_iload_n G 2 dX8_take_94 rfl rfl ?_
    refine pt_imul G dX8_take_95 ?_
    refine pt_iadd G dX8_take_96 ?_
    refine pt_iload G 4 dX8_take_97 rfl ?_
    refine pt_iadd G dX8_take_99 ?_
    refine pt_aload_n G 0 dX8_take_100 rfl rfl ?_
    refine pt_iload_n G 1 dX8_take_101 rfl rfl ?_
    refine pt_iload_n G 2 dX8_take_102 rfl rfl ?_
    refine pt_iload G 4 dX8_take_103 rfl ?_
    refine pt_iconst G (1 : Int32) dX8_take_105 ci_1 ?_
    refine pt_iadd G dX8_take_106 ?_
    obtain ⟨v22, h21, hd⟩ := bnd hd
    refine X8_weight_v G gX8_take_X8_weight ⟨(Nat.le_of_ble_eq_true rfl), (Nat.le_of_ble_eq_true rfl)⟩ h21 dX8_take_107 (Nat.le_of_ble_eq_true rfl) ⟨(Nat.le_of_ble_eq_true rfl), (Nat.le_of_ble_eq_true rfl)⟩ ?_
    obtain ⟨M23, h24, hd⟩ := bnd hd
    refine pt_iast G h24 dX8_take_110 ?_
    refine pt_iinc G 4 (x5 + 1) [(5, .int (x5 + 1)), (0, .ref a0), (1, .int x1), (2, .int x2), (4, .int x4)] dX8_take_111 rfl (inc_1 _) (by decide) rfl ?_
    refine pt_goto G 70 dX8_take_114 (by decide) ?_
    exact pt_sub [1, 2, 3, 4, 0] rfl (hc (M23, (x5 + 1)) (Option.some.inj hd).symm)
theorem X8_take_w70_w {X : Cx} (G : Gd X yX8_take cX8_take wsX8_take 6 (some .int) rX8_take) {a0 : Nat} {x1 : Int32} {x2 : Int32} {x4 : Int32} (n9 : Nat) (s9 : (Wo × Int32)) (e9 : Wo) (hw : wloop (un2 (X8_take_b70 a0 x1 x2 x4)) n9 s9 = some e9) (hz : X8_take_Z70 X a0 x1 x2 x4 e9) : X8_take_P70 X a0 x1 x2 x4 s9 := by
  refine wl_ind (P := X8_take_P70 X a0 x1 x2 x4) (Z := X8_take_Z70 X a0 x1 x2 x4) ?_ n9 s9 e9 hw hz
  intro s9 o9 hd hc he
  obtain ⟨M, x5⟩ := s9
  exact X8_take_b70_w G hd hc he
def X8_take (M : Wo) (a0 : Nat) (x1 : Int32) (x2 : Int32) (x3 : Int32) : Option (Int32 × Wo) :=
  (ckO M a0 8).bind fun _ => (X8_isBar M x1).bind fun v2 => if v2 = 0 then (some ((-1 : Int32), M)) else ((X8_in M x2 (0 : Int32) (1 : Int32)).bind fun v4 => if v4 = 0 then (some ((-2 : Int32), M)) else ((X8_many M a0 x1 x2).bind fun v6 => (X8_in M x3 (0 : Int32) (v6 - (1 : Int32))).bind fun v8 => if v8 = 0 then (some ((-5 : Int32), M)) else ((X8_weight M a0 x1 x2 x3).bind fun v10 => (gR M a0 8 0).bind fun w11 => (lA M 0 w11 (((30 : Int32) + ((10 : Int32) * x2)) + x1)).bind fun v13 => (sA M w11 (((30 : Int32) + ((10 : Int32) * x2)) + x1) (v13 - (1 : Int32))).bind fun M15 => (wloop (un2 (X8_take_b70 a0 x1 x2 v10)) FU (M15, x3)).bind fun M26 => some (v10, M26))))
theorem X8_take_w {X : Cx} (G : Gd X yX8_take cX8_take wsX8_take 6 (some .int) rX8_take) {M : Wo} {a0 : Nat} {x1 : Int32} {x2 : Int32} {x3 : Int32} {o : (Int32 × Wo)} (hd : X8_take M a0 x1 x2 x3 = some o) (hQ : Qi X o.1 o.2 0 0) : Pt X 0 0 0 M [(0, .ref a0), (1, .int x1), (2, .int x2), (3, .int x3)] [] := by
  unfold X8_take at hd
  obtain ⟨_, _, hd⟩ := bnd hd
  refine pt_iload_n G 1 dX8_take_0 rfl rfl ?_
  obtain ⟨v2, h1, hd⟩ := bnd hd
  refine X8_isBar_v G gX8_take_X8_isBar ⟨(Nat.le_of_ble_eq_true rfl), (Nat.le_of_ble_eq_true rfl)⟩ h1 dX8_take_1 (Nat.le_of_ble_eq_true rfl) ⟨(Nat.le_of_ble_eq_true rfl), (Nat.le_of_ble_eq_true rfl)⟩ ?_
  refine pt_if_ne G 9 dX8_take_4 (by decide) (fun c30 => ?_) (fun c30 => ?_)
  · replace hd := ifn c30 hd
    refine pt_iload_n G 2 dX8_take_9 rfl rfl ?_
    refine pt_iconst G (0 : Int32) dX8_take_10 ci_0 ?_
    refine pt_iconst G (1 : Int32) dX8_take_11 ci_1 ?_
    obtain ⟨v4, h3, hd⟩ := bnd hd
    refine X8_in_v G gX8_take_X8_in ⟨(Nat.le_of_ble_eq_true rfl), (Nat.le_of_ble_eq_true rfl)⟩ h3 dX8_take_12 (Nat.le_of_ble_eq_true rfl) ⟨(Nat.le_of_ble_eq_true rfl), (Nat.le_of_ble_eq_true rfl)⟩ ?_
    refine pt_if_ne G 21 dX8_take_15 (by decide) (fun c29 => ?_) (fun c29 => ?_)
    · replace hd := ifn c29 hd
      refine pt_iload_n G 3 dX8_take_21 rfl rfl ?_
      refine pt_iconst G (0 : Int32) dX8_take_22 ci_0 ?_
      refine pt_aload_n G 0 dX8_take_23 rfl rfl ?_
      refine pt_iload_n G 1 dX8_take_24 rfl rfl ?_
      refine pt_iload_n G 2 dX8_take_25 rfl rfl ?_
      obtain ⟨v6, h5, hd⟩ := bnd hd
      refine X8_many_v G gX8_take_X8_many ⟨(Nat.le_of_ble_eq_true rfl), (Nat.le_of_ble_eq_true rfl)⟩ h5 dX8_take_26 (Nat.le_of_ble_eq_true rfl) ⟨(Nat.le_of_ble_eq_true rfl), (Nat.le_of_ble_eq_true rfl)⟩ ?_
      refine pt_iconst G (1 : Int32) dX8_take_29 ci_1 ?_
      refine pt_isub G dX8_take_30 ?_
      obtain ⟨v8, h7, hd⟩ := bnd hd
      refine X8_in_v G gX8_take_X8_in ⟨(Nat.le_of_ble_eq_true rfl), (Nat.le_of_ble_eq_true rfl)⟩ h7 dX8_take_31 (Nat.le_of_ble_eq_true rfl) ⟨(Nat.le_of_ble_eq_true rfl), (Nat.le_of_ble_eq_true rfl)⟩ ?_
      refine pt_if_ne G 40 dX8_take_34 (by decide) (fun c28 => ?_) (fun c28 => ?_)
      · replace hd := ifn c28 hd
        refine pt_aload_n G 0 dX8_take_40 rfl rfl ?_
        refine pt_iload_n G 1 dX8_take_41 rfl rfl ?_
        refine pt_iload_n G 2 dX8_take_42 rfl rfl ?_
        refine pt_iload_n G 3 dX8_take_43 rfl rfl ?_
        obtain ⟨v10, h9, hd⟩ := bnd hd
        refine X8_weight_v G gX8_take_X8_weight ⟨(Nat.le_of_ble_eq_true rfl), (Nat.le_of_ble_eq_true rfl)⟩ h9 dX8_take_44 (Nat.le_of_ble_eq_true rfl) ⟨(Nat.le_of_ble_eq_true rfl), (Nat.le_of_ble_eq_true rfl)⟩ ?_
        refine pt_istore G [(4, .int v10), (0, .ref a0), (1, .int x1), (2, .int x2), (3, .int x3)] dX8_take_47 (by decide) rfl ?_
        refine pt_aload_n G 1 dX8_take_49 rfl rfl ?_
        obtain ⟨w11, h12, hd⟩ := bnd hd
        refine pt_get G (ci := 8) (j := 0) rfl (by decide) u_X8_take_X8 m_X8_take_1 (gR_o h12) dX8_take_50 ?_
        refine pt_bipush G (30 : Int32) dX8_take_53 bi_30 ?_
        refine pt_bipush G (10 : Int32) dX8_take_55 bi_10 ?_
        refine pt_iload_n G 3 dX8_take_57 rfl rfl ?_
        refine pt_imul G dX8_take_58 ?_
        refine pt_iadd G dX8_take_59 ?_
        refine pt_iload_n G 2 dX8_take_60 rfl rfl ?_
        refine pt_iadd G dX8_take_61 ?_
        refine pt_dup2 G dX8_take_62 rfl rfl ?_
        obtain ⟨v13, h14, hd⟩ := bnd hd
        refine pt_iald G h14 dX8_take_63 ?_
        refine pt_iconst G (1 : Int32) dX8_take_64 ci_1 ?_
        refine pt_isub G dX8_take_65 ?_
        obtain ⟨M15, h16, hd⟩ := bnd hd
        refine pt_iast G h16 dX8_take_66 ?_
        refine pt_iload_n G 4 dX8_take_67 rfl rfl ?_
        refine pt_istore G [(5, .int x3), (4, .int v10), (0, .ref a0), (1, .int x1), (2, .int x2), (3, .int x3)] dX8_take_68 (by decide) rfl ?_
        obtain ⟨M26, hw27, hd⟩ := bnd hd
        refine pt_sub [2, 3, 4, 1, 0] rfl (X8_take_w70_w G _ _ _ hw27 ?_)
        show Pt X 0 0 _ _ _ []
        refine pt_iload G 0 dX8_take_117 rfl ?_
        cases hd
        exact pt_iret G hQ dX8_take_119
      · replace hd := ifp c28 hd
        refine pt_bipush G (-5 : Int32) dX8_take_37 bi_m5 ?_
        cases hd
        exact pt_iret G hQ dX8_take_39
    · replace hd := ifp c29 hd
      refine pt_bipush G (-2 : Int32) dX8_take_18 bi_m2 ?_
      cases hd
      exact pt_iret G hQ dX8_take_20
  · replace hd := ifp c30 hd
    refine pt_iconst G (-1 : Int32) dX8_take_7 ci_m1 ?_
    cases hd
    exact pt_iret G hQ dX8_take_8
theorem X8_take_c {l : Launch} {D : va_G} {dA : Nat → ClassId} {b : Nat} {M : Wo} {a0 : Nat} {x1 : Int32} {x2 : Int32} {x3 : Int32} {r : Int32} {M2 : Wo} (h : X8_take M a0 x1 x2 x3 = some (r, M2)) : Met l yX8_take wsX8_take rX8_take (va_Pc [.ref a0, .int x1, .int x2, .int x3] (Wd D dA b M)) (Ei D dA b r M2) 0 0 (Ab b) := met_i (by decide) rfl (Nat.le_of_ble_eq_true rfl) (fun X G hN hQ => X8_take_w G h hQ)
theorem X8_take_v {X : Cx} {y : MethodName} {cc : ByteArray} {Ts : List Cond} {nL : Nat} {ret : Option FieldType} {R : Room} (G : Gd X y cc Ts nL ret R) {index : Nat} (hg : GoodIn Ts (wsV y.cls index RX8 yX8_take wsX8_take)) (hR : rX8_take.frames + 1 ≤ R.frames ∧ 8 + (6 + 11) + rX8_take.locals ≤ R.locals) {k n pc : Nat} {M : Wo} {lv : List (Nat × Value)} {st : List Value} {a0 : Nat} {x1 : Int32} {x2 : Int32} {x3 : Int32} {r : Int32} {M2 : Wo} (hv : X8_take M a0 x1 x2 x3 = some (r, M2)) (hd : decode cc pc = .ok (.invokevirtual index, 3)) (h8 : (st.map fun v => v.category).sum ≤ 8) (hf : k ≤ R.cells ∧ n ≤ R.slots) (kk : Pt X k n (pc + 3) M2 lv (.int r :: st)) : Pt X k n pc M lv (.int x3 :: .int x2 :: .int x1 :: .ref a0 :: st) := pt_cVi (ci := 8) (nA := 3) (As := [.int x1, .int x2, .int x3]) G (X8_take_c hv) hg rfl rfl rfl (by decide +kernel) hR rfl (rcv hv) rfl rfl h8 hd hf kk
abbrev rX8_movesOf : Room := { frames := 0, cells := 0, slots := 0, locals := 0 }
theorem m_X8_movesOf_1 : Cond.fieldLink RX8 7 "StageLinesModel" "state" "[I" ∈ wsX8_movesOf := List.mem_of_getElem? (i := 1) rfl
theorem u_X8_movesOf_X8 : ∀ w ∈ u_ws RX8 TX8 13, w ∈ wsX8_movesOf := mem_r [2, 3, 4, 5, 6, 7, 8, 9, 10, 11, 12, 13, 14] (by decide +kernel)
abbrev X8_movesOf_P4 (X : Cx) (M : Wo) (a0 : Nat) (x1 : Int32) : (Int32 × Int32) → Prop := un2 (fun x2 x3 => Pt X 0 0 4 M [(0, .ref a0), (1, .int x1), (2, .int x2), (3, .int x3)] [])
abbrev X8_movesOf_Z4 (X : Cx) (M : Wo) (a0 : Nat) (x1 : Int32) : Int32 → Prop := (un1 (fun x2 => Pt X 0 0 44 M [(2, .int x2)] []))
def X8_movesOf_b4 (M : Wo) (a0 : Nat) (x1 : Int32) (x2 : Int32) (x3 : Int32) : Option ((Int32 × Int32) ⊕ Int32) :=
  (gR M a0 8 0).bind fun w1 => (lA M 0 w1 (211 : Int32)).bind fun v3 => if v3 ≤ x3 then (some (.inr x2)) else ((gR M a0 8 0).bind fun w5 => (lA M 0 w5 ((171 : Int32) + x3)).bind fun v7 => if v7 = x1 then (some (.inl ((x2 + (1 : Int32)), (x3 + 1)))) else (some (.inl ((x2 + (0 : Int32)), (x3 + 1)))))
theorem X8_movesOf_b4_w {X : Cx} (G : Gd X yX8_movesOf cX8_movesOf wsX8_movesOf 4 (some .int) rX8_movesOf) {M : Wo} {a0 : Nat} {x1 : Int32} {x2 : Int32} {x3 : Int32} {o : ((Int32 × Int32) ⊕ Int32)} (hd : X8_movesOf_b4 M a0 x1 x2 x3 = some o) (hc : ∀ s9, o = .inl s9 → X8_movesOf_P4 X M a0 x1 s9) (he : ∀ e9, o = .inr e9 → X8_movesOf_Z4 X M a0 x1 e9) : Pt X 0 0 4 M [(0, .ref a0), (1, .int x1), (2, .int x2), (3, .int x3)] [] := by
  unfold X8_movesOf_b4 at hd
  refine pt_iload_n G 3 dX8_movesOf_4 rfl rfl ?_
  refine pt_aload_n G 0 dX8_movesOf_5 rfl rfl ?_
  obtain ⟨w1, h2, hd⟩ := bnd hd
  refine pt_get G (ci := 8) (j := 0) rfl (by decide) u_X8_movesOf_X8 m_X8_movesOf_1 (gR_o h2) dX8_movesOf_6 ?_
  refine pt_sipush G (211 : Int32) dX8_movesOf_9 si_211 ?_
  obtain ⟨v3, h4, hd⟩ := bnd hd
  refine pt_iald G h4 dX8_movesOf_12 ?_
  refine pt_icmp_ge G 44 dX8_movesOf_13 (by decide) (fun c10 => ?_) (fun c10 => ?_)
  · replace hd := ifp c10 hd
    exact pt_sub [2] rfl (he x2 (Option.some.inj hd).symm)
  · replace hd := ifn c10 hd
    refine pt_iload_n G 2 dX8_movesOf_16 rfl rfl ?_
    refine pt_aload_n G 0 dX8_movesOf_17 rfl rfl ?_
    obtain ⟨w5, h6, hd⟩ := bnd hd
    refine pt_get G (ci := 8) (j := 0) rfl (by decide) u_X8_movesOf_X8 m_X8_movesOf_1 (gR_o h6) dX8_movesOf_18 ?_
    refine pt_sipush G (171 : Int32) dX8_movesOf_21 si_171 ?_
    refine pt_iload_n G 3 dX8_movesOf_24 rfl rfl ?_
    refine pt_iadd G dX8_movesOf_25 ?_
    obtain ⟨v7, h8, hd⟩ := bnd hd
    refine pt_iald G h8 dX8_movesOf_26 ?_
    refine pt_iload_n G 1 dX8_movesOf_27 rfl rfl ?_
    refine pt_icmp_ne G 35 dX8_movesOf_28 (by decide) (fun c9 => ?_) (fun c9 => ?_)
    · replace hd := ifn c9 hd
      refine pt_iconst G (0 : Int32) dX8_movesOf_35 ci_0 ?_
      refine pt_iadd G dX8_movesOf_36 ?_
      refine pt_istore_n G [(2, .int (x2 + (0 : Int32))), (0, .ref a0), (1, .int x1), (3, .int x3)] dX8_movesOf_37 rfl (by decide) rfl ?_
      refine pt_iinc G 3 (x3 + 1) [(3, .int (x3 + 1)), (2, .int (x2 + (0 : Int32))), (0, .ref a0), (1, .int x1)] dX8_movesOf_38 rfl (inc_1 _) (by decide) rfl ?_
      refine pt_goto G 4 dX8_movesOf_41 (by decide) ?_
      exact pt_sub [2, 3, 1, 0] rfl (hc ((x2 + (0 : Int32)), (x3 + 1)) (Option.some.inj hd).symm)
    · replace hd := ifp c9 hd
      refine pt_iconst G (1 : Int32) dX8_movesOf_31 ci_1 ?_
      refine pt_goto G 36 dX8_movesOf_32 (by decide) ?_
      refine pt_iadd G dX8_movesOf_36 ?_
      refine pt_istore_n G [(2, .int (x2 + (1 : Int32))), (0, .ref a0), (1, .int x1), (3, .int x3)] dX8_movesOf_37 rfl (by decide) rfl ?_
      refine pt_iinc G 3 (x3 + 1) [(3, .int (x3 + 1)), (2, .int (x2 + (1 : Int32))), (0, .ref a0), (1, .int x1)] dX8_movesOf_38 rfl (inc_1 _) (by decide) rfl ?_
      refine pt_goto G 4 dX8_movesOf_41 (by decide) ?_
      exact pt_sub [2, 3, 1, 0] rfl (hc ((x2 + (1 : Int32)), (x3 + 1)) (Option.some.inj hd).symm)
theorem X8_movesOf_w4_w {X : Cx} (G : Gd X yX8_movesOf cX8_movesOf wsX8_movesOf 4 (some .int) rX8_movesOf) {M : Wo} {a0 : Nat} {x1 : Int32} (n9 : Nat) (s9 : (Int32 × Int32)) (e9 : Int32) (hw : wloop (un2 (X8_movesOf_b4 M a0 x1)) n9 s9 = some e9) (hz : X8_movesOf_Z4 X M a0 x1 e9) : X8_movesOf_P4 X M a0 x1 s9 := by
  refine wl_ind (P := X8_movesOf_P4 X M a0 x1) (Z := X8_movesOf_Z4 X M a0 x1) ?_ n9 s9 e9 hw hz
  intro s9 o9 hd hc he
  obtain ⟨x2, x3⟩ := s9
  exact X8_movesOf_b4_w G hd hc he
def X8_movesOf (M : Wo) (a0 : Nat) (x1 : Int32) : Option Int32 :=
  (ckO M a0 8).bind fun _ => (wloop (un2 (X8_movesOf_b4 M a0 x1)) FU ((0 : Int32), (0 : Int32))).bind fun v11 => some v11
theorem X8_movesOf_w {X : Cx} (G : Gd X yX8_movesOf cX8_movesOf wsX8_movesOf 4 (some .int) rX8_movesOf) {M : Wo} {a0 : Nat} {x1 : Int32} {o : Int32} (hd : X8_movesOf M a0 x1 = some o) (hQ : Qi X o M 0 0) : Pt X 0 0 0 M [(0, .ref a0), (1, .int x1)] [] := by
  unfold X8_movesOf at hd
  obtain ⟨_, _, hd⟩ := bnd hd
  refine pt_iconst G (0 : Int32) dX8_movesOf_0 ci_0 ?_
  refine pt_istore_n G [(2, .int (0 : Int32)), (0, .ref a0), (1, .int x1)] dX8_movesOf_1 rfl (by decide) rfl ?_
  refine pt_iconst G (0 : Int32) dX8_movesOf_2 ci_0 ?_
  refine pt_istore_n G [(3, .int (0 : Int32)), (2, .int (0 : Int32)), (0, .ref a0), (1, .int x1)] dX8_movesOf_3 rfl (by decide) rfl ?_
  obtain ⟨v11, hw12, hd⟩ := bnd hd
  refine pt_sub [2, 3, 1, 0] rfl (X8_movesOf_w4_w G _ _ _ hw12 ?_)
  show Pt X 0 0 _ _ _ []
  refine pt_iload_n G 0 dX8_movesOf_44 rfl rfl ?_
  cases hd
  exact pt_iret G hQ dX8_movesOf_45
theorem X8_movesOf_c {l : Launch} {D : va_G} {dA : Nat → ClassId} {b : Nat} {M : Wo} {a0 : Nat} {x1 : Int32} {r : Int32} (h : X8_movesOf M a0 x1 = some r) : Met l yX8_movesOf wsX8_movesOf rX8_movesOf (va_Pc [.ref a0, .int x1] (Wd D dA b M)) (Ei D dA b r M) 0 0 (Ab b) := met_i (by decide) rfl (Nat.le_of_ble_eq_true rfl) (fun X G hN hQ => X8_movesOf_w G h hQ)
theorem X8_movesOf_v {X : Cx} {y : MethodName} {cc : ByteArray} {Ts : List Cond} {nL : Nat} {ret : Option FieldType} {R : Room} (G : Gd X y cc Ts nL ret R) {index : Nat} (hg : GoodIn Ts (wsV y.cls index RX8 yX8_movesOf wsX8_movesOf)) (hR : rX8_movesOf.frames + 1 ≤ R.frames ∧ 8 + (4 + 11) + rX8_movesOf.locals ≤ R.locals) {k n pc : Nat} {M : Wo} {lv : List (Nat × Value)} {st : List Value} {a0 : Nat} {x1 : Int32} {r : Int32} (hv : X8_movesOf M a0 x1 = some r) (hd : decode cc pc = .ok (.invokevirtual index, 3)) (h8 : (st.map fun v => v.category).sum ≤ 8) (hf : k ≤ R.cells ∧ n ≤ R.slots) (kk : Pt X k n (pc + 3) M lv (.int r :: st)) : Pt X k n pc M lv (.int x1 :: .ref a0 :: st) := pt_cVi (ci := 8) (nA := 1) (As := [.int x1]) G (X8_movesOf_c hv) hg rfl rfl rfl (by decide +kernel) hR rfl (rcv hv) rfl rfl h8 hd hf kk
abbrev rX8_thing : Room := { frames := 1, cells := 0, slots := 0, locals := 23 }
def X8_thing (M : Wo) (a0 : Nat) (x1 : Int32) (x2 : Int32) (x3 : Int32) : Option Int32 :=
  (ckO M a0 8).bind fun _ => (X8_many M a0 x1 x2).bind fun v2 => if v2 ≤ x3 then (some (-6 : Int32)) else ((X8_weight M a0 x1 x2 x3).bind fun v4 => some v4)
theorem X8_thing_w {X : Cx} (G : Gd X yX8_thing cX8_thing wsX8_thing 4 (some .int) rX8_thing) {M : Wo} {a0 : Nat} {x1 : Int32} {x2 : Int32} {x3 : Int32} {o : Int32} (hd : X8_thing M a0 x1 x2 x3 = some o) (hQ : Qi X o M 0 0) : Pt X 0 0 0 M [(0, .ref a0), (1, .int x1), (2, .int x2), (3, .int x3)] [] := by
  unfold X8_thing at hd
  obtain ⟨_, _, hd⟩ := bnd hd
  refine pt_iload_n G 3 dX8_thing_0 rfl rfl ?_
  refine pt_aload_n G 0 dX8_thing_1 rfl rfl ?_
  refine pt_iload_n G 1 dX8_thing_2 rfl rfl ?_
  refine pt_iload_n G 2 dX8_thing_3 rfl rfl ?_
  obtain ⟨v2, h1, hd⟩ := bnd hd
  refine X8_many_v G gX8_thing_X8_many ⟨(Nat.le_of_ble_eq_true rfl), (Nat.le_of_ble_eq_true rfl)⟩ h1 dX8_thing_4 (Nat.le_of_ble_eq_true rfl) ⟨(Nat.le_of_ble_eq_true rfl), (Nat.le_of_ble_eq_true rfl)⟩ ?_
  refine pt_icmp_ge G 20 dX8_thing_7 (by decide) (fun c5 => ?_) (fun c5 => ?_)
  · replace hd := ifp c5 hd
    refine pt_bipush G (-6 : Int32) dX8_thing_20 bi_m6 ?_
    cases hd
    exact pt_iret G hQ dX8_thing_22
  · replace hd := ifn c5 hd
    refine pt_aload_n G 0 dX8_thing_10 rfl rfl ?_
    refine pt_iload_n G 1 dX8_thing_11 rfl rfl ?_
    refine pt_iload_n G 2 dX8_thing_12 rfl rfl ?_
    refine pt_iload_n G 3 dX8_thing_13 rfl rfl ?_
    obtain ⟨v4, h3, hd⟩ := bnd hd
    refine X8_weight_v G gX8_thing_X8_weight ⟨(Nat.le_of_ble_eq_true rfl), (Nat.le_of_ble_eq_true rfl)⟩ h3 dX8_thing_14 (Nat.le_of_ble_eq_true rfl) ⟨(Nat.le_of_ble_eq_true rfl), (Nat.le_of_ble_eq_true rfl)⟩ ?_
    refine pt_goto G 22 dX8_thing_17 (by decide) ?_
    cases hd
    exact pt_iret G hQ dX8_thing_22
theorem X8_thing_c {l : Launch} {D : va_G} {dA : Nat → ClassId} {b : Nat} {M : Wo} {a0 : Nat} {x1 : Int32} {x2 : Int32} {x3 : Int32} {r : Int32} (h : X8_thing M a0 x1 x2 x3 = some r) : Met l yX8_thing wsX8_thing rX8_thing (va_Pc [.ref a0, .int x1, .int x2, .int x3] (Wd D dA b M)) (Ei D dA b r M) 0 0 (Ab b) := met_i (by decide) rfl (Nat.le_of_ble_eq_true rfl) (fun X G hN hQ => X8_thing_w G h hQ)
theorem X8_thing_v {X : Cx} {y : MethodName} {cc : ByteArray} {Ts : List Cond} {nL : Nat} {ret : Option FieldType} {R : Room} (G : Gd X y cc Ts nL ret R) {index : Nat} (hg : GoodIn Ts (wsV y.cls index RX8 yX8_thing wsX8_thing)) (hR : rX8_thing.frames + 1 ≤ R.frames ∧ 8 + (4 + 11) + rX8_thing.locals ≤ R.locals) {k n pc : Nat} {M : Wo} {lv : List (Nat × Value)} {st : List Value} {a0 : Nat} {x1 : Int32} {x2 : Int32} {x3 : Int32} {r : Int32} (hv : X8_thing M a0 x1 x2 x3 = some r) (hd : decode cc pc = .ok (.invokevirtual index, 3)) (h8 : (st.map fun v => v.category).sum ≤ 8) (hf : k ≤ R.cells ∧ n ≤ R.slots) (kk : Pt X k n (pc + 3) M lv (.int r :: st)) : Pt X k n pc M lv (.int x3 :: .int x2 :: .int x1 :: .ref a0 :: st) := pt_cVi (ci := 8) (nA := 3) (As := [.int x1, .int x2, .int x3]) G (X8_thing_c hv) hg rfl rfl rfl (by decide +kernel) hR rfl (rcv hv) rfl rfl h8 hd hf kk
abbrev rX8_bar : Room := { frames := 3, cells := 0, slots := 0, locals := 68 }
theorem m_X8_bar_1 : Cond.fieldLink RX8 7 "StageLinesModel" "state" "[I" ∈ wsX8_bar := List.mem_of_getElem? (i := 1) rfl
theorem u_X8_bar_X8 : ∀ w ∈ u_ws RX8 TX8 13, w ∈ wsX8_bar := mem_r [36, 37, 38, 39, 40, 41, 42, 43, 44, 45, 46, 47, 48] (by decide +kernel)
def X8_bar (M : Wo) (a0 : Nat) (x1 : Int32) (x2 : Int32) : Option Int32 :=
  (ckO M a0 8).bind fun _ => (X8_isBar M x1).bind fun v2 => if v2 = 0 then (some (-1 : Int32)) else ((X8_in M x2 (10 : Int32) (15 : Int32)).bind fun v4 => if v4 = 0 then ((X8_in M x2 (20 : Int32) (25 : Int32)).bind fun v6 => if v6 = 0 then (if x2 = (0 : Int32) then ((gR M a0 8 0).bind fun w8 => (lA M 0 w8 (((10 : Int32) * x2) + x1)).bind fun v10 => some v10) else if x2 = (1 : Int32) then ((gR M a0 8 0).bind fun w13 => (lA M 0 w13 (((10 : Int32) * x2) + x1)).bind fun v15 => some v15) else if x2 = (2 : Int32) then ((gR M a0 8 0).bind fun w18 => (lA M 0 w18 (((10 : Int32) * x2) + x1)).bind fun v20 => some v20) else if x2 = (3 : Int32) then ((X8_many M a0 x1 (x2 - (3 : Int32))).bind fun v24 => some v24) else if x2 = (4 : Int32) then ((X8_many M a0 x1 (x2 - (3 : Int32))).bind fun v27 => some v27) else if x2 = (5 : Int32) then ((X8_together M a0 x1 (x2 - (5 : Int32))).bind fun v30 => some v30) else if x2 = (6 : Int32) then ((X8_together M a0 x1 (x2 - (5 : Int32))).bind fun v33 => some v33) else if x2 = (7 : Int32) then ((X8_isEven M a0 x1).bind fun v36 => if v36 = 0 then (some (0 : Int32)) else (some (1 : Int32))) else if x2 = (8 : Int32) then ((X8_movesOf M a0 x1).bind fun v40 => some v40) else (some (-2 : Int32))) else ((X8_thing M a0 x1 (1 : Int32) (x2 - (20 : Int32))).bind fun v42 => some v42)) else ((X8_thing M a0 x1 (0 : Int32) (x2 - (10 : Int32))).bind fun v45 => some v45))
theorem X8_bar_w {X : Cx} (G : Gd X yX8_bar cX8_bar wsX8_bar 3 (some .int) rX8_bar) {M : Wo} {a0 : Nat} {x1 : Int32} {x2 : Int32} {o : Int32} (hd : X8_bar M a0 x1 x2 = some o) (hQ : Qi X o M 0 0) : Pt X 0 0 0 M [(0, .ref a0), (1, .int x1), (2, .int x2)] [] := by
  unfold X8_bar at hd
  obtain ⟨_, _, hd⟩ := bnd hd
  refine pt_iload_n G 1 dX8_bar_0 rfl rfl ?_
  obtain ⟨v2, h1, hd⟩ := bnd hd
  refine X8_isBar_v G gX8_bar_X8_isBar ⟨(Nat.le_of_ble_eq_true rfl), (Nat.le_of_ble_eq_true rfl)⟩ h1 dX8_bar_1 (Nat.le_of_ble_eq_true rfl) ⟨(Nat.le_of_ble_eq_true rfl), (Nat.le_of_ble_eq_true rfl)⟩ ?_
  refine pt_if_ne G 9 dX8_bar_4 (by decide) (fun c47 => ?_) (fun c47 => ?_)
  · replace hd := ifn c47 hd
    refine pt_iload_n G 2 dX8_bar_9 rfl rfl ?_
    refine pt_bipush G (10 : Int32) dX8_bar_10 bi_10 ?_
    refine pt_bipush G (15 : Int32) dX8_bar_12 bi_15 ?_
    obtain ⟨v4, h3, hd⟩ := bnd hd
    refine X8_in_v G gX8_bar_X8_in ⟨(Nat.le_of_ble_eq_true rfl), (Nat.le_of_ble_eq_true rfl)⟩ h3 dX8_bar_14 (Nat.le_of_ble_eq_true rfl) ⟨(Nat.le_of_ble_eq_true rfl), (Nat.le_of_ble_eq_true rfl)⟩ ?_
    refine pt_if_eq G 31 dX8_bar_17 (by decide) (fun c46 => ?_) (fun c46 => ?_)
    · replace hd := ifp c46 hd
      refine pt_iload_n G 2 dX8_bar_31 rfl rfl ?_
      refine pt_bipush G (20 : Int32) dX8_bar_32 bi_20 ?_
      refine pt_bipush G (25 : Int32) dX8_bar_34 bi_25 ?_
      obtain ⟨v6, h5, hd⟩ := bnd hd
      refine X8_in_v G gX8_bar_X8_in ⟨(Nat.le_of_ble_eq_true rfl), (Nat.le_of_ble_eq_true rfl)⟩ h5 dX8_bar_36 (Nat.le_of_ble_eq_true rfl) ⟨(Nat.le_of_ble_eq_true rfl), (Nat.le_of_ble_eq_true rfl)⟩ ?_
      refine pt_if_eq G 53 dX8_bar_39 (by decide) (fun c43 => ?_) (fun c43 => ?_)
      · replace hd := ifp c43 hd
        refine pt_iload_n G 2 dX8_bar_53 rfl rfl ?_
        by_cases c7 : x2 = (0 : Int32)
        · replace hd := ifp c7 hd
          refine pt_tsIn G 104 dX8_bar_54 (by rw [c7]; decide) (by rw [c7]; decide) (by rw [c7]; rfl) (by decide) ?_
          refine pt_aload_n G 0 dX8_bar_104 rfl rfl ?_
          obtain ⟨w8, h9, hd⟩ := bnd hd
          refine pt_get G (ci := 8) (j := 0) rfl (by decide) u_X8_bar_X8 m_X8_bar_1 (gR_o h9) dX8_bar_105 ?_
          refine pt_bipush G (10 : Int32) dX8_bar_108 bi_10 ?_
          refine pt_iload_n G 2 dX8_bar_110 rfl rfl ?_
          refine pt_imul G dX8_bar_111 ?_
          refine pt_iload_n G 1 dX8_bar_112 rfl rfl ?_
          refine pt_iadd G dX8_bar_113 ?_
          obtain ⟨v10, h11, hd⟩ := bnd hd
          refine pt_iald G h11 dX8_bar_114 ?_
          cases hd
          exact pt_iret G hQ dX8_bar_115
        replace hd := ifn c7 hd
        by_cases c12 : x2 = (1 : Int32)
        · replace hd := ifp c12 hd
          refine pt_tsIn G 104 dX8_bar_54 (by rw [c12]; decide) (by rw [c12]; decide) (by rw [c12]; rfl) (by decide) ?_
          refine pt_aload_n G 0 dX8_bar_104 rfl rfl ?_
          obtain ⟨w13, h14, hd⟩ := bnd hd
          refine pt_get G (ci := 8) (j := 0) rfl (by decide) u_X8_bar_X8 m_X8_bar_1 (gR_o h14) dX8_bar_105 ?_
          refine pt_bipush G (10 : Int32) dX8_bar_108 bi_10 ?_
          refine pt_iload_n G 2 dX8_bar_110 rfl rfl ?_
          refine pt_imul G dX8_bar_111 ?_
          refine pt_iload_n G 1 dX8_bar_112 rfl rfl ?_
          refine pt_iadd G dX8_bar_113 ?_
          obtain ⟨v15, h16, hd⟩ := bnd hd
          refine pt_iald G h16 dX8_bar_114 ?_
          cases hd
          exact pt_iret G hQ dX8_bar_115
        replace hd := ifn c12 hd
        by_cases c17 : x2 = (2 : Int32)
        · replace hd := ifp c17 hd
          refine pt_tsIn G 104 dX8_bar_54 (by rw [c17]; decide) (by rw [c17]; decide) (by rw [c17]; rfl) (by decide) ?_
          refine pt_aload_n G 0 dX8_bar_104 rfl rfl ?_
          obtain ⟨w18, h19, hd⟩ := bnd hd
          refine pt_get G (ci := 8) (j := 0) rfl (by decide) u_X8_bar_X8 m_X8_bar_1 (gR_o h19) dX8_bar_105 ?_
          refine pt_bipush G (10 : Int32) dX8_bar_108 bi_10 ?_
          refine pt_iload_n G 2 dX8_bar_110 rfl rfl ?_
          refine pt_imul G dX8_bar_111 ?_
          refine pt_iload_n G 1 dX8_bar_112 rfl rfl ?_
          refine pt_iadd G dX8_bar_113 ?_
          obtain ⟨v20, h21, hd⟩ := bnd hd
          refine pt_iald G h21 dX8_bar_114 ?_
          cases hd
          exact pt_iret G hQ dX8_bar_115
        replace hd := ifn c17 hd
        by_cases c22 : x2 = (3 : Int32)
        · replace hd := ifp c22 hd
          refine pt_tsIn G 116 dX8_bar_54 (by rw [c22]; decide) (by rw [c22]; decide) (by rw [c22]; rfl) (by decide) ?_
          refine pt_aload_n G 0 dX8_bar_116 rfl rfl ?_
          refine pt_iload_n G 1 dX8_bar_117 rfl rfl ?_
          refine pt_iload_n G 2 dX8_bar_118 rfl rfl ?_
          refine pt_iconst G (3 : Int32) dX8_bar_119 ci_3 ?_
          refine pt_isub G dX8_bar_120 ?_
          obtain ⟨v24, h23, hd⟩ := bnd hd
          refine X8_many_v G gX8_bar_X8_many ⟨(Nat.le_of_ble_eq_true rfl), (Nat.le_of_ble_eq_true rfl)⟩ h23 dX8_bar_121 (Nat.le_of_ble_eq_true rfl) ⟨(Nat.le_of_ble_eq_true rfl), (Nat.le_of_ble_eq_true rfl)⟩ ?_
          cases hd
          exact pt_iret G hQ dX8_bar_124
        replace hd := ifn c22 hd
        by_cases c25 : x2 = (4 : Int32)
        · replace hd := ifp c25 hd
          refine pt_tsIn G 116 dX8_bar_54 (by rw [c25]; decide) (by rw [c25]; decide) (by rw [c25]; rfl) (by decide) ?_
          refine pt_aload_n G 0 dX8_bar_116 rfl rfl ?_
          refine pt_iload_n G 1 dX8_bar_117 rfl rfl ?_
          refine pt_iload_n G 2 dX8_bar_118 rfl rfl ?_
          refine pt_iconst G (3 : Int32) dX8_bar_119 ci_3 ?_
          refine pt_isub G dX8_bar_120 ?_
          obtain ⟨v27, h26, hd⟩ := bnd hd
          refine X8_many_v G gX8_bar_X8_many ⟨(Nat.le_of_ble_eq_true rfl), (Nat.le_of_ble_eq_true rfl)⟩ h26 dX8_bar_121 (Nat.le_of_ble_eq_true rfl) ⟨(Nat.le_of_ble_eq_true rfl), (Nat.le_of_ble_eq_true rfl)⟩ ?_
          cases hd
          exact pt_iret G hQ dX8_bar_124
        replace hd := ifn c25 hd
        by_cases c28 : x2 = (5 : Int32)
        · replace hd := ifp c28 hd
          refine pt_tsIn G 125 dX8_bar_54 (by rw [c28]; decide) (by rw [c28]; decide) (by rw [c28]; rfl) (by decide) ?_
          refine pt_aload_n G 0 dX8_bar_125 rfl rfl ?_
          refine pt_iload_n G 1 dX8_bar_126 rfl rfl ?_
          refine pt_iload_n G 2 dX8_bar_127 rfl rfl ?_
          refine pt_iconst G (5 : Int32) dX8_bar_128 ci_5 ?_
          refine pt_isub G dX8_bar_129 ?_
          obtain ⟨v30, h29, hd⟩ := bnd hd
          refine X8_together_v G gX8_bar_X8_together ⟨(Nat.le_of_ble_eq_true rfl), (Nat.le_of_ble_eq_true rfl)⟩ h29 dX8_bar_130 (Nat.le_of_ble_eq_true rfl) ⟨(Nat.le_of_ble_eq_true rfl), (Nat.le_of_ble_eq_true rfl)⟩ ?_
          cases hd
          exact pt_iret G hQ dX8_bar_133
        replace hd := ifn c28 hd
        by_cases c31 : x2 = (6 : Int32)
        · replace hd := ifp c31 hd
          refine pt_tsIn G 125 dX8_bar_54 (by rw [c31]; decide) (by rw [c31]; decide) (by rw [c31]; rfl) (by decide) ?_
          refine pt_aload_n G 0 dX8_bar_125 rfl rfl ?_
          refine pt_iload_n G 1 dX8_bar_126 rfl rfl ?_
          refine pt_iload_n G 2 dX8_bar_127 rfl rfl ?_
          refine pt_iconst G (5 : Int32) dX8_bar_128 ci_5 ?_
          refine pt_isub G dX8_bar_129 ?_
          obtain ⟨v33, h32, hd⟩ := bnd hd
          refine X8_together_v G gX8_bar_X8_together ⟨(Nat.le_of_ble_eq_true rfl), (Nat.le_of_ble_eq_true rfl)⟩ h32 dX8_bar_130 (Nat.le_of_ble_eq_true rfl) ⟨(Nat.le_of_ble_eq_true rfl), (Nat.le_of_ble_eq_true rfl)⟩ ?_
          cases hd
          exact pt_iret G hQ dX8_bar_133
        replace hd := ifn c31 hd
        by_cases c34 : x2 = (7 : Int32)
        · replace hd := ifp c34 hd
          refine pt_tsIn G 134 dX8_bar_54 (by rw [c34]; decide) (by rw [c34]; decide) (by rw [c34]; rfl) (by decide) ?_
          refine pt_aload_n G 0 dX8_bar_134 rfl rfl ?_
          refine pt_iload_n G 1 dX8_bar_135 rfl rfl ?_
          obtain ⟨v36, h35, hd⟩ := bnd hd
          refine X8_isEven_v G gX8_bar_X8_isEven ⟨(Nat.le_of_ble_eq_true rfl), (Nat.le_of_ble_eq_true rfl)⟩ h35 dX8_bar_136 (Nat.le_of_ble_eq_true rfl) ⟨(Nat.le_of_ble_eq_true rfl), (Nat.le_of_ble_eq_true rfl)⟩ ?_
          refine pt_if_eq G 146 dX8_bar_139 (by decide) (fun c37 => ?_) (fun c37 => ?_)
          · replace hd := ifp c37 hd
            refine pt_iconst G (0 : Int32) dX8_bar_146 ci_0 ?_
            cases hd
            exact pt_iret G hQ dX8_bar_147
          · replace hd := ifn c37 hd
            refine pt_iconst G (1 : Int32) dX8_bar_142 ci_1 ?_
            refine pt_goto G 147 dX8_bar_143 (by decide) ?_
            cases hd
            exact pt_iret G hQ dX8_bar_147
        replace hd := ifn c34 hd
        by_cases c38 : x2 = (8 : Int32)
        · replace hd := ifp c38 hd
          refine pt_tsIn G 148 dX8_bar_54 (by rw [c38]; decide) (by rw [c38]; decide) (by rw [c38]; rfl) (by decide) ?_
          refine pt_aload_n G 0 dX8_bar_148 rfl rfl ?_
          refine pt_iload_n G 1 dX8_bar_149 rfl rfl ?_
          obtain ⟨v40, h39, hd⟩ := bnd hd
          refine X8_movesOf_v G gX8_bar_X8_movesOf ⟨(Nat.le_of_ble_eq_true rfl), (Nat.le_of_ble_eq_true rfl)⟩ h39 dX8_bar_150 (Nat.le_of_ble_eq_true rfl) ⟨(Nat.le_of_ble_eq_true rfl), (Nat.le_of_ble_eq_true rfl)⟩ ?_
          cases hd
          exact pt_iret G hQ dX8_bar_153
        replace hd := ifn c38 hd
        have nc7 : x2.toInt ≠ 0 := fun h => c7 (Int32.toInt_inj.mp (h.trans (by decide)))
        have nc12 : x2.toInt ≠ 1 := fun h => c12 (Int32.toInt_inj.mp (h.trans (by decide)))
        have nc17 : x2.toInt ≠ 2 := fun h => c17 (Int32.toInt_inj.mp (h.trans (by decide)))
        have nc22 : x2.toInt ≠ 3 := fun h => c22 (Int32.toInt_inj.mp (h.trans (by decide)))
        have nc25 : x2.toInt ≠ 4 := fun h => c25 (Int32.toInt_inj.mp (h.trans (by decide)))
        have nc28 : x2.toInt ≠ 5 := fun h => c28 (Int32.toInt_inj.mp (h.trans (by decide)))
        have nc31 : x2.toInt ≠ 6 := fun h => c31 (Int32.toInt_inj.mp (h.trans (by decide)))
        have nc34 : x2.toInt ≠ 7 := fun h => c34 (Int32.toInt_inj.mp (h.trans (by decide)))
        have nc38 : x2.toInt ≠ 8 := fun h => c38 (Int32.toInt_inj.mp (h.trans (by decide)))
        refine pt_tsOut G 154 dX8_bar_54 (by omega) (by decide) ?_
        refine pt_bipush G (-2 : Int32) dX8_bar_154 bi_m2 ?_
        cases hd
        exact pt_iret G hQ dX8_bar_156
      · replace hd := ifn c43 hd
        refine pt_aload_n G 0 dX8_bar_42 rfl rfl ?_
        refine pt_iload_n G 1 dX8_bar_43 rfl rfl ?_
        refine pt_iconst G (1 : Int32) dX8_bar_44 ci_1 ?_
        refine pt_iload_n G 2 dX8_bar_45 rfl rfl ?_
        refine pt_bipush G (20 : Int32) dX8_bar_46 bi_20 ?_
        refine pt_isub G dX8_bar_48 ?_
        obtain ⟨v42, h41, hd⟩ := bnd hd
        refine X8_thing_v G gX8_bar_X8_thing ⟨(Nat.le_of_ble_eq_true rfl), (Nat.le_of_ble_eq_true rfl)⟩ h41 dX8_bar_49 (Nat.le_of_ble_eq_true rfl) ⟨(Nat.le_of_ble_eq_true rfl), (Nat.le_of_ble_eq_true rfl)⟩ ?_
        cases hd
        exact pt_iret G hQ dX8_bar_52
    · replace hd := ifn c46 hd
      refine pt_aload_n G 0 dX8_bar_20 rfl rfl ?_
      refine pt_iload_n G 1 dX8_bar_21 rfl rfl ?_
      refine pt_iconst G (0 : Int32) dX8_bar_22 ci_0 ?_
      refine pt_iload_n G 2 dX8_bar_23 rfl rfl ?_
      refine pt_bipush G (10 : Int32) dX8_bar_24 bi_10 ?_
      refine pt_isub G dX8_bar_26 ?_
      obtain ⟨v45, h44, hd⟩ := bnd hd
      refine X8_thing_v G gX8_bar_X8_thing ⟨(Nat.le_of_ble_eq_true rfl), (Nat.le_of_ble_eq_true rfl)⟩ h44 dX8_bar_27 (Nat.le_of_ble_eq_true rfl) ⟨(Nat.le_of_ble_eq_true rfl), (Nat.le_of_ble_eq_true rfl)⟩ ?_
      cases hd
      exact pt_iret G hQ dX8_bar_30
  · replace hd := ifp c47 hd
    refine pt_iconst G (-1 : Int32) dX8_bar_7 ci_m1 ?_
    cases hd
    exact pt_iret G hQ dX8_bar_8
theorem X8_bar_c {l : Launch} {D : va_G} {dA : Nat → ClassId} {b : Nat} {M : Wo} {a0 : Nat} {x1 : Int32} {x2 : Int32} {r : Int32} (h : X8_bar M a0 x1 x2 = some r) : Met l yX8_bar wsX8_bar rX8_bar (va_Pc [.ref a0, .int x1, .int x2] (Wd D dA b M)) (Ei D dA b r M) 0 0 (Ab b) := met_i (by decide) rfl (Nat.le_of_ble_eq_true rfl) (fun X G hN hQ => X8_bar_w G h hQ)
theorem X8_bar_v {X : Cx} {y : MethodName} {cc : ByteArray} {Ts : List Cond} {nL : Nat} {ret : Option FieldType} {R : Room} (G : Gd X y cc Ts nL ret R) {index : Nat} (hg : GoodIn Ts (wsV y.cls index RX8 yX8_bar wsX8_bar)) (hR : rX8_bar.frames + 1 ≤ R.frames ∧ 8 + (3 + 11) + rX8_bar.locals ≤ R.locals) {k n pc : Nat} {M : Wo} {lv : List (Nat × Value)} {st : List Value} {a0 : Nat} {x1 : Int32} {x2 : Int32} {r : Int32} (hv : X8_bar M a0 x1 x2 = some r) (hd : decode cc pc = .ok (.invokevirtual index, 3)) (h8 : (st.map fun v => v.category).sum ≤ 8) (hf : k ≤ R.cells ∧ n ≤ R.slots) (kk : Pt X k n (pc + 3) M lv (.int r :: st)) : Pt X k n pc M lv (.int x2 :: .int x1 :: .ref a0 :: st) := pt_cVi (ci := 8) (nA := 2) (As := [.int x1, .int x2]) G (X8_bar_c hv) hg rfl rfl rfl (by decide +kernel) hR rfl (rcv hv) rfl rfl h8 hd hf kk
abbrev rX8_pull : Room := { frames := 1, cells := 0, slots := 0, locals := 23 }
def X8_pull (M : Wo) (a0 : Nat) (x1 : Int32) (x2 : Int32) : Option Int32 :=
  (ckO M a0 8).bind fun _ => (X8_many M a0 x1 (0 : Int32)).bind fun v2 => if v2 ≤ x2 then ((X8_many M a0 x1 (0 : Int32)).bind fun v4 => (X8_weight M a0 x1 (1 : Int32) (x2 - v4)).bind fun v6 => some (-v6)) else ((X8_weight M a0 x1 (0 : Int32) x2).bind fun v8 => some v8)
theorem X8_pull_w {X : Cx} (G : Gd X yX8_pull cX8_pull wsX8_pull 3 (some .int) rX8_pull) {M : Wo} {a0 : Nat} {x1 : Int32} {x2 : Int32} {o : Int32} (hd : X8_pull M a0 x1 x2 = some o) (hQ : Qi X o M 0 0) : Pt X 0 0 0 M [(0, .ref a0), (1, .int x1), (2, .int x2)] [] := by
  unfold X8_pull at hd
  obtain ⟨_, _, hd⟩ := bnd hd
  refine pt_iload_n G 2 dX8_pull_0 rfl rfl ?_
  refine pt_aload_n G 0 dX8_pull_1 rfl rfl ?_
  refine pt_iload_n G 1 dX8_pull_2 rfl rfl ?_
  refine pt_iconst G (0 : Int32) dX8_pull_3 ci_0 ?_
  obtain ⟨v2, h1, hd⟩ := bnd hd
  refine X8_many_v G gX8_pull_X8_many ⟨(Nat.le_of_ble_eq_true rfl), (Nat.le_of_ble_eq_true rfl)⟩ h1 dX8_pull_4 (Nat.le_of_ble_eq_true rfl) ⟨(Nat.le_of_ble_eq_true rfl), (Nat.le_of_ble_eq_true rfl)⟩ ?_
  refine pt_icmp_ge G 20 dX8_pull_7 (by decide) (fun c9 => ?_) (fun c9 => ?_)
  · replace hd := ifp c9 hd
    refine pt_aload_n G 0 dX8_pull_20 rfl rfl ?_
    refine pt_iload_n G 1 dX8_pull_21 rfl rfl ?_
    refine pt_iconst G (1 : Int32) dX8_pull_22 ci_1 ?_
    refine pt_iload_n G 2 dX8_pull_23 rfl rfl ?_
    refine pt_aload_n G 0 dX8_pull_24 rfl rfl ?_
    refine pt_iload_n G 1 dX8_pull_25 rfl rfl ?_
    refine pt_iconst G (0 : Int32) dX8_pull_26 ci_0 ?_
    obtain ⟨v4, h3, hd⟩ := bnd hd
    refine X8_many_v G gX8_pull_X8_many ⟨(Nat.le_of_ble_eq_true rfl), (Nat.le_of_ble_eq_true rfl)⟩ h3 dX8_pull_27 (Nat.le_of_ble_eq_true rfl) ⟨(Nat.le_of_ble_eq_true rfl), (Nat.le_of_ble_eq_true rfl)⟩ ?_
    refine pt_isub G dX8_pull_30 ?_
    obtain ⟨v6, h5, hd⟩ := bnd hd
    refine X8_weight_v G gX8_pull_X8_weight ⟨(Nat.le_of_ble_eq_true rfl), (Nat.le_of_ble_eq_true rfl)⟩ h5 dX8_pull_31 (Nat.le_of_ble_eq_true rfl) ⟨(Nat.le_of_ble_eq_true rfl), (Nat.le_of_ble_eq_true rfl)⟩ ?_
    refine pt_ineg G dX8_pull_34 ?_
    cases hd
    exact pt_iret G hQ dX8_pull_35
  · replace hd := ifn c9 hd
    refine pt_aload_n G 0 dX8_pull_10 rfl rfl ?_
    refine pt_iload_n G 1 dX8_pull_11 rfl rfl ?_
    refine pt_iconst G (0 : Int32) dX8_pull_12 ci_0 ?_
    refine pt_iload_n G 2 dX8_pull_13 rfl rfl ?_
    obtain ⟨v8, h7, hd⟩ := bnd hd
    refine X8_weight_v G gX8_pull_X8_weight ⟨(Nat.le_of_ble_eq_true rfl), (Nat.le_of_ble_eq_true rfl)⟩ h7 dX8_pull_14 (Nat.le_of_ble_eq_true rfl) ⟨(Nat.le_of_ble_eq_true rfl), (Nat.le_of_ble_eq_true rfl)⟩ ?_
    refine pt_goto G 35 dX8_pull_17 (by decide) ?_
    cases hd
    exact pt_iret G hQ dX8_pull_35
theorem X8_pull_c {l : Launch} {D : va_G} {dA : Nat → ClassId} {b : Nat} {M : Wo} {a0 : Nat} {x1 : Int32} {x2 : Int32} {r : Int32} (h : X8_pull M a0 x1 x2 = some r) : Met l yX8_pull wsX8_pull rX8_pull (va_Pc [.ref a0, .int x1, .int x2] (Wd D dA b M)) (Ei D dA b r M) 0 0 (Ab b) := met_i (by decide) rfl (Nat.le_of_ble_eq_true rfl) (fun X G hN hQ => X8_pull_w G h hQ)
theorem X8_pull_v {X : Cx} {y : MethodName} {cc : ByteArray} {Ts : List Cond} {nL : Nat} {ret : Option FieldType} {R : Room} (G : Gd X y cc Ts nL ret R) {index : Nat} (hg : GoodIn Ts (wsV y.cls index RX8 yX8_pull wsX8_pull)) (hR : rX8_pull.frames + 1 ≤ R.frames ∧ 8 + (3 + 11) + rX8_pull.locals ≤ R.locals) {k n pc : Nat} {M : Wo} {lv : List (Nat × Value)} {st : List Value} {a0 : Nat} {x1 : Int32} {x2 : Int32} {r : Int32} (hv : X8_pull M a0 x1 x2 = some r) (hd : decode cc pc = .ok (.invokevirtual index, 3)) (h8 : (st.map fun v => v.category).sum ≤ 8) (hf : k ≤ R.cells ∧ n ≤ R.slots) (kk : Pt X k n (pc + 3) M lv (.int r :: st)) : Pt X k n pc M lv (.int x2 :: .int x1 :: .ref a0 :: st) := pt_cVi (ci := 8) (nA := 2) (As := [.int x1, .int x2]) G (X8_pull_c hv) hg rfl rfl rfl (by decide +kernel) hR rfl (rcv hv) rfl rfl h8 hd hf kk
abbrev rX8_layWays : Room := { frames := 2, cells := 0, slots := 0, locals := 45 }
theorem m_X8_layWays_2 : Cond.fieldLink RX8 20 "StageLinesModel" "ways" "[I" ∈ wsX8_layWays := List.mem_of_getElem? (i := 2) rfl
theorem u_X8_layWays_X8 : ∀ w ∈ u_ws RX8 TX8 13, w ∈ wsX8_layWays := mem_r [23, 24, 25, 26, 27, 28, 29, 30, 31, 32, 33, 34, 35] (by decide +kernel)
theorem m_X8_layWays_1 : Cond.fieldLink RX8 76 "StageLinesModel" "things" "I" ∈ wsX8_layWays := List.mem_of_getElem? (i := 1) rfl
theorem m_X8_layWays_3 : Cond.fieldLink RX8 7 "StageLinesModel" "state" "[I" ∈ wsX8_layWays := List.mem_of_getElem? (i := 3) rfl
abbrev X8_layWays_P26 (X : Cx) (a0 : Nat) (x1 : Int32) : (Wo × Int32) → Prop := un2 (fun M x2 => Pt X 0 0 26 M [(0, .ref a0), (1, .int x1), (2, .int x2)] [])
abbrev X8_layWays_Z26 (X : Cx) (a0 : Nat) (x1 : Int32) : Wo → Prop := (un1 (fun M => Pt X 0 0 154 M [] []))
abbrev X8_layWays_P38 (X : Cx) (M : Wo) (a0 : Nat) (x1 : Int32) (x2 : Int32) : (Int32 × Int32 × Int32) → Prop := un3 (fun x3 x4 x5 => Pt X 0 0 38 M [(0, .ref a0), (1, .int x1), (2, .int x2), (3, .int x3), (4, .int x4), (5, .int x5)] [])
abbrev X8_layWays_Z38 (X : Cx) (M : Wo) (a0 : Nat) (x1 : Int32) (x2 : Int32) : (Int32 × Int32) → Prop := (un2 (fun x3 x4 => Pt X 0 0 105 M [(0, .ref a0), (1, .int x1), (2, .int x2), (3, .int x3), (4, .int x4)] []))
def X8_layWays_L68 (M : Wo) (a0 : Nat) (x1 : Int32) (x2 : Int32) (x4 : Int32) (x5 : Int32) (t0 : Int32) (t1 : Int32) : Option ((Int32 × Int32 × Int32) ⊕ (Int32 × Int32)) :=
  (X8_has M x2 x5).bind fun v14 => if v14 = 0 then ((gR M a0 8 3).bind fun w15 => (lA M 0 w15 (x2 ||| ((1 : Int32) <<< (x5 &&& 31)))).bind fun v17 => some (.inl ((t1 + t0), (x4 + v17), (x5 + 1)))) else (some (.inl ((t1 + t0), (x4 + (0 : Int32)), (x5 + 1))))
theorem X8_layWays_L68_w {X : Cx} (G : Gd X yX8_layWays cX8_layWays wsX8_layWays 6 none rX8_layWays) {M : Wo} {a0 : Nat} {x1 : Int32} {x2 : Int32} {x4 : Int32} {x5 : Int32} {t0 : Int32} {t1 : Int32} {o : ((Int32 × Int32 × Int32) ⊕ (Int32 × Int32))} (hd : X8_layWays_L68 M a0 x1 x2 x4 x5 t0 t1 = some o) (hc : ∀ s9, o = .inl s9 → X8_layWays_P38 X M a0 x1 x2 s9) (he : ∀ e9, o = .inr e9 → X8_layWays_Z38 X M a0 x1 x2 e9) : Pt X 0 0 68 M [(0, .ref a0), (1, .int x1), (2, .int x2), (4, .int x4), (5, .int x5)] [.int t0, .int t1] := by
  unfold X8_layWays_L68 at hd
  refine pt_iadd G dX8_layWays_68 ?_
  refine pt_istore_n G [(3, .int (t1 + t0)), (0, .ref a0), (1, .int x1), (2, .int x2), (4, .int x4), (5, .int x5)] dX8_layWays_69 rfl (by decide) rfl ?_
  refine pt_iload G 4 dX8_layWays_70 rfl ?_
  refine pt_iload_n G 3 dX8_layWays_72 rfl rfl ?_
  refine pt_iload G 5 dX8_layWays_73 rfl ?_
  obtain ⟨v14, h13, hd⟩ := bnd hd
  refine X8_has_v G gX8_layWays_X8_has ⟨(Nat.le_of_ble_eq_true rfl), (Nat.le_of_ble_eq_true rfl)⟩ h13 dX8_layWays_75 (Nat.le_of_ble_eq_true rfl) ⟨(Nat.le_of_ble_eq_true rfl), (Nat.le_of_ble_eq_true rfl)⟩ ?_
  refine pt_if_eq G 85 dX8_layWays_78 (by decide) (fun c19 => ?_) (fun c19 => ?_)
  · replace hd := ifp c19 hd
    refine pt_aload_n G 1 dX8_layWays_85 rfl rfl ?_
    obtain ⟨w15, h16, hd⟩ := bnd hd
    refine pt_get G (ci := 8) (j := 3) rfl (by decide) u_X8_layWays_X8 m_X8_layWays_2 (gR_o h16) dX8_layWays_86 ?_
    refine pt_iload_n G 3 dX8_layWays_89 rfl rfl ?_
    refine pt_iconst G (1 : Int32) dX8_layWays_90 ci_1 ?_
    refine pt_iload G 5 dX8_layWays_91 rfl ?_
    refine pt_ishl G dX8_layWays_93 ?_
    refine pt_ior G dX8_layWays_94 ?_
    obtain ⟨v17, h18, hd⟩ := bnd hd
    refine pt_iald G h18 dX8_layWays_95 ?_
    refine pt_iadd G dX8_layWays_96 ?_
    refine pt_istore G [(4, .int (x4 + v17)), (3, .int (t1 + t0)), (0, .ref a0), (1, .int x1), (2, .int x2), (5, .int x5)] dX8_layWays_97 (by decide) rfl ?_
    refine pt_iinc G 5 (x5 + 1) [(5, .int (x5 + 1)), (4, .int (x4 + v17)), (3, .int (t1 + t0)), (0, .ref a0), (1, .int x1), (2, .int x2)] dX8_layWays_99 rfl (inc_1 _) (by decide) rfl ?_
    refine pt_goto G 38 dX8_layWays_102 (by decide) ?_
    exact pt_sub [3, 4, 5, 2, 1, 0] rfl (hc ((t1 + t0), (x4 + v17), (x5 + 1)) (Option.some.inj hd).symm)
  · replace hd := ifn c19 hd
    refine pt_iconst G (0 : Int32) dX8_layWays_81 ci_0 ?_
    refine pt_goto G 96 dX8_layWays_82 (by decide) ?_
    refine pt_iadd G dX8_layWays_96 ?_
    refine pt_istore G [(4, .int (x4 + (0 : Int32))), (3, .int (t1 + t0)), (0, .ref a0), (1, .int x1), (2, .int x2), (5, .int x5)] dX8_layWays_97 (by decide) rfl ?_
    refine pt_iinc G 5 (x5 + 1) [(5, .int (x5 + 1)), (4, .int (x4 + (0 : Int32))), (3, .int (t1 + t0)), (0, .ref a0), (1, .int x1), (2, .int x2)] dX8_layWays_99 rfl (inc_1 _) (by decide) rfl ?_
    refine pt_goto G 38 dX8_layWays_102 (by decide) ?_
    exact pt_sub [3, 4, 5, 2, 1, 0] rfl (hc ((t1 + t0), (x4 + (0 : Int32)), (x5 + 1)) (Option.some.inj hd).symm)
def X8_layWays_b38 (M : Wo) (a0 : Nat) (x1 : Int32) (x2 : Int32) (x3 : Int32) (x4 : Int32) (x5 : Int32) : Option ((Int32 × Int32 × Int32) ⊕ (Int32 × Int32)) :=
  (gI M a0 8 4).bind fun v9 => if v9 ≤ x5 then (some (.inr (x3, x4))) else ((X8_has M x2 x5).bind fun v12 => if v12 = 0 then (X8_layWays_L68 M a0 x1 x2 x4 x5 (0 : Int32) x3) else ((X8_pull M a0 x1 x5).bind fun v21 => X8_layWays_L68 M a0 x1 x2 x4 x5 v21 x3))
theorem X8_layWays_b38_w {X : Cx} (G : Gd X yX8_layWays cX8_layWays wsX8_layWays 6 none rX8_layWays) {M : Wo} {a0 : Nat} {x1 : Int32} {x2 : Int32} {x3 : Int32} {x4 : Int32} {x5 : Int32} {o : ((Int32 × Int32 × Int32) ⊕ (Int32 × Int32))} (hd : X8_layWays_b38 M a0 x1 x2 x3 x4 x5 = some o) (hc : ∀ s9, o = .inl s9 → X8_layWays_P38 X M a0 x1 x2 s9) (he : ∀ e9, o = .inr e9 → X8_layWays_Z38 X M a0 x1 x2 e9) : Pt X 0 0 38 M [(0, .ref a0), (1, .int x1), (2, .int x2), (3, .int x3), (4, .int x4), (5, .int x5)] [] := by
  unfold X8_layWays_b38 at hd
  refine pt_iload G 5 dX8_layWays_38 rfl ?_
  refine pt_aload_n G 0 dX8_layWays_40 rfl rfl ?_
  obtain ⟨v9, h10, hd⟩ := bnd hd
  refine pt_get G (ci := 8) (j := 4) rfl (by decide) u_X8_layWays_X8 m_X8_layWays_1 (gI_o h10) dX8_layWays_41 ?_
  refine pt_icmp_ge G 105 dX8_layWays_44 (by decide) (fun c23 => ?_) (fun c23 => ?_)
  · replace hd := ifp c23 hd
    exact pt_sub [0, 1, 2, 3, 4] rfl (he (x3, x4) (Option.some.inj hd).symm)
  · replace hd := ifn c23 hd
    refine pt_iload_n G 3 dX8_layWays_47 rfl rfl ?_
    refine pt_iload_n G 2 dX8_layWays_48 rfl rfl ?_
    refine pt_iload G 5 dX8_layWays_49 rfl ?_
    obtain ⟨v12, h11, hd⟩ := bnd hd
    refine X8_has_v G gX8_layWays_X8_has ⟨(Nat.le_of_ble_eq_true rfl), (Nat.le_of_ble_eq_true rfl)⟩ h11 dX8_layWays_51 (Nat.le_of_ble_eq_true rfl) ⟨(Nat.le_of_ble_eq_true rfl), (Nat.le_of_ble_eq_true rfl)⟩ ?_
    refine pt_if_eq G 67 dX8_layWays_54 (by decide) (fun c22 => ?_) (fun c22 => ?_)
    · replace hd := ifp c22 hd
      refine pt_iconst G (0 : Int32) dX8_layWays_67 ci_0 ?_
      exact pt_sub [0, 1, 2, 4, 5] rfl (X8_layWays_L68_w G hd hc he)
    · replace hd := ifn c22 hd
      refine pt_aload_n G 0 dX8_layWays_57 rfl rfl ?_
      refine pt_iload_n G 1 dX8_layWays_58 rfl rfl ?_
      refine pt_iload G 5 dX8_layWays_59 rfl ?_
      obtain ⟨v21, h20, hd⟩ := bnd hd
      refine X8_pull_v G gX8_layWays_X8_pull ⟨(Nat.le_of_ble_eq_true rfl), (Nat.le_of_ble_eq_true rfl)⟩ h20 dX8_layWays_61 (Nat.le_of_ble_eq_true rfl) ⟨(Nat.le_of_ble_eq_true rfl), (Nat.le_of_ble_eq_true rfl)⟩ ?_
      refine pt_goto G 68 dX8_layWays_64 (by decide) ?_
      exact pt_sub [0, 1, 2, 4, 5] rfl (X8_layWays_L68_w G hd hc he)
theorem X8_layWays_w38_w {X : Cx} (G : Gd X yX8_layWays cX8_layWays wsX8_layWays 6 none rX8_layWays) {M : Wo} {a0 : Nat} {x1 : Int32} {x2 : Int32} (n9 : Nat) (s9 : (Int32 × Int32 × Int32)) (e9 : (Int32 × Int32)) (hw : wloop (un3 (X8_layWays_b38 M a0 x1 x2)) n9 s9 = some e9) (hz : X8_layWays_Z38 X M a0 x1 x2 e9) : X8_layWays_P38 X M a0 x1 x2 s9 := by
  refine wl_ind (P := X8_layWays_P38 X M a0 x1 x2) (Z := X8_layWays_Z38 X M a0 x1 x2) ?_ n9 s9 e9 hw hz
  intro s9 o9 hd hc he
  obtain ⟨x3, x4, x5⟩ := s9
  exact X8_layWays_b38_w G hd hc he
def X8_layWays_b26 (a0 : Nat) (x1 : Int32) (M : Wo) (x2 : Int32) : Option ((Wo × Int32) ⊕ Wo) :=
  if x2 < 0 then (some (.inr M)) else ((wloop (un3 (X8_layWays_b38 M a0 x1 x2)) FU ((0 : Int32), (0 : Int32), (0 : Int32))).bind (un2 fun v24 v25 => (gR M a0 8 3).bind fun w26 => (X8_size M v24).bind fun v29 => (gR M a0 8 0).bind fun w30 => (lA M 0 w30 (170 : Int32)).bind fun v32 => if v29 ≤ v32 then ((gI M a0 8 4).bind fun v34 => if x2 = (((1 : Int32) <<< (v34 &&& 31)) - (1 : Int32)) then ((sA M w26 x2 (1 : Int32)).bind fun M38 => some (.inl (M38, (x2 + (-1 : Int32))))) else ((sA M w26 x2 v25).bind fun M36 => some (.inl (M36, (x2 + (-1 : Int32)))))) else ((sA M w26 x2 (0 : Int32)).bind fun M41 => some (.inl (M41, (x2 + (-1 : Int32)))))))
theorem X8_layWays_b26_w {X : Cx} (G : Gd X yX8_layWays cX8_layWays wsX8_layWays 6 none rX8_layWays) {a0 : Nat} {x1 : Int32} {M : Wo} {x2 : Int32} {o : ((Wo × Int32) ⊕ Wo)} (hd : X8_layWays_b26 a0 x1 M x2 = some o) (hc : ∀ s9, o = .inl s9 → X8_layWays_P26 X a0 x1 s9) (he : ∀ e9, o = .inr e9 → X8_layWays_Z26 X a0 x1 e9) : Pt X 0 0 26 M [(0, .ref a0), (1, .int x1), (2, .int x2)] [] := by
  unfold X8_layWays_b26 at hd
  refine pt_iload_n G 2 dX8_layWays_26 rfl rfl ?_
  refine pt_if_lt G 154 dX8_layWays_27 (by decide) (fun c45 => ?_) (fun c45 => ?_)
  · replace hd := ifp c45 hd
    exact pt_sub [] rfl (he M (Option.some.inj hd).symm)
  · replace hd := ifn c45 hd
    refine pt_iconst G (0 : Int32) dX8_layWays_30 ci_0 ?_
    refine pt_istore_n G [(3, .int (0 : Int32)), (0, .ref a0), (1, .int x1), (2, .int x2)] dX8_layWays_31 rfl (by decide) rfl ?_
    refine pt_iconst G (0 : Int32) dX8_layWays_32 ci_0 ?_
    refine pt_istore G [(4, .int (0 : Int32)), (3, .int (0 : Int32)), (0, .ref a0), (1, .int x1), (2, .int x2)] dX8_layWays_33 (by decide) rfl ?_
    refine pt_iconst G (0 : Int32) dX8_layWays_35 ci_0 ?_
    refine pt_istore G [(5, .int (0 : Int32)), (4, .int (0 : Int32)), (3, .int (0 : Int32)), (0, .ref a0), (1, .int x1), (2, .int x2)] dX8_layWays_36 (by decide) rfl ?_
    obtain ⟨⟨v24, v25⟩, hw44, hd⟩ := bnd hd
    replace hd := un2_e hd
    refine pt_sub [3, 4, 5, 2, 1, 0] rfl (X8_layWays_w38_w G _ _ _ hw44 ?_)
    show Pt X 0 0 _ _ _ []
    refine pt_aload_n G 0 dX8_layWays_105 rfl rfl ?_
    obtain ⟨w26, h27, hd⟩ := bnd hd
    refine pt_get G (ci := 8) (j := 3) rfl (by decide) u_X8_layWays_X8 m_X8_layWays_2 (gR_o h27) dX8_layWays_106 ?_
    refine pt_iload_n G 2 dX8_layWays_109 rfl rfl ?_
    refine pt_iload_n G 3 dX8_layWays_110 rfl rfl ?_
    obtain ⟨v29, h28, hd⟩ := bnd hd
    refine X8_size_v G gX8_layWays_X8_size ⟨(Nat.le_of_ble_eq_true rfl), (Nat.le_of_ble_eq_true rfl)⟩ h28 dX8_layWays_111 (Nat.le_of_ble_eq_true rfl) ⟨(Nat.le_of_ble_eq_true rfl), (Nat.le_of_ble_eq_true rfl)⟩ ?_
    refine pt_aload_n G 0 dX8_layWays_114 rfl rfl ?_
    obtain ⟨w30, h31, hd⟩ := bnd hd
    refine pt_get G (ci := 8) (j := 0) rfl (by decide) u_X8_layWays_X8 m_X8_layWays_3 (gR_o h31) dX8_layWays_115 ?_
    refine pt_sipush G (170 : Int32) dX8_layWays_118 si_170 ?_
    obtain ⟨v32, h33, hd⟩ := bnd hd
    refine pt_iald G h33 dX8_layWays_121 ?_
    refine pt_icmp_le G 129 dX8_layWays_122 (by decide) (fun c43 => ?_) (fun c43 => ?_)
    · replace hd := ifp c43 hd
      refine pt_iload_n G 2 dX8_layWays_129 rfl rfl ?_
      refine pt_iconst G (1 : Int32) dX8_layWays_130 ci_1 ?_
      refine pt_aload_n G 0 dX8_layWays_131 rfl rfl ?_
      obtain ⟨v34, h35, hd⟩ := bnd hd
      refine pt_get G (ci := 8) (j := 4) rfl (by decide) u_X8_layWays_X8 m_X8_layWays_1 (gI_o h35) dX8_layWays_132 ?_
      refine pt_ishl G dX8_layWays_135 ?_
      refine pt_iconst G (1 : Int32) dX8_layWays_136 ci_1 ?_
      refine pt_isub G dX8_layWays_137 ?_
      refine pt_icmp_ne G 145 dX8_layWays_138 (by decide) (fun c40 => ?_) (fun c40 => ?_)
      · replace hd := ifn c40 hd
        refine pt_iload G 4 dX8_layWays_145 rfl ?_
        obtain ⟨M36, h37, hd⟩ := bnd hd
        refine pt_iast G h37 dX8_layWays_147 ?_
        refine pt_iinc G 2 (x2 + (-1 : Int32)) [(2, .int (x2 + (-1 : Int32))), (0, .ref a0), (1, .int x1), (3, .int v24), (4, .int v25)] dX8_layWays_148 rfl (inc_m1 _) (by decide) rfl ?_
        refine pt_goto G 26 dX8_layWays_151 (by decide) ?_
        exact pt_sub [1, 2, 0] rfl (hc (M36, (x2 + (-1 : Int32))) (Option.some.inj hd).symm)
      · replace hd := ifp c40 hd
        refine pt_iconst G (1 : Int32) dX8_layWays_141 ci_1 ?_
        refine pt_goto G 147 dX8_layWays_142 (by decide) ?_
        obtain ⟨M38, h39, hd⟩ := bnd hd
        refine pt_iast G h39 dX8_layWays_147 ?_
        refine pt_iinc G 2 (x2 + (-1 : Int32)) [(2, .int (x2 + (-1 : Int32))), (0, .ref a0), (1, .int x1), (3, .int v24), (4, .int v25)] dX8_layWays_148 rfl (inc_m1 _) (by decide) rfl ?_
        refine pt_goto G 26 dX8_layWays_151 (by decide) ?_
        exact pt_sub [1, 2, 0] rfl (hc (M38, (x2 + (-1 : Int32))) (Option.some.inj hd).symm)
    · replace hd := ifn c43 hd
      refine pt_iconst G (0 : Int32) dX8_layWays_125 ci_0 ?_
      refine pt_goto G 147 dX8_layWays_126 (by decide) ?_
      obtain ⟨M41, h42, hd⟩ := bnd hd
      refine pt_iast G h42 dX8_layWays_147 ?_
      refine pt_iinc G 2 (x2 + (-1 : Int32)) [(2, .int (x2 + (-1 : Int32))), (0, .ref a0), (1, .int x1), (3, .int v24), (4, .int v25)] dX8_layWays_148 rfl (inc_m1 _) (by decide) rfl ?_
      refine pt_goto G 26 dX8_layWays_151 (by decide) ?_
      exact pt_sub [1, 2, 0] rfl (hc (M41, (x2 + (-1 : Int32))) (Option.some.inj hd).symm)
theorem X8_layWays_w26_w {X : Cx} (G : Gd X yX8_layWays cX8_layWays wsX8_layWays 6 none rX8_layWays) {a0 : Nat} {x1 : Int32} (n9 : Nat) (s9 : (Wo × Int32)) (e9 : Wo) (hw : wloop (un2 (X8_layWays_b26 a0 x1)) n9 s9 = some e9) (hz : X8_layWays_Z26 X a0 x1 e9) : X8_layWays_P26 X a0 x1 s9 := by
  refine wl_ind (P := X8_layWays_P26 X a0 x1) (Z := X8_layWays_Z26 X a0 x1) ?_ n9 s9 e9 hw hz
  intro s9 o9 hd hc he
  obtain ⟨M, x2⟩ := s9
  exact X8_layWays_b26_w G hd hc he
def X8_layWays (M : Wo) (a0 : Nat) (x1 : Int32) : Option Wo :=
  (ckO M a0 8).bind fun _ => (X8_many M a0 x1 (0 : Int32)).bind fun v2 => (X8_many M a0 x1 (1 : Int32)).bind fun v4 => (pV M a0 8 4 (.int (v2 + v4))).bind fun M5 => (gI M5 a0 8 4).bind fun v7 => (wloop (un2 (X8_layWays_b26 a0 x1)) FU (M5, (((1 : Int32) <<< (v7 &&& 31)) - (1 : Int32)))).bind fun M46 => some M46
theorem X8_layWays_w {X : Cx} (G : Gd X yX8_layWays cX8_layWays wsX8_layWays 6 none rX8_layWays) {M : Wo} {a0 : Nat} {x1 : Int32} {o : Wo} (hd : X8_layWays M a0 x1 = some o) (hQ : Qv X o 0 0) : Pt X 0 0 0 M [(0, .ref a0), (1, .int x1)] [] := by
  unfold X8_layWays at hd
  obtain ⟨_, _, hd⟩ := bnd hd
  refine pt_aload_n G 0 dX8_layWays_0 rfl rfl ?_
  refine pt_aload_n G 0 dX8_layWays_1 rfl rfl ?_
  refine pt_iload_n G 1 dX8_layWays_2 rfl rfl ?_
  refine pt_iconst G (0 : Int32) dX8_layWays_3 ci_0 ?_
  obtain ⟨v2, h1, hd⟩ := bnd hd
  refine X8_many_v G gX8_layWays_X8_many ⟨(Nat.le_of_ble_eq_true rfl), (Nat.le_of_ble_eq_true rfl)⟩ h1 dX8_layWays_4 (Nat.le_of_ble_eq_true rfl) ⟨(Nat.le_of_ble_eq_true rfl), (Nat.le_of_ble_eq_true rfl)⟩ ?_
  refine pt_aload_n G 0 dX8_layWays_7 rfl rfl ?_
  refine pt_iload_n G 1 dX8_layWays_8 rfl rfl ?_
  refine pt_iconst G (1 : Int32) dX8_layWays_9 ci_1 ?_
  obtain ⟨v4, h3, hd⟩ := bnd hd
  refine X8_many_v G gX8_layWays_X8_many ⟨(Nat.le_of_ble_eq_true rfl), (Nat.le_of_ble_eq_true rfl)⟩ h3 dX8_layWays_10 (Nat.le_of_ble_eq_true rfl) ⟨(Nat.le_of_ble_eq_true rfl), (Nat.le_of_ble_eq_true rfl)⟩ ?_
  refine pt_iadd G dX8_layWays_13 ?_
  obtain ⟨M5, h6, hd⟩ := bnd hd
  refine pt_put G (ci := 8) (j := 4) rfl (by decide) u_X8_layWays_X8 m_X8_layWays_1 tyX8 tyX8_ok nmX8 rfl rfl rfl h6 dX8_layWays_14 ?_
  refine pt_iconst G (1 : Int32) dX8_layWays_17 ci_1 ?_
  refine pt_aload_n G 0 dX8_layWays_18 rfl rfl ?_
  obtain ⟨v7, h8, hd⟩ := bnd hd
  refine pt_get G (ci := 8) (j := 4) rfl (by decide) u_X8_layWays_X8 m_X8_layWays_1 (gI_o h8) dX8_layWays_19 ?_
  refine pt_ishl G dX8_layWays_22 ?_
  refine pt_iconst G (1 : Int32) dX8_layWays_23 ci_1 ?_
  refine pt_isub G dX8_layWays_24 ?_
  refine pt_istore_n G [(2, .int (((1 : Int32) <<< (v7 &&& 31)) - (1 : Int32))), (0, .ref a0), (1, .int x1)] dX8_layWays_25 rfl (by decide) rfl ?_
  obtain ⟨M46, hw47, hd⟩ := bnd hd
  refine pt_sub [1, 2, 0] rfl (X8_layWays_w26_w G _ _ _ hw47 ?_)
  show Pt X 0 0 _ _ _ []
  cases hd
  exact pt_vret G hQ dX8_layWays_154
theorem X8_layWays_c {l : Launch} {D : va_G} {dA : Nat → ClassId} {b : Nat} {M : Wo} {a0 : Nat} {x1 : Int32} {M2 : Wo} (h : X8_layWays M a0 x1 = some M2) : Met l yX8_layWays wsX8_layWays rX8_layWays (va_Pc [.ref a0, .int x1] (Wd D dA b M)) (Ev D dA b M2) 0 0 (Ab b) := met_v (by decide) rfl (Nat.le_of_ble_eq_true rfl) (fun X G hN hQ => X8_layWays_w G h hQ)
theorem X8_layWays_v {X : Cx} {y : MethodName} {cc : ByteArray} {Ts : List Cond} {nL : Nat} {ret : Option FieldType} {R : Room} (G : Gd X y cc Ts nL ret R) {index : Nat} (hg : GoodIn Ts (wsV y.cls index RX8 yX8_layWays wsX8_layWays)) (hR : rX8_layWays.frames + 1 ≤ R.frames ∧ 8 + (6 + 11) + rX8_layWays.locals ≤ R.locals) {k n pc : Nat} {M : Wo} {lv : List (Nat × Value)} {st : List Value} {a0 : Nat} {x1 : Int32} {M2 : Wo} (hv : X8_layWays M a0 x1 = some M2) (hd : decode cc pc = .ok (.invokevirtual index, 3)) (h8 : (st.map fun v => v.category).sum ≤ 8) (hf : k ≤ R.cells ∧ n ≤ R.slots) (kk : Pt X k n (pc + 3) M2 lv st) : Pt X k n pc M lv (.int x1 :: .ref a0 :: st) := pt_cVv (ci := 8) (nA := 1) (As := [.int x1]) G (X8_layWays_c hv) hg rfl rfl rfl (by decide +kernel) hR rfl (rcv hv) rfl rfl h8 hd hf kk
