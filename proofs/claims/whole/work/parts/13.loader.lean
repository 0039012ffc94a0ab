abbrev rX3_init : Room := { frames := 1, cells := 3, slots := 4224, locals := 60 }
theorem m_X3_init_9 : Cond.fieldLink RX3 25 "StageLines$Loader" "brickCount" "I" ∈ wsX3_init := List.mem_of_getElem? (i := 9) rfl
theorem u_X3_init_X3 : ∀ w ∈ u_ws RX3 TX3 5, w ∈ wsX3_init := mem_r [10, 11, 12, 13, 14] (by decide +kernel)
theorem m_X3_init_8 : Cond.fieldLink RX3 21 "StageLines$Loader" "pieceCount" "I" ∈ wsX3_init := List.mem_of_getElem? (i := 8) rfl
theorem m_X3_init_7 : Cond.fieldLink RX3 18 "StageLines$Loader" "orders" "[I" ∈ wsX3_init := List.mem_of_getElem? (i := 7) rfl
theorem m_X3_init_4 : Cond.arrayClass .int ∈ wsX3_init := List.mem_of_getElem? (i := 4) rfl
theorem m_X3_init_6 : Cond.fieldLink RX3 15 "StageLines$Loader" "brickSums" "[I" ∈ wsX3_init := List.mem_of_getElem? (i := 6) rfl
theorem m_X3_init_5 : Cond.fieldLink RX3 9 "StageLines$Loader" "pieceSums" "[I" ∈ wsX3_init := List.mem_of_getElem? (i := 5) rfl
theorem m_X3_init_1 : Cond.methodLink RX3 3 objectInit ∈ wsX3_init := List.mem_of_getElem? (i := 1) rfl
theorem m_X3_init_2 : Cond.instanceMethod objectInit ∈ wsX3_init := List.mem_of_getElem? (i := 2) rfl
theorem m_X3_init_3 : Cond.code objectInit ⟨#[0xb1]⟩ 1 none ∈ wsX3_init := List.mem_of_getElem? (i := 3) rfl
def X3_init (M : Wo) (a0 : Nat) : Option Wo :=
  (ckO M a0 3).bind fun _ => (nwA M 0 64).bind (un2 fun w1 M2 => (pV M2 a0 3 0 (.ref w1)).bind fun M4 => (nwA M4 0 64).bind (un2 fun w6 M7 => (pV M7 a0 3 1 (.ref w6)).bind fun M9 => (nwA M9 0 4096).bind (un2 fun w11 M12 => (pV M12 a0 3 2 (.ref w11)).bind fun M14 => (pV M14 a0 3 3 (.int (0 : Int32))).bind fun M16 => (pV M16 a0 3 4 (.int (0 : Int32))).bind fun M18 => some M18)))
theorem X3_init_w {X : Cx} (G : Gd X yX3_init cX3_init wsX3_init 1 none rX3_init) (hN : (xT X).name = "<init>") {M : Wo} {a0 : Nat} {o : Wo} (hd : X3_init M a0 = some o) (hQ : Qv X o 3 4224) : Pt X 0 0 0 M [(0, .ref a0)] [] := by
  unfold X3_init at hd
  obtain ⟨_, _, hd⟩ := bnd hd
  refine pt_aload_n G 0 dX3_init_0 rfl rfl ?_
  refine pt_obj G m_X3_init_1 m_X3_init_2 m_X3_init_3 (Nat.le_of_ble_eq_true rfl) (Nat.le_of_ble_eq_true rfl) dX3_init_1 ?_
  refine pt_aload_n G 0 dX3_init_4 rfl rfl ?_
  refine pt_bipush G (64 : Int32) dX3_init_5 bi_64 ?_
  obtain ⟨⟨w1, M2⟩, h3, hd⟩ := bnd hd
  replace hd := un2_e hd
  refine pt_newaE G (kd := 0) (N := 64) (atype := .int) rfl (fun _ => rfl) m_X3_init_4 rfl (by decide) (by decide) (by decide) (by decide) (by decide) h3 dX3_init_7 ?_
  obtain ⟨M4, h5, hd⟩ := bnd hd
  refine pt_putF G hN (ci := 3) (j := 0) rfl (by decide) u_X3_init_X3 m_X3_init_5 tyX3 tyX3_ok nmX3 rfl rfl rfl rfl h5 dX3_init_9 ?_
  refine pt_aload_n G 0 dX3_init_12 rfl rfl ?_
  refine pt_bipush G (64 : Int32) dX3_init_13 bi_64 ?_
  obtain ⟨⟨w6, M7⟩, h8, hd⟩ := bnd hd
  replace hd := un2_e hd
  refine pt_newaE G (kd := 0) (N := 64) (atype := .int) rfl (fun _ => rfl) m_X3_init_4 rfl (by decide) (by decide) (by decide) (by decide) (by decide) h8 dX3_init_15 ?_
  obtain ⟨M9, h10, hd⟩ := bnd hd
  refine pt_putF G hN (ci := 3) (j := 1) rfl (by decide) u_X3_init_X3 m_X3_init_6 tyX3 tyX3_ok nmX3 rfl rfl rfl rfl h10 dX3_init_17 ?_
  refine pt_aload_n G 0 dX3_init_20 rfl rfl ?_
  refine pt_sipush G (4096 : Int32) dX3_init_21 si_4096 ?_
  obtain ⟨⟨w11, M12⟩, h13, hd⟩ := bnd hd
  replace hd := un2_e hd
  refine pt_newaE G (kd := 0) (N := 4096) (atype := .int) rfl (fun _ => rfl) m_X3_init_4 rfl (by decide) (by decide) (by decide) (by decide) (by decide) h13 dX3_init_24 ?_
  obtain ⟨M14, h15, hd⟩ := bnd hd
  refine pt_putF G hN (ci := 3) (j := 2) rfl (by decide) u_X3_init_X3 m_X3_init_7 tyX3 tyX3_ok nmX3 rfl rfl rfl rfl h15 dX3_init_26 ?_
  refine pt_aload_n G 0 dX3_init_29 rfl rfl ?_
  refine pt_iconst G (0 : Int32) dX3_init_30 ci_0 ?_
  obtain ⟨M16, h17, hd⟩ := bnd hd
  refine pt_put G (ci := 3) (j := 3) rfl (by decide) u_X3_init_X3 m_X3_init_8 tyX3 tyX3_ok nmX3 rfl rfl rfl h17 dX3_init_31 ?_
  refine pt_aload_n G 0 dX3_init_34 rfl rfl ?_
  refine pt_iconst G (0 : Int32) dX3_init_35 ci_0 ?_
  obtain ⟨M18, h19, hd⟩ := bnd hd
  refine pt_put G (ci := 3) (j := 4) rfl (by decide) u_X3_init_X3 m_X3_init_9 tyX3 tyX3_ok nmX3 rfl rfl rfl h19 dX3_init_36 ?_
  cases hd
  exact pt_vret G hQ dX3_init_39
theorem X3_init_c {l : Launch} {D : va_G} {dA : Nat → ClassId} {b : Nat} {M : Wo} {a0 : Nat} {M2 : Wo} (h : X3_init M a0 = some M2) : Met l yX3_init wsX3_init rX3_init (va_Pc [.ref a0] (Wd D dA b M)) (Ev D dA b M2) 3 4224 (Ab b) := met_v (by decide) rfl (Nat.le_of_ble_eq_true rfl) (fun X G hN hQ => X3_init_w G hN h hQ)
theorem X3_init_vi {X : Cx} {y : MethodName} {cc : ByteArray} {Ts : List Cond} {nL : Nat} {ret : Option FieldType} {R : Room} (G : Gd X y cc Ts nL ret R) {index : Nat} (hg : GoodIn Ts wsX3_init) (hini : Cond.initialized yX3_init.cls ∈ Ts) (hl : Cond.methodLink y.cls index yX3_init ∈ Ts) (hi : Cond.instanceMethod yX3_init ∈ Ts) (hR : rX3_init.frames + 1 ≤ R.frames ∧ 8 + (1 + 11) + rX3_init.locals ≤ R.locals) {k n pc : Nat} {M : Wo} {lv : List (Nat × Value)} {st : List Value} {a0 : Nat} {M2 : Wo} (hv : X3_init M a0 = some M2) (hd : decode cc pc = .ok (.invokespecial index, 3)) (h8 : (st.map fun v => v.category).sum ≤ 8) (hf : k + 3 ≤ R.cells ∧ n + 4224 ≤ R.slots) (kk : Pt X (k + 3) (n + 4224) (pc + 3) M2 lv st) : Pt X k n pc M lv (.ref a0 :: st) := pt_cI (nA := 0) (As := []) G (X3_init_c hv) hg rfl rfl rfl hini hl hi rfl (by decide +kernel) hR rfl rfl h8 hd hf kk
theorem X3_init_vn {X : Cx} {y : MethodName} {cc : ByteArray} {Ts : List Cond} {nL : Nat} {ret : Option FieldType} {R : Room} (G : Gd X y cc Ts nL ret R) {index : Nat} (hg : GoodIn Ts wsX3_init) (hini : Cond.initialized yX3_init.cls ∈ Ts) (hl : va_Nw (.methodLinkNest y.cls index yX3_init "StageLines") (xS X)) (hi : Cond.instanceMethod yX3_init ∈ Ts) (hR : rX3_init.frames + 1 ≤ R.frames ∧ 8 + (1 + 11) + rX3_init.locals ≤ R.locals) {k n pc : Nat} {M : Wo} {lv : List (Nat × Value)} {st : List Value} {a0 : Nat} {M2 : Wo} (hv : X3_init M a0 = some M2) (hd : decode cc pc = .ok (.invokespecial index, 3)) (h8 : (st.map fun v => v.category).sum ≤ 8) (hf : k + 3 ≤ R.cells ∧ n + 4224 ≤ R.slots) (kk : Pt X (k + 3) (n + 4224) (pc + 3) M2 lv st) : Pt X k n pc M lv (.ref a0 :: st) := pt_cN (nA := 0) (As := []) G (X3_init_c hv) hg rfl rfl rfl hini hl hi rfl (by decide +kernel) hR rfl rfl h8 hd hf kk
abbrev rX3_fillSums : Room := { frames := 0, cells := 0, slots := 0, locals := 0 }
theorem m_X3_fillSums_2 : Cond.fieldLink RX3 66 "StageLines$Pile" "weights" "[I" ∈ wsX3_fillSums := List.mem_of_getElem? (i := 2) rfl
theorem u_X3_fillSums_X5 : ∀ w ∈ u_ws RX5 TX5 2, w ∈ wsX3_fillSums := mem_r [3, 4] (by decide +kernel)
theorem m_X3_fillSums_1 : Cond.fieldLink RX3 34 "StageLines$Pile" "size" "I" ∈ wsX3_fillSums := List.mem_of_getElem? (i := 1) rfl
abbrev X3_fillSums_P6 (X : Cx) (a0 : Nat) (a1 : Nat) : (Wo × Int32) → Prop := un2 (fun M x2 => Pt X 0 0 6 M [(0, .ref a0), (1, .ref a1), (2, .int x2)] [])
abbrev X3_fillSums_Z6 (X : Cx) (a0 : Nat) (a1 : Nat) : Wo → Prop := (un1 (fun M => Pt X 0 0 56 M [] []))
abbrev X3_fillSums_P21 (X : Cx) (a0 : Nat) (a1 : Nat) (x2 : Int32) (x3 : Int32) : (Wo × Int32) → Prop := un2 (fun M x4 => Pt X 0 0 21 M [(0, .ref a0), (1, .ref a1), (2, .int x2), (3, .int x3), (4, .int x4)] [])
abbrev X3_fillSums_Z21 (X : Cx) (a0 : Nat) (a1 : Nat) (x2 : Int32) (x3 : Int32) : Wo → Prop := (un1 (fun M => Pt X 0 0 50 M [(0, .ref a0), (1, .ref a1), (2, .int x2)] []))
def X3_fillSums_b21 (a0 : Nat) (a1 : Nat) (x2 : Int32) (x3 : Int32) (M : Wo) (x4 : Int32) : Option ((Wo × Int32) ⊕ Wo) :=
  if x3 ≤ x4 then (some (.inr M)) else ((lA M 0 a1 x4).bind fun v5 => (gR M a0 5 0).bind fun w7 => (lA M 0 w7 x2).bind fun v9 => (sA M a1 (x4 + x3) (v5 + v9)).bind fun M11 => some (.inl (M11, (x4 + 1))))
theorem X3_fillSums_b21_w {X : Cx} (G : Gd X yX3_fillSums cX3_fillSums wsX3_fillSums 5 none rX3_fillSums) {a0 : Nat} {a1 : Nat} {x2 : Int32} {x3 : Int32} {M : Wo} {x4 : Int32} {o : ((Wo × Int32) ⊕ Wo)} (hd : X3_fillSums_b21 a0 a1 x2 x3 M x4 = some o) (hc : ∀ s9, o = .inl s9 → X3_fillSums_P21 X a0 a1 x2 x3 s9) (he : ∀ e9, o = .inr e9 → X3_fillSums_Z21 X a0 a1 x2 x3 e9) : Pt X 0 0 21 M [(0, .ref a0), (1, .ref a1), (2, .int x2), (3, .int x3), (4, .int x4)] [] := by
  unfold X3_fillSums_b21 at hd
  refine pt_iload G 4 dX3_fillSums_21 rfl ?_
  refine pt_iload_n G 3 dX3_fillSums_23 rfl rfl ?_
  refine pt_icmp_ge G 50 dX3_fillSums_24 (by decide) (fun c13 => ?_) (fun c13 => ?_)
  · replace hd := ifp c13 hd
    exact pt_sub [0, 1, 2] rfl (he M (Option.some.inj hd).symm)
  · replace hd := ifn c13 hd
    refine pt_aload_n G 1 dX3_fillSums_27 rfl rfl ?_
    refine pt_iload G 4 dX3_fillSums_28 rfl ?_
    refine pt_iload_n G 3 dX3_fillSums_30 rfl rfl ?_
    refine pt_iadd G dX3_fillSums_31 ?_
    refine pt_aload_n G 1 dX3_fillSums_32 rfl rfl ?_
    refine pt_iload G 4 dX3_fillSums_33 rfl ?_
    obtain ⟨v5, h6, hd⟩ := bnd hd
    refine pt_iald G h6 dX3_fillSums_35 ?_
    refine pt_aload_n G 0 dX3_fillSums_36 rfl rfl ?_
    obtain ⟨w7, h8, hd⟩ := bnd hd
    refine pt_get G (ci := 5) (j := 0) rfl (by decide) u_X3_fillSums_X5 m_X3_fillSums_2 (gR_o h8) dX3_fillSums_37 ?_
    refine pt_iload_n G 2 dX3_fillSums_40 rfl rfl ?_
    obtain ⟨v9, h10, hd⟩ := bnd hd
    refine pt_iald G h10 dX3_fillSums_41 ?_
    refine pt_iadd G dX3_fillSums_42 ?_
    obtain ⟨M11, h12, hd⟩ := bnd hd
    refine pt_iast G h12 dX3_fillSums_43 ?_
    refine pt_iinc G 4 (x4 + 1) [(4, .int (x4 + 1)), (0, .ref a0), (1, .ref a1), (2, .int x2), (3, .int x3)] dX3_fillSums_44 rfl (inc_1 _) (by decide) rfl ?_
    refine pt_goto G 21 dX3_fillSums_47 (by decide) ?_
    exact pt_sub [1, 2, 3, 4, 0] rfl (hc (M11, (x4 + 1)) (Option.some.inj hd).symm)
theorem X3_fillSums_w21_w {X : Cx} (G : Gd X yX3_fillSums cX3_fillSums wsX3_fillSums 5 none rX3_fillSums) {a0 : Nat} {a1 : Nat} {x2 : Int32} {x3 : Int32} (n9 : Nat) (s9 : (Wo × Int32)) (e9 : Wo) (hw : wloop (un2 (X3_fillSums_b21 a0 a1 x2 x3)) n9 s9 = some e9) (hz : X3_fillSums_Z21 X a0 a1 x2 x3 e9) : X3_fillSums_P21 X a0 a1 x2 x3 s9 := by
  refine wl_ind (P := X3_fillSums_P21 X a0 a1 x2 x3) (Z := X3_fillSums_Z21 X a0 a1 x2 x3) ?_ n9 s9 e9 hw hz
  intro s9 o9 hd hc he
  obtain ⟨M, x4⟩ := s9
  exact X3_fillSums_b21_w G hd hc he
def X3_fillSums_b6 (a0 : Nat) (a1 : Nat) (M : Wo) (x2 : Int32) : Option ((Wo × Int32) ⊕ Wo) :=
  (gI M a0 5 1).bind fun v3 => if v3 ≤ x2 then (some (.inr M)) else ((wloop (un2 (X3_fillSums_b21 a0 a1 x2 ((1 : Int32) <<< (x2 &&& 31)))) FU (M, (0 : Int32))).bind fun M14 => some (.inl (M14, (x2 + 1))))
theorem X3_fillSums_b6_w {X : Cx} (G : Gd X yX3_fillSums cX3_fillSums wsX3_fillSums 5 none rX3_fillSums) {a0 : Nat} {a1 : Nat} {M : Wo} {x2 : Int32} {o : ((Wo × Int32) ⊕ Wo)} (hd : X3_fillSums_b6 a0 a1 M x2 = some o) (hc : ∀ s9, o = .inl s9 → X3_fillSums_P6 X a0 a1 s9) (he : ∀ e9, o = .inr e9 → X3_fillSums_Z6 X a0 a1 e9) : Pt X 0 0 6 M [(0, .ref a0), (1, .ref a1), (2, .int x2)] [] := by
  unfold X3_fillSums_b6 at hd
  refine pt_iload_n G 2 dX3_fillSums_6 rfl rfl ?_
  refine pt_aload_n G 0 dX3_fillSums_7 rfl rfl ?_
  obtain ⟨v3, h4, hd⟩ := bnd hd
  refine pt_get G (ci := 5) (j := 1) rfl (by decide) u_X3_fillSums_X5 m_X3_fillSums_1 (gI_o h4) dX3_fillSums_8 ?_
  refine pt_icmp_ge G 56 dX3_fillSums_11 (by decide) (fun c16 => ?_) (fun c16 => ?_)
  · replace hd := ifp c16 hd
    exact pt_sub [] rfl (he M (Option.some.inj hd).symm)
  · replace hd := ifn c16 hd
    refine pt_iconst G (1 : Int32) dX3_fillSums_14 ci_1 ?_
    refine pt_iload_n G 2 dX3_fillSums_15 rfl rfl ?_
    refine pt_ishl G dX3_fillSums_16 ?_
    refine pt_istore_n G [(3, .int ((1 : Int32) <<< (x2 &&& 31))), (0, .ref a0), (1, .ref a1), (2, .int x2)] dX3_fillSums_17 rfl (by decide) rfl ?_
    refine pt_iconst G (0 : Int32) dX3_fillSums_18 ci_0 ?_
    refine pt_istore G [(4, .int (0 : Int32)), (3, .int ((1 : Int32) <<< (x2 &&& 31))), (0, .ref a0), (1, .ref a1), (2, .int x2)] dX3_fillSums_19 (by decide) rfl ?_
    obtain ⟨M14, hw15, hd⟩ := bnd hd
    refine pt_sub [2, 3, 4, 1, 0] rfl (X3_fillSums_w21_w G _ _ _ hw15 ?_)
    show Pt X 0 0 _ _ _ []
    refine pt_iinc G 2 (x2 + 1) [(2, .int (x2 + 1)), (0, .ref a0), (1, .ref a1)] dX3_fillSums_50 rfl (inc_1 _) (by decide) rfl ?_
    refine pt_goto G 6 dX3_fillSums_53 (by decide) ?_
    exact pt_sub [1, 2, 0] rfl (hc (M14, (x2 + 1)) (Option.some.inj hd).symm)
theorem X3_fillSums_w6_w {X : Cx} (G : Gd X yX3_fillSums cX3_fillSums wsX3_fillSums 5 none rX3_fillSums) {a0 : Nat} {a1 : Nat} (n9 : Nat) (s9 : (Wo × Int32)) (e9 : Wo) (hw : wloop (un2 (X3_fillSums_b6 a0 a1)) n9 s9 = some e9) (hz : X3_fillSums_Z6 X a0 a1 e9) : X3_fillSums_P6 X a0 a1 s9 := by
  refine wl_ind (P := X3_fillSums_P6 X a0 a1) (Z := X3_fillSums_Z6 X a0 a1) ?_ n9 s9 e9 hw hz
  intro s9 o9 hd hc he
  obtain ⟨M, x2⟩ := s9
  exact X3_fillSums_b6_w G hd hc he
def X3_fillSums (M : Wo) (a0 : Nat) (a1 : Nat) : Option Wo :=
  (sA M a1 (0 : Int32) (0 : Int32)).bind fun M1 => (wloop (un2 (X3_fillSums_b6 a0 a1)) FU (M1, (0 : Int32))).bind fun M17 => some M17
theorem X3_fillSums_w {X : Cx} (G : Gd X yX3_fillSums cX3_fillSums wsX3_fillSums 5 none rX3_fillSums) {M : Wo} {a0 : Nat} {a1 : Nat} {o : Wo} (hd : X3_fillSums M a0 a1 = some o) (hQ : Qv X o 0 0) : Pt X 0 0 0 M [(0, .ref a0), (1, .ref a1)] [] := by
  unfold X3_fillSums at hd
  refine pt_aload_n G 1 dX3_fillSums_0 rfl rfl ?_
  refine pt_iconst G (0 : Int32) dX3_fillSums_1 ci_0 ?_
  refine pt_iconst G (0 : Int32) dX3_fillSums_2 ci_0 ?_
  obtain ⟨M1, h2, hd⟩ := bnd hd
  refine pt_iast G h2 dX3_fillSums_3 ?_
  refine pt_iconst G (0 : Int32) dX3_fillSums_4 ci_0 ?_
  refine pt_istore_n G [(2, .int (0 : Int32)), (0, .ref a0), (1, .ref a1)] dX3_fillSums_5 rfl (by decide) rfl ?_
  obtain ⟨M17, hw18, hd⟩ := bnd hd
  refine pt_sub [1, 2, 0] rfl (X3_fillSums_w6_w G _ _ _ hw18 ?_)
  show Pt X 0 0 _ _ _ []
  cases hd
  exact pt_vret G hQ dX3_fillSums_56
theorem X3_fillSums_c {l : Launch} {D : va_G} {dA : Nat → ClassId} {b : Nat} {M : Wo} {a0 : Nat} {a1 : Nat} {M2 : Wo} (h : X3_fillSums M a0 a1 = some M2) : Met l yX3_fillSums wsX3_fillSums rX3_fillSums (va_Pc [.ref a0, .ref a1] (Wd D dA b M)) (Ev D dA b M2) 0 0 (Ab b) := met_v (by decide) rfl (Nat.le_of_ble_eq_true rfl) (fun X G hN hQ => X3_fillSums_w G h hQ)
theorem X3_fillSums_v {X : Cx} {y : MethodName} {cc : ByteArray} {Ts : List Cond} {nL : Nat} {ret : Option FieldType} {R : Room} (G : Gd X y cc Ts nL ret R) {index : Nat} (hg : GoodIn Ts (va_wsS y.cls index yX3_fillSums wsX3_fillSums)) (hR : rX3_fillSums.frames + 1 ≤ R.frames ∧ 8 + (5 + 11) + rX3_fillSums.locals ≤ R.locals) {k n pc : Nat} {M : Wo} {lv : List (Nat × Value)} {st : List Value} {a0 : Nat} {a1 : Nat} {M2 : Wo} (hv : X3_fillSums M a0 a1 = some M2) (hd : decode cc pc = .ok (.invokestatic index, 3)) (h8 : (st.map fun v => v.category).sum ≤ 8) (hf : k ≤ R.cells ∧ n ≤ R.slots) (kk : Pt X k n (pc + 3) M2 lv st) : Pt X k n pc M lv (.ref a1 :: .ref a0 :: st) := pt_cSv (nA := 2) (As := [.ref a0, .ref a1]) G (X3_fillSums_c hv) hg rfl rfl rfl (by decide +kernel) hR rfl rfl h8 hd hf kk
abbrev rX3_indexOf : Room := { frames := 0, cells := 0, slots := 0, locals := 0 }
def X3_indexOf (M : Wo) (x0 : Int32) (x1 : Int32) : Option Int32 :=
  some ((x1 * (64 : Int32)) + x0)
theorem X3_indexOf_w {X : Cx} (G : Gd X yX3_indexOf cX3_indexOf wsX3_indexOf 2 (some .int) rX3_indexOf) {M : Wo} {x0 : Int32} {x1 : Int32} {o : Int32} (hd : X3_indexOf M x0 x1 = some o) (hQ : Qi X o M 0 0) : Pt X 0 0 0 M [(0, .int x0), (1, .int x1)] [] := by
  unfold X3_indexOf at hd
  refine pt_iload_n G 1 dX3_indexOf_0 rfl rfl ?_
  refine pt_bipush G (64 : Int32) dX3_indexOf_1 bi_64 ?_
  refine pt_imul G dX3_indexOf_3 ?_
  refine pt_iload_n G 0 dX3_indexOf_4 rfl rfl ?_
  refine pt_iadd G dX3_indexOf_5 ?_
  cases hd
  exact pt_iret G hQ dX3_indexOf_6
theorem X3_indexOf_c {l : Launch} {D : va_G} {dA : Nat → ClassId} {b : Nat} {M : Wo} {x0 : Int32} {x1 : Int32} {r : Int32} (h : X3_indexOf M x0 x1 = some r) : Met l yX3_indexOf wsX3_indexOf rX3_indexOf (va_Pc [.int x0, .int x1] (Wd D dA b M)) (Ei D dA b r M) 0 0 (Ab b) := met_i (by decide) rfl (Nat.le_of_ble_eq_true rfl) (fun X G hN hQ => X3_indexOf_w G h hQ)
theorem X3_indexOf_v {X : Cx} {y : MethodName} {cc : ByteArray} {Ts : List Cond} {nL : Nat} {ret : Option FieldType} {R : Room} (G : Gd X y cc Ts nL ret R) {index : Nat} (hg : GoodIn Ts (va_wsS y.cls index yX3_indexOf wsX3_indexOf)) (hR : rX3_indexOf.frames + 1 ≤ R.frames ∧ 8 + (2 + 11) + rX3_indexOf.locals ≤ R.locals) {k n pc : Nat} {M : Wo} {lv : List (Nat × Value)} {st : List Value} {x0 : Int32} {x1 : Int32} {r : Int32} (hv : X3_indexOf M x0 x1 = some r) (hd : decode cc pc = .ok (.invokestatic index, 3)) (h8 : (st.map fun v => v.category).sum ≤ 8) (hf : k ≤ R.cells ∧ n ≤ R.slots) (kk : Pt X k n (pc + 3) M lv (.int r :: st)) : Pt X k n pc M lv (.int x1 :: .int x0 :: st) := pt_cSi (nA := 2) (As := [.int x0, .int x1]) G (X3_indexOf_c hv) hg rfl rfl rfl (by decide +kernel) hR rfl rfl h8 hd hf kk
abbrev rX3_ordersBehind : Room := { frames := 1, cells := 0, slots := 0, locals := 21 }
theorem m_X3_ordersBehind_3 : Cond.fieldLink RX3 18 "StageLines$Loader" "orders" "[I" ∈ wsX3_ordersBehind := List.mem_of_getElem? (i := 3) rfl
theorem u_X3_ordersBehind_X3 : ∀ w ∈ u_ws RX3 TX3 5, w ∈ wsX3_ordersBehind := mem_r [8, 9, 10, 11, 12] (by decide +kernel)
theorem m_X3_ordersBehind_1 : Cond.fieldLink RX3 21 "StageLines$Loader" "pieceCount" "I" ∈ wsX3_ordersBehind := List.mem_of_getElem? (i := 1) rfl
theorem m_X3_ordersBehind_2 : Cond.fieldLink RX3 25 "StageLines$Loader" "brickCount" "I" ∈ wsX3_ordersBehind := List.mem_of_getElem? (i := 2) rfl
abbrev X3_ordersBehind_P31 (X : Cx) (M : Wo) (a0 : Nat) (x1 : Int32) (x2 : Int32) : (Int32 × Int32) → Prop := un2 (fun x3 x4 => Pt X 0 0 31 M [(0, .ref a0), (1, .int x1), (2, .int x2), (3, .int x3), (4, .int x4)] [])
abbrev X3_ordersBehind_Z31 (X : Cx) (M : Wo) (a0 : Nat) (x1 : Int32) (x2 : Int32) : Int32 → Prop := (un1 (fun x3 => Pt X 0 0 73 M [(0, .ref a0), (1, .int x1), (2, .int x2), (3, .int x3)] []))
def X3_ordersBehind_b31 (M : Wo) (a0 : Nat) (x1 : Int32) (x2 : Int32) (x3 : Int32) (x4 : Int32) : Option ((Int32 × Int32) ⊕ Int32) :=
  (gI M a0 3 3).bind fun v3 => if v3 ≤ x4 then (some (.inr x3)) else (if ((x1 >>> (x4 &&& 31)) &&& (1 : Int32)) = 0 then ((gR M a0 3 2).bind fun w5 => (X3_indexOf M (x1 ||| ((1 : Int32) <<< (x4 &&& 31))) x2).bind fun v8 => (lA M 0 w5 v8).bind fun v9 => some (.inl ((x3 + v9), (x4 + 1)))) else (some (.inl (x3, (x4 + 1)))))
theorem X3_ordersBehind_b31_w {X : Cx} (G : Gd X yX3_ordersBehind cX3_ordersBehind wsX3_ordersBehind 5 (some .int) rX3_ordersBehind) {M : Wo} {a0 : Nat} {x1 : Int32} {x2 : Int32} {x3 : Int32} {x4 : Int32} {o : ((Int32 × Int32) ⊕ Int32)} (hd : X3_ordersBehind_b31 M a0 x1 x2 x3 x4 = some o) (hc : ∀ s9, o = .inl s9 → X3_ordersBehind_P31 X M a0 x1 x2 s9) (he : ∀ e9, o = .inr e9 → X3_ordersBehind_Z31 X M a0 x1 x2 e9) : Pt X 0 0 31 M [(0, .ref a0), (1, .int x1), (2, .int x2), (3, .int x3), (4, .int x4)] [] := by
  unfold X3_ordersBehind_b31 at hd
  refine pt_iload G 4 dX3_ordersBehind_31 rfl ?_
  refine pt_aload_n G 0 dX3_ordersBehind_33 rfl rfl ?_
  obtain ⟨v3, h4, hd⟩ := bnd hd
  refine pt_get G (ci := 3) (j := 3) rfl (by decide) u_X3_ordersBehind_X3 m_X3_ordersBehind_1 (gI_o h4) dX3_ordersBehind_34 ?_
  refine pt_icmp_ge G 73 dX3_ordersBehind_37 (by decide) (fun c12 => ?_) (fun c12 => ?_)
  · replace hd := ifp c12 hd
    exact pt_sub [0, 1, 2, 3] rfl (he x3 (Option.some.inj hd).symm)
  · replace hd := ifn c12 hd
    refine pt_iload_n G 1 dX3_ordersBehind_40 rfl rfl ?_
    refine pt_iload G 4 dX3_ordersBehind_41 rfl ?_
    refine pt_ishr G dX3_ordersBehind_43 ?_
    refine pt_iconst G (1 : Int32) dX3_ordersBehind_44 ci_1 ?_
    refine pt_iand G dX3_ordersBehind_45 ?_
    refine pt_if_ne G 67 dX3_ordersBehind_46 (by decide) (fun c11 => ?_) (fun c11 => ?_)
    · replace hd := ifn c11 hd
      refine pt_iinc G 4 (x4 + 1) [(4, .int (x4 + 1)), (0, .ref a0), (1, .int x1), (2, .int x2), (3, .int x3)] dX3_ordersBehind_67 rfl (inc_1 _) (by decide) rfl ?_
      refine pt_goto G 31 dX3_ordersBehind_70 (by decide) ?_
      exact pt_sub [1, 2, 3, 4, 0] rfl (hc (x3, (x4 + 1)) (Option.some.inj hd).symm)
    · replace hd := ifp c11 hd
      refine pt_iload_n G 3 dX3_ordersBehind_49 rfl rfl ?_
      refine pt_aload_n G 0 dX3_ordersBehind_50 rfl rfl ?_
      obtain ⟨w5, h6, hd⟩ := bnd hd
      refine pt_get G (ci := 3) (j := 2) rfl (by decide) u_X3_ordersBehind_X3 m_X3_ordersBehind_3 (gR_o h6) dX3_ordersBehind_51 ?_
      refine pt_iload_n G 1 dX3_ordersBehind_54 rfl rfl ?_
      refine pt_iconst G (1 : Int32) dX3_ordersBehind_55 ci_1 ?_
      refine pt_iload G 4 dX3_ordersBehind_56 rfl ?_
      refine pt_ishl G dX3_ordersBehind_58 ?_
      refine pt_ior G dX3_ordersBehind_59 ?_
      refine pt_iload_n G 2 dX3_ordersBehind_60 rfl rfl ?_
      obtain ⟨v8, h7, hd⟩ := bnd hd
      refine X3_indexOf_v G gX3_ordersBehind_X3_indexOf ⟨(Nat.le_of_ble_eq_true rfl), (Nat.le_of_ble_eq_true rfl)⟩ h7 dX3_ordersBehind_61 (Nat.le_of_ble_eq_true rfl) ⟨(Nat.le_of_ble_eq_true rfl), (Nat.le_of_ble_eq_true rfl)⟩ ?_
      obtain ⟨v9, h10, hd⟩ := bnd hd
      refine pt_iald G h10 dX3_ordersBehind_64 ?_
      refine pt_iadd G dX3_ordersBehind_65 ?_
      refine pt_istore_n G [(3, .int (x3 + v9)), (0, .ref a0), (1, .int x1), (2, .int x2), (4, .int x4)] dX3_ordersBehind_66 rfl (by decide) rfl ?_
      refine pt_iinc G 4 (x4 + 1) [(4, .int (x4 + 1)), (3, .int (x3 + v9)), (0, .ref a0), (1, .int x1), (2, .int x2)] dX3_ordersBehind_67 rfl (inc_1 _) (by decide) rfl ?_
      refine pt_goto G 31 dX3_ordersBehind_70 (by decide) ?_
      exact pt_sub [2, 3, 4, 1, 0] rfl (hc ((x3 + v9), (x4 + 1)) (Option.some.inj hd).symm)
theorem X3_ordersBehind_w31_w {X : Cx} (G : Gd X yX3_ordersBehind cX3_ordersBehind wsX3_ordersBehind 5 (some .int) rX3_ordersBehind) {M : Wo} {a0 : Nat} {x1 : Int32} {x2 : Int32} (n9 : Nat) (s9 : (Int32 × Int32)) (e9 : Int32) (hw : wloop (un2 (X3_ordersBehind_b31 M a0 x1 x2)) n9 s9 = some e9) (hz : X3_ordersBehind_Z31 X M a0 x1 x2 e9) : X3_ordersBehind_P31 X M a0 x1 x2 s9 := by
  refine wl_ind (P := X3_ordersBehind_P31 X M a0 x1 x2) (Z := X3_ordersBehind_Z31 X M a0 x1 x2) ?_ n9 s9 e9 hw hz
  intro s9 o9 hd hc he
  obtain ⟨x3, x4⟩ := s9
  exact X3_ordersBehind_b31_w G hd hc he
abbrev X3_ordersBehind_P76 (X : Cx) (M : Wo) (a0 : Nat) (x1 : Int32) (x2 : Int32) : (Int32 × Int32) → Prop := un2 (fun x3 x4 => Pt X 0 0 76 M [(0, .ref a0), (1, .int x1), (2, .int x2), (3, .int x3), (4, .int x4)] [])
abbrev X3_ordersBehind_Z76 (X : Cx) (M : Wo) (a0 : Nat) (x1 : Int32) (x2 : Int32) : Int32 → Prop := (un1 (fun x3 => Pt X 0 0 118 M [(3, .int x3)] []))
def X3_ordersBehind_b76 (M : Wo) (a0 : Nat) (x1 : Int32) (x2 : Int32) (x3 : Int32) (x4 : Int32) : Option ((Int32 × Int32) ⊕ Int32) :=
  (gI M a0 3 4).bind fun v14 => if v14 ≤ x4 then (some (.inr x3)) else (if ((x2 >>> (x4 &&& 31)) &&& (1 : Int32)) = 0 then ((gR M a0 3 2).bind fun w16 => (X3_indexOf M x1 (x2 ||| ((1 : Int32) <<< (x4 &&& 31)))).bind fun v19 => (lA M 0 w16 v19).bind fun v20 => some (.inl ((x3 + v20), (x4 + 1)))) else (some (.inl (x3, (x4 + 1)))))
theorem X3_ordersBehind_b76_w {X : Cx} (G : Gd X yX3_ordersBehind cX3_ordersBehind wsX3_ordersBehind 5 (some .int) rX3_ordersBehind) {M : Wo} {a0 : Nat} {x1 : Int32} {x2 : Int32} {x3 : Int32} {x4 : Int32} {o : ((Int32 × Int32) ⊕ Int32)} (hd : X3_ordersBehind_b76 M a0 x1 x2 x3 x4 = some o) (hc : ∀ s9, o = .inl s9 → X3_ordersBehind_P76 X M a0 x1 x2 s9) (he : ∀ e9, o = .inr e9 → X3_ordersBehind_Z76 X M a0 x1 x2 e9) : Pt X 0 0 76 M [(0, .ref a0), (1, .int x1), (2, .int x2), (3, .int x3), (4, .int x4)] [] := by
  unfold X3_ordersBehind_b76 at hd
  refine pt_iload G 4 dX3_ordersBehind_76 rfl ?_
  refine pt_aload_n G 0 dX3_ordersBehind_78 rfl rfl ?_
  obtain ⟨v14, h15, hd⟩ := bnd hd
  refine pt_get G (ci := 3) (j := 4) rfl (by decide) u_X3_ordersBehind_X3 m_X3_ordersBehind_2 (gI_o h15) dX3_ordersBehind_79 ?_
  refine pt_icmp_ge G 118 dX3_ordersBehind_82 (by decide) (fun c23 => ?_) (fun c23 => ?_)
  · replace hd := ifp c23 hd
    exact pt_sub [3] rfl (he x3 (Option.some.inj hd).symm)
  · replace hd := ifn c23 hd
    refine pt_iload_n G 2 dX3_ordersBehind_85 rfl rfl ?_
    refine pt_iload G 4 dX3_ordersBehind_86 rfl ?_
    refine pt_ishr G dX3_ordersBehind_88 ?_
    refine pt_iconst G (1 : Int32) dX3_ordersBehind_89 ci_1 ?_
    refine pt_iand G dX3_ordersBehind_90 ?_
    refine pt_if_ne G 112 dX3_ordersBehind_91 (by decide) (fun c22 => ?_) (fun c22 => ?_)
    · replace hd := ifn c22 hd
      refine pt_iinc G 4 (x4 + 1) [(4, .int (x4 + 1)), (0, .ref a0), (1, .int x1), (2, .int x2), (3, .int x3)] dX3_ordersBehind_112 rfl (inc_1 _) (by decide) rfl ?_
      refine pt_goto G 76 dX3_ordersBehind_115 (by decide) ?_
      exact pt_sub [1, 2, 3, 4, 0] rfl (hc (x3, (x4 + 1)) (Option.some.inj hd).symm)
    · replace hd := ifp c22 hd
      refine pt_iload_n G 3 dX3_ordersBehind_94 rfl rfl ?_
      refine pt_aload_n G 0 dX3_ordersBehind_95 rfl rfl ?_
      obtain ⟨w16, h17, hd⟩ := bnd hd
      refine pt_get G (ci := 3) (j := 2) rfl (by decide) u_X3_ordersBehind_X3 m_X3_ordersBehind_3 (gR_o h17) dX3_ordersBehind_96 ?_
      refine pt_iload_n G 1 dX3_ordersBehind_99 rfl rfl ?_
      refine pt_iload_n G 2 dX3_ordersBehind_100 rfl rfl ?_
      refine pt_iconst G (1 : Int32) dX3_ordersBehind_101 ci_1 ?_
      refine pt_iload G 4 dX3_ordersBehind_102 rfl ?_
      refine pt_ishl G dX3_ordersBehind_104 ?_
      refine pt_ior G dX3_ordersBehind_105 ?_
      obtain ⟨v19, h18, hd⟩ := bnd hd
      refine X3_indexOf_v G gX3_ordersBehind_X3_indexOf ⟨(Nat.le_of_ble_eq_true rfl), (Nat.le_of_ble_eq_true rfl)⟩ h18 dX3_ordersBehind_106 (Nat.le_of_ble_eq_true rfl) ⟨(Nat.le_of_ble_eq_true rfl), (Nat.le_of_ble_eq_true rfl)⟩ ?_
      obtain ⟨v20, h21, hd⟩ := bnd hd
      refine pt_iald G h21 dX3_ordersBehind_109 ?_
      refine pt_iadd G dX3_ordersBehind_110 ?_
      refine pt_istore_n G [(3, .int (x3 + v20)), (0, .ref a0), (1, .int x1), (2, .int x2), (4, .int x4)] dX3_ordersBehind_111 rfl (by decide) rfl ?_
      refine pt_iinc G 4 (x4 + 1) [(4, .int (x4 + 1)), (3, .int (x3 + v20)), (0, .ref a0), (1, .int x1), (2, .int x2)] dX3_ordersBehind_112 rfl (inc_1 _) (by decide) rfl ?_
      refine pt_goto G 76 dX3_ordersBehind_115 (by decide) ?_
      exact pt_sub [2, 3, 4, 1, 0] rfl (hc ((x3 + v20), (x4 + 1)) (Option.some.inj hd).symm)
theorem X3_ordersBehind_w76_w {X : Cx} (G : Gd X yX3_ordersBehind cX3_ordersBehind wsX3_ordersBehind 5 (some .int) rX3_ordersBehind) {M : Wo} {a0 : Nat} {x1 : Int32} {x2 : Int32} (n9 : Nat) (s9 : (Int32 × Int32)) (e9 : Int32) (hw : wloop (un2 (X3_ordersBehind_b76 M a0 x1 x2)) n9 s9 = some e9) (hz : X3_ordersBehind_Z76 X M a0 x1 x2 e9) : X3_ordersBehind_P76 X M a0 x1 x2 s9 := by
  refine wl_ind (P := X3_ordersBehind_P76 X M a0 x1 x2) (Z := X3_ordersBehind_Z76 X M a0 x1 x2) ?_ n9 s9 e9 hw hz
  intro s9 o9 hd hc he
  obtain ⟨x3, x4⟩ := s9
  exact X3_ordersBehind_b76_w G hd hc he
def X3_ordersBehind_L26 (M : Wo) (a0 : Nat) (x1 : Int32) (x2 : Int32) : Option Int32 :=
  (wloop (un2 (X3_ordersBehind_b31 M a0 x1 x2)) FU ((0 : Int32), (0 : Int32))).bind fun v13 => (wloop (un2 (X3_ordersBehind_b76 M a0 x1 x2)) FU (v13, (0 : Int32))).bind fun v24 => some v24
theorem X3_ordersBehind_L26_w {X : Cx} (G : Gd X yX3_ordersBehind cX3_ordersBehind wsX3_ordersBehind 5 (some .int) rX3_ordersBehind) {M : Wo} {a0 : Nat} {x1 : Int32} {x2 : Int32} {o : Int32} (hd : X3_ordersBehind_L26 M a0 x1 x2 = some o) (hQ : Qi X o M 0 0) : Pt X 0 0 26 M [(0, .ref a0), (1, .int x1), (2, .int x2)] [] := by
  unfold X3_ordersBehind_L26 at hd
  refine pt_iconst G (0 : Int32) dX3_ordersBehind_26 ci_0 ?_
  refine pt_istore_n G [(3, .int (0 : Int32)), (0, .ref a0), (1, .int x1), (2, .int x2)] dX3_ordersBehind_27 rfl (by decide) rfl ?_
  refine pt_iconst G (0 : Int32) dX3_ordersBehind_28 ci_0 ?_
  refine pt_istore G [(4, .int (0 : Int32)), (3, .int (0 : Int32)), (0, .ref a0), (1, .int x1), (2, .int x2)] dX3_ordersBehind_29 (by decide) rfl ?_
  obtain ⟨v13, hw26, hd⟩ := bnd hd
  refine pt_sub [2, 3, 4, 1, 0] rfl (X3_ordersBehind_w31_w G _ _ _ hw26 ?_)
  show Pt X 0 0 _ _ _ []
  refine pt_iconst G (0 : Int32) dX3_ordersBehind_73 ci_0 ?_
  refine pt_istore G [(4, .int (0 : Int32)), (0, .ref a0), (1, .int x1), (2, .int x2), (3, .int v13)] dX3_ordersBehind_74 (by decide) rfl ?_
  obtain ⟨v24, hw25, hd⟩ := bnd hd
  refine pt_sub [1, 2, 3, 4, 0] rfl (X3_ordersBehind_w76_w G _ _ _ hw25 ?_)
  show Pt X 0 0 _ _ _ []
  refine pt_iload_n G 0 dX3_ordersBehind_118 rfl rfl ?_
  cases hd
  exact pt_iret G hQ dX3_ordersBehind_119
def X3_ordersBehind (M : Wo) (a0 : Nat) (x1 : Int32) (x2 : Int32) : Option Int32 :=
  (ckO M a0 3).bind fun _ => (gI M a0 3 3).bind fun v1 => if x1 = (((1 : Int32) <<< (v1 &&& 31)) - (1 : Int32)) then ((gI M a0 3 4).bind fun v27 => if x2 = (((1 : Int32) <<< (v27 &&& 31)) - (1 : Int32)) then (some (1 : Int32)) else (X3_ordersBehind_L26 M a0 x1 x2)) else (X3_ordersBehind_L26 M a0 x1 x2)
theorem X3_ordersBehind_w {X : Cx} (G : Gd X yX3_ordersBehind cX3_ordersBehind wsX3_ordersBehind 5 (some .int) rX3_ordersBehind) {M : Wo} {a0 : Nat} {x1 : Int32} {x2 : Int32} {o : Int32} (hd : X3_ordersBehind M a0 x1 x2 = some o) (hQ : Qi X o M 0 0) : Pt X 0 0 0 M [(0, .ref a0), (1, .int x1), (2, .int x2)] [] := by
  unfold X3_ordersBehind at hd
  obtain ⟨_, _, hd⟩ := bnd hd
  refine pt_iload_n G 1 dX3_ordersBehind_0 rfl rfl ?_
  refine pt_iconst G (1 : Int32) dX3_ordersBehind_1 ci_1 ?_
  refine pt_aload_n G 0 dX3_ordersBehind_2 rfl rfl ?_
  obtain ⟨v1, h2, hd⟩ := bnd hd
  refine pt_get G (ci := 3) (j := 3) rfl (by decide) u_X3_ordersBehind_X3 m_X3_ordersBehind_1 (gI_o h2) dX3_ordersBehind_3 ?_
  refine pt_ishl G dX3_ordersBehind_6 ?_
  refine pt_iconst G (1 : Int32) dX3_ordersBehind_7 ci_1 ?_
  refine pt_isub G dX3_ordersBehind_8 ?_
  refine pt_icmp_ne G 26 dX3_ordersBehind_9 (by decide) (fun c30 => ?_) (fun c30 => ?_)
  · replace hd := ifn c30 hd
    exact pt_sub [0, 1, 2] rfl (X3_ordersBehind_L26_w G hd hQ)
  · replace hd := ifp c30 hd
    refine pt_iload_n G 2 dX3_ordersBehind_12 rfl rfl ?_
    refine pt_iconst G (1 : Int32) dX3_ordersBehind_13 ci_1 ?_
    refine pt_aload_n G 0 dX3_ordersBehind_14 rfl rfl ?_
    obtain ⟨v27, h28, hd⟩ := bnd hd
    refine pt_get G (ci := 3) (j := 4) rfl (by decide) u_X3_ordersBehind_X3 m_X3_ordersBehind_2 (gI_o h28) dX3_ordersBehind_15 ?_
    refine pt_ishl G dX3_ordersBehind_18 ?_
    refine pt_iconst G (1 : Int32) dX3_ordersBehind_19 ci_1 ?_
    refine pt_isub G dX3_ordersBehind_20 ?_
    refine pt_icmp_ne G 26 dX3_ordersBehind_21 (by decide) (fun c29 => ?_) (fun c29 => ?_)
    · replace hd := ifn c29 hd
      exact pt_sub [0, 1, 2] rfl (X3_ordersBehind_L26_w G hd hQ)
    · replace hd := ifp c29 hd
      refine pt_iconst G (1 : Int32) dX3_ordersBehind_24 ci_1 ?_
      cases hd
      exact pt_iret G hQ dX3_ordersBehind_25
theorem X3_ordersBehind_c {l : Launch} {D : va_G} {dA : Nat → ClassId} {b : Nat} {M : Wo} {a0 : Nat} {x1 : Int32} {x2 : Int32} {r : Int32} (h : X3_ordersBehind M a0 x1 x2 = some r) : Met l yX3_ordersBehind wsX3_ordersBehind rX3_ordersBehind (va_Pc [.ref a0, .int x1, .int x2] (Wd D dA b M)) (Ei D dA b r M) 0 0 (Ab b) := met_i (by decide) rfl (Nat.le_of_ble_eq_true rfl) (fun X G hN hQ => X3_ordersBehind_w G h hQ)
theorem X3_ordersBehind_v {X : Cx} {y : MethodName} {cc : ByteArray} {Ts : List Cond} {nL : Nat} {ret : Option FieldType} {R : Room} (G : Gd X y cc Ts nL ret R) {index : Nat} (hg : GoodIn Ts (wsV y.cls index RX3 yX3_ordersBehind wsX3_ordersBehind)) (hR : rX3_ordersBehind.frames + 1 ≤ R.frames ∧ 8 + (5 + 11) + rX3_ordersBehind.locals ≤ R.locals) {k n pc : Nat} {M : Wo} {lv : List (Nat × Value)} {st : List Value} {a0 : Nat} {x1 : Int32} {x2 : Int32} {r : Int32} (hv : X3_ordersBehind M a0 x1 x2 = some r) (hd : decode cc pc = .ok (.invokevirtual index, 3)) (h8 : (st.map fun v => v.category).sum ≤ 8) (hf : k ≤ R.cells ∧ n ≤ R.slots) (kk : Pt X k n (pc + 3) M lv (.int r :: st)) : Pt X k n pc M lv (.int x2 :: .int x1 :: .ref a0 :: st) := pt_cVi (ci := 3) (nA := 2) (As := [.int x1, .int x2]) G (X3_ordersBehind_c hv) hg rfl rfl rfl (by decide +kernel) hR rfl (rcv hv) rfl rfl h8 hd hf kk
abbrev rX3_reckon : Room := { frames := 2, cells := 0, slots := 0, locals := 60 }
theorem m_X3_reckon_8 : Cond.methodLink RX3 46 Lib.Math.abs.name ∈ wsX3_reckon := List.mem_of_getElem? (i := 8) rfl
theorem m_X3_reckon_9 : Cond.static Lib.Math.abs.name ∈ wsX3_reckon := List.mem_of_getElem? (i := 9) rfl
theorem m_X3_reckon_10 : Cond.initialized "java/lang/Math" ∈ wsX3_reckon := List.mem_of_getElem? (i := 10) rfl
theorem m_X3_reckon_11 : Cond.code Lib.Math.abs.name Lib.Math.abs.code 1 (some .int) ∈ wsX3_reckon := List.mem_of_getElem? (i := 11) rfl
theorem m_X3_reckon_12 : Cond.fieldLink RX3 18 "StageLines$Loader" "orders" "[I" ∈ wsX3_reckon := List.mem_of_getElem? (i := 12) rfl
theorem u_X3_reckon_X3 : ∀ w ∈ u_ws RX3 TX3 5, w ∈ wsX3_reckon := mem_r [30, 31, 32, 33, 34] (by decide +kernel)
theorem m_X3_reckon_7 : Cond.fieldLink RX3 15 "StageLines$Loader" "brickSums" "[I" ∈ wsX3_reckon := List.mem_of_getElem? (i := 7) rfl
theorem m_X3_reckon_6 : Cond.fieldLink RX3 9 "StageLines$Loader" "pieceSums" "[I" ∈ wsX3_reckon := List.mem_of_getElem? (i := 6) rfl
theorem m_X3_reckon_3 : Cond.fieldLink RX3 21 "StageLines$Loader" "pieceCount" "I" ∈ wsX3_reckon := List.mem_of_getElem? (i := 3) rfl
theorem m_X3_reckon_5 : Cond.fieldLink RX3 25 "StageLines$Loader" "brickCount" "I" ∈ wsX3_reckon := List.mem_of_getElem? (i := 5) rfl
theorem m_X3_reckon_4 : Cond.fieldLink RX3 39 "StageLines$Bar" "bricks" "LStageLines$Pile;" ∈ wsX3_reckon := List.mem_of_getElem? (i := 4) rfl
theorem u_X3_reckon_X0 : ∀ w ∈ u_ws RX0 TX0 3, w ∈ wsX3_reckon := mem_r [25, 26, 27] (by decide +kernel)
theorem m_X3_reckon_1 : Cond.fieldLink RX3 28 "StageLines$Bar" "pieces" "LStageLines$Pile;" ∈ wsX3_reckon := List.mem_of_getElem? (i := 1) rfl
theorem m_X3_reckon_2 : Cond.fieldLink RX3 34 "StageLines$Pile" "size" "I" ∈ wsX3_reckon := List.mem_of_getElem? (i := 2) rfl
theorem u_X3_reckon_X5 : ∀ w ∈ u_ws RX5 TX5 2, w ∈ wsX3_reckon := mem_r [28, 29] (by decide +kernel)
abbrev X3_reckon_P53 (X : Cx) (a0 : Nat) (x2 : Int32) : (Wo × Int32) → Prop := un2 (fun M x3 => Pt X 0 0 53 M [(0, .ref a0), (2, .int x2), (3, .int x3)] [])
abbrev X3_reckon_Z53 (X : Cx) (a0 : Nat) (x2 : Int32) : Wo → Prop := (un1 (fun M => Pt X 0 0 139 M [] []))
abbrev X3_reckon_P67 (X : Cx) (a0 : Nat) (x2 : Int32) (x3 : Int32) : (Wo × Int32) → Prop := un2 (fun M x4 => Pt X 0 0 67 M [(0, .ref a0), (2, .int x2), (3, .int x3), (4, .int x4)] [])
abbrev X3_reckon_Z67 (X : Cx) (a0 : Nat) (x2 : Int32) (x3 : Int32) : Wo → Prop := (un1 (fun M => Pt X 0 0 133 M [(0, .ref a0), (2, .int x2), (3, .int x3)] []))
def X3_reckon_L98 (M : Wo) (a0 : Nat) (x2 : Int32) (x3 : Int32) (x4 : Int32) (t0 : Int32) : Option ((Wo × Int32) ⊕ Wo) :=
  (gR M a0 3 2).bind fun w37 => (X3_indexOf M x4 x3).bind fun v40 => if t0 = 0 then ((sA M w37 v40 (0 : Int32)).bind fun M41 => some (.inl (M41, (x4 + (-1 : Int32))))) else ((X3_ordersBehind M a0 x4 x3).bind fun v44 => (sA M w37 v40 v44).bind fun M45 => some (.inl (M45, (x4 + (-1 : Int32)))))
theorem X3_reckon_L98_w {X : Cx} (G : Gd X yX3_reckon cX3_reckon wsX3_reckon 6 none rX3_reckon) {M : Wo} {a0 : Nat} {x2 : Int32} {x3 : Int32} {x4 : Int32} {t0 : Int32} {o : ((Wo × Int32) ⊕ Wo)} (hd : X3_reckon_L98 M a0 x2 x3 x4 t0 = some o) (hc : ∀ s9, o = .inl s9 → X3_reckon_P67 X a0 x2 x3 s9) (he : ∀ e9, o = .inr e9 → X3_reckon_Z67 X a0 x2 x3 e9) : Pt X 0 0 98 M [(0, .ref a0), (2, .int x2), (3, .int x3), (4, .int x4)] [.int t0] := by
  unfold X3_reckon_L98 at hd
  refine pt_istore G [(5, .int t0), (0, .ref a0), (2, .int x2), (3, .int x3), (4, .int x4)] dX3_reckon_98 (by decide) rfl ?_
  refine pt_aload_n G 1 dX3_reckon_100 rfl rfl ?_
  obtain ⟨w37, h38, hd⟩ := bnd hd
  refine pt_get G (ci := 3) (j := 2) rfl (by decide) u_X3_reckon_X3 m_X3_reckon_12 (gR_o h38) dX3_reckon_101 ?_
  refine pt_iload G 4 dX3_reckon_104 rfl ?_
  refine pt_iload_n G 3 dX3_reckon_106 rfl rfl ?_
  obtain ⟨v40, h39, hd⟩ := bnd hd
  refine X3_indexOf_v G gX3_reckon_X3_indexOf ⟨(Nat.le_of_ble_eq_true rfl), (Nat.le_of_ble_eq_true rfl)⟩ h39 dX3_reckon_107 (Nat.le_of_ble_eq_true rfl) ⟨(Nat.le_of_ble_eq_true rfl), (Nat.le_of_ble_eq_true rfl)⟩ ?_
  refine pt_iload G 0 dX3_reckon_110 rfl ?_
  refine pt_if_eq G 125 dX3_reckon_112 (by decide) (fun c47 => ?_) (fun c47 => ?_)
  · replace hd := ifp c47 hd
    refine pt_iconst G (0 : Int32) dX3_reckon_125 ci_0 ?_
    obtain ⟨M41, h42, hd⟩ := bnd hd
    refine pt_iast G h42 dX3_reckon_126 ?_
    refine pt_iinc G 4 (x4 + (-1 : Int32)) [(4, .int (x4 + (-1 : Int32))), (5, .int t0), (0, .ref a0), (2, .int x2), (3, .int x3)] dX3_reckon_127 rfl (inc_m1 _) (by decide) rfl ?_
    refine pt_goto G 67 dX3_reckon_130 (by decide) ?_
    exact pt_sub [2, 3, 4, 0] rfl (hc (M41, (x4 + (-1 : Int32))) (Option.some.inj hd).symm)
  · replace hd := ifn c47 hd
    refine pt_aload_n G 1 dX3_reckon_115 rfl rfl ?_
    refine pt_iload G 4 dX3_reckon_116 rfl ?_
    refine pt_iload_n G 3 dX3_reckon_118 rfl rfl ?_
    obtain ⟨v44, h43, hd⟩ := bnd hd
    refine X3_ordersBehind_v G gX3_reckon_X3_ordersBehind ⟨(Nat.le_of_ble_eq_true rfl), (Nat.le_of_ble_eq_true rfl)⟩ h43 dX3_reckon_119 (Nat.le_of_ble_eq_true rfl) ⟨(Nat.le_of_ble_eq_true rfl), (Nat.le_of_ble_eq_true rfl)⟩ ?_
    refine pt_goto G 126 dX3_reckon_122 (by decide) ?_
    obtain ⟨M45, h46, hd⟩ := bnd hd
    refine pt_iast G h46 dX3_reckon_126 ?_
    refine pt_iinc G 4 (x4 + (-1 : Int32)) [(4, .int (x4 + (-1 : Int32))), (5, .int t0), (0, .ref a0), (2, .int x2), (3, .int x3)] dX3_reckon_127 rfl (inc_m1 _) (by decide) rfl ?_
    refine pt_goto G 67 dX3_reckon_130 (by decide) ?_
    exact pt_sub [2, 3, 4, 0] rfl (hc (M45, (x4 + (-1 : Int32))) (Option.some.inj hd).symm)
def X3_reckon_b67 (a0 : Nat) (x2 : Int32) (x3 : Int32) (M : Wo) (x4 : Int32) : Option ((Wo × Int32) ⊕ Wo) :=
  if x4 < 0 then (some (.inr M)) else ((gR M a0 3 0).bind fun w29 => (lA M 0 w29 x4).bind fun v31 => (gR M a0 3 1).bind fun w33 => (lA M 0 w33 x3).bind fun v35 => if x2 < (iAbs (v31 - v35)) then (X3_reckon_L98 M a0 x2 x3 x4 (0 : Int32)) else (X3_reckon_L98 M a0 x2 x3 x4 (1 : Int32)))
theorem X3_reckon_b67_w {X : Cx} (G : Gd X yX3_reckon cX3_reckon wsX3_reckon 6 none rX3_reckon) {a0 : Nat} {x2 : Int32} {x3 : Int32} {M : Wo} {x4 : Int32} {o : ((Wo × Int32) ⊕ Wo)} (hd : X3_reckon_b67 a0 x2 x3 M x4 = some o) (hc : ∀ s9, o = .inl s9 → X3_reckon_P67 X a0 x2 x3 s9) (he : ∀ e9, o = .inr e9 → X3_reckon_Z67 X a0 x2 x3 e9) : Pt X 0 0 67 M [(0, .ref a0), (2, .int x2), (3, .int x3), (4, .int x4)] [] := by
  unfold X3_reckon_b67 at hd
  refine pt_iload G 3 dX3_reckon_67 rfl ?_
  refine pt_if_lt G 133 dX3_reckon_69 (by decide) (fun c49 => ?_) (fun c49 => ?_)
  · replace hd := ifp c49 hd
    exact pt_sub [0, 1, 2] rfl (he M (Option.some.inj hd).symm)
  · replace hd := ifn c49 hd
    refine pt_aload_n G 0 dX3_reckon_72 rfl rfl ?_
    obtain ⟨w29, h30, hd⟩ := bnd hd
    refine pt_get G (ci := 3) (j := 0) rfl (by decide) u_X3_reckon_X3 m_X3_reckon_6 (gR_o h30) dX3_reckon_73 ?_
    refine pt_iload G 3 dX3_reckon_76 rfl ?_
    obtain ⟨v31, h32, hd⟩ := bnd hd
    refine pt_iald G h32 dX3_reckon_78 ?_
    refine pt_aload_n G 0 dX3_reckon_79 rfl rfl ?_
    obtain ⟨w33, h34, hd⟩ := bnd hd
    refine pt_get G (ci := 3) (j := 1) rfl (by decide) u_X3_reckon_X3 m_X3_reckon_7 (gR_o h34) dX3_reckon_80 ?_
    refine pt_iload_n G 2 dX3_reckon_83 rfl rfl ?_
    obtain ⟨v35, h36, hd⟩ := bnd hd
    refine pt_iald G h36 dX3_reckon_84 ?_
    refine pt_isub G dX3_reckon_85 ?_
    refine pt_mabs G m_X3_reckon_8 m_X3_reckon_9 m_X3_reckon_10 m_X3_reckon_11 (Nat.le_of_ble_eq_true rfl) (Nat.le_of_ble_eq_true rfl) ⟨(Nat.le_of_ble_eq_true rfl), (Nat.le_of_ble_eq_true rfl)⟩ dX3_reckon_86 ?_
    refine pt_iload_n G 1 dX3_reckon_89 rfl rfl ?_
    refine pt_icmp_gt G 97 dX3_reckon_90 (by decide) (fun c48 => ?_) (fun c48 => ?_)
    · replace hd := ifp c48 hd
      refine pt_iconst G (0 : Int32) dX3_reckon_97 ci_0 ?_
      exact pt_sub [0, 1, 2, 3] rfl (X3_reckon_L98_w G hd hc he)
    · replace hd := ifn c48 hd
      refine pt_iconst G (1 : Int32) dX3_reckon_93 ci_1 ?_
      refine pt_goto G 98 dX3_reckon_94 (by decide) ?_
      exact pt_sub [0, 1, 2, 3] rfl (X3_reckon_L98_w G hd hc he)
theorem X3_reckon_w67_w {X : Cx} (G : Gd X yX3_reckon cX3_reckon wsX3_reckon 6 none rX3_reckon) {a0 : Nat} {x2 : Int32} {x3 : Int32} (n9 : Nat) (s9 : (Wo × Int32)) (e9 : Wo) (hw : wloop (un2 (X3_reckon_b67 a0 x2 x3)) n9 s9 = some e9) (hz : X3_reckon_Z67 X a0 x2 x3 e9) : X3_reckon_P67 X a0 x2 x3 s9 := by
  refine wl_ind (P := X3_reckon_P67 X a0 x2 x3) (Z := X3_reckon_Z67 X a0 x2 x3) ?_ n9 s9 e9 hw hz
  intro s9 o9 hd hc he
  obtain ⟨M, x4⟩ := s9
  exact X3_reckon_b67_w G hd hc he
def X3_reckon_b53 (a0 : Nat) (x2 : Int32) (M : Wo) (x3 : Int32) : Option ((Wo × Int32) ⊕ Wo) :=
  if x3 < 0 then (some (.inr M)) else ((gI M a0 3 3).bind fun v27 => (wloop (un2 (X3_reckon_b67 a0 x2 x3)) FU (M, (((1 : Int32) <<< (v27 &&& 31)) - (1 : Int32)))).bind fun M50 => some (.inl (M50, (x3 + (-1 : Int32)))))
theorem X3_reckon_b53_w {X : Cx} (G : Gd X yX3_reckon cX3_reckon wsX3_reckon 6 none rX3_reckon) {a0 : Nat} {x2 : Int32} {M : Wo} {x3 : Int32} {o : ((Wo × Int32) ⊕ Wo)} (hd : X3_reckon_b53 a0 x2 M x3 = some o) (hc : ∀ s9, o = .inl s9 → X3_reckon_P53 X a0 x2 s9) (he : ∀ e9, o = .inr e9 → X3_reckon_Z53 X a0 x2 e9) : Pt X 0 0 53 M [(0, .ref a0), (2, .int x2), (3, .int x3)] [] := by
  unfold X3_reckon_b53 at hd
  refine pt_iload_n G 2 dX3_reckon_53 rfl rfl ?_
  refine pt_if_lt G 139 dX3_reckon_54 (by decide) (fun c52 => ?_) (fun c52 => ?_)
  · replace hd := ifp c52 hd
    exact pt_sub [] rfl (he M (Option.some.inj hd).symm)
  · replace hd := ifn c52 hd
    refine pt_iconst G (1 : Int32) dX3_reckon_57 ci_1 ?_
    refine pt_aload_n G 0 dX3_reckon_58 rfl rfl ?_
    obtain ⟨v27, h28, hd⟩ := bnd hd
    refine pt_get G (ci := 3) (j := 3) rfl (by decide) u_X3_reckon_X3 m_X3_reckon_3 (gI_o h28) dX3_reckon_59 ?_
    refine pt_ishl G dX3_reckon_62 ?_
    refine pt_iconst G (1 : Int32) dX3_reckon_63 ci_1 ?_
    refine pt_isub G dX3_reckon_64 ?_
    refine pt_istore G [(4, .int (((1 : Int32) <<< (v27 &&& 31)) - (1 : Int32))), (0, .ref a0), (2, .int x2), (3, .int x3)] dX3_reckon_65 (by decide) rfl ?_
    obtain ⟨M50, hw51, hd⟩ := bnd hd
    refine pt_sub [1, 2, 3, 0] rfl (X3_reckon_w67_w G _ _ _ hw51 ?_)
    show Pt X 0 0 _ _ _ []
    refine pt_iinc G 2 (x3 + (-1 : Int32)) [(3, .int (x3 + (-1 : Int32))), (0, .ref a0), (2, .int x2)] dX3_reckon_133 rfl (inc_m1 _) (by decide) rfl ?_
    refine pt_goto G 53 dX3_reckon_136 (by decide) ?_
    exact pt_sub [1, 2, 0] rfl (hc (M50, (x3 + (-1 : Int32))) (Option.some.inj hd).symm)
theorem X3_reckon_w53_w {X : Cx} (G : Gd X yX3_reckon cX3_reckon wsX3_reckon 6 none rX3_reckon) {a0 : Nat} {x2 : Int32} (n9 : Nat) (s9 : (Wo × Int32)) (e9 : Wo) (hw : wloop (un2 (X3_reckon_b53 a0 x2)) n9 s9 = some e9) (hz : X3_reckon_Z53 X a0 x2 e9) : X3_reckon_P53 X a0 x2 s9 := by
  refine wl_ind (P := X3_reckon_P53 X a0 x2) (Z := X3_reckon_Z53 X a0 x2) ?_ n9 s9 e9 hw hz
  intro s9 o9 hd hc he
  obtain ⟨M, x3⟩ := s9
  exact X3_reckon_b53_w G hd hc he
def X3_reckon (M : Wo) (a0 : Nat) (a1 : Nat) (x2 : Int32) : Option Wo :=
  (ckO M a0 3).bind fun _ => (gR M a1 0 1).bind fun w1 => (gI M w1 5 1).bind fun v3 => (pV M a0 3 3 (.int v3)).bind fun M5 => (gR M5 a1 0 2).bind fun w7 => (gI M5 w7 5 1).bind fun v9 => (pV M5 a0 3 4 (.int v9)).bind fun M11 => (gR M11 a1 0 1).bind fun w13 => (gR M11 a0 3 0).bind fun w15 => (X3_fillSums M11 w13 w15).bind fun M18 => (gR M18 a1 0 2).bind fun w19 => (gR M18 a0 3 1).bind fun w21 => (X3_fillSums M18 w19 w21).bind fun M24 => (gI M24 a0 3 4).bind fun v25 => (wloop (un2 (X3_reckon_b53 a0 x2)) FU (M24, (((1 : Int32) <<< (v25 &&& 31)) - (1 : Int32)))).bind fun M53 => some M53
theorem X3_reckon_w {X : Cx} (G : Gd X yX3_reckon cX3_reckon wsX3_reckon 6 none rX3_reckon) {M : Wo} {a0 : Nat} {a1 : Nat} {x2 : Int32} {o : Wo} (hd : X3_reckon M a0 a1 x2 = some o) (hQ : Qv X o 0 0) : Pt X 0 0 0 M [(0, .ref a0), (1, .ref a1), (2, .int x2)] [] := by
  unfold X3_reckon at hd
  obtain ⟨_, _, hd⟩ := bnd hd
  refine pt_aload_n G 0 dX3_reckon_0 rfl rfl ?_
  refine pt_aload_n G 1 dX3_reckon_1 rfl rfl ?_
  obtain ⟨w1, h2, hd⟩ := bnd hd
  refine pt_get G (ci := 0) (j := 1) rfl (by decide) u_X3_reckon_X0 m_X3_reckon_1 (gR_o h2) dX3_reckon_2 ?_
  obtain ⟨v3, h4, hd⟩ := bnd hd
  refine pt_get G (ci := 5) (j := 1) rfl (by decide) u_X3_reckon_X5 m_X3_reckon_2 (gI_o h4) dX3_reckon_5 ?_
  obtain ⟨M5, h6, hd⟩ := bnd hd
  refine pt_put G (ci := 3) (j := 3) rfl (by decide) u_X3_reckon_X3 m_X3_reckon_3 tyX3 tyX3_ok nmX3 rfl rfl rfl h6 dX3_reckon_8 ?_
  refine pt_aload_n G 0 dX3_reckon_11 rfl rfl ?_
  refine pt_aload_n G 1 dX3_reckon_12 rfl rfl ?_
  obtain ⟨w7, h8, hd⟩ := bnd hd
  refine pt_get G (ci := 0) (j := 2) rfl (by decide) u_X3_reckon_X0 m_X3_reckon_4 (gR_o h8) dX3_reckon_13 ?_
  obtain ⟨v9, h10, hd⟩ := bnd hd
  refine pt_get G (ci := 5) (j := 1) rfl (by decide) u_X3_reckon_X5 m_X3_reckon_2 (gI_o h10) dX3_reckon_16 ?_
  obtain ⟨M11, h12, hd⟩ := bnd hd
  refine pt_put G (ci := 3) (j := 4) rfl (by decide) u_X3_reckon_X3 m_X3_reckon_5 tyX3 tyX3_ok nmX3 rfl rfl rfl h12 dX3_reckon_19 ?_
  refine pt_aload_n G 1 dX3_reckon_22 rfl rfl ?_
  obtain ⟨w13, h14, hd⟩ := bnd hd
  refine pt_get G (ci := 0) (j := 1) rfl (by decide) u_X3_reckon_X0 m_X3_reckon_1 (gR_o h14) dX3_reckon_23 ?_
  refine pt_aload_n G 0 dX3_reckon_26 rfl rfl ?_
  obtain ⟨w15, h16, hd⟩ := bnd hd
  refine pt_get G (ci := 3) (j := 0) rfl (by decide) u_X3_reckon_X3 m_X3_reckon_6 (gR_o h16) dX3_reckon_27 ?_
  obtain ⟨M18, h17, hd⟩ := bnd hd
  refine X3_fillSums_v G gX3_reckon_X3_fillSums ⟨(Nat.le_of_ble_eq_true rfl), (Nat.le_of_ble_eq_true rfl)⟩ h17 dX3_reckon_30 (Nat.le_of_ble_eq_true rfl) ⟨(Nat.le_of_ble_eq_true rfl), (Nat.le_of_ble_eq_true rfl)⟩ ?_
  refine pt_aload_n G 1 dX3_reckon_33 rfl rfl ?_
  obtain ⟨w19, h20, hd⟩ := bnd hd
  refine pt_get G (ci := 0) (j := 2) rfl (by decide) u_X3_reckon_X0 m_X3_reckon_4 (gR_o h20) dX3_reckon_34 ?_
  refine pt_aload_n G 0 dX3_reckon_37 rfl rfl ?_
  obtain ⟨w21, h22, hd⟩ := bnd hd
  refine pt_get G (ci := 3) (j := 1) rfl (by decide) u_X3_reckon_X3 m_X3_reckon_7 (gR_o h22) dX3_reckon_38 ?_
  obtain ⟨M24, h23, hd⟩ := bnd hd
  refine X3_fillSums_v G gX3_reckon_X3_fillSums ⟨(Nat.le_of_ble_eq_true rfl), (Nat.le_of_ble_eq_true rfl)⟩ h23 dX3_reckon_41 (Nat.le_of_ble_eq_true rfl) ⟨(Nat.le_of_ble_eq_true rfl), (Nat.le_of_ble_eq_true rfl)⟩ ?_
  refine pt_iconst G (1 : Int32) dX3_reckon_44 ci_1 ?_
  refine pt_aload_n G 0 dX3_reckon_45 rfl rfl ?_
  obtain ⟨v25, h26, hd⟩ := bnd hd
  refine pt_get G (ci := 3) (j := 4) rfl (by decide) u_X3_reckon_X3 m_X3_reckon_5 (gI_o h26) dX3_reckon_46 ?_
  refine pt_ishl G dX3_reckon_49 ?_
  refine pt_iconst G (1 : Int32) dX3_reckon_50 ci_1 ?_
  refine pt_isub G dX3_reckon_51 ?_
  refine pt_istore_n G [(3, .int (((1 : Int32) <<< (v25 &&& 31)) - (1 : Int32))), (0, .ref a0), (1, .ref a1), (2, .int x2)] dX3_reckon_52 rfl (by decide) rfl ?_
  obtain ⟨M53, hw54, hd⟩ := bnd hd
  refine pt_sub [1, 3, 0] rfl (X3_reckon_w53_w G _ _ _ hw54 ?_)
  show Pt X 0 0 _ _ _ []
  cases hd
  exact pt_vret G hQ dX3_reckon_139
theorem X3_reckon_c {l : Launch} {D : va_G} {dA : Nat → ClassId} {b : Nat} {M : Wo} {a0 : Nat} {a1 : Nat} {x2 : Int32} {M2 : Wo} (h : X3_reckon M a0 a1 x2 = some M2) : Met l yX3_reckon wsX3_reckon rX3_reckon (va_Pc [.ref a0, .ref a1, .int x2] (Wd D dA b M)) (Ev D dA b M2) 0 0 (Ab b) := met_v (by decide) rfl (Nat.le_of_ble_eq_true rfl) (fun X G hN hQ => X3_reckon_w G h hQ)
theorem X3_reckon_v {X : Cx} {y : MethodName} {cc : ByteArray} {Ts : List Cond} {nL : Nat} {ret : Option FieldType} {R : Room} (G : Gd X y cc Ts nL ret R) {index : Nat} (hg : GoodIn Ts (wsV y.cls index RX3 yX3_reckon wsX3_reckon)) (hR : rX3_reckon.frames + 1 ≤ R.frames ∧ 8 + (6 + 11) + rX3_reckon.locals ≤ R.locals) {k n pc : Nat} {M : Wo} {lv : List (Nat × Value)} {st : List Value} {a0 : Nat} {a1 : Nat} {x2 : Int32} {M2 : Wo} (hv : X3_reckon M a0 a1 x2 = some M2) (hd : decode cc pc = .ok (.invokevirtual index, 3)) (h8 : (st.map fun v => v.category).sum ≤ 8) (hf : k ≤ R.cells ∧ n ≤ R.slots) (kk : Pt X k n (pc + 3) M2 lv st) : Pt X k n pc M lv (.int x2 :: .ref a1 :: .ref a0 :: st) := pt_cVv (ci := 3) (nA := 2) (As := [.ref a1, .int x2]) G (X3_reckon_c hv) hg rfl rfl rfl (by decide +kernel) hR rfl (rcv hv) rfl rfl h8 hd hf kk
abbrev rX3_allOrders : Room := { frames := 0, cells := 0, slots := 0, locals := 0 }
theorem m_X3_allOrders_1 : Cond.fieldLink RX3 18 "StageLines$Loader" "orders" "[I" ∈ wsX3_allOrders := List.mem_of_getElem? (i := 1) rfl
theorem u_X3_allOrders_X3 : ∀ w ∈ u_ws RX3 TX3 5, w ∈ wsX3_allOrders := mem_r [2, 3, 4, 5, 6] (by decide +kernel)
def X3_allOrders (M : Wo) (a0 : Nat) : Option Int32 :=
  (ckO M a0 3).bind fun _ => (gR M a0 3 2).bind fun w1 => (lA M 0 w1 (0 : Int32)).bind fun v3 => some v3
theorem X3_allOrders_w {X : Cx} (G : Gd X yX3_allOrders cX3_allOrders wsX3_allOrders 1 (some .int) rX3_allOrders) {M : Wo} {a0 : Nat} {o : Int32} (hd : X3_allOrders M a0 = some o) (hQ : Qi X o M 0 0) : Pt X 0 0 0 M [(0, .ref a0)] [] := by
  unfold X3_allOrders at hd
  obtain ⟨_, _, hd⟩ := bnd hd
  refine pt_aload_n G 0 dX3_allOrders_0 rfl rfl ?_
  obtain ⟨w1, h2, hd⟩ := bnd hd
  refine pt_get G (ci := 3) (j := 2) rfl (by decide) u_X3_allOrders_X3 m_X3_allOrders_1 (gR_o h2) dX3_allOrders_1 ?_
  refine pt_iconst G (0 : Int32) dX3_allOrders_4 ci_0 ?_
  obtain ⟨v3, h4, hd⟩ := bnd hd
  refine pt_iald G h4 dX3_allOrders_5 ?_
  cases hd
  exact pt_iret G hQ dX3_allOrders_6
theorem X3_allOrders_c {l : Launch} {D : va_G} {dA : Nat → ClassId} {b : Nat} {M : Wo} {a0 : Nat} {r : Int32} (h : X3_allOrders M a0 = some r) : Met l yX3_allOrders wsX3_allOrders rX3_allOrders (va_Pc [.ref a0] (Wd D dA b M)) (Ei D dA b r M) 0 0 (Ab b) := met_i (by decide) rfl (Nat.le_of_ble_eq_true rfl) (fun X G hN hQ => X3_allOrders_w G h hQ)
theorem X3_allOrders_v {X : Cx} {y : MethodName} {cc : ByteArray} {Ts : List Cond} {nL : Nat} {ret : Option FieldType} {R : Room} (G : Gd X y cc Ts nL ret R) {index : Nat} (hg : GoodIn Ts (wsV y.cls index RX3 yX3_allOrders wsX3_allOrders)) (hR : rX3_allOrders.frames + 1 ≤ R.frames ∧ 8 + (1 + 11) + rX3_allOrders.locals ≤ R.locals) {k n pc : Nat} {M : Wo} {lv : List (Nat × Value)} {st : List Value} {a0 : Nat} {r : Int32} (hv : X3_allOrders M a0 = some r) (hd : decode cc pc = .ok (.invokevirtual index, 3)) (h8 : (st.map fun v => v.category).sum ≤ 8) (hf : k ≤ R.cells ∧ n ≤ R.slots) (kk : Pt X k n (pc + 3) M lv (.int r :: st)) : Pt X k n pc M lv (.ref a0 :: st) := pt_cVi (ci := 3) (nA := 0) (As := []) G (X3_allOrders_c hv) hg rfl rfl rfl (by decide +kernel) hR rfl (rcv hv) rfl rfl h8 hd hf kk
abbrev rX3_things : Room := { frames := 0, cells := 0, slots := 0, locals := 0 }
theorem m_X3_things_2 : Cond.fieldLink RX3 25 "StageLines$Loader" "brickCount" "I" ∈ wsX3_things := List.mem_of_getElem? (i := 2) rfl
theorem u_X3_things_X3 : ∀ w ∈ u_ws RX3 TX3 5, w ∈ wsX3_things := mem_r [3, 4, 5, 6, 7] (by decide +kernel)
theorem m_X3_things_1 : Cond.fieldLink RX3 21 "StageLines$Loader" "pieceCount" "I" ∈ wsX3_things := List.mem_of_getElem? (i := 1) rfl
def X3_things (M : Wo) (a0 : Nat) : Option Int32 :=
  (ckO M a0 3).bind fun _ => (gI M a0 3 3).bind fun v1 => (gI M a0 3 4).bind fun v3 => some (v1 + v3)
theorem X3_things_w {X : Cx} (G : Gd X yX3_things cX3_things wsX3_things 1 (some .int) rX3_things) {M : Wo} {a0 : Nat} {o : Int32} (hd : X3_things M a0 = some o) (hQ : Qi X o M 0 0) : Pt X 0 0 0 M [(0, .ref a0)] [] := by
  unfold X3_things at hd
  obtain ⟨_, _, hd⟩ := bnd hd
  refine pt_aload_n G 0 dX3_things_0 rfl rfl ?_
  obtain ⟨v1, h2, hd⟩ := bnd hd
  refine pt_get G (ci := 3) (j := 3) rfl (by decide) u_X3_things_X3 m_X3_things_1 (gI_o h2) dX3_things_1 ?_
  refine pt_aload_n G 0 dX3_things_4 rfl rfl ?_
  obtain ⟨v3, h4, hd⟩ := bnd hd
  refine pt_get G (ci := 3) (j := 4) rfl (by decide) u_X3_things_X3 m_X3_things_2 (gI_o h4) dX3_things_5 ?_
  refine pt_iadd G dX3_things_8 ?_
  cases hd
  exact pt_iret G hQ dX3_things_9
theorem X3_things_c {l : Launch} {D : va_G} {dA : Nat → ClassId} {b : Nat} {M : Wo} {a0 : Nat} {r : Int32} (h : X3_things M a0 = some r) : Met l yX3_things wsX3_things rX3_things (va_Pc [.ref a0] (Wd D dA b M)) (Ei D dA b r M) 0 0 (Ab b) := met_i (by decide) rfl (Nat.le_of_ble_eq_true rfl) (fun X G hN hQ => X3_things_w G h hQ)
theorem X3_things_v {X : Cx} {y : MethodName} {cc : ByteArray} {Ts : List Cond} {nL : Nat} {ret : Option FieldType} {R : Room} (G : Gd X y cc Ts nL ret R) {index : Nat} (hg : GoodIn Ts (wsV y.cls index RX3 yX3_things wsX3_things)) (hR : rX3_things.frames + 1 ≤ R.frames ∧ 8 + (1 + 11) + rX3_things.locals ≤ R.locals) {k n pc : Nat} {M : Wo} {lv : List (Nat × Value)} {st : List Value} {a0 : Nat} {r : Int32} (hv : X3_things M a0 = some r) (hd : decode cc pc = .ok (.invokevirtual index, 3)) (h8 : (st.map fun v => v.category).sum ≤ 8) (hf : k ≤ R.cells ∧ n ≤ R.slots) (kk : Pt X k n (pc + 3) M lv (.int r :: st)) : Pt X k n pc M lv (.ref a0 :: st) := pt_cVi (ci := 3) (nA := 0) (As := []) G (X3_things_c hv) hg rfl rfl rfl (by decide +kernel) hR rfl (rcv hv) rfl rfl h8 hd hf kk
abbrev rX3_leastBehind : Room := { frames := 1, cells := 0, slots := 0, locals := 21 }
theorem m_X3_leastBehind_2 : Cond.fieldLink RX3 18 "StageLines$Loader" "orders" "[I" ∈ wsX3_leastBehind := List.mem_of_getElem? (i := 2) rfl
theorem u_X3_leastBehind_X3 : ∀ w ∈ u_ws RX3 TX3 5, w ∈ wsX3_leastBehind := mem_r [8, 9, 10, 11, 12] (by decide +kernel)
theorem m_X3_leastBehind_1 : Cond.fieldLink RX3 21 "StageLines$Loader" "pieceCount" "I" ∈ wsX3_leastBehind := List.mem_of_getElem? (i := 1) rfl
theorem m_X3_leastBehind_3 : Cond.fieldLink RX3 25 "StageLines$Loader" "brickCount" "I" ∈ wsX3_leastBehind := List.mem_of_getElem? (i := 3) rfl
abbrev X3_leastBehind_P2 (X : Cx) (M : Wo) (a0 : Nat) (x1 : Int32) (x2 : Int32) : Int32 → Prop := un1 (fun x3 => Pt X 0 0 2 M [(0, .ref a0), (1, .int x1), (2, .int x2), (3, .int x3)] [])
abbrev X3_leastBehind_Z2 (X : Cx) (M : Wo) (a0 : Nat) (x1 : Int32) (x2 : Int32) : (Int32 ⊕ Unit) → Prop := (sOf (un1 (fun x3 => Pt X 0 0 35 M [(3, .int x3)] [])) (fun (_ : Unit) => Pt X 0 0 43 M [(0, .ref a0), (1, .int x1), (2, .int x2)] []))
def X3_leastBehind_b2 (M : Wo) (a0 : Nat) (x1 : Int32) (x2 : Int32) (x3 : Int32) : Option (Int32 ⊕ (Int32 ⊕ Unit)) :=
  (gI M a0 3 3).bind fun v1 => if v1 ≤ x3 then (some (.inr (.inr ()))) else (if ((x1 >>> (x3 &&& 31)) &&& (1 : Int32)) = 0 then ((gR M a0 3 2).bind fun w3 => (X3_indexOf M (x1 ||| ((1 : Int32) <<< (x3 &&& 31))) x2).bind fun v6 => (lA M 0 w3 v6).bind fun v7 => if v7 ≤ 0 then (some (.inl (x3 + 1))) else (some (.inr (.inl x3)))) else (some (.inl (x3 + 1))))
theorem X3_leastBehind_b2_w {X : Cx} (G : Gd X yX3_leastBehind cX3_leastBehind wsX3_leastBehind 4 (some .int) rX3_leastBehind) {M : Wo} {a0 : Nat} {x1 : Int32} {x2 : Int32} {x3 : Int32} {o : (Int32 ⊕ (Int32 ⊕ Unit))} (hd : X3_leastBehind_b2 M a0 x1 x2 x3 = some o) (hc : ∀ s9, o = .inl s9 → X3_leastBehind_P2 X M a0 x1 x2 s9) (he : ∀ e9, o = .inr e9 → X3_leastBehind_Z2 X M a0 x1 x2 e9) : Pt X 0 0 2 M [(0, .ref a0), (1, .int x1), (2, .int x2), (3, .int x3)] [] := by
  unfold X3_leastBehind_b2 at hd
  refine pt_iload_n G 3 dX3_leastBehind_2 rfl rfl ?_
  refine pt_aload_n G 0 dX3_leastBehind_3 rfl rfl ?_
  obtain ⟨v1, h2, hd⟩ := bnd hd
  refine pt_get G (ci := 3) (j := 3) rfl (by decide) u_X3_leastBehind_X3 m_X3_leastBehind_1 (gI_o h2) dX3_leastBehind_4 ?_
  refine pt_icmp_ge G 43 dX3_leastBehind_7 (by decide) (fun c11 => ?_) (fun c11 => ?_)
  · replace hd := ifp c11 hd
    exact pt_sub [0, 1, 2] rfl (he (.inr ()) (Option.some.inj hd).symm)
  · replace hd := ifn c11 hd
    refine pt_iload_n G 1 dX3_leastBehind_10 rfl rfl ?_
    refine pt_iload_n G 3 dX3_leastBehind_11 rfl rfl ?_
    refine pt_ishr G dX3_leastBehind_12 ?_
    refine pt_iconst G (1 : Int32) dX3_leastBehind_13 ci_1 ?_
    refine pt_iand G dX3_leastBehind_14 ?_
    refine pt_if_ne G 37 dX3_leastBehind_15 (by decide) (fun c10 => ?_) (fun c10 => ?_)
    · replace hd := ifn c10 hd
      refine pt_iinc G 3 (x3 + 1) [(3, .int (x3 + 1)), (0, .ref a0), (1, .int x1), (2, .int x2)] dX3_leastBehind_37 rfl (inc_1 _) (by decide) rfl ?_
      refine pt_goto G 2 dX3_leastBehind_40 (by decide) ?_
      exact pt_sub [1, 2, 3, 0] rfl (hc (x3 + 1) (Option.some.inj hd).symm)
    · replace hd := ifp c10 hd
      refine pt_aload_n G 0 dX3_leastBehind_18 rfl rfl ?_
      obtain ⟨w3, h4, hd⟩ := bnd hd
      refine pt_get G (ci := 3) (j := 2) rfl (by decide) u_X3_leastBehind_X3 m_X3_leastBehind_2 (gR_o h4) dX3_leastBehind_19 ?_
      refine pt_iload_n G 1 dX3_leastBehind_22 rfl rfl ?_
      refine pt_iconst G (1 : Int32) dX3_leastBehind_23 ci_1 ?_
      refine pt_iload_n G 3 dX3_leastBehind_24 rfl rfl ?_
      refine pt_ishl G dX3_leastBehind_25 ?_
      refine pt_ior G dX3_leastBehind_26 ?_
      refine pt_iload_n G 2 dX3_leastBehind_27 rfl rfl ?_
      obtain ⟨v6, h5, hd⟩ := bnd hd
      refine X3_indexOf_v G gX3_leastBehind_X3_indexOf ⟨(Nat.le_of_ble_eq_true rfl), (Nat.le_of_ble_eq_true rfl)⟩ h5 dX3_leastBehind_28 (Nat.le_of_ble_eq_true rfl) ⟨(Nat.le_of_ble_eq_true rfl), (Nat.le_of_ble_eq_true rfl)⟩ ?_
      obtain ⟨v7, h8, hd⟩ := bnd hd
      refine pt_iald G h8 dX3_leastBehind_31 ?_
      refine pt_if_le G 37 dX3_leastBehind_32 (by decide) (fun c9 => ?_) (fun c9 => ?_)
      · replace hd := ifp c9 hd
        refine pt_iinc G 3 (x3 + 1) [(3, .int (x3 + 1)), (0, .ref a0), (1, .int x1), (2, .int x2)] dX3_leastBehind_37 rfl (inc_1 _) (by decide) rfl ?_
        refine pt_goto G 2 dX3_leastBehind_40 (by decide) ?_
        exact pt_sub [1, 2, 3, 0] rfl (hc (x3 + 1) (Option.some.inj hd).symm)
      · replace hd := ifn c9 hd
        exact pt_sub [3] rfl (he (.inl x3) (Option.some.inj hd).symm)
theorem X3_leastBehind_w2_w {X : Cx} (G : Gd X yX3_leastBehind cX3_leastBehind wsX3_leastBehind 4 (some .int) rX3_leastBehind) {M : Wo} {a0 : Nat} {x1 : Int32} {x2 : Int32} (n9 : Nat) (s9 : Int32) (e9 : (Int32 ⊕ Unit)) (hw : wloop (un1 (X3_leastBehind_b2 M a0 x1 x2)) n9 s9 = some e9) (hz : X3_leastBehind_Z2 X M a0 x1 x2 e9) : X3_leastBehind_P2 X M a0 x1 x2 s9 := by
  refine wl_ind (P := X3_leastBehind_P2 X M a0 x1 x2) (Z := X3_leastBehind_Z2 X M a0 x1 x2) ?_ n9 s9 e9 hw hz
  intro s9 o9 hd hc he
  exact X3_leastBehind_b2_w G hd hc he
abbrev X3_leastBehind_P45 (X : Cx) (M : Wo) (a0 : Nat) (x1 : Int32) (x2 : Int32) : Int32 → Prop := un1 (fun x3 => Pt X 0 0 45 M [(0, .ref a0), (1, .int x1), (2, .int x2), (3, .int x3)] [])
abbrev X3_leastBehind_Z45 (X : Cx) (M : Wo) (a0 : Nat) (x1 : Int32) (x2 : Int32) : (Int32 ⊕ Unit) → Prop := (sOf (un1 (fun x3 => Pt X 0 0 78 M [(3, .int x3)] [])) (fun (_ : Unit) => Pt X 0 0 89 M [] []))
def X3_leastBehind_b45 (M : Wo) (a0 : Nat) (x1 : Int32) (x2 : Int32) (x3 : Int32) : Option (Int32 ⊕ (Int32 ⊕ Unit)) :=
  (gI M a0 3 4).bind fun v13 => if v13 ≤ x3 then (some (.inr (.inr ()))) else (if ((x2 >>> (x3 &&& 31)) &&& (1 : Int32)) = 0 then ((gR M a0 3 2).bind fun w15 => (X3_indexOf M x1 (x2 ||| ((1 : Int32) <<< (x3 &&& 31)))).bind fun v18 => (lA M 0 w15 v18).bind fun v19 => if v19 ≤ 0 then (some (.inl (x3 + 1))) else (some (.inr (.inl x3)))) else (some (.inl (x3 + 1))))
theorem X3_leastBehind_b45_w {X : Cx} (G : Gd X yX3_leastBehind cX3_leastBehind wsX3_leastBehind 4 (some .int) rX3_leastBehind) {M : Wo} {a0 : Nat} {x1 : Int32} {x2 : Int32} {x3 : Int32} {o : (Int32 ⊕ (Int32 ⊕ Unit))} (hd : X3_leastBehind_b45 M a0 x1 x2 x3 = some o) (hc : ∀ s9, o = .inl s9 → X3_leastBehind_P45 X M a0 x1 x2 s9) (he : ∀ e9, o = .inr e9 → X3_leastBehind_Z45 X M a0 x1 x2 e9) : Pt X 0 0 45 M [(0, .ref a0), (1, .int x1), (2, .int x2), (3, .int x3)] [] := by
  unfold X3_leastBehind_b45 at hd
  refine pt_iload_n G 3 dX3_leastBehind_45 rfl rfl ?_
  refine pt_aload_n G 0 dX3_leastBehind_46 rfl rfl ?_
  obtain ⟨v13, h14, hd⟩ := bnd hd
  refine pt_get G (ci := 3) (j := 4) rfl (by decide) u_X3_leastBehind_X3 m_X3_leastBehind_3 (gI_o h14) dX3_leastBehind_47 ?_
  refine pt_icmp_ge G 89 dX3_leastBehind_50 (by decide) (fun c23 => ?_) (fun c23 => ?_)
  · replace hd := ifp c23 hd
    exact pt_sub [] rfl (he (.inr ()) (Option.some.inj hd).symm)
  · replace hd := ifn c23 hd
    refine pt_iload_n G 2 dX3_leastBehind_53 rfl rfl ?_
    refine pt_iload_n G 3 dX3_leastBehind_54 rfl rfl ?_
    refine pt_ishr G dX3_leastBehind_55 ?_
    refine pt_iconst G (1 : Int32) dX3_leastBehind_56 ci_1 ?_
    refine pt_iand G dX3_leastBehind_57 ?_
    refine pt_if_ne G 83 dX3_leastBehind_58 (by decide) (fun c22 => ?_) (fun c22 => ?_)
    · replace hd := ifn c22 hd
      refine pt_iinc G 3 (x3 + 1) [(3, .int (x3 + 1)), (0, .ref a0), (1, .int x1), (2, .int x2)] dX3_leastBehind_83 rfl (inc_1 _) (by decide) rfl ?_
      refine pt_goto G 45 dX3_leastBehind_86 (by decide) ?_
      exact pt_sub [1, 2, 3, 0] rfl (hc (x3 + 1) (Option.some.inj hd).symm)
    · replace hd := ifp c22 hd
      refine pt_aload_n G 0 dX3_leastBehind_61 rfl rfl ?_
      obtain ⟨w15, h16, hd⟩ := bnd hd
      refine pt_get G (ci := 3) (j := 2) rfl (by decide) u_X3_leastBehind_X3 m_X3_leastBehind_2 (gR_o h16) dX3_leastBehind_62 ?_
      refine pt_iload_n G 1 dX3_leastBehind_65 rfl rfl ?_
      refine pt_iload_n G 2 dX3_leastBehind_66 rfl rfl ?_
      refine pt_iconst G (1 : Int32) dX3_leastBehind_67 ci_1 ?_
      refine pt_iload_n G 3 dX3_leastBehind_68 rfl rfl ?_
      refine pt_ishl G dX3_leastBehind_69 ?_
      refine pt_ior G dX3_leastBehind_70 ?_
      obtain ⟨v18, h17, hd⟩ := bnd hd
      refine X3_indexOf_v G gX3_leastBehind_X3_indexOf ⟨(Nat.le_of_ble_eq_true rfl), (Nat.le_of_ble_eq_true rfl)⟩ h17 dX3_leastBehind_71 (Nat.le_of_ble_eq_true rfl) ⟨(Nat.le_of_ble_eq_true rfl), (Nat.le_of_ble_eq_true rfl)⟩ ?_
      obtain ⟨v19, h20, hd⟩ := bnd hd
      refine pt_iald G h20 dX3_leastBehind_74 ?_
      refine pt_if_le G 83 dX3_leastBehind_75 (by decide) (fun c21 => ?_) (fun c21 => ?_)
      · replace hd := ifp c21 hd
        refine pt_iinc G 3 (x3 + 1) [(3, .int (x3 + 1)), (0, .ref a0), (1, .int x1), (2, .int x2)] dX3_leastBehind_83 rfl (inc_1 _) (by decide) rfl ?_
        refine pt_goto G 45 dX3_leastBehind_86 (by decide) ?_
        exact pt_sub [1, 2, 3, 0] rfl (hc (x3 + 1) (Option.some.inj hd).symm)
      · replace hd := ifn c21 hd
        exact pt_sub [3] rfl (he (.inl x3) (Option.some.inj hd).symm)
theorem X3_leastBehind_w45_w {X : Cx} (G : Gd X yX3_leastBehind cX3_leastBehind wsX3_leastBehind 4 (some .int) rX3_leastBehind) {M : Wo} {a0 : Nat} {x1 : Int32} {x2 : Int32} (n9 : Nat) (s9 : Int32) (e9 : (Int32 ⊕ Unit)) (hw : wloop (un1 (X3_leastBehind_b45 M a0 x1 x2)) n9 s9 = some e9) (hz : X3_leastBehind_Z45 X M a0 x1 x2 e9) : X3_leastBehind_P45 X M a0 x1 x2 s9 := by
  refine wl_ind (P := X3_leastBehind_P45 X M a0 x1 x2) (Z := X3_leastBehind_Z45 X M a0 x1 x2) ?_ n9 s9 e9 hw hz
  intro s9 o9 hd hc he
  exact X3_leastBehind_b45_w G hd hc he
def X3_leastBehind (M : Wo) (a0 : Nat) (x1 : Int32) (x2 : Int32) : Option Int32 :=
  (ckO M a0 3).bind fun _ => (wloop (un1 (X3_leastBehind_b2 M a0 x1 x2)) FU (0 : Int32)).bind (sOf (fun v12 => some v12) (fun _ => (wloop (un1 (X3_leastBehind_b45 M a0 x1 x2)) FU (0 : Int32)).bind (sOf (fun v24 => some ((10 : Int32) + v24)) (fun _ => some (-6 : Int32)))))
theorem X3_leastBehind_w {X : Cx} (G : Gd X yX3_leastBehind cX3_leastBehind wsX3_leastBehind 4 (some .int) rX3_leastBehind) {M : Wo} {a0 : Nat} {x1 : Int32} {x2 : Int32} {o : Int32} (hd : X3_leastBehind M a0 x1 x2 = some o) (hQ : Qi X o M 0 0) : Pt X 0 0 0 M [(0, .ref a0), (1, .int x1), (2, .int x2)] [] := by
  unfold X3_leastBehind at hd
  obtain ⟨_, _, hd⟩ := bnd hd
  refine pt_iconst G (0 : Int32) dX3_leastBehind_0 ci_0 ?_
  refine pt_istore_n G [(3, .int (0 : Int32)), (0, .ref a0), (1, .int x1), (2, .int x2)] dX3_leastBehind_1 rfl (by decide) rfl ?_
  obtain ⟨e28, hw27, hd⟩ := bnd hd
  rcases e28 with v12 | _
  · replace hd := sO_1 hd
    refine pt_sub [1, 2, 3, 0] rfl (X3_leastBehind_w2_w G _ _ _ hw27 ?_)
    show Pt X 0 0 _ _ _ []
    refine pt_iload_n G 0 dX3_leastBehind_35 rfl rfl ?_
    cases hd
    exact pt_iret G hQ dX3_leastBehind_36
  · replace hd := sO_2 hd
    refine pt_sub [1, 2, 3, 0] rfl (X3_leastBehind_w2_w G _ _ _ hw27 ?_)
    show Pt X 0 0 _ _ _ []
    refine pt_iconst G (0 : Int32) dX3_leastBehind_43 ci_0 ?_
    refine pt_istore_n G [(3, .int (0 : Int32)), (0, .ref a0), (1, .int x1), (2, .int x2)] dX3_leastBehind_44 rfl (by decide) rfl ?_
    obtain ⟨e26, hw25, hd⟩ := bnd hd
    rcases e26 with v24 | _
    · replace hd := sO_1 hd
      refine pt_sub [1, 2, 3, 0] rfl (X3_leastBehind_w45_w G _ _ _ hw25 ?_)
      show Pt X 0 0 _ _ _ []
      refine pt_bipush G (10 : Int32) dX3_leastBehind_78 bi_10 ?_
      refine pt_iload_n G 0 dX3_leastBehind_80 rfl rfl ?_
      refine pt_iadd G dX3_leastBehind_81 ?_
      cases hd
      exact pt_iret G hQ dX3_leastBehind_82
    · replace hd := sO_2 hd
      refine pt_sub [1, 2, 3, 0] rfl (X3_leastBehind_w45_w G _ _ _ hw25 ?_)
      show Pt X 0 0 _ _ _ []
      refine pt_bipush G (-6 : Int32) dX3_leastBehind_89 bi_m6 ?_
      cases hd
      exact pt_iret G hQ dX3_leastBehind_91
theorem X3_leastBehind_c {l : Launch} {D : va_G} {dA : Nat → ClassId} {b : Nat} {M : Wo} {a0 : Nat} {x1 : Int32} {x2 : Int32} {r : Int32} (h : X3_leastBehind M a0 x1 x2 = some r) : Met l yX3_leastBehind wsX3_leastBehind rX3_leastBehind (va_Pc [.ref a0, .int x1, .int x2] (Wd D dA b M)) (Ei D dA b r M) 0 0 (Ab b) := met_i (by decide) rfl (Nat.le_of_ble_eq_true rfl) (fun X G hN hQ => X3_leastBehind_w G h hQ)
theorem X3_leastBehind_v {X : Cx} {y : MethodName} {cc : ByteArray} {Ts : List Cond} {nL : Nat} {ret : Option FieldType} {R : Room} (G : Gd X y cc Ts nL ret R) {index : Nat} (hg : GoodIn Ts (wsV y.cls index RX3 yX3_leastBehind wsX3_leastBehind)) (hR : rX3_leastBehind.frames + 1 ≤ R.frames ∧ 8 + (4 + 11) + rX3_leastBehind.locals ≤ R.locals) {k n pc : Nat} {M : Wo} {lv : List (Nat × Value)} {st : List Value} {a0 : Nat} {x1 : Int32} {x2 : Int32} {r : Int32} (hv : X3_leastBehind M a0 x1 x2 = some r) (hd : decode cc pc = .ok (.invokevirtual index, 3)) (h8 : (st.map fun v => v.category).sum ≤ 8) (hf : k ≤ R.cells ∧ n ≤ R.slots) (kk : Pt X k n (pc + 3) M lv (.int r :: st)) : Pt X k n pc M lv (.int x2 :: .int x1 :: .ref a0 :: st) := pt_cVi (ci := 3) (nA := 2) (As := [.int x1, .int x2]) G (X3_leastBehind_c hv) hg rfl rfl rfl (by decide +kernel) hR rfl (rcv hv) rfl rfl h8 hd hf kk
abbrev rX3_placed : Room := { frames := 2, cells := 0, slots := 0, locals := 44 }
abbrev X3_placed_P22 (X : Cx) (M : Wo) (a0 : Nat) (x1 : Int32) : (Int32 × Int32 × Int32 × Int32) → Prop := un4 (fun x2 x3 x4 x5 => Pt X 0 0 22 M [(0, .ref a0), (1, .int x1), (2, .int x2), (3, .int x3), (4, .int x4), (5, .int x5)] [])
abbrev X3_placed_Z22 (X : Cx) (M : Wo) (a0 : Nat) (x1 : Int32) : Int32 → Prop := (un1 (fun x4 => Pt X 0 0 74 M [(4, .int x4)] []))
def X3_placed_b22 (M : Wo) (a0 : Nat) (x1 : Int32) (x2 : Int32) (x3 : Int32) (x4 : Int32) (x5 : Int32) : Option ((Int32 × Int32 × Int32 × Int32) ⊕ Int32) :=
  if x1 < x5 then (some (.inr x4)) else ((X3_leastBehind M a0 x2 x3).bind fun v4 => if v4 < (10 : Int32) then (if v4 < 0 then (some (.inl (x2, x3, v4, (x5 + 1)))) else (some (.inl ((x2 ||| ((1 : Int32) <<< (v4 &&& 31))), x3, v4, (x5 + 1))))) else (some (.inl (x2, (x3 ||| ((1 : Int32) <<< ((v4 - (10 : Int32)) &&& 31))), v4, (x5 + 1)))))
theorem X3_placed_b22_w {X : Cx} (G : Gd X yX3_placed cX3_placed wsX3_placed 6 (some .int) rX3_placed) {M : Wo} {a0 : Nat} {x1 : Int32} {x2 : Int32} {x3 : Int32} {x4 : Int32} {x5 : Int32} {o : ((Int32 × Int32 × Int32 × Int32) ⊕ Int32)} (hd : X3_placed_b22 M a0 x1 x2 x3 x4 x5 = some o) (hc : ∀ s9, o = .inl s9 → X3_placed_P22 X M a0 x1 s9) (he : ∀ e9, o = .inr e9 → X3_placed_Z22 X M a0 x1 e9) : Pt X 0 0 22 M [(0, .ref a0), (1, .int x1), (2, .int x2), (3, .int x3), (4, .int x4), (5, .int x5)] [] := by
  unfold X3_placed_b22 at hd
  refine pt_iload G 5 dX3_placed_22 rfl ?_
  refine pt_iload_n G 1 dX3_placed_24 rfl rfl ?_
  refine pt_icmp_gt G 74 dX3_placed_25 (by decide) (fun c7 => ?_) (fun c7 => ?_)
  · replace hd := ifp c7 hd
    exact pt_sub [4] rfl (he x4 (Option.some.inj hd).symm)
  · replace hd := ifn c7 hd
    refine pt_aload_n G 0 dX3_placed_28 rfl rfl ?_
    refine pt_iload_n G 2 dX3_placed_29 rfl rfl ?_
    refine pt_iload_n G 3 dX3_placed_30 rfl rfl ?_
    obtain ⟨v4, h3, hd⟩ := bnd hd
    refine X3_leastBehind_v G gX3_placed_X3_leastBehind ⟨(Nat.le_of_ble_eq_true rfl), (Nat.le_of_ble_eq_true rfl)⟩ h3 dX3_placed_31 (Nat.le_of_ble_eq_true rfl) ⟨(Nat.le_of_ble_eq_true rfl), (Nat.le_of_ble_eq_true rfl)⟩ ?_
    refine pt_istore G [(4, .int v4), (0, .ref a0), (1, .int x1), (2, .int x2), (3, .int x3), (5, .int x5)] dX3_placed_34 (by decide) rfl ?_
    refine pt_iload G 0 dX3_placed_36 rfl ?_
    refine pt_bipush G (10 : Int32) dX3_placed_38 bi_10 ?_
    refine pt_icmp_lt G 56 dX3_placed_40 (by decide) (fun c6 => ?_) (fun c6 => ?_)
    · replace hd := ifp c6 hd
      refine pt_iload G 0 dX3_placed_56 rfl ?_
      refine pt_if_lt G 68 dX3_placed_58 (by decide) (fun c5 => ?_) (fun c5 => ?_)
      · replace hd := ifp c5 hd
        refine pt_iinc G 5 (x5 + 1) [(5, .int (x5 + 1)), (4, .int v4), (0, .ref a0), (1, .int x1), (2, .int x2), (3, .int x3)] dX3_placed_68 rfl (inc_1 _) (by decide) rfl ?_
        refine pt_goto G 22 dX3_placed_71 (by decide) ?_
        exact pt_sub [2, 3, 4, 5, 1, 0] rfl (hc (x2, x3, v4, (x5 + 1)) (Option.some.inj hd).symm)
      · replace hd := ifn c5 hd
        refine pt_iload_n G 3 dX3_placed_61 rfl rfl ?_
        refine pt_iconst G (1 : Int32) dX3_placed_62 ci_1 ?_
        refine pt_iload G 0 dX3_placed_63 rfl ?_
        refine pt_ishl G dX3_placed_65 ?_
        refine pt_ior G dX3_placed_66 ?_
        refine pt_istore_n G [(2, .int (x2 ||| ((1 : Int32) <<< (v4 &&& 31)))), (4, .int v4), (0, .ref a0), (1, .int x1), (3, .int x3), (5, .int x5)] dX3_placed_67 rfl (by decide) rfl ?_
        refine pt_iinc G 5 (x5 + 1) [(5, .int (x5 + 1)), (2, .int (x2 ||| ((1 : Int32) <<< (v4 &&& 31)))), (4, .int v4), (0, .ref a0), (1, .int x1), (3, .int x3)] dX3_placed_68 rfl (inc_1 _) (by decide) rfl ?_
        refine pt_goto G 22 dX3_placed_71 (by decide) ?_
        exact pt_sub [3, 4, 1, 5, 2, 0] rfl (hc ((x2 ||| ((1 : Int32) <<< (v4 &&& 31))), x3, v4, (x5 + 1)) (Option.some.inj hd).symm)
    · replace hd := ifn c6 hd
      refine pt_iload_n G 4 dX3_placed_43 rfl rfl ?_
      refine pt_iconst G (1 : Int32) dX3_placed_44 ci_1 ?_
      refine pt_iload G 0 dX3_placed_45 rfl ?_
      refine pt_bipush G (10 : Int32) dX3_placed_47 bi_10 ?_
      refine pt_isub G dX3_placed_49 ?_
      refine pt_ishl G dX3_placed_50 ?_
      refine pt_ior G dX3_placed_51 ?_
      refine pt_istore_n G [(3, .int (x3 ||| ((1 : Int32) <<< ((v4 - (10 : Int32)) &&& 31)))), (4, .int v4), (0, .ref a0), (1, .int x1), (2, .int x2), (5, .int x5)] dX3_placed_52 rfl (by decide) rfl ?_
      refine pt_goto G 68 dX3_placed_53 (by decide) ?_
      refine pt_iinc G 5 (x5 + 1) [(5, .int (x5 + 1)), (3, .int (x3 ||| ((1 : Int32) <<< ((v4 - (10 : Int32)) &&& 31)))), (4, .int v4), (0, .ref a0), (1, .int x1), (2, .int x2)] dX3_placed_68 rfl (inc_1 _) (by decide) rfl ?_
      refine pt_goto G 22 dX3_placed_71 (by decide) ?_
      exact pt_sub [3, 4, 5, 1, 2, 0] rfl (hc (x2, (x3 ||| ((1 : Int32) <<< ((v4 - (10 : Int32)) &&& 31))), v4, (x5 + 1)) (Option.some.inj hd).symm)
theorem X3_placed_w22_w {X : Cx} (G : Gd X yX3_placed cX3_placed wsX3_placed 6 (some .int) rX3_placed) {M : Wo} {a0 : Nat} {x1 : Int32} (n9 : Nat) (s9 : (Int32 × Int32 × Int32 × Int32)) (e9 : Int32) (hw : wloop (un4 (X3_placed_b22 M a0 x1)) n9 s9 = some e9) (hz : X3_placed_Z22 X M a0 x1 e9) : X3_placed_P22 X M a0 x1 s9 := by
  refine wl_ind (P := X3_placed_P22 X M a0 x1) (Z := X3_placed_Z22 X M a0 x1) ?_ n9 s9 e9 hw hz
  intro s9 o9 hd hc he
  obtain ⟨x2, x3, x4, x5⟩ := s9
  exact X3_placed_b22_w G hd hc he
def X3_placed (M : Wo) (a0 : Nat) (x1 : Int32) : Option Int32 :=
  (ckO M a0 3).bind fun _ => (X3_things M a0).bind fun v2 => if x1 < v2 then ((wloop (un4 (X3_placed_b22 M a0 x1)) FU ((0 : Int32), (0 : Int32), (-6 : Int32), (0 : Int32))).bind fun v8 => some v8) else (some (-6 : Int32))
theorem X3_placed_w {X : Cx} (G : Gd X yX3_placed cX3_placed wsX3_placed 6 (some .int) rX3_placed) {M : Wo} {a0 : Nat} {x1 : Int32} {o : Int32} (hd : X3_placed M a0 x1 = some o) (hQ : Qi X o M 0 0) : Pt X 0 0 0 M [(0, .ref a0), (1, .int x1)] [] := by
  unfold X3_placed at hd
  obtain ⟨_, _, hd⟩ := bnd hd
  refine pt_iload_n G 1 dX3_placed_0 rfl rfl ?_
  refine pt_aload_n G 0 dX3_placed_1 rfl rfl ?_
  obtain ⟨v2, h1, hd⟩ := bnd hd
  refine X3_things_v G gX3_placed_X3_things ⟨(Nat.le_of_ble_eq_true rfl), (Nat.le_of_ble_eq_true rfl)⟩ h1 dX3_placed_2 (Nat.le_of_ble_eq_true rfl) ⟨(Nat.le_of_ble_eq_true rfl), (Nat.le_of_ble_eq_true rfl)⟩ ?_
  refine pt_icmp_lt G 11 dX3_placed_5 (by decide) (fun c10 => ?_) (fun c10 => ?_)
  · replace hd := ifp c10 hd
    refine pt_iconst G (0 : Int32) dX3_placed_11 ci_0 ?_
    refine pt_istore_n G [(2, .int (0 : Int32)), (0, .ref a0), (1, .int x1)] dX3_placed_12 rfl (by decide) rfl ?_
    refine pt_iconst G (0 : Int32) dX3_placed_13 ci_0 ?_
    refine pt_istore_n G [(3, .int (0 : Int32)), (2, .int (0 : Int32)), (0, .ref a0), (1, .int x1)] dX3_placed_14 rfl (by decide) rfl ?_
    refine pt_bipush G (-6 : Int32) dX3_placed_15 bi_m6 ?_
    refine pt_istore G [(4, .int (-6 : Int32)), (3, .int (0 : Int32)), (2, .int (0 : Int32)), (0, .ref a0), (1, .int x1)] dX3_placed_17 (by decide) rfl ?_
    refine pt_iconst G (0 : Int32) dX3_placed_19 ci_0 ?_
    refine pt_istore G [(5, .int (0 : Int32)), (4, .int (-6 : Int32)), (3, .int (0 : Int32)), (2, .int (0 : Int32)), (0, .ref a0), (1, .int x1)] dX3_placed_20 (by decide) rfl ?_
    obtain ⟨v8, hw9, hd⟩ := bnd hd
    refine pt_sub [4, 5, 3, 2, 1, 0] rfl (X3_placed_w22_w G _ _ _ hw9 ?_)
    show Pt X 0 0 _ _ _ []
    refine pt_iload G 0 dX3_placed_74 rfl ?_
    cases hd
    exact pt_iret G hQ dX3_placed_76
  · replace hd := ifn c10 hd
    refine pt_bipush G (-6 : Int32) dX3_placed_8 bi_m6 ?_
    cases hd
    exact pt_iret G hQ dX3_placed_10
theorem X3_placed_c {l : Launch} {D : va_G} {dA : Nat → ClassId} {b : Nat} {M : Wo} {a0 : Nat} {x1 : Int32} {r : Int32} (h : X3_placed M a0 x1 = some r) : Met l yX3_placed wsX3_placed rX3_placed (va_Pc [.ref a0, .int x1] (Wd D dA b M)) (Ei D dA b r M) 0 0 (Ab b) := met_i (by decide) rfl (Nat.le_of_ble_eq_true rfl) (fun X G hN hQ => X3_placed_w G h hQ)
theorem X3_placed_v {X : Cx} {y : MethodName} {cc : ByteArray} {Ts : List Cond} {nL : Nat} {ret : Option FieldType} {R : Room} (G : Gd X y cc Ts nL ret R) {index : Nat} (hg : GoodIn Ts (wsV y.cls index RX3 yX3_placed wsX3_placed)) (hR : rX3_placed.frames + 1 ≤ R.frames ∧ 8 + (6 + 11) + rX3_placed.locals ≤ R.locals) {k n pc : Nat} {M : Wo} {lv : List (Nat × Value)} {st : List Value} {a0 : Nat} {x1 : Int32} {r : Int32} (hv : X3_placed M a0 x1 = some r) (hd : decode cc pc = .ok (.invokevirtual index, 3)) (h8 : (st.map fun v => v.category).sum ≤ 8) (hf : k ≤ R.cells ∧ n ≤ R.slots) (kk : Pt X k n (pc + 3) M lv (.int r :: st)) : Pt X k n pc M lv (.int x1 :: .ref a0 :: st) := pt_cVi (ci := 3) (nA := 1) (As := [.int x1]) G (X3_placed_c hv) hg rfl rfl rfl (by decide +kernel) hR rfl (rcv hv) rfl rfl h8 hd hf kk
