abbrev rX2_trace : Room := { frames := 2, cells := 0, slots := 0, locals := 81 }
theorem m_X2_trace_4 : Cond.fieldLink RX2 32 "StageLines$Stage" "moves" "[LStageLines$Move;" ∈ wsX2_trace := List.mem_of_getElem? (i := 4) rfl
theorem u_X2_trace_X6 : ∀ w ∈ u_ws RX6 TX6 4, w ∈ wsX2_trace := mem_r [27, 28, 29, 30] (by decide +kernel)
theorem m_X2_trace_5 : Cond.fieldLink RX2 36 "StageLines$Move" "begin" "I" ∈ wsX2_trace := List.mem_of_getElem? (i := 5) rfl
theorem u_X2_trace_X4 : ∀ w ∈ u_ws RX4 TX4 4, w ∈ wsX2_trace := mem_r [34, 35, 36, 37] (by decide +kernel)
theorem m_X2_trace_3 : Cond.fieldLink RX2 22 "StageLines$Bar" "settings" "[I" ∈ wsX2_trace := List.mem_of_getElem? (i := 3) rfl
theorem u_X2_trace_X0 : ∀ w ∈ u_ws RX0 TX0 3, w ∈ wsX2_trace := mem_r [31, 32, 33] (by decide +kernel)
theorem m_X2_trace_2 : Cond.fieldLink RX2 16 "StageLines$Stage" "bars" "[LStageLines$Bar;" ∈ wsX2_trace := List.mem_of_getElem? (i := 2) rfl
theorem m_X2_trace_1 : Cond.fieldLink RX2 11 "StageLines$Flight" "heights" "[[I" ∈ wsX2_trace := List.mem_of_getElem? (i := 1) rfl
theorem u_X2_trace_X2 : ∀ w ∈ u_ws RX2 TX2 1, w ∈ wsX2_trace := mem_r [26] (by decide +kernel)
abbrev X2_trace_P35 (X : Cx) (a1 : Nat) (x2 : Int32) (a3 : Nat) : (Wo × Int32 × Int32 × Int32) → Prop := un4 (fun M x4 x5 x6 => Pt X 0 0 35 M [(1, .ref a1), (2, .int x2), (3, .ref a3), (4, .int x4), (5, .int x5), (6, .int x6)] [])
abbrev X2_trace_Z35 (X : Cx) (a1 : Nat) (x2 : Int32) (a3 : Nat) : Wo → Prop := (un1 (fun M => Pt X 0 0 118 M [] []))
def X2_trace_L78 (M : Wo) (a1 : Nat) (x2 : Int32) (a3 : Nat) (x4 : Int32) (x5 : Int32) (x6 : Int32) : Option ((Wo × Int32 × Int32 × Int32) ⊕ Wo) :=
  if 0 ≤ x4 then ((gR M a1 6 1).bind fun w17 => (lR M 3 w17 x4).bind fun w19 => (lA M 0 a3 (x6 - (1 : Int32))).bind fun v21 => (X4_stepFrom M w19 v21).bind fun v24 => (sA M a3 x6 v24).bind fun M25 => some (.inl (M25, x4, x5, (x6 + 1)))) else ((lA M 0 a3 (x6 - (1 : Int32))).bind fun v27 => (sA M a3 x6 v27).bind fun M29 => some (.inl (M29, x4, x5, (x6 + 1))))
theorem X2_trace_L78_w {X : Cx} (G : Gd X yX2_trace cX2_trace wsX2_trace 7 none rX2_trace) {M : Wo} {a1 : Nat} {x2 : Int32} {a3 : Nat} {x4 : Int32} {x5 : Int32} {x6 : Int32} {o : ((Wo × Int32 × Int32 × Int32) ⊕ Wo)} (hd : X2_trace_L78 M a1 x2 a3 x4 x5 x6 = some o) (hc : ∀ s9, o = .inl s9 → X2_trace_P35 X a1 x2 a3 s9) (he : ∀ e9, o = .inr e9 → X2_trace_Z35 X a1 x2 a3 e9) : Pt X 0 0 78 M [(1, .ref a1), (2, .int x2), (3, .ref a3), (4, .int x4), (5, .int x5), (6, .int x6)] [] := by
  unfold X2_trace_L78 at hd
  refine pt_aload_n G 2 dX2_trace_78 rfl rfl ?_
  refine pt_iload G 5 dX2_trace_79 rfl ?_
  refine pt_iload G 3 dX2_trace_81 rfl ?_
  refine pt_if_ge G 95 dX2_trace_83 (by decide) (fun c31 => ?_) (fun c31 => ?_)
  · replace hd := ifp c31 hd
    refine pt_aload_n G 0 dX2_trace_95 rfl rfl ?_
    obtain ⟨w17, h18, hd⟩ := bnd hd
    refine pt_get G (ci := 6) (j := 1) rfl (by decide) u_X2_trace_X6 m_X2_trace_4 (gR_o h18) dX2_trace_96 ?_
    refine pt_iload G 3 dX2_trace_99 rfl ?_
    obtain ⟨w19, h20, hd⟩ := bnd hd
    refine pt_aald G (kd := 3) rfl rfl h20 dX2_trace_101 ?_
    refine pt_aload_n G 2 dX2_trace_102 rfl rfl ?_
    refine pt_iload G 5 dX2_trace_103 rfl ?_
    refine pt_iconst G (1 : Int32) dX2_trace_105 ci_1 ?_
    refine pt_isub G dX2_trace_106 ?_
    obtain ⟨v21, h22, hd⟩ := bnd hd
    refine pt_iald G h22 dX2_trace_107 ?_
    obtain ⟨v24, h23, hd⟩ := bnd hd
    refine X4_stepFrom_v G gX2_trace_X4_stepFrom ⟨(Nat.le_of_ble_eq_true rfl), (Nat.le_of_ble_eq_true rfl)⟩ h23 dX2_trace_108 (Nat.le_of_ble_eq_true rfl) ⟨(Nat.le_of_ble_eq_true rfl), (Nat.le_of_ble_eq_true rfl)⟩ ?_
    obtain ⟨M25, h26, hd⟩ := bnd hd
    refine pt_iast G h26 dX2_trace_111 ?_
    refine pt_iinc G 5 (x6 + 1) [(6, .int (x6 + 1)), (1, .ref a1), (2, .int x2), (3, .ref a3), (4, .int x4), (5, .int x5)] dX2_trace_112 rfl (inc_1 _) (by decide) rfl ?_
    refine pt_goto G 35 dX2_trace_115 (by decide) ?_
    exact pt_sub [1, 2, 3, 4, 5, 0] rfl (hc (M25, x4, x5, (x6 + 1)) (Option.some.inj hd).symm)
  · replace hd := ifn c31 hd
    refine pt_aload_n G 2 dX2_trace_86 rfl rfl ?_
    refine pt_iload G 5 dX2_trace_87 rfl ?_
    refine pt_iconst G (1 : Int32) dX2_trace_89 ci_1 ?_
    refine pt_isub G dX2_trace_90 ?_
    obtain ⟨v27, h28, hd⟩ := bnd hd
    refine pt_iald G h28 dX2_trace_91 ?_
    refine pt_goto G 111 dX2_trace_92 (by decide) ?_
    obtain ⟨M29, h30, hd⟩ := bnd hd
    refine pt_iast G h30 dX2_trace_111 ?_
    refine pt_iinc G 5 (x6 + 1) [(6, .int (x6 + 1)), (1, .ref a1), (2, .int x2), (3, .ref a3), (4, .int x4), (5, .int x5)] dX2_trace_112 rfl (inc_1 _) (by decide) rfl ?_
    refine pt_goto G 35 dX2_trace_115 (by decide) ?_
    exact pt_sub [1, 2, 3, 4, 5, 0] rfl (hc (M29, x4, x5, (x6 + 1)) (Option.some.inj hd).symm)
def X2_trace_b35 (a1 : Nat) (x2 : Int32) (a3 : Nat) (M : Wo) (x4 : Int32) (x5 : Int32) (x6 : Int32) : Option ((Wo × Int32 × Int32 × Int32) ⊕ Wo) :=
  if (300 : Int32) < x6 then (some (.inr M)) else (if x5 < 0 then (X2_trace_L78 M a1 x2 a3 x4 x5 x6) else ((gR M a1 6 1).bind fun w32 => (lR M 3 w32 x5).bind fun w34 => (gI M w34 4 1).bind fun v36 => if v36 = (x6 - (1 : Int32)) then ((X6_firstMoveFrom M a1 x2 x6).bind fun v39 => X2_trace_L78 M a1 x2 a3 x5 v39 x6) else (X2_trace_L78 M a1 x2 a3 x4 x5 x6)))
theorem X2_trace_b35_w {X : Cx} (G : Gd X yX2_trace cX2_trace wsX2_trace 7 none rX2_trace) {a1 : Nat} {x2 : Int32} {a3 : Nat} {M : Wo} {x4 : Int32} {x5 : Int32} {x6 : Int32} {o : ((Wo × Int32 × Int32 × Int32) ⊕ Wo)} (hd : X2_trace_b35 a1 x2 a3 M x4 x5 x6 = some o) (hc : ∀ s9, o = .inl s9 → X2_trace_P35 X a1 x2 a3 s9) (he : ∀ e9, o = .inr e9 → X2_trace_Z35 X a1 x2 a3 e9) : Pt X 0 0 35 M [(1, .ref a1), (2, .int x2), (3, .ref a3), (4, .int x4), (5, .int x5), (6, .int x6)] [] := by
  unfold X2_trace_b35 at hd
  refine pt_iload G 5 dX2_trace_35 rfl ?_
  refine pt_sipush G (300 : Int32) dX2_trace_37 si_300 ?_
  refine pt_icmp_gt G 118 dX2_trace_40 (by decide) (fun c42 => ?_) (fun c42 => ?_)
  · replace hd := ifp c42 hd
    exact pt_sub [] rfl (he M (Option.some.inj hd).symm)
  · replace hd := ifn c42 hd
    refine pt_iload G 4 dX2_trace_43 rfl ?_
    refine pt_if_lt G 78 dX2_trace_45 (by decide) (fun c41 => ?_) (fun c41 => ?_)
    · replace hd := ifp c41 hd
      exact pt_sub [0, 1, 2, 3, 4, 5] rfl (X2_trace_L78_w G hd hc he)
    · replace hd := ifn c41 hd
      refine pt_aload_n G 0 dX2_trace_48 rfl rfl ?_
      obtain ⟨w32, h33, hd⟩ := bnd hd
      refine pt_get G (ci := 6) (j := 1) rfl (by decide) u_X2_trace_X6 m_X2_trace_4 (gR_o h33) dX2_trace_49 ?_
      refine pt_iload G 4 dX2_trace_52 rfl ?_
      obtain ⟨w34, h35, hd⟩ := bnd hd
      refine pt_aald G (kd := 3) rfl rfl h35 dX2_trace_54 ?_
      obtain ⟨v36, h37, hd⟩ := bnd hd
      refine pt_get G (ci := 4) (j := 1) rfl (by decide) u_X2_trace_X4 m_X2_trace_5 (gI_o h37) dX2_trace_55 ?_
      refine pt_iload G 5 dX2_trace_58 rfl ?_
      refine pt_iconst G (1 : Int32) dX2_trace_60 ci_1 ?_
      refine pt_isub G dX2_trace_61 ?_
      refine pt_icmp_ne G 78 dX2_trace_62 (by decide) (fun c40 => ?_) (fun c40 => ?_)
      · replace hd := ifn c40 hd
        exact pt_sub [0, 1, 2, 3, 4, 5] rfl (X2_trace_L78_w G hd hc he)
      · replace hd := ifp c40 hd
        refine pt_iload G 4 dX2_trace_65 rfl ?_
        refine pt_istore G [(4, .int x5), (1, .ref a1), (2, .int x2), (3, .ref a3), (5, .int x5), (6, .int x6)] dX2_trace_67 (by decide) rfl ?_
        refine pt_aload_n G 1 dX2_trace_69 rfl rfl ?_
        refine pt_iload_n G 2 dX2_trace_70 rfl rfl ?_
        refine pt_iload G 5 dX2_trace_71 rfl ?_
        obtain ⟨v39, h38, hd⟩ := bnd hd
        refine X6_firstMoveFrom_v G gX2_trace_X6_firstMoveFrom ⟨(Nat.le_of_ble_eq_true rfl), (Nat.le_of_ble_eq_true rfl)⟩ h38 dX2_trace_73 (Nat.le_of_ble_eq_true rfl) ⟨(Nat.le_of_ble_eq_true rfl), (Nat.le_of_ble_eq_true rfl)⟩ ?_
        refine pt_istore G [(5, .int v39), (4, .int x5), (1, .ref a1), (2, .int x2), (3, .ref a3), (6, .int x6)] dX2_trace_76 (by decide) rfl ?_
        exact pt_sub [2, 3, 4, 1, 0, 5] rfl (X2_trace_L78_w G hd hc he)
theorem X2_trace_w35_w {X : Cx} (G : Gd X yX2_trace cX2_trace wsX2_trace 7 none rX2_trace) {a1 : Nat} {x2 : Int32} {a3 : Nat} (n9 : Nat) (s9 : (Wo × Int32 × Int32 × Int32)) (e9 : Wo) (hw : wloop (un4 (X2_trace_b35 a1 x2 a3)) n9 s9 = some e9) (hz : X2_trace_Z35 X a1 x2 a3 e9) : X2_trace_P35 X a1 x2 a3 s9 := by
  refine wl_ind (P := X2_trace_P35 X a1 x2 a3) (Z := X2_trace_Z35 X a1 x2 a3) ?_ n9 s9 e9 hw hz
  intro s9 o9 hd hc he
  obtain ⟨M, x4, x5, x6⟩ := s9
  exact X2_trace_b35_w G hd hc he
def X2_trace (M : Wo) (a0 : Nat) (a1 : Nat) (x2 : Int32) : Option Wo :=
  (ckO M a0 2).bind fun _ => (gR M a0 2 0).bind fun w1 => (lR M 5 w1 x2).bind fun w3 => (gR M a1 6 0).bind fun w5 => (lR M 2 w5 x2).bind fun w7 => (gR M w7 0 0).bind fun w9 => (lA M 0 w9 (0 : Int32)).bind fun v11 => (sA M w3 (0 : Int32) v11).bind fun M13 => (X6_firstMoveFrom M13 a1 x2 (0 : Int32)).bind fun v16 => (wloop (un4 (X2_trace_b35 a1 x2 w3)) FU (M13, (-1 : Int32), v16, (1 : Int32))).bind fun M43 => some M43
theorem X2_trace_w {X : Cx} (G : Gd X yX2_trace cX2_trace wsX2_trace 7 none rX2_trace) {M : Wo} {a0 : Nat} {a1 : Nat} {x2 : Int32} {o : Wo} (hd : X2_trace M a0 a1 x2 = some o) (hQ : Qv X o 0 0) : Pt X 0 0 0 M [(0, .ref a0), (1, .ref a1), (2, .int x2)] [] := by
  unfold X2_trace at hd
  obtain ⟨_, _, hd⟩ := bnd hd
  refine pt_aload_n G 0 dX2_trace_0 rfl rfl ?_
  obtain ⟨w1, h2, hd⟩ := bnd hd
  refine pt_get G (ci := 2) (j := 0) rfl (by decide) u_X2_trace_X2 m_X2_trace_1 (gR_o h2) dX2_trace_1 ?_
  refine pt_iload_n G 2 dX2_trace_4 rfl rfl ?_
  obtain ⟨w3, h4, hd⟩ := bnd hd
  refine pt_aald G (kd := 5) rfl rfl h4 dX2_trace_5 ?_
  refine pt_astore_n G [(3, .ref w3), (0, .ref a0), (1, .ref a1), (2, .int x2)] dX2_trace_6 rfl (by decide) rfl ?_
  refine pt_aload_n G 0 dX2_trace_7 rfl rfl ?_
  refine pt_iconst G (0 : Int32) dX2_trace_8 ci_0 ?_
  refine pt_aload_n G 2 dX2_trace_9 rfl rfl ?_
  obtain ⟨w5, h6, hd⟩ := bnd hd
  refine pt_get G (ci := 6) (j := 0) rfl (by decide) u_X2_trace_X6 m_X2_trace_2 (gR_o h6) dX2_trace_10 ?_
  refine pt_iload_n G 3 dX2_trace_13 rfl rfl ?_
  obtain ⟨w7, h8, hd⟩ := bnd hd
  refine pt_aald G (kd := 2) rfl rfl h8 dX2_trace_14 ?_
  obtain ⟨w9, h10, hd⟩ := bnd hd
  refine pt_get G (ci := 0) (j := 0) rfl (by decide) u_X2_trace_X0 m_X2_trace_3 (gR_o h10) dX2_trace_15 ?_
  refine pt_iconst G (0 : Int32) dX2_trace_18 ci_0 ?_
  obtain ⟨v11, h12, hd⟩ := bnd hd
  refine pt_iald G h12 dX2_trace_19 ?_
  obtain ⟨M13, h14, hd⟩ := bnd hd
  refine pt_iast G h14 dX2_trace_20 ?_
  refine pt_iconst G (-1 : Int32) dX2_trace_21 ci_m1 ?_
  refine pt_istore G [(4, .int (-1 : Int32)), (3, .ref w3), (0, .ref a0), (1, .ref a1), (2, .int x2)] dX2_trace_22 (by decide) rfl ?_
  refine pt_aload_n G 3 dX2_trace_24 rfl rfl ?_
  refine pt_iload_n G 4 dX2_trace_25 rfl rfl ?_
  refine pt_iconst G (0 : Int32) dX2_trace_26 ci_0 ?_
  obtain ⟨v16, h15, hd⟩ := bnd hd
  refine X6_firstMoveFrom_v G gX2_trace_X6_firstMoveFrom ⟨(Nat.le_of_ble_eq_true rfl), (Nat.le_of_ble_eq_true rfl)⟩ h15 dX2_trace_27 (Nat.le_of_ble_eq_true rfl) ⟨(Nat.le_of_ble_eq_true rfl), (Nat.le_of_ble_eq_true rfl)⟩ ?_
  refine pt_istore G [(5, .int v16), (4, .int (-1 : Int32)), (3, .ref w3), (0, .ref a0), (1, .ref a1), (2, .int x2)] dX2_trace_30 (by decide) rfl ?_
  refine pt_iconst G (1 : Int32) dX2_trace_32 ci_1 ?_
  refine pt_istore G [(6, .int (1 : Int32)), (5, .int v16), (4, .int (-1 : Int32)), (3, .ref w3), (0, .ref a0), (1, .ref a1), (2, .int x2)] dX2_trace_33 (by decide) rfl ?_
  obtain ⟨M43, hw44, hd⟩ := bnd hd
  refine pt_sub [5, 6, 3, 2, 1, 0] rfl (X2_trace_w35_w G _ _ _ hw44 ?_)
  show Pt X 0 0 _ _ _ []
  cases hd
  exact pt_vret G hQ dX2_trace_118
theorem X2_trace_c {l : Launch} {D : va_G} {dA : Nat → ClassId} {b : Nat} {M : Wo} {a0 : Nat} {a1 : Nat} {x2 : Int32} {M2 : Wo} (h : X2_trace M a0 a1 x2 = some M2) : Met l yX2_trace wsX2_trace rX2_trace (va_Pc [.ref a0, .ref a1, .int x2] (Wd D dA b M)) (Ev D dA b M2) 0 0 (Ab b) := met_v (by decide) rfl (Nat.le_of_ble_eq_true rfl) (fun X G hN hQ => X2_trace_w G h hQ)
theorem X2_trace_v {X : Cx} {y : MethodName} {cc : ByteArray} {Ts : List Cond} {nL : Nat} {ret : Option FieldType} {R : Room} (G : Gd X y cc Ts nL ret R) {index : Nat} (hg : GoodIn Ts (wsV y.cls index RX2 yX2_trace wsX2_trace)) (hR : rX2_trace.frames + 1 ≤ R.frames ∧ 8 + (7 + 11) + rX2_trace.locals ≤ R.locals) {k n pc : Nat} {M : Wo} {lv : List (Nat × Value)} {st : List Value} {a0 : Nat} {a1 : Nat} {x2 : Int32} {M2 : Wo} (hv : X2_trace M a0 a1 x2 = some M2) (hd : decode cc pc = .ok (.invokevirtual index, 3)) (h8 : (st.map fun v => v.category).sum ≤ 8) (hf : k ≤ R.cells ∧ n ≤ R.slots) (kk : Pt X k n (pc + 3) M2 lv st) : Pt X k n pc M lv (.int x2 :: .ref a1 :: .ref a0 :: st) := pt_cVv (ci := 2) (nA := 2) (As := [.ref a1, .int x2]) G (X2_trace_c hv) hg rfl rfl rfl (by decide +kernel) hR rfl (rcv hv) rfl rfl h8 hd hf kk
abbrev rX2_traceAll : Room := { frames := 3, cells := 0, slots := 0, locals := 107 }
abbrev X2_traceAll_P2 (X : Cx) (a0 : Nat) (a1 : Nat) : (Wo × Int32) → Prop := un2 (fun M x2 => Pt X 0 0 2 M [(0, .ref a0), (1, .ref a1), (2, .int x2)] [])
abbrev X2_traceAll_Z2 (X : Cx) (a0 : Nat) (a1 : Nat) : Wo → Prop := (un1 (fun M => Pt X 0 0 20 M [] []))
def X2_traceAll_b2 (a0 : Nat) (a1 : Nat) (M : Wo) (x2 : Int32) : Option ((Wo × Int32) ⊕ Wo) :=
  if (10 : Int32) ≤ x2 then (some (.inr M)) else ((X2_trace M a0 a1 x2).bind fun M2 => some (.inl (M2, (x2 + 1))))
theorem X2_traceAll_b2_w {X : Cx} (G : Gd X yX2_traceAll cX2_traceAll wsX2_traceAll 3 none rX2_traceAll) {a0 : Nat} {a1 : Nat} {M : Wo} {x2 : Int32} {o : ((Wo × Int32) ⊕ Wo)} (hd : X2_traceAll_b2 a0 a1 M x2 = some o) (hc : ∀ s9, o = .inl s9 → X2_traceAll_P2 X a0 a1 s9) (he : ∀ e9, o = .inr e9 → X2_traceAll_Z2 X a0 a1 e9) : Pt X 0 0 2 M [(0, .ref a0), (1, .ref a1), (2, .int x2)] [] := by
  unfold X2_traceAll_b2 at hd
  refine pt_iload_n G 2 dX2_traceAll_2 rfl rfl ?_
  refine pt_bipush G (10 : Int32) dX2_traceAll_3 bi_10 ?_
  refine pt_icmp_ge G 20 dX2_traceAll_5 (by decide) (fun c3 => ?_) (fun c3 => ?_)
  · replace hd := ifp c3 hd
    exact pt_sub [] rfl (he M (Option.some.inj hd).symm)
  · replace hd := ifn c3 hd
    refine pt_aload_n G 0 dX2_traceAll_8 rfl rfl ?_
    refine pt_aload_n G 1 dX2_traceAll_9 rfl rfl ?_
    refine pt_iload_n G 2 dX2_traceAll_10 rfl rfl ?_
    obtain ⟨M2, h1, hd⟩ := bnd hd
    refine X2_trace_v G gX2_traceAll_X2_trace ⟨(Nat.le_of_ble_eq_true rfl), (Nat.le_of_ble_eq_true rfl)⟩ h1 dX2_traceAll_11 (Nat.le_of_ble_eq_true rfl) ⟨(Nat.le_of_ble_eq_true rfl), (Nat.le_of_ble_eq_true rfl)⟩ ?_
    refine pt_iinc G 2 (x2 + 1) [(2, .int (x2 + 1)), (0, .ref a0), (1, .ref a1)] dX2_traceAll_14 rfl (inc_1 _) (by decide) rfl ?_
    refine pt_goto G 2 dX2_traceAll_17 (by decide) ?_
    exact pt_sub [1, 2, 0] rfl (hc (M2, (x2 + 1)) (Option.some.inj hd).symm)
theorem X2_traceAll_w2_w {X : Cx} (G : Gd X yX2_traceAll cX2_traceAll wsX2_traceAll 3 none rX2_traceAll) {a0 : Nat} {a1 : Nat} (n9 : Nat) (s9 : (Wo × Int32)) (e9 : Wo) (hw : wloop (un2 (X2_traceAll_b2 a0 a1)) n9 s9 = some e9) (hz : X2_traceAll_Z2 X a0 a1 e9) : X2_traceAll_P2 X a0 a1 s9 := by
  refine wl_ind (P := X2_traceAll_P2 X a0 a1) (Z := X2_traceAll_Z2 X a0 a1) ?_ n9 s9 e9 hw hz
  intro s9 o9 hd hc he
  obtain ⟨M, x2⟩ := s9
  exact X2_traceAll_b2_w G hd hc he
def X2_traceAll (M : Wo) (a0 : Nat) (a1 : Nat) : Option Wo :=
  (ckO M a0 2).bind fun _ => (wloop (un2 (X2_traceAll_b2 a0 a1)) FU (M, (0 : Int32))).bind fun M4 => some M4
theorem X2_traceAll_w {X : Cx} (G : Gd X yX2_traceAll cX2_traceAll wsX2_traceAll 3 none rX2_traceAll) {M : Wo} {a0 : Nat} {a1 : Nat} {o : Wo} (hd : X2_traceAll M a0 a1 = some o) (hQ : Qv X o 0 0) : Pt X 0 0 0 M [(0, .ref a0), (1, .ref a1)] [] := by
  unfold X2_traceAll at hd
  obtain ⟨_, _, hd⟩ := bnd hd
  refine pt_iconst G (0 : Int32) dX2_traceAll_0 ci_0 ?_
  refine pt_istore_n G [(2, .int (0 : Int32)), (0, .ref a0), (1, .ref a1)] dX2_traceAll_1 rfl (by decide) rfl ?_
  obtain ⟨M4, hw5, hd⟩ := bnd hd
  refine pt_sub [1, 2, 0] rfl (X2_traceAll_w2_w G _ _ _ hw5 ?_)
  show Pt X 0 0 _ _ _ []
  cases hd
  exact pt_vret G hQ dX2_traceAll_20
theorem X2_traceAll_c {l : Launch} {D : va_G} {dA : Nat → ClassId} {b : Nat} {M : Wo} {a0 : Nat} {a1 : Nat} {M2 : Wo} (h : X2_traceAll M a0 a1 = some M2) : Met l yX2_traceAll wsX2_traceAll rX2_traceAll (va_Pc [.ref a0, .ref a1] (Wd D dA b M)) (Ev D dA b M2) 0 0 (Ab b) := met_v (by decide) rfl (Nat.le_of_ble_eq_true rfl) (fun X G hN hQ => X2_traceAll_w G h hQ)
theorem X2_traceAll_v {X : Cx} {y : MethodName} {cc : ByteArray} {Ts : List Cond} {nL : Nat} {ret : Option FieldType} {R : Room} (G : Gd X y cc Ts nL ret R) {index : Nat} (hg : GoodIn Ts (wsV y.cls index RX2 yX2_traceAll wsX2_traceAll)) (hR : rX2_traceAll.frames + 1 ≤ R.frames ∧ 8 + (3 + 11) + rX2_traceAll.locals ≤ R.locals) {k n pc : Nat} {M : Wo} {lv : List (Nat × Value)} {st : List Value} {a0 : Nat} {a1 : Nat} {M2 : Wo} (hv : X2_traceAll M a0 a1 = some M2) (hd : decode cc pc = .ok (.invokevirtual index, 3)) (h8 : (st.map fun v => v.category).sum ≤ 8) (hf : k ≤ R.cells ∧ n ≤ R.slots) (kk : Pt X k n (pc + 3) M2 lv st) : Pt X k n pc M lv (.ref a1 :: .ref a0 :: st) := pt_cVv (ci := 2) (nA := 1) (As := [.ref a1]) G (X2_traceAll_c hv) hg rfl rfl rfl (by decide +kernel) hR rfl (rcv hv) rfl rfl h8 hd hf kk
abbrev rX2_endOf : Room := { frames := 1, cells := 0, slots := 0, locals := 25 }
theorem m_X2_endOf_5 : Cond.fieldLink RX2 53 "StageLines$Move" "target" "I" ∈ wsX2_endOf := List.mem_of_getElem? (i := 5) rfl
theorem u_X2_endOf_X4 : ∀ w ∈ u_ws RX4 TX4 4, w ∈ wsX2_endOf := mem_r [19, 20, 21, 22] (by decide +kernel)
theorem m_X2_endOf_2 : Cond.fieldLink RX2 50 "StageLines$Move" "bar" "I" ∈ wsX2_endOf := List.mem_of_getElem? (i := 2) rfl
theorem m_X2_endOf_4 : Cond.fieldLink RX2 11 "StageLines$Flight" "heights" "[[I" ∈ wsX2_endOf := List.mem_of_getElem? (i := 4) rfl
theorem u_X2_endOf_X2 : ∀ w ∈ u_ws RX2 TX2 1, w ∈ wsX2_endOf := mem_r [23] (by decide +kernel)
theorem m_X2_endOf_3 : Cond.fieldLink RX2 36 "StageLines$Move" "begin" "I" ∈ wsX2_endOf := List.mem_of_getElem? (i := 3) rfl
theorem m_X2_endOf_1 : Cond.fieldLink RX2 32 "StageLines$Stage" "moves" "[LStageLines$Move;" ∈ wsX2_endOf := List.mem_of_getElem? (i := 1) rfl
theorem u_X2_endOf_X6 : ∀ w ∈ u_ws RX6 TX6 4, w ∈ wsX2_endOf := mem_r [15, 16, 17, 18] (by decide +kernel)
abbrev X2_endOf_P52 (X : Cx) (M : Wo) (a0 : Nat) (a3 : Nat) (x5 : Int32) : Int32 → Prop := un1 (fun x6 => Pt X 0 0 52 M [(0, .ref a0), (3, .ref a3), (5, .int x5), (6, .int x6)] [])
abbrev X2_endOf_Z52 (X : Cx) (M : Wo) (a0 : Nat) (a3 : Nat) (x5 : Int32) : Int32 → Prop := (un1 (fun x6 => Pt X 0 0 84 M [(6, .int x6)] []))
def X2_endOf_b52 (M : Wo) (a0 : Nat) (a3 : Nat) (x5 : Int32) (x6 : Int32) : Option (Int32 ⊕ Int32) :=
  if x5 ≤ x6 then (some (.inr x6)) else ((gR M a0 2 0).bind fun w19 => (gI M a3 4 0).bind fun v21 => (lR M 5 w19 v21).bind fun w23 => (lA M 0 w23 x6).bind fun v25 => (gI M a3 4 2).bind fun v27 => if v25 = v27 then (some (.inr x6)) else (some (.inl (x6 + 1))))
theorem X2_endOf_b52_w {X : Cx} (G : Gd X yX2_endOf cX2_endOf wsX2_endOf 7 (some .int) rX2_endOf) {M : Wo} {a0 : Nat} {a3 : Nat} {x5 : Int32} {x6 : Int32} {o : (Int32 ⊕ Int32)} (hd : X2_endOf_b52 M a0 a3 x5 x6 = some o) (hc : ∀ s9, o = .inl s9 → X2_endOf_P52 X M a0 a3 x5 s9) (he : ∀ e9, o = .inr e9 → X2_endOf_Z52 X M a0 a3 x5 e9) : Pt X 0 0 52 M [(0, .ref a0), (3, .ref a3), (5, .int x5), (6, .int x6)] [] := by
  unfold X2_endOf_b52 at hd
  refine pt_iload G 3 dX2_endOf_52 rfl ?_
  refine pt_iload G 2 dX2_endOf_54 rfl ?_
  refine pt_icmp_ge G 84 dX2_endOf_56 (by decide) (fun c30 => ?_) (fun c30 => ?_)
  · replace hd := ifp c30 hd
    exact pt_sub [3] rfl (he x6 (Option.some.inj hd).symm)
  · replace hd := ifn c30 hd
    refine pt_aload_n G 0 dX2_endOf_59 rfl rfl ?_
    obtain ⟨w19, h20, hd⟩ := bnd hd
    refine pt_get G (ci := 2) (j := 0) rfl (by decide) u_X2_endOf_X2 m_X2_endOf_4 (gR_o h20) dX2_endOf_60 ?_
    refine pt_aload_n G 1 dX2_endOf_63 rfl rfl ?_
    obtain ⟨v21, h22, hd⟩ := bnd hd
    refine pt_get G (ci := 4) (j := 0) rfl (by decide) u_X2_endOf_X4 m_X2_endOf_2 (gI_o h22) dX2_endOf_64 ?_
    obtain ⟨w23, h24, hd⟩ := bnd hd
    refine pt_aald G (kd := 5) rfl rfl h24 dX2_endOf_67 ?_
    refine pt_iload G 3 dX2_endOf_68 rfl ?_
    obtain ⟨v25, h26, hd⟩ := bnd hd
    refine pt_iald G h26 dX2_endOf_70 ?_
    refine pt_aload_n G 1 dX2_endOf_71 rfl rfl ?_
    obtain ⟨v27, h28, hd⟩ := bnd hd
    refine pt_get G (ci := 4) (j := 2) rfl (by decide) u_X2_endOf_X4 m_X2_endOf_5 (gI_o h28) dX2_endOf_72 ?_
    refine pt_icmp_eq G 84 dX2_endOf_75 (by decide) (fun c29 => ?_) (fun c29 => ?_)
    · replace hd := ifp c29 hd
      exact pt_sub [3] rfl (he x6 (Option.some.inj hd).symm)
    · replace hd := ifn c29 hd
      refine pt_iinc G 3 (x6 + 1) [(6, .int (x6 + 1)), (0, .ref a0), (3, .ref a3), (5, .int x5)] dX2_endOf_78 rfl (inc_1 _) (by decide) rfl ?_
      refine pt_goto G 52 dX2_endOf_81 (by decide) ?_
      exact pt_sub [1, 2, 3, 0] rfl (hc (x6 + 1) (Option.some.inj hd).symm)
theorem X2_endOf_w52_w {X : Cx} (G : Gd X yX2_endOf cX2_endOf wsX2_endOf 7 (some .int) rX2_endOf) {M : Wo} {a0 : Nat} {a3 : Nat} {x5 : Int32} (n9 : Nat) (s9 : Int32) (e9 : Int32) (hw : wloop (un1 (X2_endOf_b52 M a0 a3 x5)) n9 s9 = some e9) (hz : X2_endOf_Z52 X M a0 a3 x5 e9) : X2_endOf_P52 X M a0 a3 x5 s9 := by
  refine wl_ind (P := X2_endOf_P52 X M a0 a3 x5) (Z := X2_endOf_Z52 X M a0 a3 x5) ?_ n9 s9 e9 hw hz
  intro s9 o9 hd hc he
  exact X2_endOf_b52_w G hd hc he
def X2_endOf_L44 (M : Wo) (a0 : Nat) (a3 : Nat) (t0 : Int32) : Option Int32 :=
  (gI M a3 4 1).bind fun v17 => (wloop (un1 (X2_endOf_b52 M a0 a3 t0)) FU v17).bind fun v31 => some v31
theorem X2_endOf_L44_w {X : Cx} (G : Gd X yX2_endOf cX2_endOf wsX2_endOf 7 (some .int) rX2_endOf) {M : Wo} {a0 : Nat} {a3 : Nat} {t0 : Int32} {o : Int32} (hd : X2_endOf_L44 M a0 a3 t0 = some o) (hQ : Qi X o M 0 0) : Pt X 0 0 44 M [(0, .ref a0), (3, .ref a3)] [.int t0] := by
  unfold X2_endOf_L44 at hd
  refine pt_istore G [(5, .int t0), (0, .ref a0), (3, .ref a3)] dX2_endOf_44 (by decide) rfl ?_
  refine pt_aload_n G 2 dX2_endOf_46 rfl rfl ?_
  obtain ⟨v17, h18, hd⟩ := bnd hd
  refine pt_get G (ci := 4) (j := 1) rfl (by decide) u_X2_endOf_X4 m_X2_endOf_3 (gI_o h18) dX2_endOf_47 ?_
  refine pt_istore G [(6, .int v17), (5, .int t0), (0, .ref a0), (3, .ref a3)] dX2_endOf_50 (by decide) rfl ?_
  obtain ⟨v31, hw32, hd⟩ := bnd hd
  refine pt_sub [2, 3, 1, 0] rfl (X2_endOf_w52_w G _ _ _ hw32 ?_)
  show Pt X 0 0 _ _ _ []
  refine pt_iload G 0 dX2_endOf_84 rfl ?_
  cases hd
  exact pt_iret G hQ dX2_endOf_86
def X2_endOf (M : Wo) (a0 : Nat) (a1 : Nat) (x2 : Int32) : Option Int32 :=
  (ckO M a0 2).bind fun _ => (gR M a1 6 1).bind fun w1 => (lR M 3 w1 x2).bind fun w3 => (gI M w3 4 0).bind fun v5 => (gI M w3 4 1).bind fun v7 => (X6_firstMoveFrom M a1 v5 (v7 + (1 : Int32))).bind fun v10 => if 0 ≤ v10 then ((gR M a1 6 1).bind fun w11 => (lR M 3 w11 v10).bind fun w13 => (gI M w13 4 1).bind fun v15 => X2_endOf_L44 M a0 w3 v15) else (X2_endOf_L44 M a0 w3 (300 : Int32))
theorem X2_endOf_w {X : Cx} (G : Gd X yX2_endOf cX2_endOf wsX2_endOf 7 (some .int) rX2_endOf) {M : Wo} {a0 : Nat} {a1 : Nat} {x2 : Int32} {o : Int32} (hd : X2_endOf M a0 a1 x2 = some o) (hQ : Qi X o M 0 0) : Pt X 0 0 0 M [(0, .ref a0), (1, .ref a1), (2, .int x2)] [] := by
  unfold X2_endOf at hd
  obtain ⟨_, _, hd⟩ := bnd hd
  refine pt_aload_n G 1 dX2_endOf_0 rfl rfl ?_
  obtain ⟨w1, h2, hd⟩ := bnd hd
  refine pt_get G (ci := 6) (j := 1) rfl (by decide) u_X2_endOf_X6 m_X2_endOf_1 (gR_o h2) dX2_endOf_1 ?_
  refine pt_iload_n G 2 dX2_endOf_4 rfl rfl ?_
  obtain ⟨w3, h4, hd⟩ := bnd hd
  refine pt_aald G (kd := 3) rfl rfl h4 dX2_endOf_5 ?_
  refine pt_astore_n G [(3, .ref w3), (0, .ref a0), (1, .ref a1), (2, .int x2)] dX2_endOf_6 rfl (by decide) rfl ?_
  refine pt_aload_n G 2 dX2_endOf_7 rfl rfl ?_
  refine pt_aload_n G 0 dX2_endOf_8 rfl rfl ?_
  obtain ⟨v5, h6, hd⟩ := bnd hd
  refine pt_get G (ci := 4) (j := 0) rfl (by decide) u_X2_endOf_X4 m_X2_endOf_2 (gI_o h6) dX2_endOf_9 ?_
  refine pt_aload_n G 0 dX2_endOf_12 rfl rfl ?_
  obtain ⟨v7, h8, hd⟩ := bnd hd
  refine pt_get G (ci := 4) (j := 1) rfl (by decide) u_X2_endOf_X4 m_X2_endOf_3 (gI_o h8) dX2_endOf_13 ?_
  refine pt_iconst G (1 : Int32) dX2_endOf_16 ci_1 ?_
  refine pt_iadd G dX2_endOf_17 ?_
  obtain ⟨v10, h9, hd⟩ := bnd hd
  refine X6_firstMoveFrom_v G gX2_endOf_X6_firstMoveFrom ⟨(Nat.le_of_ble_eq_true rfl), (Nat.le_of_ble_eq_true rfl)⟩ h9 dX2_endOf_18 (Nat.le_of_ble_eq_true rfl) ⟨(Nat.le_of_ble_eq_true rfl), (Nat.le_of_ble_eq_true rfl)⟩ ?_
  refine pt_istore G [(4, .int v10), (3, .ref w3), (0, .ref a0), (1, .ref a1), (2, .int x2)] dX2_endOf_21 (by decide) rfl ?_
  refine pt_iload G 0 dX2_endOf_23 rfl ?_
  refine pt_if_ge G 34 dX2_endOf_25 (by decide) (fun c33 => ?_) (fun c33 => ?_)
  · replace hd := ifp c33 hd
    refine pt_aload_n G 3 dX2_endOf_34 rfl rfl ?_
    obtain ⟨w11, h12, hd⟩ := bnd hd
    refine pt_get G (ci := 6) (j := 1) rfl (by decide) u_X2_endOf_X6 m_X2_endOf_1 (gR_o h12) dX2_endOf_35 ?_
    refine pt_iload G 0 dX2_endOf_38 rfl ?_
    obtain ⟨w13, h14, hd⟩ := bnd hd
    refine pt_aald G (kd := 3) rfl rfl h14 dX2_endOf_40 ?_
    obtain ⟨v15, h16, hd⟩ := bnd hd
    refine pt_get G (ci := 4) (j := 1) rfl (by decide) u_X2_endOf_X4 m_X2_endOf_3 (gI_o h16) dX2_endOf_41 ?_
    exact pt_sub [2, 1] rfl (X2_endOf_L44_w G hd hQ)
  · replace hd := ifn c33 hd
    refine pt_sipush G (300 : Int32) dX2_endOf_28 si_300 ?_
    refine pt_goto G 44 dX2_endOf_31 (by decide) ?_
    exact pt_sub [2, 1] rfl (X2_endOf_L44_w G hd hQ)
theorem X2_endOf_c {l : Launch} {D : va_G} {dA : Nat → ClassId} {b : Nat} {M : Wo} {a0 : Nat} {a1 : Nat} {x2 : Int32} {r : Int32} (h : X2_endOf M a0 a1 x2 = some r) : Met l yX2_endOf wsX2_endOf rX2_endOf (va_Pc [.ref a0, .ref a1, .int x2] (Wd D dA b M)) (Ei D dA b r M) 0 0 (Ab b) := met_i (by decide) rfl (Nat.le_of_ble_eq_true rfl) (fun X G hN hQ => X2_endOf_w G h hQ)
theorem X2_endOf_v {X : Cx} {y : MethodName} {cc : ByteArray} {Ts : List Cond} {nL : Nat} {ret : Option FieldType} {R : Room} (G : Gd X y cc Ts nL ret R) {index : Nat} (hg : GoodIn Ts (wsV y.cls index RX2 yX2_endOf wsX2_endOf)) (hR : rX2_endOf.frames + 1 ≤ R.frames ∧ 8 + (7 + 11) + rX2_endOf.locals ≤ R.locals) {k n pc : Nat} {M : Wo} {lv : List (Nat × Value)} {st : List Value} {a0 : Nat} {a1 : Nat} {x2 : Int32} {r : Int32} (hv : X2_endOf M a0 a1 x2 = some r) (hd : decode cc pc = .ok (.invokevirtual index, 3)) (h8 : (st.map fun v => v.category).sum ≤ 8) (hf : k ≤ R.cells ∧ n ≤ R.slots) (kk : Pt X k n (pc + 3) M lv (.int r :: st)) : Pt X k n pc M lv (.int x2 :: .ref a1 :: .ref a0 :: st) := pt_cVi (ci := 2) (nA := 2) (As := [.ref a1, .int x2]) G (X2_endOf_c hv) hg rfl rfl rfl (by decide +kernel) hR rfl (rcv hv) rfl rfl h8 hd hf kk
abbrev rX2_init : Room := { frames := 1, cells := 11, slots := 3020, locals := 60 }
theorem m_X2_init_6 : Cond.fieldLink RX2 11 "StageLines$Flight" "heights" "[[I" ∈ wsX2_init := List.mem_of_getElem? (i := 6) rfl
theorem u_X2_init_X2 : ∀ w ∈ u_ws RX2 TX2 1, w ∈ wsX2_init := mem_r [7] (by decide +kernel)
theorem m_X2_init_4 : Cond.classLink RX2 9 "[[I" ∈ wsX2_init := List.mem_of_getElem? (i := 4) rfl
theorem m_X2_init_5 : Cond.arrayClass .int ∈ wsX2_init := List.mem_of_getElem? (i := 5) rfl
theorem m_X2_init_1 : Cond.methodLink RX2 3 objectInit ∈ wsX2_init := List.mem_of_getElem? (i := 1) rfl
theorem m_X2_init_2 : Cond.instanceMethod objectInit ∈ wsX2_init := List.mem_of_getElem? (i := 2) rfl
theorem m_X2_init_3 : Cond.code objectInit ⟨#[0xb1]⟩ 1 none ∈ wsX2_init := List.mem_of_getElem? (i := 3) rfl
def X2_init (M : Wo) (a0 : Nat) : Option Wo :=
  (ckO M a0 2).bind fun _ => (nwM M 10 301).bind (un2 fun w1 M2 => (pV M2 a0 2 0 (.ref w1)).bind fun M4 => some M4)
theorem X2_init_w {X : Cx} (G : Gd X yX2_init cX2_init wsX2_init 1 none rX2_init) (hN : (xT X).name = "<init>") {M : Wo} {a0 : Nat} {o : Wo} (hd : X2_init M a0 = some o) (hQ : Qv X o 11 3020) : Pt X 0 0 0 M [(0, .ref a0)] [] := by
  unfold X2_init at hd
  obtain ⟨_, _, hd⟩ := bnd hd
  refine pt_aload_n G 0 dX2_init_0 rfl rfl ?_
  refine pt_obj G m_X2_init_1 m_X2_init_2 m_X2_init_3 (Nat.le_of_ble_eq_true rfl) (Nat.le_of_ble_eq_true rfl) dX2_init_1 ?_
  refine pt_aload_n G 0 dX2_init_4 rfl rfl ?_
  refine pt_bipush G (10 : Int32) dX2_init_5 bi_10 ?_
  refine pt_sipush G (301 : Int32) dX2_init_7 si_301 ?_
  obtain ⟨⟨w1, M2⟩, h3, hd⟩ := bnd hd
  replace hd := un2_e hd
  refine pt_mnaE G (N := 10) (K := 301) m_X2_init_4 m_X2_init_5 (by decide) (by decide) (by decide) (by decide) (by decide) (by decide) (by decide) (by decide) (by decide) h3 dX2_init_10 ?_
  obtain ⟨M4, h5, hd⟩ := bnd hd
  refine pt_putF G hN (ci := 2) (j := 0) rfl (by decide) u_X2_init_X2 m_X2_init_6 tyX2 tyX2_ok nmX2 rfl rfl rfl rfl h5 dX2_init_14 ?_
  cases hd
  exact pt_vret G hQ dX2_init_17
theorem X2_init_c {l : Launch} {D : va_G} {dA : Nat → ClassId} {b : Nat} {M : Wo} {a0 : Nat} {M2 : Wo} (h : X2_init M a0 = some M2) : Met l yX2_init wsX2_init rX2_init (va_Pc [.ref a0] (Wd D dA b M)) (Ev D dA b M2) 11 3020 (Ab b) := met_v (by decide) rfl (Nat.le_of_ble_eq_true rfl) (fun X G hN hQ => X2_init_w G hN h hQ)
theorem X2_init_vi {X : Cx} {y : MethodName} {cc : ByteArray} {Ts : List Cond} {nL : Nat} {ret : Option FieldType} {R : Room} (G : Gd X y cc Ts nL ret R) {index : Nat} (hg : GoodIn Ts wsX2_init) (hini : Cond.initialized yX2_init.cls ∈ Ts) (hl : Cond.methodLink y.cls index yX2_init ∈ Ts) (hi : Cond.instanceMethod yX2_init ∈ Ts) (hR : rX2_init.frames + 1 ≤ R.frames ∧ 8 + (1 + 11) + rX2_init.locals ≤ R.locals) {k n pc : Nat} {M : Wo} {lv : List (Nat × Value)} {st : List Value} {a0 : Nat} {M2 : Wo} (hv : X2_init M a0 = some M2) (hd : decode cc pc = .ok (.invokespecial index, 3)) (h8 : (st.map fun v => v.category).sum ≤ 8) (hf : k + 11 ≤ R.cells ∧ n + 3020 ≤ R.slots) (kk : Pt X (k + 11) (n + 3020) (pc + 3) M2 lv st) : Pt X k n pc M lv (.ref a0 :: st) := pt_cI (nA := 0) (As := []) G (X2_init_c hv) hg rfl rfl rfl hini hl hi rfl (by decide +kernel) hR rfl rfl h8 hd hf kk
theorem X2_init_vn {X : Cx} {y : MethodName} {cc : ByteArray} {Ts : List Cond} {nL : Nat} {ret : Option FieldType} {R : Room} (G : Gd X y cc Ts nL ret R) {index : Nat} (hg : GoodIn Ts wsX2_init) (hini : Cond.initialized yX2_init.cls ∈ Ts) (hl : va_Nw (.methodLinkNest y.cls index yX2_init "StageLines") (xS X)) (hi : Cond.instanceMethod yX2_init ∈ Ts) (hR : rX2_init.frames + 1 ≤ R.frames ∧ 8 + (1 + 11) + rX2_init.locals ≤ R.locals) {k n pc : Nat} {M : Wo} {lv : List (Nat × Value)} {st : List Value} {a0 : Nat} {M2 : Wo} (hv : X2_init M a0 = some M2) (hd : decode cc pc = .ok (.invokespecial index, 3)) (h8 : (st.map fun v => v.category).sum ≤ 8) (hf : k + 11 ≤ R.cells ∧ n + 3020 ≤ R.slots) (kk : Pt X (k + 11) (n + 3020) (pc + 3) M2 lv st) : Pt X k n pc M lv (.ref a0 :: st) := pt_cN (nA := 0) (As := []) G (X2_init_c hv) hg rfl rfl rfl hini hl hi rfl (by decide +kernel) hR rfl rfl h8 hd hf kk
abbrev rX2_canStrike : Room := { frames := 2, cells := 0, slots := 0, locals := 82 }
theorem m_X2_canStrike_2 : Cond.fieldLink RX2 22 "StageLines$Bar" "settings" "[I" ∈ wsX2_canStrike := List.mem_of_getElem? (i := 2) rfl
theorem u_X2_canStrike_X0 : ∀ w ∈ u_ws RX0 TX0 3, w ∈ wsX2_canStrike := mem_r [18, 19, 20] (by decide +kernel)
theorem m_X2_canStrike_1 : Cond.fieldLink RX2 16 "StageLines$Stage" "bars" "[LStageLines$Bar;" ∈ wsX2_canStrike := List.mem_of_getElem? (i := 1) rfl
theorem u_X2_canStrike_X6 : ∀ w ∈ u_ws RX6 TX6 4, w ∈ wsX2_canStrike := mem_r [14, 15, 16, 17] (by decide +kernel)
def X2_canStrike_L33 (M : Wo) (a1 : Nat) (x2 : Int32) (x3 : Int32) (t0 : Int32) : Option Int32 :=
  if t0 = 0 then (some (0 : Int32)) else ((X6_areNear M a1 x2 x3).bind fun v10 => if v10 = 0 then (some (0 : Int32)) else (some (1 : Int32)))
theorem X2_canStrike_L33_w {X : Cx} (G : Gd X yX2_canStrike cX2_canStrike wsX2_canStrike 5 (some .boolean) rX2_canStrike) {M : Wo} {a1 : Nat} {x2 : Int32} {x3 : Int32} {t0 : Int32} {o : Int32} (hd : X2_canStrike_L33 M a1 x2 x3 t0 = some o) (hQ : Qi X o M 0 0) : Pt X 0 0 33 M [(1, .ref a1), (2, .int x2), (3, .int x3)] [.int t0] := by
  unfold X2_canStrike_L33 at hd
  refine pt_istore G [(4, .int t0), (1, .ref a1), (2, .int x2), (3, .int x3)] dX2_canStrike_33 (by decide) rfl ?_
  refine pt_iload G 0 dX2_canStrike_35 rfl ?_
  refine pt_if_eq G 53 dX2_canStrike_37 (by decide) (fun c12 => ?_) (fun c12 => ?_)
  · replace hd := ifp c12 hd
    refine pt_iconst G (0 : Int32) dX2_canStrike_53 ci_0 ?_
    cases hd
    exact pt_zret G (by decide) hQ dX2_canStrike_54
  · replace hd := ifn c12 hd
    refine pt_aload_n G 1 dX2_canStrike_40 rfl rfl ?_
    refine pt_iload_n G 2 dX2_canStrike_41 rfl rfl ?_
    refine pt_iload_n G 3 dX2_canStrike_42 rfl rfl ?_
    obtain ⟨v10, h9, hd⟩ := bnd hd
    refine X6_areNear_v G gX2_canStrike_X6_areNear ⟨(Nat.le_of_ble_eq_true rfl), (Nat.le_of_ble_eq_true rfl)⟩ h9 dX2_canStrike_43 (Nat.le_of_ble_eq_true rfl) ⟨(Nat.le_of_ble_eq_true rfl), (Nat.le_of_ble_eq_true rfl)⟩ ?_
    refine pt_if_eq G 53 dX2_canStrike_46 (by decide) (fun c11 => ?_) (fun c11 => ?_)
    · replace hd := ifp c11 hd
      refine pt_iconst G (0 : Int32) dX2_canStrike_53 ci_0 ?_
      cases hd
      exact pt_zret G (by decide) hQ dX2_canStrike_54
    · replace hd := ifn c11 hd
      refine pt_iconst G (1 : Int32) dX2_canStrike_49 ci_1 ?_
      refine pt_goto G 54 dX2_canStrike_50 (by decide) ?_
      cases hd
      exact pt_zret G (by decide) hQ dX2_canStrike_54
def X2_canStrike_L32 (M : Wo) (a1 : Nat) (x2 : Int32) (x3 : Int32) : Option Int32 :=
  X2_canStrike_L33 M a1 x2 x3 (0 : Int32)
theorem X2_canStrike_L32_w {X : Cx} (G : Gd X yX2_canStrike cX2_canStrike wsX2_canStrike 5 (some .boolean) rX2_canStrike) {M : Wo} {a1 : Nat} {x2 : Int32} {x3 : Int32} {o : Int32} (hd : X2_canStrike_L32 M a1 x2 x3 = some o) (hQ : Qi X o M 0 0) : Pt X 0 0 32 M [(1, .ref a1), (2, .int x2), (3, .int x3)] [] := by
  unfold X2_canStrike_L32 at hd
  refine pt_iconst G (0 : Int32) dX2_canStrike_32 ci_0 ?_
  exact pt_sub [0, 1, 2] rfl (X2_canStrike_L33_w G hd hQ)
def X2_canStrike (M : Wo) (a0 : Nat) (a1 : Nat) (x2 : Int32) (x3 : Int32) : Option Int32 :=
  (ckO M a0 2).bind fun _ => (gR M a1 6 0).bind fun w1 => (lR M 2 w1 x2).bind fun w3 => (gR M w3 0 0).bind fun w5 => (lA M 0 w5 (1 : Int32)).bind fun v7 => if v7 ≤ 0 then (X2_canStrike_L32 M a1 x2 x3) else ((gR M a1 6 0).bind fun w13 => (lR M 2 w13 x3).bind fun w15 => (gR M w15 0 0).bind fun w17 => (lA M 0 w17 (1 : Int32)).bind fun v19 => if v19 ≤ 0 then (X2_canStrike_L32 M a1 x2 x3) else (X2_canStrike_L33 M a1 x2 x3 (1 : Int32)))
theorem X2_canStrike_w {X : Cx} (G : Gd X yX2_canStrike cX2_canStrike wsX2_canStrike 5 (some .boolean) rX2_canStrike) {M : Wo} {a0 : Nat} {a1 : Nat} {x2 : Int32} {x3 : Int32} {o : Int32} (hd : X2_canStrike M a0 a1 x2 x3 = some o) (hQ : Qi X o M 0 0) : Pt X 0 0 0 M [(0, .ref a0), (1, .ref a1), (2, .int x2), (3, .int x3)] [] := by
  unfold X2_canStrike at hd
  obtain ⟨_, _, hd⟩ := bnd hd
  refine pt_aload_n G 1 dX2_canStrike_0 rfl rfl ?_
  obtain ⟨w1, h2, hd⟩ := bnd hd
  refine pt_get G (ci := 6) (j := 0) rfl (by decide) u_X2_canStrike_X6 m_X2_canStrike_1 (gR_o h2) dX2_canStrike_1 ?_
  refine pt_iload_n G 2 dX2_canStrike_4 rfl rfl ?_
  obtain ⟨w3, h4, hd⟩ := bnd hd
  refine pt_aald G (kd := 2) rfl rfl h4 dX2_canStrike_5 ?_
  obtain ⟨w5, h6, hd⟩ := bnd hd
  refine pt_get G (ci := 0) (j := 0) rfl (by decide) u_X2_canStrike_X0 m_X2_canStrike_2 (gR_o h6) dX2_canStrike_6 ?_
  refine pt_iconst G (1 : Int32) dX2_canStrike_9 ci_1 ?_
  obtain ⟨v7, h8, hd⟩ := bnd hd
  refine pt_iald G h8 dX2_canStrike_10 ?_
  refine pt_if_le G 32 dX2_canStrike_11 (by decide) (fun c22 => ?_) (fun c22 => ?_)
  · replace hd := ifp c22 hd
    exact pt_sub [1, 2, 3] rfl (X2_canStrike_L32_w G hd hQ)
  · replace hd := ifn c22 hd
    refine pt_aload_n G 1 dX2_canStrike_14 rfl rfl ?_
    obtain ⟨w13, h14, hd⟩ := bnd hd
    refine pt_get G (ci := 6) (j := 0) rfl (by decide) u_X2_canStrike_X6 m_X2_canStrike_1 (gR_o h14) dX2_canStrike_15 ?_
    refine pt_iload_n G 3 dX2_canStrike_18 rfl rfl ?_
    obtain ⟨w15, h16, hd⟩ := bnd hd
    refine pt_aald G (kd := 2) rfl rfl h16 dX2_canStrike_19 ?_
    obtain ⟨w17, h18, hd⟩ := bnd hd
    refine pt_get G (ci := 0) (j := 0) rfl (by decide) u_X2_canStrike_X0 m_X2_canStrike_2 (gR_o h18) dX2_canStrike_20 ?_
    refine pt_iconst G (1 : Int32) dX2_canStrike_23 ci_1 ?_
    obtain ⟨v19, h20, hd⟩ := bnd hd
    refine pt_iald G h20 dX2_canStrike_24 ?_
    refine pt_if_le G 32 dX2_canStrike_25 (by decide) (fun c21 => ?_) (fun c21 => ?_)
    · replace hd := ifp c21 hd
      exact pt_sub [1, 2, 3] rfl (X2_canStrike_L32_w G hd hQ)
    · replace hd := ifn c21 hd
      refine pt_iconst G (1 : Int32) dX2_canStrike_28 ci_1 ?_
      refine pt_goto G 33 dX2_canStrike_29 (by decide) ?_
      exact pt_sub [1, 2, 3] rfl (X2_canStrike_L33_w G hd hQ)
theorem X2_canStrike_c {l : Launch} {D : va_G} {dA : Nat → ClassId} {b : Nat} {M : Wo} {a0 : Nat} {a1 : Nat} {x2 : Int32} {x3 : Int32} {r : Int32} (h : X2_canStrike M a0 a1 x2 x3 = some r) : Met l yX2_canStrike wsX2_canStrike rX2_canStrike (va_Pc [.ref a0, .ref a1, .int x2, .int x3] (Wd D dA b M)) (Ei D dA b r M) 0 0 (Ab b) := met_i (by decide) rfl (Nat.le_of_ble_eq_true rfl) (fun X G hN hQ => X2_canStrike_w G h hQ)
theorem X2_canStrike_v {X : Cx} {y : MethodName} {cc : ByteArray} {Ts : List Cond} {nL : Nat} {ret : Option FieldType} {R : Room} (G : Gd X y cc Ts nL ret R) {index : Nat} (hg : GoodIn Ts (wsV y.cls index RX2 yX2_canStrike wsX2_canStrike)) (hR : rX2_canStrike.frames + 1 ≤ R.frames ∧ 8 + (5 + 11) + rX2_canStrike.locals ≤ R.locals) {k n pc : Nat} {M : Wo} {lv : List (Nat × Value)} {st : List Value} {a0 : Nat} {a1 : Nat} {x2 : Int32} {x3 : Int32} {r : Int32} (hv : X2_canStrike M a0 a1 x2 x3 = some r) (hd : decode cc pc = .ok (.invokevirtual index, 3)) (h8 : (st.map fun v => v.category).sum ≤ 8) (hf : k ≤ R.cells ∧ n ≤ R.slots) (kk : Pt X k n (pc + 3) M lv (.int r :: st)) : Pt X k n pc M lv (.int x3 :: .int x2 :: .ref a1 :: .ref a0 :: st) := pt_cVi (ci := 2) (nA := 3) (As := [.ref a1, .int x2, .int x3]) G (X2_canStrike_c hv) hg rfl rfl rfl (by decide +kernel) hR rfl (rcv hv) rfl rfl h8 hd hf kk
abbrev rX2_overlap : Room := { frames := 1, cells := 0, slots := 0, locals := 60 }
theorem m_X2_overlap_4 : Cond.methodLink RX2 60 Lib.Math.max.name ∈ wsX2_overlap := List.mem_of_getElem? (i := 4) rfl
theorem m_X2_overlap_5 : Cond.static Lib.Math.max.name ∈ wsX2_overlap := List.mem_of_getElem? (i := 5) rfl
theorem m_X2_overlap_6 : Cond.initialized "java/lang/Math" ∈ wsX2_overlap := List.mem_of_getElem? (i := 6) rfl
theorem m_X2_overlap_7 : Cond.code Lib.Math.max.name Lib.Math.max.code 2 (some .int) ∈ wsX2_overlap := List.mem_of_getElem? (i := 7) rfl
theorem m_X2_overlap_8 : Cond.methodLink RX2 65 Lib.Math.min.name ∈ wsX2_overlap := List.mem_of_getElem? (i := 8) rfl
theorem m_X2_overlap_9 : Cond.static Lib.Math.min.name ∈ wsX2_overlap := List.mem_of_getElem? (i := 9) rfl
theorem m_X2_overlap_10 : Cond.code Lib.Math.min.name Lib.Math.min.code 2 (some .int) ∈ wsX2_overlap := List.mem_of_getElem? (i := 10) rfl
theorem m_X2_overlap_3 : Cond.fieldLink RX2 22 "StageLines$Bar" "settings" "[I" ∈ wsX2_overlap := List.mem_of_getElem? (i := 3) rfl
theorem u_X2_overlap_X0 : ∀ w ∈ u_ws RX0 TX0 3, w ∈ wsX2_overlap := mem_r [16, 17, 18] (by decide +kernel)
theorem m_X2_overlap_2 : Cond.fieldLink RX2 16 "StageLines$Stage" "bars" "[LStageLines$Bar;" ∈ wsX2_overlap := List.mem_of_getElem? (i := 2) rfl
theorem u_X2_overlap_X6 : ∀ w ∈ u_ws RX6 TX6 4, w ∈ wsX2_overlap := mem_r [12, 13, 14, 15] (by decide +kernel)
theorem m_X2_overlap_1 : Cond.fieldLink RX2 11 "StageLines$Flight" "heights" "[[I" ∈ wsX2_overlap := List.mem_of_getElem? (i := 1) rfl
theorem u_X2_overlap_X2 : ∀ w ∈ u_ws RX2 TX2 1, w ∈ wsX2_overlap := mem_r [11] (by decide +kernel)
def X2_overlap (M : Wo) (a0 : Nat) (a1 : Nat) (x2 : Int32) (x3 : Int32) (x4 : Int32) : Option Int32 :=
  (ckO M a0 2).bind fun _ => (gR M a0 2 0).bind fun w1 => (lR M 5 w1 x2).bind fun w3 => (lA M 0 w3 x4).bind fun v5 => (gR M a0 2 0).bind fun w7 => (lR M 5 w7 x3).bind fun w9 => (lA M 0 w9 x4).bind fun v11 => (gR M a1 6 0).bind fun w13 => (lR M 2 w13 x2).bind fun w15 => (gR M w15 0 0).bind fun w17 => (lA M 0 w17 (1 : Int32)).bind fun v19 => (gR M a1 6 0).bind fun w21 => (lR M 2 w21 x3).bind fun w23 => (gR M w23 0 0).bind fun w25 => (lA M 0 w25 (1 : Int32)).bind fun v27 => if (iMin v5 v11) ≤ (iMax (v5 - v19) (v11 - v27)) then (some (0 : Int32)) else (some (1 : Int32))
theorem X2_overlap_w {X : Cx} (G : Gd X yX2_overlap cX2_overlap wsX2_overlap 9 (some .boolean) rX2_overlap) {M : Wo} {a0 : Nat} {a1 : Nat} {x2 : Int32} {x3 : Int32} {x4 : Int32} {o : Int32} (hd : X2_overlap M a0 a1 x2 x3 x4 = some o) (hQ : Qi X o M 0 0) : Pt X 0 0 0 M [(0, .ref a0), (1, .ref a1), (2, .int x2), (3, .int x3), (4, .int x4)] [] := by
  unfold X2_overlap at hd
  obtain ⟨_, _, hd⟩ := bnd hd
  refine pt_aload_n G 0 dX2_overlap_0 rfl rfl ?_
  obtain ⟨w1, h2, hd⟩ := bnd hd
  refine pt_get G (ci := 2) (j := 0) rfl (by decide) u_X2_overlap_X2 m_X2_overlap_1 (gR_o h2) dX2_overlap_1 ?_
  refine pt_iload_n G 2 dX2_overlap_4 rfl rfl ?_
  obtain ⟨w3, h4, hd⟩ := bnd hd
  refine pt_aald G (kd := 5) rfl rfl h4 dX2_overlap_5 ?_
  refine pt_iload G 4 dX2_overlap_6 rfl ?_
  obtain ⟨v5, h6, hd⟩ := bnd hd
  refine pt_iald G h6 dX2_overlap_8 ?_
  refine pt_istore G [(5, .int v5), (0, .ref a0), (1, .ref a1), (2, .int x2), (3, .int x3), (4, .int x4)] dX2_overlap_9 (by decide) rfl ?_
  refine pt_aload_n G 1 dX2_overlap_11 rfl rfl ?_
  obtain ⟨w7, h8, hd⟩ := bnd hd
  refine pt_get G (ci := 2) (j := 0) rfl (by decide) u_X2_overlap_X2 m_X2_overlap_1 (gR_o h8) dX2_overlap_12 ?_
  refine pt_iload_n G 4 dX2_overlap_15 rfl rfl ?_
  obtain ⟨w9, h10, hd⟩ := bnd hd
  refine pt_aald G (kd := 5) rfl rfl h10 dX2_overlap_16 ?_
  refine pt_iload G 5 dX2_overlap_17 rfl ?_
  obtain ⟨v11, h12, hd⟩ := bnd hd
  refine pt_iald G h12 dX2_overlap_19 ?_
  refine pt_istore G [(6, .int v11), (5, .int v5), (0, .ref a0), (1, .ref a1), (2, .int x2), (3, .int x3), (4, .int x4)] dX2_overlap_20 (by decide) rfl ?_
  refine pt_iload G 1 dX2_overlap_22 rfl ?_
  refine pt_aload_n G 3 dX2_overlap_24 rfl rfl ?_
  obtain ⟨w13, h14, hd⟩ := bnd hd
  refine pt_get G (ci := 6) (j := 0) rfl (by decide) u_X2_overlap_X6 m_X2_overlap_2 (gR_o h14) dX2_overlap_25 ?_
  refine pt_iload_n G 4 dX2_overlap_28 rfl rfl ?_
  obtain ⟨w15, h16, hd⟩ := bnd hd
  refine pt_aald G (kd := 2) rfl rfl h16 dX2_overlap_29 ?_
  obtain ⟨w17, h18, hd⟩ := bnd hd
  refine pt_get G (ci := 0) (j := 0) rfl (by decide) u_X2_overlap_X0 m_X2_overlap_3 (gR_o h18) dX2_overlap_30 ?_
  refine pt_iconst G (1 : Int32) dX2_overlap_33 ci_1 ?_
  obtain ⟨v19, h20, hd⟩ := bnd hd
  refine pt_iald G h20 dX2_overlap_34 ?_
  refine pt_isub G dX2_overlap_35 ?_
  refine pt_istore G [(7, .int (v5 - v19)), (6, .int v11), (5, .int v5), (0, .ref a0), (1, .ref a1), (2, .int x2), (3, .int x3), (4, .int x4)] dX2_overlap_36 (by decide) rfl ?_
  refine pt_iload G 1 dX2_overlap_38 rfl ?_
  refine pt_aload_n G 4 dX2_overlap_40 rfl rfl ?_
  obtain ⟨w21, h22, hd⟩ := bnd hd
  refine pt_get G (ci := 6) (j := 0) rfl (by decide) u_X2_overlap_X6 m_X2_overlap_2 (gR_o h22) dX2_overlap_41 ?_
  refine pt_iload_n G 6 dX2_overlap_44 rfl rfl ?_
  obtain ⟨w23, h24, hd⟩ := bnd hd
  refine pt_aald G (kd := 2) rfl rfl h24 dX2_overlap_45 ?_
  obtain ⟨w25, h26, hd⟩ := bnd hd
  refine pt_get G (ci := 0) (j := 0) rfl (by decide) u_X2_overlap_X0 m_X2_overlap_3 (gR_o h26) dX2_overlap_46 ?_
  refine pt_iconst G (1 : Int32) dX2_overlap_49 ci_1 ?_
  obtain ⟨v27, h28, hd⟩ := bnd hd
  refine pt_iald G h28 dX2_overlap_50 ?_
  refine pt_isub G dX2_overlap_51 ?_
  refine pt_istore G [(8, .int (v11 - v27)), (7, .int (v5 - v19)), (6, .int v11), (5, .int v5), (0, .ref a0), (1, .ref a1), (2, .int x2), (3, .int x3), (4, .int x4)] dX2_overlap_52 (by decide) rfl ?_
  refine pt_iload G 1 dX2_overlap_54 rfl ?_
  refine pt_iload G 0 dX2_overlap_56 rfl ?_
  refine pt_mmax G m_X2_overlap_4 m_X2_overlap_5 m_X2_overlap_6 m_X2_overlap_7 (Nat.le_of_ble_eq_true rfl) (Nat.le_of_ble_eq_true rfl) ⟨(Nat.le_of_ble_eq_true rfl), (Nat.le_of_ble_eq_true rfl)⟩ dX2_overlap_58 ?_
  refine pt_iload G 3 dX2_overlap_61 rfl ?_
  refine pt_iload G 2 dX2_overlap_63 rfl ?_
  refine pt_mmin G m_X2_overlap_8 m_X2_overlap_9 m_X2_overlap_6 m_X2_overlap_10 (Nat.le_of_ble_eq_true rfl) (Nat.le_of_ble_eq_true rfl) ⟨(Nat.le_of_ble_eq_true rfl), (Nat.le_of_ble_eq_true rfl)⟩ dX2_overlap_65 ?_
  refine pt_icmp_ge G 75 dX2_overlap_68 (by decide) (fun c29 => ?_) (fun c29 => ?_)
  · replace hd := ifp c29 hd
    refine pt_iconst G (0 : Int32) dX2_overlap_75 ci_0 ?_
    cases hd
    exact pt_zret G (by decide) hQ dX2_overlap_76
  · replace hd := ifn c29 hd
    refine pt_iconst G (1 : Int32) dX2_overlap_71 ci_1 ?_
    refine pt_goto G 76 dX2_overlap_72 (by decide) ?_
    cases hd
    exact pt_zret G (by decide) hQ dX2_overlap_76
theorem X2_overlap_c {l : Launch} {D : va_G} {dA : Nat → ClassId} {b : Nat} {M : Wo} {a0 : Nat} {a1 : Nat} {x2 : Int32} {x3 : Int32} {x4 : Int32} {r : Int32} (h : X2_overlap M a0 a1 x2 x3 x4 = some r) : Met l yX2_overlap wsX2_overlap rX2_overlap (va_Pc [.ref a0, .ref a1, .int x2, .int x3, .int x4] (Wd D dA b M)) (Ei D dA b r M) 0 0 (Ab b) := met_i (by decide) rfl (Nat.le_of_ble_eq_true rfl) (fun X G hN hQ => X2_overlap_w G h hQ)
theorem X2_overlap_v {X : Cx} {y : MethodName} {cc : ByteArray} {Ts : List Cond} {nL : Nat} {ret : Option FieldType} {R : Room} (G : Gd X y cc Ts nL ret R) {index : Nat} (hg : GoodIn Ts (wsV y.cls index RX2 yX2_overlap wsX2_overlap)) (hR : rX2_overlap.frames + 1 ≤ R.frames ∧ 8 + (9 + 11) + rX2_overlap.locals ≤ R.locals) {k n pc : Nat} {M : Wo} {lv : List (Nat × Value)} {st : List Value} {a0 : Nat} {a1 : Nat} {x2 : Int32} {x3 : Int32} {x4 : Int32} {r : Int32} (hv : X2_overlap M a0 a1 x2 x3 x4 = some r) (hd : decode cc pc = .ok (.invokevirtual index, 3)) (h8 : (st.map fun v => v.category).sum ≤ 8) (hf : k ≤ R.cells ∧ n ≤ R.slots) (kk : Pt X k n (pc + 3) M lv (.int r :: st)) : Pt X k n pc M lv (.int x4 :: .int x3 :: .int x2 :: .ref a1 :: .ref a0 :: st) := pt_cVi (ci := 2) (nA := 4) (As := [.ref a1, .int x2, .int x3, .int x4]) G (X2_overlap_c hv) hg rfl rfl rfl (by decide +kernel) hR rfl (rcv hv) rfl rfl h8 hd hf kk
abbrev rX2_firstStrike : Room := { frames := 3, cells := 0, slots := 0, locals := 106 }
abbrev X2_firstStrike_P17 (X : Cx) (M : Wo) (a0 : Nat) (a1 : Nat) (x2 : Int32) (x3 : Int32) (x5 : Int32) : Int32 → Prop := un1 (fun x6 => Pt X 0 0 17 M [(0, .ref a0), (1, .ref a1), (2, .int x2), (3, .int x3), (5, .int x5), (6, .int x6)] [])
abbrev X2_firstStrike_Z17 (X : Cx) (M : Wo) (a0 : Nat) (a1 : Nat) (x2 : Int32) (x3 : Int32) (x5 : Int32) : (Int32 ⊕ Unit) → Prop := (sOf (un1 (fun x6 => Pt X 0 0 36 M [(6, .int x6)] [])) (fun (_ : Unit) => Pt X 0 0 45 M [(5, .int x5)] []))
def X2_firstStrike_b17 (M : Wo) (a0 : Nat) (a1 : Nat) (x2 : Int32) (x3 : Int32) (x5 : Int32) (x6 : Int32) : Option (Int32 ⊕ (Int32 ⊕ Unit)) :=
  if x5 ≤ x6 then (some (.inr (.inr ()))) else ((X2_overlap M a0 a1 x2 x3 x6).bind fun v4 => if v4 = 0 then (some (.inl (x6 + 1))) else (some (.inr (.inl x6))))
theorem X2_firstStrike_b17_w {X : Cx} (G : Gd X yX2_firstStrike cX2_firstStrike wsX2_firstStrike 7 (some .int) rX2_firstStrike) {M : Wo} {a0 : Nat} {a1 : Nat} {x2 : Int32} {x3 : Int32} {x5 : Int32} {x6 : Int32} {o : (Int32 ⊕ (Int32 ⊕ Unit))} (hd : X2_firstStrike_b17 M a0 a1 x2 x3 x5 x6 = some o) (hc : ∀ s9, o = .inl s9 → X2_firstStrike_P17 X M a0 a1 x2 x3 x5 s9) (he : ∀ e9, o = .inr e9 → X2_firstStrike_Z17 X M a0 a1 x2 x3 x5 e9) : Pt X 0 0 17 M [(0, .ref a0), (1, .ref a1), (2, .int x2), (3, .int x3), (5, .int x5), (6, .int x6)] [] := by
  unfold X2_firstStrike_b17 at hd
  refine pt_iload G 5 dX2_firstStrike_17 rfl ?_
  refine pt_iload G 4 dX2_firstStrike_19 rfl ?_
  refine pt_icmp_ge G 45 dX2_firstStrike_21 (by decide) (fun c6 => ?_) (fun c6 => ?_)
  · replace hd := ifp c6 hd
    exact pt_sub [4] rfl (he (.inr ()) (Option.some.inj hd).symm)
  · replace hd := ifn c6 hd
    refine pt_aload_n G 0 dX2_firstStrike_24 rfl rfl ?_
    refine pt_aload_n G 1 dX2_firstStrike_25 rfl rfl ?_
    refine pt_iload_n G 2 dX2_firstStrike_26 rfl rfl ?_
    refine pt_iload_n G 3 dX2_firstStrike_27 rfl rfl ?_
    refine pt_iload G 5 dX2_firstStrike_28 rfl ?_
    obtain ⟨v4, h3, hd⟩ := bnd hd
    refine X2_overlap_v G gX2_firstStrike_X2_overlap ⟨(Nat.le_of_ble_eq_true rfl), (Nat.le_of_ble_eq_true rfl)⟩ h3 dX2_firstStrike_30 (Nat.le_of_ble_eq_true rfl) ⟨(Nat.le_of_ble_eq_true rfl), (Nat.le_of_ble_eq_true rfl)⟩ ?_
    refine pt_if_eq G 39 dX2_firstStrike_33 (by decide) (fun c5 => ?_) (fun c5 => ?_)
    · replace hd := ifp c5 hd
      refine pt_iinc G 5 (x6 + 1) [(6, .int (x6 + 1)), (0, .ref a0), (1, .ref a1), (2, .int x2), (3, .int x3), (5, .int x5)] dX2_firstStrike_39 rfl (inc_1 _) (by decide) rfl ?_
      refine pt_goto G 17 dX2_firstStrike_42 (by decide) ?_
      exact pt_sub [1, 2, 3, 4, 5, 0] rfl (hc (x6 + 1) (Option.some.inj hd).symm)
    · replace hd := ifn c5 hd
      exact pt_sub [5] rfl (he (.inl x6) (Option.some.inj hd).symm)
theorem X2_firstStrike_w17_w {X : Cx} (G : Gd X yX2_firstStrike cX2_firstStrike wsX2_firstStrike 7 (some .int) rX2_firstStrike) {M : Wo} {a0 : Nat} {a1 : Nat} {x2 : Int32} {x3 : Int32} {x5 : Int32} (n9 : Nat) (s9 : Int32) (e9 : (Int32 ⊕ Unit)) (hw : wloop (un1 (X2_firstStrike_b17 M a0 a1 x2 x3 x5)) n9 s9 = some e9) (hz : X2_firstStrike_Z17 X M a0 a1 x2 x3 x5 e9) : X2_firstStrike_P17 X M a0 a1 x2 x3 x5 s9 := by
  refine wl_ind (P := X2_firstStrike_P17 X M a0 a1 x2 x3 x5) (Z := X2_firstStrike_Z17 X M a0 a1 x2 x3 x5) ?_ n9 s9 e9 hw hz
  intro s9 o9 hd hc he
  exact X2_firstStrike_b17_w G hd hc he
def X2_firstStrike (M : Wo) (a0 : Nat) (a1 : Nat) (x2 : Int32) (x3 : Int32) (x4 : Int32) (x5 : Int32) : Option Int32 :=
  (ckO M a0 2).bind fun _ => (X2_canStrike M a0 a1 x2 x3).bind fun v2 => if v2 = 0 then (some x5) else ((wloop (un1 (X2_firstStrike_b17 M a0 a1 x2 x3 x5)) FU x4).bind (sOf (fun v7 => some v7) (fun _ => some x5)))
theorem X2_firstStrike_w {X : Cx} (G : Gd X yX2_firstStrike cX2_firstStrike wsX2_firstStrike 7 (some .int) rX2_firstStrike) {M : Wo} {a0 : Nat} {a1 : Nat} {x2 : Int32} {x3 : Int32} {x4 : Int32} {x5 : Int32} {o : Int32} (hd : X2_firstStrike M a0 a1 x2 x3 x4 x5 = some o) (hQ : Qi X o M 0 0) : Pt X 0 0 0 M [(0, .ref a0), (1, .ref a1), (2, .int x2), (3, .int x3), (4, .int x4), (5, .int x5)] [] := by
  unfold X2_firstStrike at hd
  obtain ⟨_, _, hd⟩ := bnd hd
  refine pt_aload_n G 0 dX2_firstStrike_0 rfl rfl ?_
  refine pt_aload_n G 1 dX2_firstStrike_1 rfl rfl ?_
  refine pt_iload_n G 2 dX2_firstStrike_2 rfl rfl ?_
  refine pt_iload_n G 3 dX2_firstStrike_3 rfl rfl ?_
  obtain ⟨v2, h1, hd⟩ := bnd hd
  refine X2_canStrike_v G gX2_firstStrike_X2_canStrike ⟨(Nat.le_of_ble_eq_true rfl), (Nat.le_of_ble_eq_true rfl)⟩ h1 dX2_firstStrike_4 (Nat.le_of_ble_eq_true rfl) ⟨(Nat.le_of_ble_eq_true rfl), (Nat.le_of_ble_eq_true rfl)⟩ ?_
  refine pt_if_ne G 13 dX2_firstStrike_7 (by decide) (fun c10 => ?_) (fun c10 => ?_)
  · replace hd := ifn c10 hd
    refine pt_iload G 4 dX2_firstStrike_13 rfl ?_
    refine pt_istore G [(6, .int x4), (0, .ref a0), (1, .ref a1), (2, .int x2), (3, .int x3), (4, .int x4), (5, .int x5)] dX2_firstStrike_15 (by decide) rfl ?_
    obtain ⟨e9, hw8, hd⟩ := bnd hd
    rcases e9 with v7 | _
    · replace hd := sO_1 hd
      refine pt_sub [1, 2, 3, 4, 6, 0] rfl (X2_firstStrike_w17_w G _ _ _ hw8 ?_)
      show Pt X 0 0 _ _ _ []
      refine pt_iload G 0 dX2_firstStrike_36 rfl ?_
      cases hd
      exact pt_iret G hQ dX2_firstStrike_38
    · replace hd := sO_2 hd
      refine pt_sub [1, 2, 3, 4, 6, 0] rfl (X2_firstStrike_w17_w G _ _ _ hw8 ?_)
      show Pt X 0 0 _ _ _ []
      refine pt_iload G 0 dX2_firstStrike_45 rfl ?_
      cases hd
      exact pt_iret G hQ dX2_firstStrike_47
  · replace hd := ifp c10 hd
    refine pt_iload G 5 dX2_firstStrike_10 rfl ?_
    cases hd
    exact pt_iret G hQ dX2_firstStrike_12
theorem X2_firstStrike_c {l : Launch} {D : va_G} {dA : Nat → ClassId} {b : Nat} {M : Wo} {a0 : Nat} {a1 : Nat} {x2 : Int32} {x3 : Int32} {x4 : Int32} {x5 : Int32} {r : Int32} (h : X2_firstStrike M a0 a1 x2 x3 x4 x5 = some r) : Met l yX2_firstStrike wsX2_firstStrike rX2_firstStrike (va_Pc [.ref a0, .ref a1, .int x2, .int x3, .int x4, .int x5] (Wd D dA b M)) (Ei D dA b r M) 0 0 (Ab b) := met_i (by decide) rfl (Nat.le_of_ble_eq_true rfl) (fun X G hN hQ => X2_firstStrike_w G h hQ)
theorem X2_firstStrike_v {X : Cx} {y : MethodName} {cc : ByteArray} {Ts : List Cond} {nL : Nat} {ret : Option FieldType} {R : Room} (G : Gd X y cc Ts nL ret R) {index : Nat} (hg : GoodIn Ts (wsV y.cls index RX2 yX2_firstStrike wsX2_firstStrike)) (hR : rX2_firstStrike.frames + 1 ≤ R.frames ∧ 8 + (7 + 11) + rX2_firstStrike.locals ≤ R.locals) {k n pc : Nat} {M : Wo} {lv : List (Nat × Value)} {st : List Value} {a0 : Nat} {a1 : Nat} {x2 : Int32} {x3 : Int32} {x4 : Int32} {x5 : Int32} {r : Int32} (hv : X2_firstStrike M a0 a1 x2 x3 x4 x5 = some r) (hd : decode cc pc = .ok (.invokevirtual index, 3)) (h8 : (st.map fun v => v.category).sum ≤ 8) (hf : k ≤ R.cells ∧ n ≤ R.slots) (kk : Pt X k n (pc + 3) M lv (.int r :: st)) : Pt X k n pc M lv (.int x5 :: .int x4 :: .int x3 :: .int x2 :: .ref a1 :: .ref a0 :: st) := pt_cVi (ci := 2) (nA := 5) (As := [.ref a1, .int x2, .int x3, .int x4, .int x5]) G (X2_firstStrike_c hv) hg rfl rfl rfl (by decide +kernel) hR rfl (rcv hv) rfl rfl h8 hd hf kk
abbrev rX2_strikesOf : Room := { frames := 3, cells := 0, slots := 0, locals := 106 }
abbrev X2_strikesOf_P18 (X : Cx) (M : Wo) (a0 : Nat) (a1 : Nat) (x2 : Int32) (x3 : Int32) : (Int32 × Int32) → Prop := un2 (fun x4 x5 => Pt X 0 0 18 M [(0, .ref a0), (1, .ref a1), (2, .int x2), (3, .int x3), (4, .int x4), (5, .int x5)] [])
abbrev X2_strikesOf_Z18 (X : Cx) (M : Wo) (a0 : Nat) (a1 : Nat) (x2 : Int32) (x3 : Int32) : Int32 → Prop := (un1 (fun x4 => Pt X 0 0 47 M [(4, .int x4)] []))
def X2_strikesOf_b18 (M : Wo) (a0 : Nat) (a1 : Nat) (x2 : Int32) (x3 : Int32) (x4 : Int32) (x5 : Int32) : Option ((Int32 × Int32) ⊕ Int32) :=
  if (300 : Int32) < x5 then (some (.inr x4)) else ((X2_overlap M a0 a1 x2 x3 x5).bind fun v4 => if v4 = 0 then (some (.inl (x4, (x5 + 1)))) else (some (.inl ((x4 + 1), (x5 + 1)))))
theorem X2_strikesOf_b18_w {X : Cx} (G : Gd X yX2_strikesOf cX2_strikesOf wsX2_strikesOf 6 (some .int) rX2_strikesOf) {M : Wo} {a0 : Nat} {a1 : Nat} {x2 : Int32} {x3 : Int32} {x4 : Int32} {x5 : Int32} {o : ((Int32 × Int32) ⊕ Int32)} (hd : X2_strikesOf_b18 M a0 a1 x2 x3 x4 x5 = some o) (hc : ∀ s9, o = .inl s9 → X2_strikesOf_P18 X M a0 a1 x2 x3 s9) (he : ∀ e9, o = .inr e9 → X2_strikesOf_Z18 X M a0 a1 x2 x3 e9) : Pt X 0 0 18 M [(0, .ref a0), (1, .ref a1), (2, .int x2), (3, .int x3), (4, .int x4), (5, .int x5)] [] := by
  unfold X2_strikesOf_b18 at hd
  refine pt_iload G 5 dX2_strikesOf_18 rfl ?_
  refine pt_sipush G (300 : Int32) dX2_strikesOf_20 si_300 ?_
  refine pt_icmp_gt G 47 dX2_strikesOf_23 (by decide) (fun c6 => ?_) (fun c6 => ?_)
  · replace hd := ifp c6 hd
    exact pt_sub [4] rfl (he x4 (Option.some.inj hd).symm)
  · replace hd := ifn c6 hd
    refine pt_aload_n G 0 dX2_strikesOf_26 rfl rfl ?_
    refine pt_aload_n G 1 dX2_strikesOf_27 rfl rfl ?_
    refine pt_iload_n G 2 dX2_strikesOf_28 rfl rfl ?_
    refine pt_iload_n G 3 dX2_strikesOf_29 rfl rfl ?_
    refine pt_iload G 5 dX2_strikesOf_30 rfl ?_
    obtain ⟨v4, h3, hd⟩ := bnd hd
    refine X2_overlap_v G gX2_strikesOf_X2_overlap ⟨(Nat.le_of_ble_eq_true rfl), (Nat.le_of_ble_eq_true rfl)⟩ h3 dX2_strikesOf_32 (Nat.le_of_ble_eq_true rfl) ⟨(Nat.le_of_ble_eq_true rfl), (Nat.le_of_ble_eq_true rfl)⟩ ?_
    refine pt_if_eq G 41 dX2_strikesOf_35 (by decide) (fun c5 => ?_) (fun c5 => ?_)
    · replace hd := ifp c5 hd
      refine pt_iinc G 5 (x5 + 1) [(5, .int (x5 + 1)), (0, .ref a0), (1, .ref a1), (2, .int x2), (3, .int x3), (4, .int x4)] dX2_strikesOf_41 rfl (inc_1 _) (by decide) rfl ?_
      refine pt_goto G 18 dX2_strikesOf_44 (by decide) ?_
      exact pt_sub [1, 2, 3, 4, 5, 0] rfl (hc (x4, (x5 + 1)) (Option.some.inj hd).symm)
    · replace hd := ifn c5 hd
      refine pt_iinc G 4 (x4 + 1) [(4, .int (x4 + 1)), (0, .ref a0), (1, .ref a1), (2, .int x2), (3, .int x3), (5, .int x5)] dX2_strikesOf_38 rfl (inc_1 _) (by decide) rfl ?_
      refine pt_iinc G 5 (x5 + 1) [(5, .int (x5 + 1)), (4, .int (x4 + 1)), (0, .ref a0), (1, .ref a1), (2, .int x2), (3, .int x3)] dX2_strikesOf_41 rfl (inc_1 _) (by decide) rfl ?_
      refine pt_goto G 18 dX2_strikesOf_44 (by decide) ?_
      exact pt_sub [2, 3, 4, 5, 1, 0] rfl (hc ((x4 + 1), (x5 + 1)) (Option.some.inj hd).symm)
theorem X2_strikesOf_w18_w {X : Cx} (G : Gd X yX2_strikesOf cX2_strikesOf wsX2_strikesOf 6 (some .int) rX2_strikesOf) {M : Wo} {a0 : Nat} {a1 : Nat} {x2 : Int32} {x3 : Int32} (n9 : Nat) (s9 : (Int32 × Int32)) (e9 : Int32) (hw : wloop (un2 (X2_strikesOf_b18 M a0 a1 x2 x3)) n9 s9 = some e9) (hz : X2_strikesOf_Z18 X M a0 a1 x2 x3 e9) : X2_strikesOf_P18 X M a0 a1 x2 x3 s9 := by
  refine wl_ind (P := X2_strikesOf_P18 X M a0 a1 x2 x3) (Z := X2_strikesOf_Z18 X M a0 a1 x2 x3) ?_ n9 s9 e9 hw hz
  intro s9 o9 hd hc he
  obtain ⟨x4, x5⟩ := s9
  exact X2_strikesOf_b18_w G hd hc he
def X2_strikesOf (M : Wo) (a0 : Nat) (a1 : Nat) (x2 : Int32) (x3 : Int32) : Option Int32 :=
  (ckO M a0 2).bind fun _ => (X2_canStrike M a0 a1 x2 x3).bind fun v2 => if v2 = 0 then (some (0 : Int32)) else ((wloop (un2 (X2_strikesOf_b18 M a0 a1 x2 x3)) FU ((0 : Int32), (0 : Int32))).bind fun v7 => some v7)
theorem X2_strikesOf_w {X : Cx} (G : Gd X yX2_strikesOf cX2_strikesOf wsX2_strikesOf 6 (some .int) rX2_strikesOf) {M : Wo} {a0 : Nat} {a1 : Nat} {x2 : Int32} {x3 : Int32} {o : Int32} (hd : X2_strikesOf M a0 a1 x2 x3 = some o) (hQ : Qi X o M 0 0) : Pt X 0 0 0 M [(0, .ref a0), (1, .ref a1), (2, .int x2), (3, .int x3)] [] := by
  unfold X2_strikesOf at hd
  obtain ⟨_, _, hd⟩ := bnd hd
  refine pt_aload_n G 0 dX2_strikesOf_0 rfl rfl ?_
  refine pt_aload_n G 1 dX2_strikesOf_1 rfl rfl ?_
  refine pt_iload_n G 2 dX2_strikesOf_2 rfl rfl ?_
  refine pt_iload_n G 3 dX2_strikesOf_3 rfl rfl ?_
  obtain ⟨v2, h1, hd⟩ := bnd hd
  refine X2_canStrike_v G gX2_strikesOf_X2_canStrike ⟨(Nat.le_of_ble_eq_true rfl), (Nat.le_of_ble_eq_true rfl)⟩ h1 dX2_strikesOf_4 (Nat.le_of_ble_eq_true rfl) ⟨(Nat.le_of_ble_eq_true rfl), (Nat.le_of_ble_eq_true rfl)⟩ ?_
  refine pt_if_ne G 12 dX2_strikesOf_7 (by decide) (fun c9 => ?_) (fun c9 => ?_)
  · replace hd := ifn c9 hd
    refine pt_iconst G (0 : Int32) dX2_strikesOf_12 ci_0 ?_
    refine pt_istore G [(4, .int (0 : Int32)), (0, .ref a0), (1, .ref a1), (2, .int x2), (3, .int x3)] dX2_strikesOf_13 (by decide) rfl ?_
    refine pt_iconst G (0 : Int32) dX2_strikesOf_15 ci_0 ?_
    refine pt_istore G [(5, .int (0 : Int32)), (4, .int (0 : Int32)), (0, .ref a0), (1, .ref a1), (2, .int x2), (3, .int x3)] dX2_strikesOf_16 (by decide) rfl ?_
    obtain ⟨v7, hw8, hd⟩ := bnd hd
    refine pt_sub [2, 3, 4, 5, 1, 0] rfl (X2_strikesOf_w18_w G _ _ _ hw8 ?_)
    show Pt X 0 0 _ _ _ []
    refine pt_iload G 0 dX2_strikesOf_47 rfl ?_
    cases hd
    exact pt_iret G hQ dX2_strikesOf_49
  · replace hd := ifp c9 hd
    refine pt_iconst G (0 : Int32) dX2_strikesOf_10 ci_0 ?_
    cases hd
    exact pt_iret G hQ dX2_strikesOf_11
theorem X2_strikesOf_c {l : Launch} {D : va_G} {dA : Nat → ClassId} {b : Nat} {M : Wo} {a0 : Nat} {a1 : Nat} {x2 : Int32} {x3 : Int32} {r : Int32} (h : X2_strikesOf M a0 a1 x2 x3 = some r) : Met l yX2_strikesOf wsX2_strikesOf rX2_strikesOf (va_Pc [.ref a0, .ref a1, .int x2, .int x3] (Wd D dA b M)) (Ei D dA b r M) 0 0 (Ab b) := met_i (by decide) rfl (Nat.le_of_ble_eq_true rfl) (fun X G hN hQ => X2_strikesOf_w G h hQ)
theorem X2_strikesOf_v {X : Cx} {y : MethodName} {cc : ByteArray} {Ts : List Cond} {nL : Nat} {ret : Option FieldType} {R : Room} (G : Gd X y cc Ts nL ret R) {index : Nat} (hg : GoodIn Ts (wsV y.cls index RX2 yX2_strikesOf wsX2_strikesOf)) (hR : rX2_strikesOf.frames + 1 ≤ R.frames ∧ 8 + (6 + 11) + rX2_strikesOf.locals ≤ R.locals) {k n pc : Nat} {M : Wo} {lv : List (Nat × Value)} {st : List Value} {a0 : Nat} {a1 : Nat} {x2 : Int32} {x3 : Int32} {r : Int32} (hv : X2_strikesOf M a0 a1 x2 x3 = some r) (hd : decode cc pc = .ok (.invokevirtual index, 3)) (h8 : (st.map fun v => v.category).sum ≤ 8) (hf : k ≤ R.cells ∧ n ≤ R.slots) (kk : Pt X k n (pc + 3) M lv (.int r :: st)) : Pt X k n pc M lv (.int x3 :: .int x2 :: .ref a1 :: .ref a0 :: st) := pt_cVi (ci := 2) (nA := 3) (As := [.ref a1, .int x2, .int x3]) G (X2_strikesOf_c hv) hg rfl rfl rfl (by decide +kernel) hR rfl (rcv hv) rfl rfl h8 hd hf kk
