abbrev rX8_loading : Room := { frames := 3, cells := 0, slots := 0, locals := 70 }
theorem m_X8_loading_1 : Cond.fieldLink RX8 20 "StageLinesModel" "ways" "[I" ∈ wsX8_loading := List.mem_of_getElem? (i := 1) rfl
theorem u_X8_loading_X8 : ∀ w ∈ u_ws RX8 TX8 13, w ∈ wsX8_loading := mem_r [33, 34, 35, 36, 37, 38, 39, 40, 41, 42, 43, 44, 45] (by decide +kernel)
theorem m_X8_loading_2 : Cond.fieldLink RX8 76 "StageLinesModel" "things" "I" ∈ wsX8_loading := List.mem_of_getElem? (i := 2) rfl
abbrev X8_loading_P60 (X : Cx) (M : Wo) (a0 : Nat) (x1 : Int32) (x2 : Int32) : (Int32 × Int32 × Int32) → Prop := un3 (fun x3 x4 x5 => Pt X 0 0 60 M [(0, .ref a0), (1, .int x1), (2, .int x2), (3, .int x3), (4, .int x4), (5, .int x5)] [])
abbrev X8_loading_Z60 (X : Cx) (M : Wo) (a0 : Nat) (x1 : Int32) (x2 : Int32) : Int32 → Prop := (un1 (fun x4 => Pt X 0 0 111 M [(0, .ref a0), (1, .int x1), (4, .int x4)] []))
abbrev X8_loading_P69 (X : Cx) (M : Wo) (a0 : Nat) (x1 : Int32) (x2 : Int32) (x3 : Int32) (x5 : Int32) : Int32 → Prop := un1 (fun x4 => Pt X 0 0 69 M [(0, .ref a0), (1, .int x1), (2, .int x2), (3, .int x3), (4, .int x4), (5, .int x5)] [])
abbrev X8_loading_Z69 (X : Cx) (M : Wo) (a0 : Nat) (x1 : Int32) (x2 : Int32) (x3 : Int32) (x5 : Int32) : Int32 → Prop := (un1 (fun x4 => Pt X 0 0 98 M [(0, .ref a0), (1, .int x1), (2, .int x2), (3, .int x3), (4, .int x4), (5, .int x5)] []))
def X8_loading_b69 (M : Wo) (a0 : Nat) (x1 : Int32) (x2 : Int32) (x3 : Int32) (x5 : Int32) (x4 : Int32) : Option (Int32 ⊕ Int32) :=
  (X8_has M x3 x4).bind fun v12 => if v12 = 0 then ((gR M a0 8 3).bind fun w13 => (lA M 0 w13 (x3 ||| ((1 : Int32) <<< (x4 &&& 31)))).bind fun v15 => if v15 = 0 then (some (.inl (x4 + 1))) else (some (.inr x4))) else (some (.inl (x4 + 1)))
theorem X8_loading_b69_w {X : Cx} (G : Gd X yX8_loading cX8_loading wsX8_loading 6 (some .int) rX8_loading) {M : Wo} {a0 : Nat} {x1 : Int32} {x2 : Int32} {x3 : Int32} {x5 : Int32} {x4 : Int32} {o : (Int32 ⊕ Int32)} (hd : X8_loading_b69 M a0 x1 x2 x3 x5 x4 = some o) (hc : ∀ s9, o = .inl s9 → X8_loading_P69 X M a0 x1 x2 x3 x5 s9) (he : ∀ e9, o = .inr e9 → X8_loading_Z69 X M a0 x1 x2 x3 x5 e9) : Pt X 0 0 69 M [(0, .ref a0), (1, .int x1), (2, .int x2), (3, .int x3), (4, .int x4), (5, .int x5)] [] := by
  unfold X8_loading_b69 at hd
  refine pt_iload_n G 3 dX8_loading_69 rfl rfl ?_
  refine pt_iload G 4 dX8_loading_70 rfl ?_
  obtain ⟨v12, h11, hd⟩ := bnd hd
  refine X8_has_v G gX8_loading_X8_has ⟨(Nat.le_of_ble_eq_true rfl), (Nat.le_of_ble_eq_true rfl)⟩ h11 dX8_loading_72 (Nat.le_of_ble_eq_true rfl) ⟨(Nat.le_of_ble_eq_true rfl), (Nat.le_of_ble_eq_true rfl)⟩ ?_
  refine pt_if_ne G 92 dX8_loading_75 (by decide) (fun c18 => ?_) (fun c18 => ?_)
  · replace hd := ifn c18 hd
    refine pt_iinc G 4 (x4 + 1) [(4, .int (x4 + 1)), (0, .ref a0), (1, .int x1), (2, .int x2), (3, .int x3), (5, .int x5)] dX8_loading_92 rfl (inc_1 _) (by decide) rfl ?_
    refine pt_goto G 69 dX8_loading_95 (by decide) ?_
    exact pt_sub [1, 2, 3, 4, 0, 5] rfl (hc (x4 + 1) (Option.some.inj hd).symm)
  · replace hd := ifp c18 hd
    refine pt_aload_n G 0 dX8_loading_78 rfl rfl ?_
    obtain ⟨w13, h14, hd⟩ := bnd hd
    refine pt_get G (ci := 8) (j := 3) rfl (by decide) u_X8_loading_X8 m_X8_loading_1 (gR_o h14) dX8_loading_79 ?_
    refine pt_iload_n G 3 dX8_loading_82 rfl rfl ?_
    refine pt_iconst G (1 : Int32) dX8_loading_83 ci_1 ?_
    refine pt_iload G 4 dX8_loading_84 rfl ?_
    refine pt_ishl G dX8_loading_86 ?_
    refine pt_ior G dX8_loading_87 ?_
    obtain ⟨v15, h16, hd⟩ := bnd hd
    refine pt_iald G h16 dX8_loading_88 ?_
    refine pt_if_ne G 98 dX8_loading_89 (by decide) (fun c17 => ?_) (fun c17 => ?_)
    · replace hd := ifn c17 hd
      exact pt_sub [0, 1, 2, 3, 4, 5] rfl (he x4 (Option.some.inj hd).symm)
    · replace hd := ifp c17 hd
      refine pt_iinc G 4 (x4 + 1) [(4, .int (x4 + 1)), (0, .ref a0), (1, .int x1), (2, .int x2), (3, .int x3), (5, .int x5)] dX8_loading_92 rfl (inc_1 _) (by decide) rfl ?_
      refine pt_goto G 69 dX8_loading_95 (by decide) ?_
      exact pt_sub [1, 2, 3, 4, 0, 5] rfl (hc (x4 + 1) (Option.some.inj hd).symm)
theorem X8_loading_w69_w {X : Cx} (G : Gd X yX8_loading cX8_loading wsX8_loading 6 (some .int) rX8_loading) {M : Wo} {a0 : Nat} {x1 : Int32} {x2 : Int32} {x3 : Int32} {x5 : Int32} (n9 : Nat) (s9 : Int32) (e9 : Int32) (hw : wloop (un1 (X8_loading_b69 M a0 x1 x2 x3 x5)) n9 s9 = some e9) (hz : X8_loading_Z69 X M a0 x1 x2 x3 x5 e9) : X8_loading_P69 X M a0 x1 x2 x3 x5 s9 := by
  refine wl_ind (P := X8_loading_P69 X M a0 x1 x2 x3 x5) (Z := X8_loading_Z69 X M a0 x1 x2 x3 x5) ?_ n9 s9 e9 hw hz
  intro s9 o9 hd hc he
  exact X8_loading_b69_w G hd hc he
def X8_loading_b60 (M : Wo) (a0 : Nat) (x1 : Int32) (x2 : Int32) (x3 : Int32) (x4 : Int32) (x5 : Int32) : Option ((Int32 × Int32 × Int32) ⊕ Int32) :=
  if x2 < x5 then (some (.inr x4)) else ((wloop (un1 (X8_loading_b69 M a0 x1 x2 x3 x5)) FU (0 : Int32)).bind fun v19 => some (.inl ((x3 ||| ((1 : Int32) <<< (v19 &&& 31))), v19, (x5 + 1))))
theorem X8_loading_b60_w {X : Cx} (G : Gd X yX8_loading cX8_loading wsX8_loading 6 (some .int) rX8_loading) {M : Wo} {a0 : Nat} {x1 : Int32} {x2 : Int32} {x3 : Int32} {x4 : Int32} {x5 : Int32} {o : ((Int32 × Int32 × Int32) ⊕ Int32)} (hd : X8_loading_b60 M a0 x1 x2 x3 x4 x5 = some o) (hc : ∀ s9, o = .inl s9 → X8_loading_P60 X M a0 x1 x2 s9) (he : ∀ e9, o = .inr e9 → X8_loading_Z60 X M a0 x1 x2 e9) : Pt X 0 0 60 M [(0, .ref a0), (1, .int x1), (2, .int x2), (3, .int x3), (4, .int x4), (5, .int x5)] [] := by
  unfold X8_loading_b60 at hd
  refine pt_iload G 5 dX8_loading_60 rfl ?_
  refine pt_iload_n G 2 dX8_loading_62 rfl rfl ?_
  refine pt_icmp_gt G 111 dX8_loading_63 (by decide) (fun c21 => ?_) (fun c21 => ?_)
  · replace hd := ifp c21 hd
    exact pt_sub [0, 1, 4] rfl (he x4 (Option.some.inj hd).symm)
  · replace hd := ifn c21 hd
    refine pt_iconst G (0 : Int32) dX8_loading_66 ci_0 ?_
    refine pt_istore G [(4, .int (0 : Int32)), (0, .ref a0), (1, .int x1), (2, .int x2), (3, .int x3), (5, .int x5)] dX8_loading_67 (by decide) rfl ?_
    obtain ⟨v19, hw20, hd⟩ := bnd hd
    refine pt_sub [1, 2, 3, 4, 0, 5] rfl (X8_loading_w69_w G _ _ _ hw20 ?_)
    show Pt X 0 0 _ _ _ []
    refine pt_iload_n G 3 dX8_loading_98 rfl rfl ?_
    refine pt_iconst G (1 : Int32) dX8_loading_99 ci_1 ?_
    refine pt_iload G 4 dX8_loading_100 rfl ?_
    refine pt_ishl G dX8_loading_102 ?_
    refine pt_ior G dX8_loading_103 ?_
    refine pt_istore_n G [(3, .int (x3 ||| ((1 : Int32) <<< (v19 &&& 31)))), (0, .ref a0), (1, .int x1), (2, .int x2), (4, .int v19), (5, .int x5)] dX8_loading_104 rfl (by decide) rfl ?_
    refine pt_iinc G 5 (x5 + 1) [(5, .int (x5 + 1)), (3, .int (x3 ||| ((1 : Int32) <<< (v19 &&& 31)))), (0, .ref a0), (1, .int x1), (2, .int x2), (4, .int v19)] dX8_loading_105 rfl (inc_1 _) (by decide) rfl ?_
    refine pt_goto G 60 dX8_loading_108 (by decide) ?_
    exact pt_sub [2, 3, 4, 1, 5, 0] rfl (hc ((x3 ||| ((1 : Int32) <<< (v19 &&& 31))), v19, (x5 + 1)) (Option.some.inj hd).symm)
theorem X8_loading_w60_w {X : Cx} (G : Gd X yX8_loading cX8_loading wsX8_loading 6 (some .int) rX8_loading) {M : Wo} {a0 : Nat} {x1 : Int32} {x2 : Int32} (n9 : Nat) (s9 : (Int32 × Int32 × Int32)) (e9 : Int32) (hw : wloop (un3 (X8_loading_b60 M a0 x1 x2)) n9 s9 = some e9) (hz : X8_loading_Z60 X M a0 x1 x2 e9) : X8_loading_P60 X M a0 x1 x2 s9 := by
  refine wl_ind (P := X8_loading_P60 X M a0 x1 x2) (Z := X8_loading_Z60 X M a0 x1 x2) ?_ n9 s9 e9 hw hz
  intro s9 o9 hd hc he
  obtain ⟨x3, x4, x5⟩ := s9
  exact X8_loading_b60_w G hd hc he
def X8_loading (M : Wo) (a0 : Nat) (x1 : Int32) (x2 : Int32) : Option (Int32 × Wo) :=
  (ckO M a0 8).bind fun _ => (X8_isBar M x1).bind fun v2 => if v2 = 0 then (some ((-1 : Int32), M)) else (if (-1 : Int32) ≤ x2 then ((X8_layWays M a0 x1).bind fun M4 => (gR M4 a0 8 3).bind fun w5 => (lA M4 0 w5 (0 : Int32)).bind fun v7 => if v7 = 0 then (some ((-6 : Int32), M4)) else ((gI M4 a0 8 4).bind fun v9 => if x2 < v9 then (if x2 = (-1 : Int32) then ((gI M4 a0 8 4).bind fun v29 => some (v29, M4)) else ((wloop (un3 (X8_loading_b60 M4 a0 x1 x2)) FU ((0 : Int32), (0 : Int32), (0 : Int32))).bind fun v22 => (X8_many M4 a0 x1 (0 : Int32)).bind fun v24 => if v24 ≤ v22 then ((X8_many M4 a0 x1 (0 : Int32)).bind fun v26 => some ((((10 : Int32) + v22) - v26), M4)) else (some (v22, M4)))) else (some ((-6 : Int32), M4)))) else (some ((-2 : Int32), M)))
theorem X8_loading_w {X : Cx} (G : Gd X yX8_loading cX8_loading wsX8_loading 6 (some .int) rX8_loading) {M : Wo} {a0 : Nat} {x1 : Int32} {x2 : Int32} {o : (Int32 × Wo)} (hd : X8_loading M a0 x1 x2 = some o) (hQ : Qi X o.1 o.2 0 0) : Pt X 0 0 0 M [(0, .ref a0), (1, .int x1), (2, .int x2)] [] := by
  unfold X8_loading at hd
  obtain ⟨_, _, hd⟩ := bnd hd
  refine pt_iload_n G 1 dX8_loading_0 rfl rfl ?_
  obtain ⟨v2, h1, hd⟩ := bnd hd
  refine X8_isBar_v G gX8_loading_X8_isBar ⟨(Nat.le_of_ble_eq_true rfl), (Nat.le_of_ble_eq_true rfl)⟩ h1 dX8_loading_1 (Nat.le_of_ble_eq_true rfl) ⟨(Nat.le_of_ble_eq_true rfl), (Nat.le_of_ble_eq_true rfl)⟩ ?_
  refine pt_if_ne G 9 dX8_loading_4 (by decide) (fun c35 => ?_) (fun c35 => ?_)
  · replace hd := ifn c35 hd
    refine pt_iload_n G 2 dX8_loading_9 rfl rfl ?_
    refine pt_iconst G (-1 : Int32) dX8_loading_10 ci_m1 ?_
    refine pt_icmp_ge G 17 dX8_loading_11 (by decide) (fun c34 => ?_) (fun c34 => ?_)
    · replace hd := ifp c34 hd
      refine pt_aload_n G 0 dX8_loading_17 rfl rfl ?_
      refine pt_iload_n G 1 dX8_loading_18 rfl rfl ?_
      obtain ⟨M4, h3, hd⟩ := bnd hd
      refine X8_layWays_v G gX8_loading_X8_layWays ⟨(Nat.le_of_ble_eq_true rfl), (Nat.le_of_ble_eq_true rfl)⟩ h3 dX8_loading_19 (Nat.le_of_ble_eq_true rfl) ⟨(Nat.le_of_ble_eq_true rfl), (Nat.le_of_ble_eq_true rfl)⟩ ?_
      refine pt_aload_n G 0 dX8_loading_22 rfl rfl ?_
      obtain ⟨w5, h6, hd⟩ := bnd hd
      refine pt_get G (ci := 8) (j := 3) rfl (by decide) u_X8_loading_X8 m_X8_loading_1 (gR_o h6) dX8_loading_23 ?_
      refine pt_iconst G (0 : Int32) dX8_loading_26 ci_0 ?_
      obtain ⟨v7, h8, hd⟩ := bnd hd
      refine pt_iald G h8 dX8_loading_27 ?_
      refine pt_if_eq G 39 dX8_loading_28 (by decide) (fun c33 => ?_) (fun c33 => ?_)
      · replace hd := ifp c33 hd
        refine pt_bipush G (-6 : Int32) dX8_loading_39 bi_m6 ?_
        cases hd
        exact pt_iret G hQ dX8_loading_41
      · replace hd := ifn c33 hd
        refine pt_iload_n G 2 dX8_loading_31 rfl rfl ?_
        refine pt_aload_n G 0 dX8_loading_32 rfl rfl ?_
        obtain ⟨v9, h10, hd⟩ := bnd hd
        refine pt_get G (ci := 8) (j := 4) rfl (by decide) u_X8_loading_X8 m_X8_loading_2 (gI_o h10) dX8_loading_33 ?_
        refine pt_icmp_lt G 42 dX8_loading_36 (by decide) (fun c32 => ?_) (fun c32 => ?_)
        · replace hd := ifp c32 hd
          refine pt_iload_n G 2 dX8_loading_42 rfl rfl ?_
          refine pt_iconst G (-1 : Int32) dX8_loading_43 ci_m1 ?_
          refine pt_icmp_ne G 52 dX8_loading_44 (by decide) (fun c31 => ?_) (fun c31 => ?_)
          · replace hd := ifn c31 hd
            refine pt_iconst G (0 : Int32) dX8_loading_52 ci_0 ?_
            refine pt_istore_n G [(3, .int (0 : Int32)), (0, .ref a0), (1, .int x1), (2, .int x2)] dX8_loading_53 rfl (by decide) rfl ?_
            refine pt_iconst G (0 : Int32) dX8_loading_54 ci_0 ?_
            refine pt_istore G [(4, .int (0 : Int32)), (3, .int (0 : Int32)), (0, .ref a0), (1, .int x1), (2, .int x2)] dX8_loading_55 (by decide) rfl ?_
            refine pt_iconst G (0 : Int32) dX8_loading_57 ci_0 ?_
            refine pt_istore G [(5, .int (0 : Int32)), (4, .int (0 : Int32)), (3, .int (0 : Int32)), (0, .ref a0), (1, .int x1), (2, .int x2)] dX8_loading_58 (by decide) rfl ?_
            obtain ⟨v22, hw28, hd⟩ := bnd hd
            refine pt_sub [3, 4, 5, 2, 1, 0] rfl (X8_loading_w60_w G _ _ _ hw28 ?_)
            show Pt X 0 0 _ _ _ []
            refine pt_iload G 2 dX8_loading_111 rfl ?_
            refine pt_aload_n G 0 dX8_loading_113 rfl rfl ?_
            refine pt_iload_n G 1 dX8_loading_114 rfl rfl ?_
            refine pt_iconst G (0 : Int32) dX8_loading_115 ci_0 ?_
            obtain ⟨v24, h23, hd⟩ := bnd hd
            refine X8_many_v G gX8_loading_X8_many ⟨(Nat.le_of_ble_eq_true rfl), (Nat.le_of_ble_eq_true rfl)⟩ h23 dX8_loading_116 (Nat.le_of_ble_eq_true rfl) ⟨(Nat.le_of_ble_eq_true rfl), (Nat.le_of_ble_eq_true rfl)⟩ ?_
            refine pt_icmp_ge G 127 dX8_loading_119 (by decide) (fun c27 => ?_) (fun c27 => ?_)
            · replace hd := ifp c27 hd
              refine pt_bipush G (10 : Int32) dX8_loading_127 bi_10 ?_
              refine pt_iload G 2 dX8_loading_129 rfl ?_
              refine pt_iadd G dX8_loading_131 ?_
              refine pt_aload_n G 0 dX8_loading_132 rfl rfl ?_
              refine pt_iload_n G 1 dX8_loading_133 rfl rfl ?_
              refine pt_iconst G (0 : Int32) dX8_loading_134 ci_0 ?_
              obtain ⟨v26, h25, hd⟩ := bnd hd
              refine X8_many_v G gX8_loading_X8_many ⟨(Nat.le_of_ble_eq_true rfl), (Nat.le_of_ble_eq_true rfl)⟩ h25 dX8_loading_135 (Nat.le_of_ble_eq_true rfl) ⟨(Nat.le_of_ble_eq_true rfl), (Nat.le_of_ble_eq_true rfl)⟩ ?_
              refine pt_isub G dX8_loading_138 ?_
              cases hd
              exact pt_iret G hQ dX8_loading_139
            · replace hd := ifn c27 hd
              refine pt_iload G 2 dX8_loading_122 rfl ?_
              refine pt_goto G 139 dX8_loading_124 (by decide) ?_
              cases hd
              exact pt_iret G hQ dX8_loading_139
          · replace hd := ifp c31 hd
            refine pt_aload_n G 0 dX8_loading_47 rfl rfl ?_
            obtain ⟨v29, h30, hd⟩ := bnd hd
            refine pt_get G (ci := 8) (j := 4) rfl (by decide) u_X8_loading_X8 m_X8_loading_2 (gI_o h30) dX8_loading_48 ?_
            cases hd
            exact pt_iret G hQ dX8_loading_51
        · replace hd := ifn c32 hd
          refine pt_bipush G (-6 : Int32) dX8_loading_39 bi_m6 ?_
          cases hd
          exact pt_iret G hQ dX8_loading_41
    · replace hd := ifn c34 hd
      refine pt_bipush G (-2 : Int32) dX8_loading_14 bi_m2 ?_
      cases hd
      exact pt_iret G hQ dX8_loading_16
  · replace hd := ifp c35 hd
    refine pt_iconst G (-1 : Int32) dX8_loading_7 ci_m1 ?_
    cases hd
    exact pt_iret G hQ dX8_loading_8
theorem X8_loading_c {l : Launch} {D : va_G} {dA : Nat → ClassId} {b : Nat} {M : Wo} {a0 : Nat} {x1 : Int32} {x2 : Int32} {r : Int32} {M2 : Wo} (h : X8_loading M a0 x1 x2 = some (r, M2)) : Met l yX8_loading wsX8_loading rX8_loading (va_Pc [.ref a0, .int x1, .int x2] (Wd D dA b M)) (Ei D dA b r M2) 0 0 (Ab b) := met_i (by decide) rfl (Nat.le_of_ble_eq_true rfl) (fun X G hN hQ => X8_loading_w G h hQ)
theorem X8_loading_v {X : Cx} {y : MethodName} {cc : ByteArray} {Ts : List Cond} {nL : Nat} {ret : Option FieldType} {R : Room} (G : Gd X y cc Ts nL ret R) {index : Nat} (hg : GoodIn Ts (wsV y.cls index RX8 yX8_loading wsX8_loading)) (hR : rX8_loading.frames + 1 ≤ R.frames ∧ 8 + (6 + 11) + rX8_loading.locals ≤ R.locals) {k n pc : Nat} {M : Wo} {lv : List (Nat × Value)} {st : List Value} {a0 : Nat} {x1 : Int32} {x2 : Int32} {r : Int32} {M2 : Wo} (hv : X8_loading M a0 x1 x2 = some (r, M2)) (hd : decode cc pc = .ok (.invokevirtual index, 3)) (h8 : (st.map fun v => v.category).sum ≤ 8) (hf : k ≤ R.cells ∧ n ≤ R.slots) (kk : Pt X k n (pc + 3) M2 lv (.int r :: st)) : Pt X k n pc M lv (.int x2 :: .int x1 :: .ref a0 :: st) := pt_cVi (ci := 8) (nA := 2) (As := [.int x1, .int x2]) G (X8_loading_c hv) hg rfl rfl rfl (by decide +kernel) hR rfl (rcv hv) rfl rfl h8 hd hf kk
abbrev rX8_loadings : Room := { frames := 3, cells := 0, slots := 0, locals := 70 }
theorem m_X8_loadings_1 : Cond.fieldLink RX8 20 "StageLinesModel" "ways" "[I" ∈ wsX8_loadings := List.mem_of_getElem? (i := 1) rfl
theorem u_X8_loadings_X8 : ∀ w ∈ u_ws RX8 TX8 13, w ∈ wsX8_loadings := mem_r [33, 34, 35, 36, 37, 38, 39, 40, 41, 42, 43, 44, 45] (by decide +kernel)
def X8_loadings (M : Wo) (a0 : Nat) (x1 : Int32) : Option (Int32 × Wo) :=
  (ckO M a0 8).bind fun _ => (X8_isBar M x1).bind fun v2 => if v2 = 0 then (some ((-1 : Int32), M)) else ((X8_layWays M a0 x1).bind fun M4 => (gR M4 a0 8 3).bind fun w5 => (lA M4 0 w5 (0 : Int32)).bind fun v7 => some (v7, M4))
theorem X8_loadings_w {X : Cx} (G : Gd X yX8_loadings cX8_loadings wsX8_loadings 2 (some .int) rX8_loadings) {M : Wo} {a0 : Nat} {x1 : Int32} {o : (Int32 × Wo)} (hd : X8_loadings M a0 x1 = some o) (hQ : Qi X o.1 o.2 0 0) : Pt X 0 0 0 M [(0, .ref a0), (1, .int x1)] [] := by
  unfold X8_loadings at hd
  obtain ⟨_, _, hd⟩ := bnd hd
  refine pt_iload_n G 1 dX8_loadings_0 rfl rfl ?_
  obtain ⟨v2, h1, hd⟩ := bnd hd
  refine X8_isBar_v G gX8_loadings_X8_isBar ⟨(Nat.le_of_ble_eq_true rfl), (Nat.le_of_ble_eq_true rfl)⟩ h1 dX8_loadings_1 (Nat.le_of_ble_eq_true rfl) ⟨(Nat.le_of_ble_eq_true rfl), (Nat.le_of_ble_eq_true rfl)⟩ ?_
  refine pt_if_ne G 9 dX8_loadings_4 (by decide) (fun c9 => ?_) (fun c9 => ?_)
  · replace hd := ifn c9 hd
    refine pt_aload_n G 0 dX8_loadings_9 rfl rfl ?_
    refine pt_iload_n G 1 dX8_loadings_10 rfl rfl ?_
    obtain ⟨M4, h3, hd⟩ := bnd hd
    refine X8_layWays_v G gX8_loadings_X8_layWays ⟨(Nat.le_of_ble_eq_true rfl), (Nat.le_of_ble_eq_true rfl)⟩ h3 dX8_loadings_11 (Nat.le_of_ble_eq_true rfl) ⟨(Nat.le_of_ble_eq_true rfl), (Nat.le_of_ble_eq_true rfl)⟩ ?_
    refine pt_aload_n G 0 dX8_loadings_14 rfl rfl ?_
    obtain ⟨w5, h6, hd⟩ := bnd hd
    refine pt_get G (ci := 8) (j := 3) rfl (by decide) u_X8_loadings_X8 m_X8_loadings_1 (gR_o h6) dX8_loadings_15 ?_
    refine pt_iconst G (0 : Int32) dX8_loadings_18 ci_0 ?_
    obtain ⟨v7, h8, hd⟩ := bnd hd
    refine pt_iald G h8 dX8_loadings_19 ?_
    cases hd
    exact pt_iret G hQ dX8_loadings_20
  · replace hd := ifp c9 hd
    refine pt_iconst G (-1 : Int32) dX8_loadings_7 ci_m1 ?_
    cases hd
    exact pt_iret G hQ dX8_loadings_8
theorem X8_loadings_c {l : Launch} {D : va_G} {dA : Nat → ClassId} {b : Nat} {M : Wo} {a0 : Nat} {x1 : Int32} {r : Int32} {M2 : Wo} (h : X8_loadings M a0 x1 = some (r, M2)) : Met l yX8_loadings wsX8_loadings rX8_loadings (va_Pc [.ref a0, .int x1] (Wd D dA b M)) (Ei D dA b r M2) 0 0 (Ab b) := met_i (by decide) rfl (Nat.le_of_ble_eq_true rfl) (fun X G hN hQ => X8_loadings_w G h hQ)
theorem X8_loadings_v {X : Cx} {y : MethodName} {cc : ByteArray} {Ts : List Cond} {nL : Nat} {ret : Option FieldType} {R : Room} (G : Gd X y cc Ts nL ret R) {index : Nat} (hg : GoodIn Ts (wsV y.cls index RX8 yX8_loadings wsX8_loadings)) (hR : rX8_loadings.frames + 1 ≤ R.frames ∧ 8 + (2 + 11) + rX8_loadings.locals ≤ R.locals) {k n pc : Nat} {M : Wo} {lv : List (Nat × Value)} {st : List Value} {a0 : Nat} {x1 : Int32} {r : Int32} {M2 : Wo} (hv : X8_loadings M a0 x1 = some (r, M2)) (hd : decode cc pc = .ok (.invokevirtual index, 3)) (h8 : (st.map fun v => v.category).sum ≤ 8) (hf : k ≤ R.cells ∧ n ≤ R.slots) (kk : Pt X k n (pc + 3) M2 lv (.int r :: st)) : Pt X k n pc M lv (.int x1 :: .ref a0 :: st) := pt_cVi (ci := 8) (nA := 1) (As := [.int x1]) G (X8_loadings_c hv) hg rfl rfl rfl (by decide +kernel) hR rfl (rcv hv) rfl rfl h8 hd hf kk
abbrev rX8_moveAt : Room := { frames := 0, cells := 0, slots := 0, locals := 0 }
theorem m_X8_moveAt_1 : Cond.fieldLink RX8 7 "StageLinesModel" "state" "[I" ∈ wsX8_moveAt := List.mem_of_getElem? (i := 1) rfl
theorem u_X8_moveAt_X8 : ∀ w ∈ u_ws RX8 TX8 13, w ∈ wsX8_moveAt := mem_r [2, 3, 4, 5, 6, 7, 8, 9, 10, 11, 12, 13, 14] (by decide +kernel)
abbrev X8_moveAt_P6 (X : Cx) (M : Wo) (a0 : Nat) (x1 : Int32) (x2 : Int32) : (Int32 × Int32) → Prop := un2 (fun x3 x4 => Pt X 0 0 6 M [(0, .ref a0), (1, .int x1), (2, .int x2), (3, .int x3), (4, .int x4)] [])
abbrev X8_moveAt_Z6 (X : Cx) (M : Wo) (a0 : Nat) (x1 : Int32) (x2 : Int32) : Int32 → Prop := (un1 (fun x3 => Pt X 0 0 62 M [(3, .int x3)] []))
def X8_moveAt_b6 (M : Wo) (a0 : Nat) (x1 : Int32) (x2 : Int32) (x3 : Int32) (x4 : Int32) : Option ((Int32 × Int32) ⊕ Int32) :=
  (gR M a0 8 0).bind fun w1 => (lA M 0 w1 (211 : Int32)).bind fun v3 => if v3 ≤ x4 then (some (.inr x3)) else ((gR M a0 8 0).bind fun w5 => (lA M 0 w5 ((171 : Int32) + x4)).bind fun v7 => if v7 = x1 then ((gR M a0 8 0).bind fun w9 => (lA M 0 w9 ((181 : Int32) + x4)).bind fun v11 => if v11 = x2 then (some (.inl (x4, (x4 + 1)))) else (some (.inl (x3, (x4 + 1))))) else (some (.inl (x3, (x4 + 1)))))
theorem X8_moveAt_b6_w {X : Cx} (G : Gd X yX8_moveAt cX8_moveAt wsX8_moveAt 5 (some .int) rX8_moveAt) {M : Wo} {a0 : Nat} {x1 : Int32} {x2 : Int32} {x3 : Int32} {x4 : Int32} {o : ((Int32 × Int32) ⊕ Int32)} (hd : X8_moveAt_b6 M a0 x1 x2 x3 x4 = some o) (hc : ∀ s9, o = .inl s9 → X8_moveAt_P6 X M a0 x1 x2 s9) (he : ∀ e9, o = .inr e9 → X8_moveAt_Z6 X M a0 x1 x2 e9) : Pt X 0 0 6 M [(0, .ref a0), (1, .int x1), (2, .int x2), (3, .int x3), (4, .int x4)] [] := by
  unfold X8_moveAt_b6 at hd
  refine pt_iload G 4 dX8_moveAt_6 rfl ?_
  refine pt_aload_n G 0 dX8_moveAt_8 rfl rfl ?_
  obtain ⟨w1, h2, hd⟩ := bnd hd
  refine pt_get G (ci := 8) (j := 0) rfl (by decide) u_X8_moveAt_X8 m_X8_moveAt_1 (gR_o h2) dX8_moveAt_9 ?_
  refine pt_sipush G (211 : Int32) dX8_moveAt_12 si_211 ?_
  obtain ⟨v3, h4, hd⟩ := bnd hd
  refine pt_iald G h4 dX8_moveAt_15 ?_
  refine pt_icmp_ge G 62 dX8_moveAt_16 (by decide) (fun c15 => ?_) (fun c15 => ?_)
  · replace hd := ifp c15 hd
    exact pt_sub [3] rfl (he x3 (Option.some.inj hd).symm)
  · replace hd := ifn c15 hd
    refine pt_aload_n G 0 dX8_moveAt_19 rfl rfl ?_
    obtain ⟨w5, h6, hd⟩ := bnd hd
    refine pt_get G (ci := 8) (j := 0) rfl (by decide) u_X8_moveAt_X8 m_X8_moveAt_1 (gR_o h6) dX8_moveAt_20 ?_
    refine pt_sipush G (171 : Int32) dX8_moveAt_23 si_171 ?_
    refine pt_iload G 4 dX8_moveAt_26 rfl ?_
    refine pt_iadd G dX8_moveAt_28 ?_
    obtain ⟨v7, h8, hd⟩ := bnd hd
    refine pt_iald G h8 dX8_moveAt_29 ?_
    refine pt_iload_n G 1 dX8_moveAt_30 rfl rfl ?_
    refine pt_icmp_ne G 54 dX8_moveAt_31 (by decide) (fun c14 => ?_) (fun c14 => ?_)
    · replace hd := ifn c14 hd
      refine pt_iload_n G 3 dX8_moveAt_54 rfl rfl ?_
      refine pt_istore_n G [(3, .int x3), (0, .ref a0), (1, .int x1), (2, .int x2), (4, .int x4)] dX8_moveAt_55 rfl (by decide) rfl ?_
      refine pt_iinc G 4 (x4 + 1) [(4, .int (x4 + 1)), (3, .int x3), (0, .ref a0), (1, .int x1), (2, .int x2)] dX8_moveAt_56 rfl (inc_1 _) (by decide) rfl ?_
      refine pt_goto G 6 dX8_moveAt_59 (by decide) ?_
      exact pt_sub [2, 3, 4, 1, 0] rfl (hc (x3, (x4 + 1)) (Option.some.inj hd).symm)
    · replace hd := ifp c14 hd
      refine pt_aload_n G 0 dX8_moveAt_34 rfl rfl ?_
      obtain ⟨w9, h10, hd⟩ := bnd hd
      refine pt_get G (ci := 8) (j := 0) rfl (by decide) u_X8_moveAt_X8 m_X8_moveAt_1 (gR_o h10) dX8_moveAt_35 ?_
      refine pt_sipush G (181 : Int32) dX8_moveAt_38 si_181 ?_
      refine pt_iload G 4 dX8_moveAt_41 rfl ?_
      refine pt_iadd G dX8_moveAt_43 ?_
      obtain ⟨v11, h12, hd⟩ := bnd hd
      refine pt_iald G h12 dX8_moveAt_44 ?_
      refine pt_iload_n G 2 dX8_moveAt_45 rfl rfl ?_
      refine pt_icmp_ne G 54 dX8_moveAt_46 (by decide) (fun c13 => ?_) (fun c13 => ?_)
      · replace hd := ifn c13 hd
        refine pt_iload_n G 3 dX8_moveAt_54 rfl rfl ?_
        refine pt_istore_n G [(3, .int x3), (0, .ref a0), (1, .int x1), (2, .int x2), (4, .int x4)] dX8_moveAt_55 rfl (by decide) rfl ?_
        refine pt_iinc G 4 (x4 + 1) [(4, .int (x4 + 1)), (3, .int x3), (0, .ref a0), (1, .int x1), (2, .int x2)] dX8_moveAt_56 rfl (inc_1 _) (by decide) rfl ?_
        refine pt_goto G 6 dX8_moveAt_59 (by decide) ?_
        exact pt_sub [2, 3, 4, 1, 0] rfl (hc (x3, (x4 + 1)) (Option.some.inj hd).symm)
      · replace hd := ifp c13 hd
        refine pt_iload G 4 dX8_moveAt_49 rfl ?_
        refine pt_goto G 55 dX8_moveAt_51 (by decide) ?_
        refine pt_istore_n G [(3, .int x4), (0, .ref a0), (1, .int x1), (2, .int x2), (4, .int x4)] dX8_moveAt_55 rfl (by decide) rfl ?_
        refine pt_iinc G 4 (x4 + 1) [(4, .int (x4 + 1)), (3, .int x4), (0, .ref a0), (1, .int x1), (2, .int x2)] dX8_moveAt_56 rfl (inc_1 _) (by decide) rfl ?_
        refine pt_goto G 6 dX8_moveAt_59 (by decide) ?_
        exact pt_sub [2, 3, 4, 1, 0] rfl (hc (x4, (x4 + 1)) (Option.some.inj hd).symm)
theorem X8_moveAt_w6_w {X : Cx} (G : Gd X yX8_moveAt cX8_moveAt wsX8_moveAt 5 (some .int) rX8_moveAt) {M : Wo} {a0 : Nat} {x1 : Int32} {x2 : Int32} (n9 : Nat) (s9 : (Int32 × Int32)) (e9 : Int32) (hw : wloop (un2 (X8_moveAt_b6 M a0 x1 x2)) n9 s9 = some e9) (hz : X8_moveAt_Z6 X M a0 x1 x2 e9) : X8_moveAt_P6 X M a0 x1 x2 s9 := by
  refine wl_ind (P := X8_moveAt_P6 X M a0 x1 x2) (Z := X8_moveAt_Z6 X M a0 x1 x2) ?_ n9 s9 e9 hw hz
  intro s9 o9 hd hc he
  obtain ⟨x3, x4⟩ := s9
  exact X8_moveAt_b6_w G hd hc he
def X8_moveAt (M : Wo) (a0 : Nat) (x1 : Int32) (x2 : Int32) : Option Int32 :=
  (ckO M a0 8).bind fun _ => (wloop (un2 (X8_moveAt_b6 M a0 x1 x2)) FU ((-6 : Int32), (0 : Int32))).bind fun v16 => some v16
theorem X8_moveAt_w {X : Cx} (G : Gd X yX8_moveAt cX8_moveAt wsX8_moveAt 5 (some .int) rX8_moveAt) {M : Wo} {a0 : Nat} {x1 : Int32} {x2 : Int32} {o : Int32} (hd : X8_moveAt M a0 x1 x2 = some o) (hQ : Qi X o M 0 0) : Pt X 0 0 0 M [(0, .ref a0), (1, .int x1), (2, .int x2)] [] := by
  unfold X8_moveAt at hd
  obtain ⟨_, _, hd⟩ := bnd hd
  refine pt_bipush G (-6 : Int32) dX8_moveAt_0 bi_m6 ?_
  refine pt_istore_n G [(3, .int (-6 : Int32)), (0, .ref a0), (1, .int x1), (2, .int x2)] dX8_moveAt_2 rfl (by decide) rfl ?_
  refine pt_iconst G (0 : Int32) dX8_moveAt_3 ci_0 ?_
  refine pt_istore G [(4, .int (0 : Int32)), (3, .int (-6 : Int32)), (0, .ref a0), (1, .int x1), (2, .int x2)] dX8_moveAt_4 (by decide) rfl ?_
  obtain ⟨v16, hw17, hd⟩ := bnd hd
  refine pt_sub [2, 3, 4, 1, 0] rfl (X8_moveAt_w6_w G _ _ _ hw17 ?_)
  show Pt X 0 0 _ _ _ []
  refine pt_iload_n G 0 dX8_moveAt_62 rfl rfl ?_
  cases hd
  exact pt_iret G hQ dX8_moveAt_63
theorem X8_moveAt_c {l : Launch} {D : va_G} {dA : Nat → ClassId} {b : Nat} {M : Wo} {a0 : Nat} {x1 : Int32} {x2 : Int32} {r : Int32} (h : X8_moveAt M a0 x1 x2 = some r) : Met l yX8_moveAt wsX8_moveAt rX8_moveAt (va_Pc [.ref a0, .int x1, .int x2] (Wd D dA b M)) (Ei D dA b r M) 0 0 (Ab b) := met_i (by decide) rfl (Nat.le_of_ble_eq_true rfl) (fun X G hN hQ => X8_moveAt_w G h hQ)
theorem X8_moveAt_v {X : Cx} {y : MethodName} {cc : ByteArray} {Ts : List Cond} {nL : Nat} {ret : Option FieldType} {R : Room} (G : Gd X y cc Ts nL ret R) {index : Nat} (hg : GoodIn Ts (wsV y.cls index RX8 yX8_moveAt wsX8_moveAt)) (hR : rX8_moveAt.frames + 1 ≤ R.frames ∧ 8 + (5 + 11) + rX8_moveAt.locals ≤ R.locals) {k n pc : Nat} {M : Wo} {lv : List (Nat × Value)} {st : List Value} {a0 : Nat} {x1 : Int32} {x2 : Int32} {r : Int32} (hv : X8_moveAt M a0 x1 x2 = some r) (hd : decode cc pc = .ok (.invokevirtual index, 3)) (h8 : (st.map fun v => v.category).sum ≤ 8) (hf : k ≤ R.cells ∧ n ≤ R.slots) (kk : Pt X k n (pc + 3) M lv (.int r :: st)) : Pt X k n pc M lv (.int x2 :: .int x1 :: .ref a0 :: st) := pt_cVi (ci := 8) (nA := 2) (As := [.int x1, .int x2]) G (X8_moveAt_c hv) hg rfl rfl rfl (by decide +kernel) hR rfl (rcv hv) rfl rfl h8 hd hf kk
abbrev rX8_move : Room := { frames := 2, cells := 0, slots := 0, locals := 42 }
theorem m_X8_move_1 : Cond.fieldLink RX8 7 "StageLinesModel" "state" "[I" ∈ wsX8_move := List.mem_of_getElem? (i := 1) rfl
theorem u_X8_move_X8 : ∀ w ∈ u_ws RX8 TX8 13, w ∈ wsX8_move := mem_r [13, 14, 15, 16, 17, 18, 19, 20, 21, 22, 23, 24, 25] (by decide +kernel)
def X8_move (M : Wo) (a0 : Nat) (x1 : Int32) (x2 : Int32) (x3 : Int32) (x4 : Int32) : Option (Int32 × Wo) :=
  (ckO M a0 8).bind fun _ => (X8_isBar M x1).bind fun v2 => if v2 = 0 then (some ((-1 : Int32), M)) else ((X8_in M x2 (0 : Int32) (200 : Int32)).bind fun v4 => if v4 = 0 then (some ((-2 : Int32), M)) else ((X8_in M x3 (0 : Int32) (60 : Int32)).bind fun v6 => if v6 = 0 then (some ((-2 : Int32), M)) else ((X8_in M x4 (1 : Int32) (5 : Int32)).bind fun v8 => if v8 = 0 then (some ((-2 : Int32), M)) else ((X8_moveAt M a0 x1 x2).bind fun v10 => if v10 < 0 then ((gR M a0 8 0).bind fun w11 => (lA M 0 w11 (211 : Int32)).bind fun v13 => if v13 = (10 : Int32) then (some ((-4 : Int32), M)) else ((gR M a0 8 0).bind fun w15 => (sA M w15 ((171 : Int32) + v13) x1).bind fun M17 => (gR M17 a0 8 0).bind fun w19 => (sA M17 w19 ((181 : Int32) + v13) x2).bind fun M21 => (gR M21 a0 8 0).bind fun w23 => (sA M21 w23 ((191 : Int32) + v13) x3).bind fun M25 => (gR M25 a0 8 0).bind fun w27 => (sA M25 w27 ((201 : Int32) + v13) x4).bind fun M29 => (gR M29 a0 8 0).bind fun w31 => (lA M29 0 w31 (211 : Int32)).bind fun v33 => (sA M29 w31 (211 : Int32) (v33 + (1 : Int32))).bind fun M35 => some (v13, M35))) else (some ((-5 : Int32), M))))))
theorem X8_move_w {X : Cx} (G : Gd X yX8_move cX8_move wsX8_move 6 (some .int) rX8_move) {M : Wo} {a0 : Nat} {x1 : Int32} {x2 : Int32} {x3 : Int32} {x4 : Int32} {o : (Int32 × Wo)} (hd : X8_move M a0 x1 x2 x3 x4 = some o) (hQ : Qi X o.1 o.2 0 0) : Pt X 0 0 0 M [(0, .ref a0), (1, .int x1), (2, .int x2), (3, .int x3), (4, .int x4)] [] := by
  unfold X8_move at hd
  obtain ⟨_, _, hd⟩ := bnd hd
  refine pt_iload_n G 1 dX8_move_0 rfl rfl ?_
  obtain ⟨v2, h1, hd⟩ := bnd hd
  refine X8_isBar_v G gX8_move_X8_isBar ⟨(Nat.le_of_ble_eq_true rfl), (Nat.le_of_ble_eq_true rfl)⟩ h1 dX8_move_1 (Nat.le_of_ble_eq_true rfl) ⟨(Nat.le_of_ble_eq_true rfl), (Nat.le_of_ble_eq_true rfl)⟩ ?_
  refine pt_if_ne G 9 dX8_move_4 (by decide) (fun c42 => ?_) (fun c42 => ?_)
  · replace hd := ifn c42 hd
    refine pt_iload_n G 2 dX8_move_9 rfl rfl ?_
    refine pt_iconst G (0 : Int32) dX8_move_10 ci_0 ?_
    refine pt_sipush G (200 : Int32) dX8_move_11 si_200 ?_
    obtain ⟨v4, h3, hd⟩ := bnd hd
    refine X8_in_v G gX8_move_X8_in ⟨(Nat.le_of_ble_eq_true rfl), (Nat.le_of_ble_eq_true rfl)⟩ h3 dX8_move_14 (Nat.le_of_ble_eq_true rfl) ⟨(Nat.le_of_ble_eq_true rfl), (Nat.le_of_ble_eq_true rfl)⟩ ?_
    refine pt_if_eq G 40 dX8_move_17 (by decide) (fun c41 => ?_) (fun c41 => ?_)
    · replace hd := ifp c41 hd
      refine pt_bipush G (-2 : Int32) dX8_move_40 bi_m2 ?_
      cases hd
      exact pt_iret G hQ dX8_move_42
    · replace hd := ifn c41 hd
      refine pt_iload_n G 3 dX8_move_20 rfl rfl ?_
      refine pt_iconst G (0 : Int32) dX8_move_21 ci_0 ?_
      refine pt_bipush G (60 : Int32) dX8_move_22 bi_60 ?_
      obtain ⟨v6, h5, hd⟩ := bnd hd
      refine X8_in_v G gX8_move_X8_in ⟨(Nat.le_of_ble_eq_true rfl), (Nat.le_of_ble_eq_true rfl)⟩ h5 dX8_move_24 (Nat.le_of_ble_eq_true rfl) ⟨(Nat.le_of_ble_eq_true rfl), (Nat.le_of_ble_eq_true rfl)⟩ ?_
      refine pt_if_eq G 40 dX8_move_27 (by decide) (fun c40 => ?_) (fun c40 => ?_)
      · replace hd := ifp c40 hd
        refine pt_bipush G (-2 : Int32) dX8_move_40 bi_m2 ?_
        cases hd
        exact pt_iret G hQ dX8_move_42
      · replace hd := ifn c40 hd
        refine pt_iload G 4 dX8_move_30 rfl ?_
        refine pt_iconst G (1 : Int32) dX8_move_32 ci_1 ?_
        refine pt_iconst G (5 : Int32) dX8_move_33 ci_5 ?_
        obtain ⟨v8, h7, hd⟩ := bnd hd
        refine X8_in_v G gX8_move_X8_in ⟨(Nat.le_of_ble_eq_true rfl), (Nat.le_of_ble_eq_true rfl)⟩ h7 dX8_move_34 (Nat.le_of_ble_eq_true rfl) ⟨(Nat.le_of_ble_eq_true rfl), (Nat.le_of_ble_eq_true rfl)⟩ ?_
        refine pt_if_ne G 43 dX8_move_37 (by decide) (fun c39 => ?_) (fun c39 => ?_)
        · replace hd := ifn c39 hd
          refine pt_aload_n G 0 dX8_move_43 rfl rfl ?_
          refine pt_iload_n G 1 dX8_move_44 rfl rfl ?_
          refine pt_iload_n G 2 dX8_move_45 rfl rfl ?_
          obtain ⟨v10, h9, hd⟩ := bnd hd
          refine X8_moveAt_v G gX8_move_X8_moveAt ⟨(Nat.le_of_ble_eq_true rfl), (Nat.le_of_ble_eq_true rfl)⟩ h9 dX8_move_46 (Nat.le_of_ble_eq_true rfl) ⟨(Nat.le_of_ble_eq_true rfl), (Nat.le_of_ble_eq_true rfl)⟩ ?_
          refine pt_if_lt G 55 dX8_move_49 (by decide) (fun c38 => ?_) (fun c38 => ?_)
          · replace hd := ifp c38 hd
            refine pt_aload_n G 0 dX8_move_55 rfl rfl ?_
            obtain ⟨w11, h12, hd⟩ := bnd hd
            refine pt_get G (ci := 8) (j := 0) rfl (by decide) u_X8_move_X8 m_X8_move_1 (gR_o h12) dX8_move_56 ?_
            refine pt_sipush G (211 : Int32) dX8_move_59 si_211 ?_
            obtain ⟨v13, h14, hd⟩ := bnd hd
            refine pt_iald G h14 dX8_move_62 ?_
            refine pt_istore G [(5, .int v13), (0, .ref a0), (1, .int x1), (2, .int x2), (3, .int x3), (4, .int x4)] dX8_move_63 (by decide) rfl ?_
            refine pt_iload G 0 dX8_move_65 rfl ?_
            refine pt_bipush G (10 : Int32) dX8_move_67 bi_10 ?_
            refine pt_icmp_ne G 75 dX8_move_69 (by decide) (fun c37 => ?_) (fun c37 => ?_)
            · replace hd := ifn c37 hd
              refine pt_aload_n G 1 dX8_move_75 rfl rfl ?_
              obtain ⟨w15, h16, hd⟩ := bnd hd
              refine pt_get G (ci := 8) (j := 0) rfl (by decide) u_X8_move_X8 m_X8_move_1 (gR_o h16) dX8_move_76 ?_
              refine pt_sipush G (171 : Int32) dX8_move_79 si_171 ?_
              refine pt_iload G 0 dX8_move_82 rfl ?_
              refine pt_iadd G dX8_move_84 ?_
              refine pt_iload_n G 2 dX8_move_85 rfl rfl ?_
              obtain ⟨M17, h18, hd⟩ := bnd hd
              refine pt_iast G h18 dX8_move_86 ?_
              refine pt_aload_n G 1 dX8_move_87 rfl rfl ?_
              obtain ⟨w19, h20, hd⟩ := bnd hd
              refine pt_get G (ci := 8) (j := 0) rfl (by decide) u_X8_move_X8 m_X8_move_1 (gR_o h20) dX8_move_88 ?_
              refine pt_sipush G (181 : Int32) dX8_move_91 si_181 ?_
              refine pt_iload G 0 dX8_move_94 rfl ?_
              refine pt_iadd G dX8_move_96 ?_
              refine pt_iload_n G 3 dX8_move_97 rfl rfl ?_
              obtain ⟨M21, h22, hd⟩ := bnd hd
              refine pt_iast G h22 dX8_move_98 ?_
              refine pt_aload_n G 1 dX8_move_99 rfl rfl ?_
              obtain ⟨w23, h24, hd⟩ := bnd hd
              refine pt_get G (ci := 8) (j := 0) rfl (by decide) u_X8_move_X8 m_X8_move_1 (gR_o h24) dX8_move_100 ?_
              refine pt_sipush G (191 : Int32) dX8_move_103 si_191 ?_
              refine pt_iload G 0 dX8_move_106 rfl ?_
              refine pt_iadd G dX8_move_108 ?_
              refine pt_iload_n G 4 dX8_move_109 rfl rfl ?_
              obtain ⟨M25, h26, hd⟩ := bnd hd
              refine pt_iast G h26 dX8_move_110 ?_
              refine pt_aload_n G 1 dX8_move_111 rfl rfl ?_
              obtain ⟨w27, h28, hd⟩ := bnd hd
              refine pt_get G (ci := 8) (j := 0) rfl (by decide) u_X8_move_X8 m_X8_move_1 (gR_o h28) dX8_move_112 ?_
              refine pt_sipush G (201 : Int32) dX8_move_115 si_201 ?_
              refine pt_iload G 0 dX8_move_118 rfl ?_
              refine pt_iadd G dX8_move_120 ?_
              refine pt_iload G 5 dX8_move_121 rfl ?_
              obtain ⟨M29, h30, hd⟩ := bnd hd
              refine pt_iast G h30 dX8_move_123 ?_
              refine pt_aload_n G 1 dX8_move_124 rfl rfl ?_
              obtain ⟨w31, h32, hd⟩ := bnd hd
              refine pt_get G (ci := 8) (j := 0) rfl (by decide) u_X8_move_X8 m_X8_move_1 (gR_o h32) dX8_move_125 ?_
              refine pt_sipush G (211 : Int32) dX8_move_128 si_211 ?_
              refine pt_dup2 G dX8_move_131 rfl rfl ?_
              obtain ⟨v33, h34, hd⟩ := bnd hd
              refine pt_iald G h34 dX8_move_132 ?_
              refine pt_iconst G (1 : Int32) dX8_move_133 ci_1 ?_
              refine pt_iadd G dX8_move_134 ?_
              obtain ⟨M35, h36, hd⟩ := bnd hd
              refine pt_iast G h36 dX8_move_135 ?_
              refine pt_iload G 0 dX8_move_136 rfl ?_
              cases hd
              exact pt_iret G hQ dX8_move_138
            · replace hd := ifp c37 hd
              refine pt_bipush G (-4 : Int32) dX8_move_72 bi_m4 ?_
              cases hd
              exact pt_iret G hQ dX8_move_74
          · replace hd := ifn c38 hd
            refine pt_bipush G (-5 : Int32) dX8_move_52 bi_m5 ?_
            cases hd
            exact pt_iret G hQ dX8_move_54
        · replace hd := ifp c39 hd
          refine pt_bipush G (-2 : Int32) dX8_move_40 bi_m2 ?_
          cases hd
          exact pt_iret G hQ dX8_move_42
  · replace hd := ifp c42 hd
    refine pt_iconst G (-1 : Int32) dX8_move_7 ci_m1 ?_
    cases hd
    exact pt_iret G hQ dX8_move_8
theorem X8_move_c {l : Launch} {D : va_G} {dA : Nat → ClassId} {b : Nat} {M : Wo} {a0 : Nat} {x1 : Int32} {x2 : Int32} {x3 : Int32} {x4 : Int32} {r : Int32} {M2 : Wo} (h : X8_move M a0 x1 x2 x3 x4 = some (r, M2)) : Met l yX8_move wsX8_move rX8_move (va_Pc [.ref a0, .int x1, .int x2, .int x3, .int x4] (Wd D dA b M)) (Ei D dA b r M2) 0 0 (Ab b) := met_i (by decide) rfl (Nat.le_of_ble_eq_true rfl) (fun X G hN hQ => X8_move_w G h hQ)
theorem X8_move_v {X : Cx} {y : MethodName} {cc : ByteArray} {Ts : List Cond} {nL : Nat} {ret : Option FieldType} {R : Room} (G : Gd X y cc Ts nL ret R) {index : Nat} (hg : GoodIn Ts (wsV y.cls index RX8 yX8_move wsX8_move)) (hR : rX8_move.frames + 1 ≤ R.frames ∧ 8 + (6 + 11) + rX8_move.locals ≤ R.locals) {k n pc : Nat} {M : Wo} {lv : List (Nat × Value)} {st : List Value} {a0 : Nat} {x1 : Int32} {x2 : Int32} {x3 : Int32} {x4 : Int32} {r : Int32} {M2 : Wo} (hv : X8_move M a0 x1 x2 x3 x4 = some (r, M2)) (hd : decode cc pc = .ok (.invokevirtual index, 3)) (h8 : (st.map fun v => v.category).sum ≤ 8) (hf : k ≤ R.cells ∧ n ≤ R.slots) (kk : Pt X k n (pc + 3) M2 lv (.int r :: st)) : Pt X k n pc M lv (.int x4 :: .int x3 :: .int x2 :: .int x1 :: .ref a0 :: st) := pt_cVi (ci := 8) (nA := 4) (As := [.int x1, .int x2, .int x3, .int x4]) G (X8_move_c hv) hg rfl rfl rfl (by decide +kernel) hR rfl (rcv hv) rfl rfl h8 hd hf kk
abbrev rX8_drop : Room := { frames := 2, cells := 0, slots := 0, locals := 43 }
theorem m_X8_drop_1 : Cond.fieldLink RX8 7 "StageLinesModel" "state" "[I" ∈ wsX8_drop := List.mem_of_getElem? (i := 1) rfl
theorem u_X8_drop_X8 : ∀ w ∈ u_ws RX8 TX8 13, w ∈ wsX8_drop := mem_r [10, 11, 12, 13, 14, 15, 16, 17, 18, 19, 20, 21, 22] (by decide +kernel)
abbrev X8_drop_P24 (X : Cx) (a0 : Nat) : (Wo × Int32) → Prop := un2 (fun M x2 => Pt X 0 0 24 M [(0, .ref a0), (2, .int x2)] [])
abbrev X8_drop_Z24 (X : Cx) (a0 : Nat) : Wo → Prop := (un1 (fun M => Pt X 0 0 77 M [(0, .ref a0)] []))
abbrev X8_drop_P40 (X : Cx) (a0 : Nat) (x2 : Int32) : (Wo × Int32) → Prop := un2 (fun M x3 => Pt X 0 0 40 M [(0, .ref a0), (2, .int x2), (3, .int x3)] [])
abbrev X8_drop_Z40 (X : Cx) (a0 : Nat) (x2 : Int32) : Wo → Prop := (un1 (fun M => Pt X 0 0 71 M [(0, .ref a0), (2, .int x2)] []))
def X8_drop_b40 (a0 : Nat) (x2 : Int32) (M : Wo) (x3 : Int32) : Option ((Wo × Int32) ⊕ Wo) :=
  if (201 : Int32) < x3 then (some (.inr M)) else ((gR M a0 8 0).bind fun w13 => (gR M a0 8 0).bind fun w15 => (lA M 0 w15 ((x3 + x2) + (1 : Int32))).bind fun v17 => (sA M w13 (x3 + x2) v17).bind fun M19 => some (.inl (M19, (x3 + 10))))
theorem X8_drop_b40_w {X : Cx} (G : Gd X yX8_drop cX8_drop wsX8_drop 4 (some .int) rX8_drop) {a0 : Nat} {x2 : Int32} {M : Wo} {x3 : Int32} {o : ((Wo × Int32) ⊕ Wo)} (hd : X8_drop_b40 a0 x2 M x3 = some o) (hc : ∀ s9, o = .inl s9 → X8_drop_P40 X a0 x2 s9) (he : ∀ e9, o = .inr e9 → X8_drop_Z40 X a0 x2 e9) : Pt X 0 0 40 M [(0, .ref a0), (2, .int x2), (3, .int x3)] [] := by
  unfold X8_drop_b40 at hd
  refine pt_iload_n G 2 dX8_drop_40 rfl rfl ?_
  refine pt_sipush G (201 : Int32) dX8_drop_41 si_201 ?_
  refine pt_icmp_gt G 71 dX8_drop_44 (by decide) (fun c21 => ?_) (fun c21 => ?_)
  · replace hd := ifp c21 hd
    exact pt_sub [0, 1] rfl (he M (Option.some.inj hd).symm)
  · replace hd := ifn c21 hd
    refine pt_aload_n G 0 dX8_drop_47 rfl rfl ?_
    obtain ⟨w13, h14, hd⟩ := bnd hd
    refine pt_get G (ci := 8) (j := 0) rfl (by decide) u_X8_drop_X8 m_X8_drop_1 (gR_o h14) dX8_drop_48 ?_
    refine pt_iload_n G 2 dX8_drop_51 rfl rfl ?_
    refine pt_iload_n G 1 dX8_drop_52 rfl rfl ?_
    refine pt_iadd G dX8_drop_53 ?_
    refine pt_aload_n G 0 dX8_drop_54 rfl rfl ?_
    obtain ⟨w15, h16, hd⟩ := bnd hd
    refine pt_get G (ci := 8) (j := 0) rfl (by decide) u_X8_drop_X8 m_X8_drop_1 (gR_o h16) dX8_drop_55 ?_
    refine pt_iload_n G 2 dX8_drop_58 rfl rfl ?_
    refine pt_iload_n G 1 dX8_drop_59 rfl rfl ?_
    refine pt_iadd G dX8_drop_60 ?_
    refine pt_iconst G (1 : Int32) dX8_drop_61 ci_1 ?_
    refine pt_iadd G dX8_drop_62 ?_
    obtain ⟨v17, h18, hd⟩ := bnd hd
    refine pt_iald G h18 dX8_drop_63 ?_
    obtain ⟨M19, h20, hd⟩ := bnd hd
    refine pt_iast G h20 dX8_drop_64 ?_
    refine pt_iinc G 2 (x3 + 10) [(3, .int (x3 + 10)), (0, .ref a0), (2, .int x2)] dX8_drop_65 rfl (inc_10 _) (by decide) rfl ?_
    refine pt_goto G 40 dX8_drop_68 (by decide) ?_
    exact pt_sub [1, 2, 0] rfl (hc (M19, (x3 + 10)) (Option.some.inj hd).symm)
theorem X8_drop_w40_w {X : Cx} (G : Gd X yX8_drop cX8_drop wsX8_drop 4 (some .int) rX8_drop) {a0 : Nat} {x2 : Int32} (n9 : Nat) (s9 : (Wo × Int32)) (e9 : Wo) (hw : wloop (un2 (X8_drop_b40 a0 x2)) n9 s9 = some e9) (hz : X8_drop_Z40 X a0 x2 e9) : X8_drop_P40 X a0 x2 s9 := by
  refine wl_ind (P := X8_drop_P40 X a0 x2) (Z := X8_drop_Z40 X a0 x2) ?_ n9 s9 e9 hw hz
  intro s9 o9 hd hc he
  obtain ⟨M, x3⟩ := s9
  exact X8_drop_b40_w G hd hc he
def X8_drop_b24 (a0 : Nat) (M : Wo) (x2 : Int32) : Option ((Wo × Int32) ⊕ Wo) :=
  (gR M a0 8 0).bind fun w9 => (lA M 0 w9 (211 : Int32)).bind fun v11 => if v11 ≤ x2 then (some (.inr M)) else ((wloop (un2 (X8_drop_b40 a0 x2)) FU (M, (171 : Int32))).bind fun M22 => some (.inl (M22, (x2 + 1))))
theorem X8_drop_b24_w {X : Cx} (G : Gd X yX8_drop cX8_drop wsX8_drop 4 (some .int) rX8_drop) {a0 : Nat} {M : Wo} {x2 : Int32} {o : ((Wo × Int32) ⊕ Wo)} (hd : X8_drop_b24 a0 M x2 = some o) (hc : ∀ s9, o = .inl s9 → X8_drop_P24 X a0 s9) (he : ∀ e9, o = .inr e9 → X8_drop_Z24 X a0 e9) : Pt X 0 0 24 M [(0, .ref a0), (2, .int x2)] [] := by
  unfold X8_drop_b24 at hd
  refine pt_iload_n G 1 dX8_drop_24 rfl rfl ?_
  refine pt_aload_n G 0 dX8_drop_25 rfl rfl ?_
  obtain ⟨w9, h10, hd⟩ := bnd hd
  refine pt_get G (ci := 8) (j := 0) rfl (by decide) u_X8_drop_X8 m_X8_drop_1 (gR_o h10) dX8_drop_26 ?_
  refine pt_sipush G (211 : Int32) dX8_drop_29 si_211 ?_
  obtain ⟨v11, h12, hd⟩ := bnd hd
  refine pt_iald G h12 dX8_drop_32 ?_
  refine pt_icmp_ge G 77 dX8_drop_33 (by decide) (fun c24 => ?_) (fun c24 => ?_)
  · replace hd := ifp c24 hd
    exact pt_sub [0] rfl (he M (Option.some.inj hd).symm)
  · replace hd := ifn c24 hd
    refine pt_sipush G (171 : Int32) dX8_drop_36 si_171 ?_
    refine pt_istore_n G [(3, .int (171 : Int32)), (0, .ref a0), (2, .int x2)] dX8_drop_39 rfl (by decide) rfl ?_
    obtain ⟨M22, hw23, hd⟩ := bnd hd
    refine pt_sub [1, 2, 0] rfl (X8_drop_w40_w G _ _ _ hw23 ?_)
    show Pt X 0 0 _ _ _ []
    refine pt_iinc G 1 (x2 + 1) [(2, .int (x2 + 1)), (0, .ref a0)] dX8_drop_71 rfl (inc_1 _) (by decide) rfl ?_
    refine pt_goto G 24 dX8_drop_74 (by decide) ?_
    exact pt_sub [1, 0] rfl (hc (M22, (x2 + 1)) (Option.some.inj hd).symm)
theorem X8_drop_w24_w {X : Cx} (G : Gd X yX8_drop cX8_drop wsX8_drop 4 (some .int) rX8_drop) {a0 : Nat} (n9 : Nat) (s9 : (Wo × Int32)) (e9 : Wo) (hw : wloop (un2 (X8_drop_b24 a0)) n9 s9 = some e9) (hz : X8_drop_Z24 X a0 e9) : X8_drop_P24 X a0 s9 := by
  refine wl_ind (P := X8_drop_P24 X a0) (Z := X8_drop_Z24 X a0) ?_ n9 s9 e9 hw hz
  intro s9 o9 hd hc he
  obtain ⟨M, x2⟩ := s9
  exact X8_drop_b24_w G hd hc he
def X8_drop (M : Wo) (a0 : Nat) (x1 : Int32) : Option (Int32 × Wo) :=
  (ckO M a0 8).bind fun _ => (X8_isMove M a0 x1).bind fun v2 => if v2 = 0 then (some ((-1 : Int32), M)) else ((gR M a0 8 0).bind fun w3 => (lA M 0 w3 (211 : Int32)).bind fun v5 => (sA M w3 (211 : Int32) (v5 - (1 : Int32))).bind fun M7 => (wloop (un2 (X8_drop_b24 a0)) FU (M7, x1)).bind fun M25 => (gR M25 a0 8 0).bind fun w26 => (lA M25 0 w26 (211 : Int32)).bind fun v28 => some (v28, M25))
theorem X8_drop_w {X : Cx} (G : Gd X yX8_drop cX8_drop wsX8_drop 4 (some .int) rX8_drop) {M : Wo} {a0 : Nat} {x1 : Int32} {o : (Int32 × Wo)} (hd : X8_drop M a0 x1 = some o) (hQ : Qi X o.1 o.2 0 0) : Pt X 0 0 0 M [(0, .ref a0), (1, .int x1)] [] := by
  unfold X8_drop at hd
  obtain ⟨_, _, hd⟩ := bnd hd
  refine pt_aload_n G 0 dX8_drop_0 rfl rfl ?_
  refine pt_iload_n G 1 dX8_drop_1 rfl rfl ?_
  obtain ⟨v2, h1, hd⟩ := bnd hd
  refine X8_isMove_v G gX8_drop_X8_isMove ⟨(Nat.le_of_ble_eq_true rfl), (Nat.le_of_ble_eq_true rfl)⟩ h1 dX8_drop_2 (Nat.le_of_ble_eq_true rfl) ⟨(Nat.le_of_ble_eq_true rfl), (Nat.le_of_ble_eq_true rfl)⟩ ?_
  refine pt_if_ne G 10 dX8_drop_5 (by decide) (fun c31 => ?_) (fun c31 => ?_)
  · replace hd := ifn c31 hd
    refine pt_aload_n G 0 dX8_drop_10 rfl rfl ?_
    obtain ⟨w3, h4, hd⟩ := bnd hd
    refine pt_get G (ci := 8) (j := 0) rfl (by decide) u_X8_drop_X8 m_X8_drop_1 (gR_o h4) dX8_drop_11 ?_
    refine pt_sipush G (211 : Int32) dX8_drop_14 si_211 ?_
    refine pt_dup2 G dX8_drop_17 rfl rfl ?_
    obtain ⟨v5, h6, hd⟩ := bnd hd
    refine pt_iald G h6 dX8_drop_18 ?_
    refine pt_iconst G (1 : Int32) dX8_drop_19 ci_1 ?_
    refine pt_isub G dX8_drop_20 ?_
    obtain ⟨M7, h8, hd⟩ := bnd hd
    refine pt_iast G h8 dX8_drop_21 ?_
    refine pt_iload_n G 1 dX8_drop_22 rfl rfl ?_
    refine pt_istore_n G [(2, .int x1), (0, .ref a0), (1, .int x1)] dX8_drop_23 rfl (by decide) rfl ?_
    obtain ⟨M25, hw30, hd⟩ := bnd hd
    refine pt_sub [1, 0] rfl (X8_drop_w24_w G _ _ _ hw30 ?_)
    show Pt X 0 0 _ _ _ []
    refine pt_aload_n G 0 dX8_drop_77 rfl rfl ?_
    obtain ⟨w26, h27, hd⟩ := bnd hd
    refine pt_get G (ci := 8) (j := 0) rfl (by decide) u_X8_drop_X8 m_X8_drop_1 (gR_o h27) dX8_drop_78 ?_
    refine pt_sipush G (211 : Int32) dX8_drop_81 si_211 ?_
    obtain ⟨v28, h29, hd⟩ := bnd hd
    refine pt_iald G h29 dX8_drop_84 ?_
    cases hd
    exact pt_iret G hQ dX8_drop_85
  · replace hd := ifp c31 hd
    refine pt_iconst G (-1 : Int32) dX8_drop_8 ci_m1 ?_
    cases hd
    exact pt_iret G hQ dX8_drop_9
theorem X8_drop_c {l : Launch} {D : va_G} {dA : Nat → ClassId} {b : Nat} {M : Wo} {a0 : Nat} {x1 : Int32} {r : Int32} {M2 : Wo} (h : X8_drop M a0 x1 = some (r, M2)) : Met l yX8_drop wsX8_drop rX8_drop (va_Pc [.ref a0, .int x1] (Wd D dA b M)) (Ei D dA b r M2) 0 0 (Ab b) := met_i (by decide) rfl (Nat.le_of_ble_eq_true rfl) (fun X G hN hQ => X8_drop_w G h hQ)
theorem X8_drop_v {X : Cx} {y : MethodName} {cc : ByteArray} {Ts : List Cond} {nL : Nat} {ret : Option FieldType} {R : Room} (G : Gd X y cc Ts nL ret R) {index : Nat} (hg : GoodIn Ts (wsV y.cls index RX8 yX8_drop wsX8_drop)) (hR : rX8_drop.frames + 1 ≤ R.frames ∧ 8 + (4 + 11) + rX8_drop.locals ≤ R.locals) {k n pc : Nat} {M : Wo} {lv : List (Nat × Value)} {st : List Value} {a0 : Nat} {x1 : Int32} {r : Int32} {M2 : Wo} (hv : X8_drop M a0 x1 = some (r, M2)) (hd : decode cc pc = .ok (.invokevirtual index, 3)) (h8 : (st.map fun v => v.category).sum ≤ 8) (hf : k ≤ R.cells ∧ n ≤ R.slots) (kk : Pt X k n (pc + 3) M2 lv (.int r :: st)) : Pt X k n pc M lv (.int x1 :: .ref a0 :: st) := pt_cVi (ci := 8) (nA := 1) (As := [.int x1]) G (X8_drop_c hv) hg rfl rfl rfl (by decide +kernel) hR rfl (rcv hv) rfl rfl h8 hd hf kk
abbrev rX8_shift : Room := { frames := 2, cells := 0, slots := 0, locals := 43 }
theorem m_X8_shift_1 : Cond.fieldLink RX8 7 "StageLinesModel" "state" "[I" ∈ wsX8_shift := List.mem_of_getElem? (i := 1) rfl
theorem u_X8_shift_X8 : ∀ w ∈ u_ws RX8 TX8 13, w ∈ wsX8_shift := mem_r [14, 15, 16, 17, 18, 19, 20, 21, 22, 23, 24, 25, 26] (by decide +kernel)
def X8_shift_L92 (M : Wo) (a0 : Nat) (x1 : Int32) (x3 : Int32) : Option (Int32 × Wo) :=
  (gR M a0 8 0).bind fun w21 => (sA M w21 ((181 : Int32) + x1) x3).bind fun M23 => some (x3, M23)
theorem X8_shift_L92_w {X : Cx} (G : Gd X yX8_shift cX8_shift wsX8_shift 5 (some .int) rX8_shift) {M : Wo} {a0 : Nat} {x1 : Int32} {x3 : Int32} {o : (Int32 × Wo)} (hd : X8_shift_L92 M a0 x1 x3 = some o) (hQ : Qi X o.1 o.2 0 0) : Pt X 0 0 92 M [(0, .ref a0), (1, .int x1), (3, .int x3)] [] := by
  unfold X8_shift_L92 at hd
  refine pt_aload_n G 0 dX8_shift_92 rfl rfl ?_
  obtain ⟨w21, h22, hd⟩ := bnd hd
  refine pt_get G (ci := 8) (j := 0) rfl (by decide) u_X8_shift_X8 m_X8_shift_1 (gR_o h22) dX8_shift_93 ?_
  refine pt_sipush G (181 : Int32) dX8_shift_96 si_181 ?_
  refine pt_iload_n G 1 dX8_shift_99 rfl rfl ?_
  refine pt_iadd G dX8_shift_100 ?_
  refine pt_iload_n G 2 dX8_shift_101 rfl rfl ?_
  obtain ⟨M23, h24, hd⟩ := bnd hd
  refine pt_iast G h24 dX8_shift_102 ?_
  refine pt_iload_n G 2 dX8_shift_103 rfl rfl ?_
  cases hd
  exact pt_iret G hQ dX8_shift_104
def X8_shift (M : Wo) (a0 : Nat) (x1 : Int32) (x2 : Int32) : Option (Int32 × Wo) :=
  (ckO M a0 8).bind fun _ => (X8_isMove M a0 x1).bind fun v2 => if v2 = 0 then (some ((-1 : Int32), M)) else ((X8_in M x2 (-200 : Int32) (200 : Int32)).bind fun v4 => if v4 = 0 then (some ((-2 : Int32), M)) else ((gR M a0 8 0).bind fun w5 => (lA M 0 w5 ((181 : Int32) + x1)).bind fun v7 => (X8_in M (v7 + x2) (0 : Int32) (200 : Int32)).bind fun v10 => if v10 = 0 then (some ((-2 : Int32), M)) else ((gR M a0 8 0).bind fun w11 => (lA M 0 w11 ((181 : Int32) + x1)).bind fun v13 => (gR M a0 8 0).bind fun w15 => (lA M 0 w15 ((171 : Int32) + x1)).bind fun v17 => (X8_moveAt M a0 v17 (v13 + x2)).bind fun v20 => if v20 < 0 then (X8_shift_L92 M a0 x1 (v13 + x2)) else (if v20 = x1 then (X8_shift_L92 M a0 x1 (v13 + x2)) else (some ((-5 : Int32), M))))))
theorem X8_shift_w {X : Cx} (G : Gd X yX8_shift cX8_shift wsX8_shift 5 (some .int) rX8_shift) {M : Wo} {a0 : Nat} {x1 : Int32} {x2 : Int32} {o : (Int32 × Wo)} (hd : X8_shift M a0 x1 x2 = some o) (hQ : Qi X o.1 o.2 0 0) : Pt X 0 0 0 M [(0, .ref a0), (1, .int x1), (2, .int x2)] [] := by
  unfold X8_shift at hd
  obtain ⟨_, _, hd⟩ := bnd hd
  refine pt_aload_n G 0 dX8_shift_0 rfl rfl ?_
  refine pt_iload_n G 1 dX8_shift_1 rfl rfl ?_
  obtain ⟨v2, h1, hd⟩ := bnd hd
  refine X8_isMove_v G gX8_shift_X8_isMove ⟨(Nat.le_of_ble_eq_true rfl), (Nat.le_of_ble_eq_true rfl)⟩ h1 dX8_shift_2 (Nat.le_of_ble_eq_true rfl) ⟨(Nat.le_of_ble_eq_true rfl), (Nat.le_of_ble_eq_true rfl)⟩ ?_
  refine pt_if_ne G 10 dX8_shift_5 (by decide) (fun c29 => ?_) (fun c29 => ?_)
  · replace hd := ifn c29 hd
    refine pt_iload_n G 2 dX8_shift_10 rfl rfl ?_
    refine pt_sipush G (-200 : Int32) dX8_shift_11 si_m200 ?_
    refine pt_sipush G (200 : Int32) dX8_shift_14 si_200 ?_
    obtain ⟨v4, h3, hd⟩ := bnd hd
    refine X8_in_v G gX8_shift_X8_in ⟨(Nat.le_of_ble_eq_true rfl), (Nat.le_of_ble_eq_true rfl)⟩ h3 dX8_shift_17 (Nat.le_of_ble_eq_true rfl) ⟨(Nat.le_of_ble_eq_true rfl), (Nat.le_of_ble_eq_true rfl)⟩ ?_
    refine pt_if_eq G 45 dX8_shift_20 (by decide) (fun c28 => ?_) (fun c28 => ?_)
    · replace hd := ifp c28 hd
      refine pt_bipush G (-2 : Int32) dX8_shift_45 bi_m2 ?_
      cases hd
      exact pt_iret G hQ dX8_shift_47
    · replace hd := ifn c28 hd
      refine pt_aload_n G 0 dX8_shift_23 rfl rfl ?_
      obtain ⟨w5, h6, hd⟩ := bnd hd
      refine pt_get G (ci := 8) (j := 0) rfl (by decide) u_X8_shift_X8 m_X8_shift_1 (gR_o h6) dX8_shift_24 ?_
      refine pt_sipush G (181 : Int32) dX8_shift_27 si_181 ?_
      refine pt_iload_n G 1 dX8_shift_30 rfl rfl ?_
      refine pt_iadd G dX8_shift_31 ?_
      obtain ⟨v7, h8, hd⟩ := bnd hd
      refine pt_iald G h8 dX8_shift_32 ?_
      refine pt_iload_n G 2 dX8_shift_33 rfl rfl ?_
      refine pt_iadd G dX8_shift_34 ?_
      refine pt_iconst G (0 : Int32) dX8_shift_35 ci_0 ?_
      refine pt_sipush G (200 : Int32) dX8_shift_36 si_200 ?_
      obtain ⟨v10, h9, hd⟩ := bnd hd
      refine X8_in_v G gX8_shift_X8_in ⟨(Nat.le_of_ble_eq_true rfl), (Nat.le_of_ble_eq_true rfl)⟩ h9 dX8_shift_39 (Nat.le_of_ble_eq_true rfl) ⟨(Nat.le_of_ble_eq_true rfl), (Nat.le_of_ble_eq_true rfl)⟩ ?_
      refine pt_if_ne G 48 dX8_shift_42 (by decide) (fun c27 => ?_) (fun c27 => ?_)
      · replace hd := ifn c27 hd
        refine pt_aload_n G 0 dX8_shift_48 rfl rfl ?_
        obtain ⟨w11, h12, hd⟩ := bnd hd
        refine pt_get G (ci := 8) (j := 0) rfl (by decide) u_X8_shift_X8 m_X8_shift_1 (gR_o h12) dX8_shift_49 ?_
        refine pt_sipush G (181 : Int32) dX8_shift_52 si_181 ?_
        refine pt_iload_n G 1 dX8_shift_55 rfl rfl ?_
        refine pt_iadd G dX8_shift_56 ?_
        obtain ⟨v13, h14, hd⟩ := bnd hd
        refine pt_iald G h14 dX8_shift_57 ?_
        refine pt_iload_n G 2 dX8_shift_58 rfl rfl ?_
        refine pt_iadd G dX8_shift_59 ?_
        refine pt_istore_n G [(3, .int (v13 + x2)), (0, .ref a0), (1, .int x1), (2, .int x2)] dX8_shift_60 rfl (by decide) rfl ?_
        refine pt_aload_n G 1 dX8_shift_61 rfl rfl ?_
        refine pt_aload_n G 1 dX8_shift_62 rfl rfl ?_
        obtain ⟨w15, h16, hd⟩ := bnd hd
        refine pt_get G (ci := 8) (j := 0) rfl (by decide) u_X8_shift_X8 m_X8_shift_1 (gR_o h16) dX8_shift_63 ?_
        refine pt_sipush G (171 : Int32) dX8_shift_66 si_171 ?_
        refine pt_iload_n G 2 dX8_shift_69 rfl rfl ?_
        refine pt_iadd G dX8_shift_70 ?_
        obtain ⟨v17, h18, hd⟩ := bnd hd
        refine pt_iald G h18 dX8_shift_71 ?_
        refine pt_iload_n G 0 dX8_shift_72 rfl rfl ?_
        obtain ⟨v20, h19, hd⟩ := bnd hd
        refine X8_moveAt_v G gX8_shift_X8_moveAt ⟨(Nat.le_of_ble_eq_true rfl), (Nat.le_of_ble_eq_true rfl)⟩ h19 dX8_shift_73 (Nat.le_of_ble_eq_true rfl) ⟨(Nat.le_of_ble_eq_true rfl), (Nat.le_of_ble_eq_true rfl)⟩ ?_
        refine pt_istore G [(4, .int v20), (3, .int (v13 + x2)), (0, .ref a0), (1, .int x1), (2, .int x2)] dX8_shift_76 (by decide) rfl ?_
        refine pt_iload G 0 dX8_shift_78 rfl ?_
        refine pt_if_lt G 92 dX8_shift_80 (by decide) (fun c26 => ?_) (fun c26 => ?_)
        · replace hd := ifp c26 hd
          exact pt_sub [2, 3, 1] rfl (X8_shift_L92_w G hd hQ)
        · replace hd := ifn c26 hd
          refine pt_iload G 0 dX8_shift_83 rfl ?_
          refine pt_iload_n G 3 dX8_shift_85 rfl rfl ?_
          refine pt_icmp_eq G 92 dX8_shift_86 (by decide) (fun c25 => ?_) (fun c25 => ?_)
          · replace hd := ifp c25 hd
            exact pt_sub [2, 3, 1] rfl (X8_shift_L92_w G hd hQ)
          · replace hd := ifn c25 hd
            refine pt_bipush G (-5 : Int32) dX8_shift_89 bi_m5 ?_
            cases hd
            exact pt_iret G hQ dX8_shift_91
      · replace hd := ifp c27 hd
        refine pt_bipush G (-2 : Int32) dX8_shift_45 bi_m2 ?_
        cases hd
        exact pt_iret G hQ dX8_shift_47
  · replace hd := ifp c29 hd
    refine pt_iconst G (-1 : Int32) dX8_shift_8 ci_m1 ?_
    cases hd
    exact pt_iret G hQ dX8_shift_9
theorem X8_shift_c {l : Launch} {D : va_G} {dA : Nat → ClassId} {b : Nat} {M : Wo} {a0 : Nat} {x1 : Int32} {x2 : Int32} {r : Int32} {M2 : Wo} (h : X8_shift M a0 x1 x2 = some (r, M2)) : Met l yX8_shift wsX8_shift rX8_shift (va_Pc [.ref a0, .int x1, .int x2] (Wd D dA b M)) (Ei D dA b r M2) 0 0 (Ab b) := met_i (by decide) rfl (Nat.le_of_ble_eq_true rfl) (fun X G hN hQ => X8_shift_w G h hQ)
theorem X8_shift_v {X : Cx} {y : MethodName} {cc : ByteArray} {Ts : List Cond} {nL : Nat} {ret : Option FieldType} {R : Room} (G : Gd X y cc Ts nL ret R) {index : Nat} (hg : GoodIn Ts (wsV y.cls index RX8 yX8_shift wsX8_shift)) (hR : rX8_shift.frames + 1 ≤ R.frames ∧ 8 + (5 + 11) + rX8_shift.locals ≤ R.locals) {k n pc : Nat} {M : Wo} {lv : List (Nat × Value)} {st : List Value} {a0 : Nat} {x1 : Int32} {x2 : Int32} {r : Int32} {M2 : Wo} (hv : X8_shift M a0 x1 x2 = some (r, M2)) (hd : decode cc pc = .ok (.invokevirtual index, 3)) (h8 : (st.map fun v => v.category).sum ≤ 8) (hf : k ≤ R.cells ∧ n ≤ R.slots) (kk : Pt X k n (pc + 3) M2 lv (.int r :: st)) : Pt X k n pc M lv (.int x2 :: .int x1 :: .ref a0 :: st) := pt_cVi (ci := 8) (nA := 2) (As := [.int x1, .int x2]) G (X8_shift_c hv) hg rfl rfl rfl (by decide +kernel) hR rfl (rcv hv) rfl rfl h8 hd hf kk
abbrev rX8_latest : Room := { frames := 0, cells := 0, slots := 0, locals := 0 }
theorem m_X8_latest_1 : Cond.fieldLink RX8 7 "StageLinesModel" "state" "[I" ∈ wsX8_latest := List.mem_of_getElem? (i := 1) rfl
theorem u_X8_latest_X8 : ∀ w ∈ u_ws RX8 TX8 13, w ∈ wsX8_latest := mem_r [2, 3, 4, 5, 6, 7, 8, 9, 10, 11, 12, 13, 14] (by decide +kernel)
abbrev X8_latest_P6 (X : Cx) (M : Wo) (a0 : Nat) (x1 : Int32) (x2 : Int32) : (Int32 × Int32) → Prop := un2 (fun x3 x4 => Pt X 0 0 6 M [(0, .ref a0), (1, .int x1), (2, .int x2), (3, .int x3), (4, .int x4)] [])
abbrev X8_latest_Z6 (X : Cx) (M : Wo) (a0 : Nat) (x1 : Int32) (x2 : Int32) : Int32 → Prop := (un1 (fun x3 => Pt X 0 0 86 M [(3, .int x3)] []))
def X8_latest_b6 (M : Wo) (a0 : Nat) (x1 : Int32) (x2 : Int32) (x3 : Int32) (x4 : Int32) : Option ((Int32 × Int32) ⊕ Int32) :=
  (gR M a0 8 0).bind fun w1 => (lA M 0 w1 (211 : Int32)).bind fun v3 => if v3 ≤ x4 then (some (.inr x3)) else ((gR M a0 8 0).bind fun w5 => (lA M 0 w5 ((171 : Int32) + x4)).bind fun v7 => if v7 = x1 then ((gR M a0 8 0).bind fun w9 => (lA M 0 w9 ((181 : Int32) + x4)).bind fun v11 => if x2 < v11 then (some (.inl (x3, (x4 + 1)))) else (if x3 < 0 then (some (.inl (x4, (x4 + 1)))) else ((gR M a0 8 0).bind fun w13 => (lA M 0 w13 ((181 : Int32) + x4)).bind fun v15 => (gR M a0 8 0).bind fun w17 => (lA M 0 w17 ((181 : Int32) + x3)).bind fun v19 => if v15 ≤ v19 then (some (.inl (x3, (x4 + 1)))) else (some (.inl (x4, (x4 + 1))))))) else (some (.inl (x3, (x4 + 1)))))
theorem X8_latest_b6_w {X : Cx} (G : Gd X yX8_latest cX8_latest wsX8_latest 5 (some .int) rX8_latest) {M : Wo} {a0 : Nat} {x1 : Int32} {x2 : Int32} {x3 : Int32} {x4 : Int32} {o : ((Int32 × Int32) ⊕ Int32)} (hd : X8_latest_b6 M a0 x1 x2 x3 x4 = some o) (hc : ∀ s9, o = .inl s9 → X8_latest_P6 X M a0 x1 x2 s9) (he : ∀ e9, o = .inr e9 → X8_latest_Z6 X M a0 x1 x2 e9) : Pt X 0 0 6 M [(0, .ref a0), (1, .int x1), (2, .int x2), (3, .int x3), (4, .int x4)] [] := by
  unfold X8_latest_b6 at hd
  refine pt_iload G 4 dX8_latest_6 rfl ?_
  refine pt_aload_n G 0 dX8_latest_8 rfl rfl ?_
  obtain ⟨w1, h2, hd⟩ := bnd hd
  refine pt_get G (ci := 8) (j := 0) rfl (by decide) u_X8_latest_X8 m_X8_latest_1 (gR_o h2) dX8_latest_9 ?_
  refine pt_sipush G (211 : Int32) dX8_latest_12 si_211 ?_
  obtain ⟨v3, h4, hd⟩ := bnd hd
  refine pt_iald G h4 dX8_latest_15 ?_
  refine pt_icmp_ge G 86 dX8_latest_16 (by decide) (fun c25 => ?_) (fun c25 => ?_)
  · replace hd := ifp c25 hd
    exact pt_sub [3] rfl (he x3 (Option.some.inj hd).symm)
  · replace hd := ifn c25 hd
    refine pt_aload_n G 0 dX8_latest_19 rfl rfl ?_
    obtain ⟨w5, h6, hd⟩ := bnd hd
    refine pt_get G (ci := 8) (j := 0) rfl (by decide) u_X8_latest_X8 m_X8_latest_1 (gR_o h6) dX8_latest_20 ?_
    refine pt_sipush G (171 : Int32) dX8_latest_23 si_171 ?_
    refine pt_iload G 4 dX8_latest_26 rfl ?_
    refine pt_iadd G dX8_latest_28 ?_
    obtain ⟨v7, h8, hd⟩ := bnd hd
    refine pt_iald G h8 dX8_latest_29 ?_
    refine pt_iload_n G 1 dX8_latest_30 rfl rfl ?_
    refine pt_icmp_ne G 80 dX8_latest_31 (by decide) (fun c24 => ?_) (fun c24 => ?_)
    · replace hd := ifn c24 hd
      refine pt_iinc G 4 (x4 + 1) [(4, .int (x4 + 1)), (0, .ref a0), (1, .int x1), (2, .int x2), (3, .int x3)] dX8_latest_80 rfl (inc_1 _) (by decide) rfl ?_
      refine pt_goto G 6 dX8_latest_83 (by decide) ?_
      exact pt_sub [1, 2, 3, 4, 0] rfl (hc (x3, (x4 + 1)) (Option.some.inj hd).symm)
    · replace hd := ifp c24 hd
      refine pt_aload_n G 0 dX8_latest_34 rfl rfl ?_
      obtain ⟨w9, h10, hd⟩ := bnd hd
      refine pt_get G (ci := 8) (j := 0) rfl (by decide) u_X8_latest_X8 m_X8_latest_1 (gR_o h10) dX8_latest_35 ?_
      refine pt_sipush G (181 : Int32) dX8_latest_38 si_181 ?_
      refine pt_iload G 4 dX8_latest_41 rfl ?_
      refine pt_iadd G dX8_latest_43 ?_
      obtain ⟨v11, h12, hd⟩ := bnd hd
      refine pt_iald G h12 dX8_latest_44 ?_
      refine pt_iload_n G 2 dX8_latest_45 rfl rfl ?_
      refine pt_icmp_gt G 80 dX8_latest_46 (by decide) (fun c23 => ?_) (fun c23 => ?_)
      · replace hd := ifp c23 hd
        refine pt_iinc G 4 (x4 + 1) [(4, .int (x4 + 1)), (0, .ref a0), (1, .int x1), (2, .int x2), (3, .int x3)] dX8_latest_80 rfl (inc_1 _) (by decide) rfl ?_
        refine pt_goto G 6 dX8_latest_83 (by decide) ?_
        exact pt_sub [1, 2, 3, 4, 0] rfl (hc (x3, (x4 + 1)) (Option.some.inj hd).symm)
      · replace hd := ifn c23 hd
        refine pt_iload_n G 3 dX8_latest_49 rfl rfl ?_
        refine pt_if_lt G 77 dX8_latest_50 (by decide) (fun c22 => ?_) (fun c22 => ?_)
        · replace hd := ifp c22 hd
          refine pt_iload G 4 dX8_latest_77 rfl ?_
          refine pt_istore_n G [(3, .int x4), (0, .ref a0), (1, .int x1), (2, .int x2), (4, .int x4)] dX8_latest_79 rfl (by decide) rfl ?_
          refine pt_iinc G 4 (x4 + 1) [(4, .int (x4 + 1)), (3, .int x4), (0, .ref a0), (1, .int x1), (2, .int x2)] dX8_latest_80 rfl (inc_1 _) (by decide) rfl ?_
          refine pt_goto G 6 dX8_latest_83 (by decide) ?_
          exact pt_sub [2, 3, 4, 1, 0] rfl (hc (x4, (x4 + 1)) (Option.some.inj hd).symm)
        · replace hd := ifn c22 hd
          refine pt_aload_n G 0 dX8_latest_53 rfl rfl ?_
          obtain ⟨w13, h14, hd⟩ := bnd hd
          refine pt_get G (ci := 8) (j := 0) rfl (by decide) u_X8_latest_X8 m_X8_latest_1 (gR_o h14) dX8_latest_54 ?_
          refine pt_sipush G (181 : Int32) dX8_latest_57 si_181 ?_
          refine pt_iload G 4 dX8_latest_60 rfl ?_
          refine pt_iadd G dX8_latest_62 ?_
          obtain ⟨v15, h16, hd⟩ := bnd hd
          refine pt_iald G h16 dX8_latest_63 ?_
          refine pt_aload_n G 0 dX8_latest_64 rfl rfl ?_
          obtain ⟨w17, h18, hd⟩ := bnd hd
          refine pt_get G (ci := 8) (j := 0) rfl (by decide) u_X8_latest_X8 m_X8_latest_1 (gR_o h18) dX8_latest_65 ?_
          refine pt_sipush G (181 : Int32) dX8_latest_68 si_181 ?_
          refine pt_iload_n G 3 dX8_latest_71 rfl rfl ?_
          refine pt_iadd G dX8_latest_72 ?_
          obtain ⟨v19, h20, hd⟩ := bnd hd
          refine pt_iald G h20 dX8_latest_73 ?_
          refine pt_icmp_le G 80 dX8_latest_74 (by decide) (fun c21 => ?_) (fun c21 => ?_)
          · replace hd := ifp c21 hd
            refine pt_iinc G 4 (x4 + 1) [(4, .int (x4 + 1)), (0, .ref a0), (1, .int x1), (2, .int x2), (3, .int x3)] dX8_latest_80 rfl (inc_1 _) (by decide) rfl ?_
            refine pt_goto G 6 dX8_latest_83 (by decide) ?_
            exact pt_sub [1, 2, 3, 4, 0] rfl (hc (x3, (x4 + 1)) (Option.some.inj hd).symm)
          · replace hd := ifn c21 hd
            refine pt_iload G 4 dX8_latest_77 rfl ?_
            refine pt_istore_n G [(3, .int x4), (0, .ref a0), (1, .int x1), (2, .int x2), (4, .int x4)] dX8_latest_79 rfl (by decide) rfl ?_
            refine pt_iinc G 4 (x4 + 1) [(4, .int (x4 + 1)), (3, .int x4), (0, .ref a0), (1, .int x1), (2, .int x2)] dX8_latest_80 rfl (inc_1 _) (by decide) rfl ?_
            refine pt_goto G 6 dX8_latest_83 (by decide) ?_
            exact pt_sub [2, 3, 4, 1, 0] rfl (hc (x4, (x4 + 1)) (Option.some.inj hd).symm)
theorem X8_latest_w6_w {X : Cx} (G : Gd X yX8_latest cX8_latest wsX8_latest 5 (some .int) rX8_latest) {M : Wo} {a0 : Nat} {x1 : Int32} {x2 : Int32} (n9 : Nat) (s9 : (Int32 × Int32)) (e9 : Int32) (hw : wloop (un2 (X8_latest_b6 M a0 x1 x2)) n9 s9 = some e9) (hz : X8_latest_Z6 X M a0 x1 x2 e9) : X8_latest_P6 X M a0 x1 x2 s9 := by
  refine wl_ind (P := X8_latest_P6 X M a0 x1 x2) (Z := X8_latest_Z6 X M a0 x1 x2) ?_ n9 s9 e9 hw hz
  intro s9 o9 hd hc he
  obtain ⟨x3, x4⟩ := s9
  exact X8_latest_b6_w G hd hc he
def X8_latest (M : Wo) (a0 : Nat) (x1 : Int32) (x2 : Int32) : Option Int32 :=
  (ckO M a0 8).bind fun _ => (wloop (un2 (X8_latest_b6 M a0 x1 x2)) FU ((-6 : Int32), (0 : Int32))).bind fun v26 => some v26
theorem X8_latest_w {X : Cx} (G : Gd X yX8_latest cX8_latest wsX8_latest 5 (some .int) rX8_latest) {M : Wo} {a0 : Nat} {x1 : Int32} {x2 : Int32} {o : Int32} (hd : X8_latest M a0 x1 x2 = some o) (hQ : Qi X o M 0 0) : Pt X 0 0 0 M [(0, .ref a0), (1, .int x1), (2, .int x2)] [] := by
  unfold X8_latest at hd
  obtain ⟨_, _, hd⟩ := bnd hd
  refine pt_bipush G (-6 : Int32) dX8_latest_0 bi_m6 ?_
  refine pt_istore_n G [(3, .int (-6 : Int32)), (0, .ref a0), (1, .int x1), (2, .int x2)] dX8_latest_2 rfl (by decide) rfl ?_
  refine pt_iconst G (0 : Int32) dX8_latest_3 ci_0 ?_
  refine pt_istore G [(4, .int (0 : Int32)), (3, .int (-6 : Int32)), (0, .ref a0), (1, .int x1), (2, .int x2)] dX8_latest_4 (by decide) rfl ?_
  obtain ⟨v26, hw27, hd⟩ := bnd hd
  refine pt_sub [2, 3, 4, 1, 0] rfl (X8_latest_w6_w G _ _ _ hw27 ?_)
  show Pt X 0 0 _ _ _ []
  refine pt_iload_n G 0 dX8_latest_86 rfl rfl ?_
  cases hd
  exact pt_iret G hQ dX8_latest_87
theorem X8_latest_c {l : Launch} {D : va_G} {dA : Nat → ClassId} {b : Nat} {M : Wo} {a0 : Nat} {x1 : Int32} {x2 : Int32} {r : Int32} (h : X8_latest M a0 x1 x2 = some r) : Met l yX8_latest wsX8_latest rX8_latest (va_Pc [.ref a0, .int x1, .int x2] (Wd D dA b M)) (Ei D dA b r M) 0 0 (Ab b) := met_i (by decide) rfl (Nat.le_of_ble_eq_true rfl) (fun X G hN hQ => X8_latest_w G h hQ)
theorem X8_latest_v {X : Cx} {y : MethodName} {cc : ByteArray} {Ts : List Cond} {nL : Nat} {ret : Option FieldType} {R : Room} (G : Gd X y cc Ts nL ret R) {index : Nat} (hg : GoodIn Ts (wsV y.cls index RX8 yX8_latest wsX8_latest)) (hR : rX8_latest.frames + 1 ≤ R.frames ∧ 8 + (5 + 11) + rX8_latest.locals ≤ R.locals) {k n pc : Nat} {M : Wo} {lv : List (Nat × Value)} {st : List Value} {a0 : Nat} {x1 : Int32} {x2 : Int32} {r : Int32} (hv : X8_latest M a0 x1 x2 = some r) (hd : decode cc pc = .ok (.invokevirtual index, 3)) (h8 : (st.map fun v => v.category).sum ≤ 8) (hf : k ≤ R.cells ∧ n ≤ R.slots) (kk : Pt X k n (pc + 3) M lv (.int r :: st)) : Pt X k n pc M lv (.int x2 :: .int x1 :: .ref a0 :: st) := pt_cVi (ci := 8) (nA := 2) (As := [.int x1, .int x2]) G (X8_latest_c hv) hg rfl rfl rfl (by decide +kernel) hR rfl (rcv hv) rfl rfl h8 hd hf kk
abbrev rX8_layHeights : Room := { frames := 1, cells := 0, slots := 0, locals := 24 }
theorem m_X8_layHeights_1 : Cond.fieldLink RX8 23 "StageLinesModel" "heights" "[I" ∈ wsX8_layHeights := List.mem_of_getElem? (i := 1) rfl
theorem u_X8_layHeights_X8 : ∀ w ∈ u_ws RX8 TX8 13, w ∈ wsX8_layHeights := mem_r [11, 12, 13, 14, 15, 16, 17, 18, 19, 20, 21, 22, 23] (by decide +kernel)
theorem m_X8_layHeights_2 : Cond.fieldLink RX8 7 "StageLinesModel" "state" "[I" ∈ wsX8_layHeights := List.mem_of_getElem? (i := 2) rfl
abbrev X8_layHeights_P16 (X : Cx) (a0 : Nat) (x1 : Int32) : (Wo × Int32) → Prop := un2 (fun M x2 => Pt X 0 0 16 M [(0, .ref a0), (1, .int x1), (2, .int x2)] [])
abbrev X8_layHeights_Z16 (X : Cx) (a0 : Nat) (x1 : Int32) : Wo → Prop := (un1 (fun M => Pt X 0 0 126 M [] []))
def X8_layHeights_L112 (M : Wo) (a0 : Nat) (x1 : Int32) (x2 : Int32) (x5 : Int32) : Option ((Wo × Int32) ⊕ Wo) :=
  (gR M a0 8 5).bind fun w15 => (sA M w15 x2 x5).bind fun M17 => some (.inl (M17, (x2 + 1)))
theorem X8_layHeights_L112_w {X : Cx} (G : Gd X yX8_layHeights cX8_layHeights wsX8_layHeights 8 none rX8_layHeights) {M : Wo} {a0 : Nat} {x1 : Int32} {x2 : Int32} {x5 : Int32} {o : ((Wo × Int32) ⊕ Wo)} (hd : X8_layHeights_L112 M a0 x1 x2 x5 = some o) (hc : ∀ s9, o = .inl s9 → X8_layHeights_P16 X a0 x1 s9) (he : ∀ e9, o = .inr e9 → X8_layHeights_Z16 X a0 x1 e9) : Pt X 0 0 112 M [(0, .ref a0), (1, .int x1), (2, .int x2), (5, .int x5)] [] := by
  unfold X8_layHeights_L112 at hd
  refine pt_aload_n G 0 dX8_layHeights_112 rfl rfl ?_
  obtain ⟨w15, h16, hd⟩ := bnd hd
  refine pt_get G (ci := 8) (j := 5) rfl (by decide) u_X8_layHeights_X8 m_X8_layHeights_1 (gR_o h16) dX8_layHeights_113 ?_
  refine pt_iload_n G 2 dX8_layHeights_116 rfl rfl ?_
  refine pt_iload G 3 dX8_layHeights_117 rfl ?_
  obtain ⟨M17, h18, hd⟩ := bnd hd
  refine pt_iast G h18 dX8_layHeights_119 ?_
  refine pt_iinc G 2 (x2 + 1) [(2, .int (x2 + 1)), (0, .ref a0), (1, .int x1), (5, .int x5)] dX8_layHeights_120 rfl (inc_1 _) (by decide) rfl ?_
  refine pt_goto G 16 dX8_layHeights_123 (by decide) ?_
  exact pt_sub [1, 2, 0] rfl (hc (M17, (x2 + 1)) (Option.some.inj hd).symm)
def X8_layHeights_L110 (M : Wo) (a0 : Nat) (x1 : Int32) (x2 : Int32) (t0 : Int32) : Option ((Wo × Int32) ⊕ Wo) :=
  X8_layHeights_L112 M a0 x1 x2 t0
theorem X8_layHeights_L110_w {X : Cx} (G : Gd X yX8_layHeights cX8_layHeights wsX8_layHeights 8 none rX8_layHeights) {M : Wo} {a0 : Nat} {x1 : Int32} {x2 : Int32} {t0 : Int32} {o : ((Wo × Int32) ⊕ Wo)} (hd : X8_layHeights_L110 M a0 x1 x2 t0 = some o) (hc : ∀ s9, o = .inl s9 → X8_layHeights_P16 X a0 x1 s9) (he : ∀ e9, o = .inr e9 → X8_layHeights_Z16 X a0 x1 e9) : Pt X 0 0 110 M [(0, .ref a0), (1, .int x1), (2, .int x2)] [.int t0] := by
  unfold X8_layHeights_L110 at hd
  refine pt_istore G [(5, .int t0), (0, .ref a0), (1, .int x1), (2, .int x2)] dX8_layHeights_110 (by decide) rfl ?_
  exact pt_sub [1, 2, 3, 0] rfl (X8_layHeights_L112_w G hd hc he)
def X8_layHeights_b16 (a0 : Nat) (x1 : Int32) (M : Wo) (x2 : Int32) : Option ((Wo × Int32) ⊕ Wo) :=
  if (300 : Int32) < x2 then (some (.inr M)) else ((gR M a0 8 5).bind fun w9 => (lA M 0 w9 (x2 - (1 : Int32))).bind fun v11 => (X8_latest M a0 x1 (x2 - (1 : Int32))).bind fun v14 => if v14 < 0 then (X8_layHeights_L112 M a0 x1 x2 v11) else ((gR M a0 8 0).bind fun w19 => (lA M 0 w19 ((191 : Int32) + v14)).bind fun v21 => (gR M a0 8 0).bind fun w23 => (lA M 0 w23 ((201 : Int32) + v14)).bind fun v25 => (X8_size M (v21 - v11)).bind fun v28 => if v25 < v28 then (if v21 ≤ v11 then (X8_layHeights_L110 M a0 x1 x2 (v11 - v25)) else (X8_layHeights_L110 M a0 x1 x2 (v11 + v25))) else (X8_layHeights_L110 M a0 x1 x2 v21)))
theorem X8_layHeights_b16_w {X : Cx} (G : Gd X yX8_layHeights cX8_layHeights wsX8_layHeights 8 none rX8_layHeights) {a0 : Nat} {x1 : Int32} {M : Wo} {x2 : Int32} {o : ((Wo × Int32) ⊕ Wo)} (hd : X8_layHeights_b16 a0 x1 M x2 = some o) (hc : ∀ s9, o = .inl s9 → X8_layHeights_P16 X a0 x1 s9) (he : ∀ e9, o = .inr e9 → X8_layHeights_Z16 X a0 x1 e9) : Pt X 0 0 16 M [(0, .ref a0), (1, .int x1), (2, .int x2)] [] := by
  unfold X8_layHeights_b16 at hd
  refine pt_iload_n G 2 dX8_layHeights_16 rfl rfl ?_
  refine pt_sipush G (300 : Int32) dX8_layHeights_17 si_300 ?_
  refine pt_icmp_gt G 126 dX8_layHeights_20 (by decide) (fun c32 => ?_) (fun c32 => ?_)
  · replace hd := ifp c32 hd
    exact pt_sub [] rfl (he M (Option.some.inj hd).symm)
  · replace hd := ifn c32 hd
    refine pt_aload_n G 0 dX8_layHeights_23 rfl rfl ?_
    obtain ⟨w9, h10, hd⟩ := bnd hd
    refine pt_get G (ci := 8) (j := 5) rfl (by decide) u_X8_layHeights_X8 m_X8_layHeights_1 (gR_o h10) dX8_layHeights_24 ?_
    refine pt_iload_n G 2 dX8_layHeights_27 rfl rfl ?_
    refine pt_iconst G (1 : Int32) dX8_layHeights_28 ci_1 ?_
    refine pt_isub G dX8_layHeights_29 ?_
    obtain ⟨v11, h12, hd⟩ := bnd hd
    refine pt_iald G h12 dX8_layHeights_30 ?_
    refine pt_istore_n G [(3, .int v11), (0, .ref a0), (1, .int x1), (2, .int x2)] dX8_layHeights_31 rfl (by decide) rfl ?_
    refine pt_aload_n G 1 dX8_layHeights_32 rfl rfl ?_
    refine pt_iload_n G 2 dX8_layHeights_33 rfl rfl ?_
    refine pt_iload_n G 3 dX8_layHeights_34 rfl rfl ?_
    refine pt_iconst G (1 : Int32) dX8_layHeights_35 ci_1 ?_
    refine pt_isub G dX8_layHeights_36 ?_
    obtain ⟨v14, h13, hd⟩ := bnd hd
    refine X8_latest_v G gX8_layHeights_X8_latest ⟨(Nat.le_of_ble_eq_true rfl), (Nat.le_of_ble_eq_true rfl)⟩ h13 dX8_layHeights_37 (Nat.le_of_ble_eq_true rfl) ⟨(Nat.le_of_ble_eq_true rfl), (Nat.le_of_ble_eq_true rfl)⟩ ?_
    refine pt_istore G [(4, .int v14), (3, .int v11), (0, .ref a0), (1, .int x1), (2, .int x2)] dX8_layHeights_40 (by decide) rfl ?_
    refine pt_iload_n G 1 dX8_layHeights_42 rfl rfl ?_
    refine pt_istore G [(5, .int v11), (4, .int v14), (3, .int v11), (0, .ref a0), (1, .int x1), (2, .int x2)] dX8_layHeights_43 (by decide) rfl ?_
    refine pt_iload G 1 dX8_layHeights_45 rfl ?_
    refine pt_if_lt G 112 dX8_layHeights_47 (by decide) (fun c31 => ?_) (fun c31 => ?_)
    · replace hd := ifp c31 hd
      exact pt_sub [3, 4, 5, 0] rfl (X8_layHeights_L112_w G hd hc he)
    · replace hd := ifn c31 hd
      refine pt_aload_n G 3 dX8_layHeights_50 rfl rfl ?_
      obtain ⟨w19, h20, hd⟩ := bnd hd
      refine pt_get G (ci := 8) (j := 0) rfl (by decide) u_X8_layHeights_X8 m_X8_layHeights_2 (gR_o h20) dX8_layHeights_51 ?_
      refine pt_sipush G (191 : Int32) dX8_layHeights_54 si_191 ?_
      refine pt_iload G 1 dX8_layHeights_57 rfl ?_
      refine pt_iadd G dX8_layHeights_59 ?_
      obtain ⟨v21, h22, hd⟩ := bnd hd
      refine pt_iald G h22 dX8_layHeights_60 ?_
      refine pt_istore G [(6, .int v21), (5, .int v11), (4, .int v14), (3, .int v11), (0, .ref a0), (1, .int x1), (2, .int x2)] dX8_layHeights_61 (by decide) rfl ?_
      refine pt_aload_n G 4 dX8_layHeights_63 rfl rfl ?_
      obtain ⟨w23, h24, hd⟩ := bnd hd
      refine pt_get G (ci := 8) (j := 0) rfl (by decide) u_X8_layHeights_X8 m_X8_layHeights_2 (gR_o h24) dX8_layHeights_64 ?_
      refine pt_sipush G (201 : Int32) dX8_layHeights_67 si_201 ?_
      refine pt_iload G 2 dX8_layHeights_70 rfl ?_
      refine pt_iadd G dX8_layHeights_72 ?_
      obtain ⟨v25, h26, hd⟩ := bnd hd
      refine pt_iald G h26 dX8_layHeights_73 ?_
      refine pt_istore G [(7, .int v25), (6, .int v21), (5, .int v11), (4, .int v14), (3, .int v11), (0, .ref a0), (1, .int x1), (2, .int x2)] dX8_layHeights_74 (by decide) rfl ?_
      refine pt_iload G 1 dX8_layHeights_76 rfl ?_
      refine pt_iload_n G 4 dX8_layHeights_78 rfl rfl ?_
      refine pt_isub G dX8_layHeights_79 ?_
      obtain ⟨v28, h27, hd⟩ := bnd hd
      refine X8_size_v G gX8_layHeights_X8_size ⟨(Nat.le_of_ble_eq_true rfl), (Nat.le_of_ble_eq_true rfl)⟩ h27 dX8_layHeights_80 (Nat.le_of_ble_eq_true rfl) ⟨(Nat.le_of_ble_eq_true rfl), (Nat.le_of_ble_eq_true rfl)⟩ ?_
      refine pt_iload G 0 dX8_layHeights_83 rfl ?_
      refine pt_icmp_gt G 93 dX8_layHeights_85 (by decide) (fun c30 => ?_) (fun c30 => ?_)
      · replace hd := ifp c30 hd
        refine pt_iload G 1 dX8_layHeights_93 rfl ?_
        refine pt_iload_n G 4 dX8_layHeights_95 rfl rfl ?_
        refine pt_icmp_le G 106 dX8_layHeights_96 (by decide) (fun c29 => ?_) (fun c29 => ?_)
        · replace hd := ifp c29 hd
          refine pt_iload_n G 4 dX8_layHeights_106 rfl rfl ?_
          refine pt_iload G 0 dX8_layHeights_107 rfl ?_
          refine pt_isub G dX8_layHeights_109 ?_
          exact pt_sub [5, 6, 7] rfl (X8_layHeights_L110_w G hd hc he)
        · replace hd := ifn c29 hd
          refine pt_iload_n G 4 dX8_layHeights_99 rfl rfl ?_
          refine pt_iload G 0 dX8_layHeights_100 rfl ?_
          refine pt_iadd G dX8_layHeights_102 ?_
          refine pt_goto G 110 dX8_layHeights_103 (by decide) ?_
          exact pt_sub [5, 6, 7] rfl (X8_layHeights_L110_w G hd hc he)
      · replace hd := ifn c30 hd
        refine pt_iload G 1 dX8_layHeights_88 rfl ?_
        refine pt_goto G 110 dX8_layHeights_90 (by decide) ?_
        exact pt_sub [5, 6, 7] rfl (X8_layHeights_L110_w G hd hc he)
theorem X8_layHeights_w16_w {X : Cx} (G : Gd X yX8_layHeights cX8_layHeights wsX8_layHeights 8 none rX8_layHeights) {a0 : Nat} {x1 : Int32} (n9 : Nat) (s9 : (Wo × Int32)) (e9 : Wo) (hw : wloop (un2 (X8_layHeights_b16 a0 x1)) n9 s9 = some e9) (hz : X8_layHeights_Z16 X a0 x1 e9) : X8_layHeights_P16 X a0 x1 s9 := by
  refine wl_ind (P := X8_layHeights_P16 X a0 x1) (Z := X8_layHeights_Z16 X a0 x1) ?_ n9 s9 e9 hw hz
  intro s9 o9 hd hc he
  obtain ⟨M, x2⟩ := s9
  exact X8_layHeights_b16_w G hd hc he
def X8_layHeights (M : Wo) (a0 : Nat) (x1 : Int32) : Option Wo :=
  (ckO M a0 8).bind fun _ => (gR M a0 8 5).bind fun w1 => (gR M a0 8 0).bind fun w3 => (lA M 0 w3 ((0 : Int32) + x1)).bind fun v5 => (sA M w1 (0 : Int32) v5).bind fun M7 => (wloop (un2 (X8_layHeights_b16 a0 x1)) FU (M7, (1 : Int32))).bind fun M33 => some M33
theorem X8_layHeights_w {X : Cx} (G : Gd X yX8_layHeights cX8_layHeights wsX8_layHeights 8 none rX8_layHeights) {M : Wo} {a0 : Nat} {x1 : Int32} {o : Wo} (hd : X8_layHeights M a0 x1 = some o) (hQ : Qv X o 0 0) : Pt X 0 0 0 M [(0, .ref a0), (1, .int x1)] [] := by
  unfold X8_layHeights at hd
  obtain ⟨_, _, hd⟩ := bnd hd
  refine pt_aload_n G 0 dX8_layHeights_0 rfl rfl ?_
  obtain ⟨w1, h2, hd⟩ := bnd hd
  refine pt_get G (ci := 8) (j := 5) rfl (by decide) u_X8_layHeights_X8 m_X8_layHeights_1 (gR_o h2) dX8_layHeights_1 ?_
  refine pt_iconst G (0 : Int32) dX8_layHeights_4 ci_0 ?_
  refine pt_aload_n G 0 dX8_layHeights_5 rfl rfl ?_
  obtain ⟨w3, h4, hd⟩ := bnd hd
  refine pt_get G (ci := 8) (j := 0) rfl (by decide) u_X8_layHeights_X8 m_X8_layHeights_2 (gR_o h4) dX8_layHeights_6 ?_
  refine pt_iconst G (0 : Int32) dX8_layHeights_9 ci_0 ?_
  refine pt_iload_n G 1 dX8_layHeights_10 rfl rfl ?_
  refine pt_iadd G dX8_layHeights_11 ?_
  obtain ⟨v5, h6, hd⟩ := bnd hd
  refine pt_iald G h6 dX8_layHeights_12 ?_
  obtain ⟨M7, h8, hd⟩ := bnd hd
  refine pt_iast G h8 dX8_layHeights_13 ?_
  refine pt_iconst G (1 : Int32) dX8_layHeights_14 ci_1 ?_
  refine pt_istore_n G [(2, .int (1 : Int32)), (0, .ref a0), (1, .int x1)] dX8_layHeights_15 rfl (by decide) rfl ?_
  obtain ⟨M33, hw34, hd⟩ := bnd hd
  refine pt_sub [1, 2, 0] rfl (X8_layHeights_w16_w G _ _ _ hw34 ?_)
  show Pt X 0 0 _ _ _ []
  cases hd
  exact pt_vret G hQ dX8_layHeights_126
theorem X8_layHeights_c {l : Launch} {D : va_G} {dA : Nat → ClassId} {b : Nat} {M : Wo} {a0 : Nat} {x1 : Int32} {M2 : Wo} (h : X8_layHeights M a0 x1 = some M2) : Met l yX8_layHeights wsX8_layHeights rX8_layHeights (va_Pc [.ref a0, .int x1] (Wd D dA b M)) (Ev D dA b M2) 0 0 (Ab b) := met_v (by decide) rfl (Nat.le_of_ble_eq_true rfl) (fun X G hN hQ => X8_layHeights_w G h hQ)
theorem X8_layHeights_v {X : Cx} {y : MethodName} {cc : ByteArray} {Ts : List Cond} {nL : Nat} {ret : Option FieldType} {R : Room} (G : Gd X y cc Ts nL ret R) {index : Nat} (hg : GoodIn Ts (wsV y.cls index RX8 yX8_layHeights wsX8_layHeights)) (hR : rX8_layHeights.frames + 1 ≤ R.frames ∧ 8 + (8 + 11) + rX8_layHeights.locals ≤ R.locals) {k n pc : Nat} {M : Wo} {lv : List (Nat × Value)} {st : List Value} {a0 : Nat} {x1 : Int32} {M2 : Wo} (hv : X8_layHeights M a0 x1 = some M2) (hd : decode cc pc = .ok (.invokevirtual index, 3)) (h8 : (st.map fun v => v.category).sum ≤ 8) (hf : k ≤ R.cells ∧ n ≤ R.slots) (kk : Pt X k n (pc + 3) M2 lv st) : Pt X k n pc M lv (.int x1 :: .ref a0 :: st) := pt_cVv (ci := 8) (nA := 1) (As := [.int x1]) G (X8_layHeights_c hv) hg rfl rfl rfl (by decide +kernel) hR rfl (rcv hv) rfl rfl h8 hd hf kk
abbrev rX8_nextBegin : Room := { frames := 0, cells := 0, slots := 0, locals := 0 }
theorem m_X8_nextBegin_1 : Cond.fieldLink RX8 7 "StageLinesModel" "state" "[I" ∈ wsX8_nextBegin := List.mem_of_getElem? (i := 1) rfl
theorem u_X8_nextBegin_X8 : ∀ w ∈ u_ws RX8 TX8 13, w ∈ wsX8_nextBegin := mem_r [2, 3, 4, 5, 6, 7, 8, 9, 10, 11, 12, 13, 14] (by decide +kernel)
abbrev X8_nextBegin_P5 (X : Cx) (M : Wo) (a0 : Nat) (x1 : Int32) : (Int32 × Int32) → Prop := un2 (fun x2 x3 => Pt X 0 0 5 M [(0, .ref a0), (1, .int x1), (2, .int x2), (3, .int x3)] [])
abbrev X8_nextBegin_Z5 (X : Cx) (M : Wo) (a0 : Nat) (x1 : Int32) : Int32 → Prop := (un1 (fun x2 => Pt X 0 0 98 M [(2, .int x2)] []))
def X8_nextBegin_L81 (M : Wo) (a0 : Nat) (x1 : Int32) (x3 : Int32) : Option ((Int32 × Int32) ⊕ Int32) :=
  (gR M a0 8 0).bind fun w21 => (lA M 0 w21 ((181 : Int32) + x3)).bind fun v23 => some (.inl (v23, (x3 + 1)))
theorem X8_nextBegin_L81_w {X : Cx} (G : Gd X yX8_nextBegin cX8_nextBegin wsX8_nextBegin 4 (some .int) rX8_nextBegin) {M : Wo} {a0 : Nat} {x1 : Int32} {x3 : Int32} {o : ((Int32 × Int32) ⊕ Int32)} (hd : X8_nextBegin_L81 M a0 x1 x3 = some o) (hc : ∀ s9, o = .inl s9 → X8_nextBegin_P5 X M a0 x1 s9) (he : ∀ e9, o = .inr e9 → X8_nextBegin_Z5 X M a0 x1 e9) : Pt X 0 0 81 M [(0, .ref a0), (1, .int x1), (3, .int x3)] [] := by
  unfold X8_nextBegin_L81 at hd
  refine pt_aload_n G 0 dX8_nextBegin_81 rfl rfl ?_
  obtain ⟨w21, h22, hd⟩ := bnd hd
  refine pt_get G (ci := 8) (j := 0) rfl (by decide) u_X8_nextBegin_X8 m_X8_nextBegin_1 (gR_o h22) dX8_nextBegin_82 ?_
  refine pt_sipush G (181 : Int32) dX8_nextBegin_85 si_181 ?_
  refine pt_iload_n G 2 dX8_nextBegin_88 rfl rfl ?_
  refine pt_iadd G dX8_nextBegin_89 ?_
  obtain ⟨v23, h24, hd⟩ := bnd hd
  refine pt_iald G h24 dX8_nextBegin_90 ?_
  refine pt_istore_n G [(2, .int v23), (0, .ref a0), (1, .int x1), (3, .int x3)] dX8_nextBegin_91 rfl (by decide) rfl ?_
  refine pt_iinc G 3 (x3 + 1) [(3, .int (x3 + 1)), (2, .int v23), (0, .ref a0), (1, .int x1)] dX8_nextBegin_92 rfl (inc_1 _) (by decide) rfl ?_
  refine pt_goto G 5 dX8_nextBegin_95 (by decide) ?_
  exact pt_sub [2, 3, 1, 0] rfl (hc (v23, (x3 + 1)) (Option.some.inj hd).symm)
def X8_nextBegin_b5 (M : Wo) (a0 : Nat) (x1 : Int32) (x2 : Int32) (x3 : Int32) : Option ((Int32 × Int32) ⊕ Int32) :=
  (gR M a0 8 0).bind fun w1 => (lA M 0 w1 (211 : Int32)).bind fun v3 => if v3 ≤ x3 then (some (.inr x2)) else ((gR M a0 8 0).bind fun w5 => (lA M 0 w5 ((171 : Int32) + x3)).bind fun v7 => (gR M a0 8 0).bind fun w9 => (lA M 0 w9 ((171 : Int32) + x1)).bind fun v11 => if v7 = v11 then ((gR M a0 8 0).bind fun w13 => (lA M 0 w13 ((181 : Int32) + x3)).bind fun v15 => (gR M a0 8 0).bind fun w17 => (lA M 0 w17 ((181 : Int32) + x1)).bind fun v19 => if v15 ≤ v19 then (some (.inl (x2, (x3 + 1)))) else (if x2 < 0 then (X8_nextBegin_L81 M a0 x1 x3) else ((gR M a0 8 0).bind fun w25 => (lA M 0 w25 ((181 : Int32) + x3)).bind fun v27 => if x2 ≤ v27 then (some (.inl (x2, (x3 + 1)))) else (X8_nextBegin_L81 M a0 x1 x3)))) else (some (.inl (x2, (x3 + 1)))))
theorem X8_nextBegin_b5_w {X : Cx} (G : Gd X yX8_nextBegin cX8_nextBegin wsX8_nextBegin 4 (some .int) rX8_nextBegin) {M : Wo} {a0 : Nat} {x1 : Int32} {x2 : Int32} {x3 : Int32} {o : ((Int32 × Int32) ⊕ Int32)} (hd : X8_nextBegin_b5 M a0 x1 x2 x3 = some o) (hc : ∀ s9, o = .inl s9 → X8_nextBegin_P5 X M a0 x1 s9) (he : ∀ e9, o = .inr e9 → X8_nextBegin_Z5 X M a0 x1 e9) : Pt X 0 0 5 M [(0, .ref a0), (1, .int x1), (2, .int x2), (3, .int x3)] [] := by
  unfold X8_nextBegin_b5 at hd
  refine pt_iload_n G 3 dX8_nextBegin_5 rfl rfl ?_
  refine pt_aload_n G 0 dX8_nextBegin_6 rfl rfl ?_
  obtain ⟨w1, h2, hd⟩ := bnd hd
  refine pt_get G (ci := 8) (j := 0) rfl (by decide) u_X8_nextBegin_X8 m_X8_nextBegin_1 (gR_o h2) dX8_nextBegin_7 ?_
  refine pt_sipush G (211 : Int32) dX8_nextBegin_10 si_211 ?_
  obtain ⟨v3, h4, hd⟩ := bnd hd
  refine pt_iald G h4 dX8_nextBegin_13 ?_
  refine pt_icmp_ge G 98 dX8_nextBegin_14 (by decide) (fun c33 => ?_) (fun c33 => ?_)
  · replace hd := ifp c33 hd
    exact pt_sub [2] rfl (he x2 (Option.some.inj hd).symm)
  · replace hd := ifn c33 hd
    refine pt_aload_n G 0 dX8_nextBegin_17 rfl rfl ?_
    obtain ⟨w5, h6, hd⟩ := bnd hd
    refine pt_get G (ci := 8) (j := 0) rfl (by decide) u_X8_nextBegin_X8 m_X8_nextBegin_1 (gR_o h6) dX8_nextBegin_18 ?_
    refine pt_sipush G (171 : Int32) dX8_nextBegin_21 si_171 ?_
    refine pt_iload_n G 3 dX8_nextBegin_24 rfl rfl ?_
    refine pt_iadd G dX8_nextBegin_25 ?_
    obtain ⟨v7, h8, hd⟩ := bnd hd
    refine pt_iald G h8 dX8_nextBegin_26 ?_
    refine pt_aload_n G 0 dX8_nextBegin_27 rfl rfl ?_
    obtain ⟨w9, h10, hd⟩ := bnd hd
    refine pt_get G (ci := 8) (j := 0) rfl (by decide) u_X8_nextBegin_X8 m_X8_nextBegin_1 (gR_o h10) dX8_nextBegin_28 ?_
    refine pt_sipush G (171 : Int32) dX8_nextBegin_31 si_171 ?_
    refine pt_iload_n G 1 dX8_nextBegin_34 rfl rfl ?_
    refine pt_iadd G dX8_nextBegin_35 ?_
    obtain ⟨v11, h12, hd⟩ := bnd hd
    refine pt_iald G h12 dX8_nextBegin_36 ?_
    refine pt_icmp_ne G 92 dX8_nextBegin_37 (by decide) (fun c32 => ?_) (fun c32 => ?_)
    · replace hd := ifn c32 hd
      refine pt_iinc G 3 (x3 + 1) [(3, .int (x3 + 1)), (0, .ref a0), (1, .int x1), (2, .int x2)] dX8_nextBegin_92 rfl (inc_1 _) (by decide) rfl ?_
      refine pt_goto G 5 dX8_nextBegin_95 (by decide) ?_
      exact pt_sub [1, 2, 3, 0] rfl (hc (x2, (x3 + 1)) (Option.some.inj hd).symm)
    · replace hd := ifp c32 hd
      refine pt_aload_n G 0 dX8_nextBegin_40 rfl rfl ?_
      obtain ⟨w13, h14, hd⟩ := bnd hd
      refine pt_get G (ci := 8) (j := 0) rfl (by decide) u_X8_nextBegin_X8 m_X8_nextBegin_1 (gR_o h14) dX8_nextBegin_41 ?_
      refine pt_sipush G (181 : Int32) dX8_nextBegin_44 si_181 ?_
      refine pt_iload_n G 3 dX8_nextBegin_47 rfl rfl ?_
      refine pt_iadd G dX8_nextBegin_48 ?_
      obtain ⟨v15, h16, hd⟩ := bnd hd
      refine pt_iald G h16 dX8_nextBegin_49 ?_
      refine pt_aload_n G 0 dX8_nextBegin_50 rfl rfl ?_
      obtain ⟨w17, h18, hd⟩ := bnd hd
      refine pt_get G (ci := 8) (j := 0) rfl (by decide) u_X8_nextBegin_X8 m_X8_nextBegin_1 (gR_o h18) dX8_nextBegin_51 ?_
      refine pt_sipush G (181 : Int32) dX8_nextBegin_54 si_181 ?_
      refine pt_iload_n G 1 dX8_nextBegin_57 rfl rfl ?_
      refine pt_iadd G dX8_nextBegin_58 ?_
      obtain ⟨v19, h20, hd⟩ := bnd hd
      refine pt_iald G h20 dX8_nextBegin_59 ?_
      refine pt_icmp_le G 92 dX8_nextBegin_60 (by decide) (fun c31 => ?_) (fun c31 => ?_)
      · replace hd := ifp c31 hd
        refine pt_iinc G 3 (x3 + 1) [(3, .int (x3 + 1)), (0, .ref a0), (1, .int x1), (2, .int x2)] dX8_nextBegin_92 rfl (inc_1 _) (by decide) rfl ?_
        refine pt_goto G 5 dX8_nextBegin_95 (by decide) ?_
        exact pt_sub [1, 2, 3, 0] rfl (hc (x2, (x3 + 1)) (Option.some.inj hd).symm)
      · replace hd := ifn c31 hd
        refine pt_iload_n G 2 dX8_nextBegin_63 rfl rfl ?_
        refine pt_if_lt G 81 dX8_nextBegin_64 (by decide) (fun c30 => ?_) (fun c30 => ?_)
        · replace hd := ifp c30 hd
          exact pt_sub [0, 1, 3] rfl (X8_nextBegin_L81_w G hd hc he)
        · replace hd := ifn c30 hd
          refine pt_aload_n G 0 dX8_nextBegin_67 rfl rfl ?_
          obtain ⟨w25, h26, hd⟩ := bnd hd
          refine pt_get G (ci := 8) (j := 0) rfl (by decide) u_X8_nextBegin_X8 m_X8_nextBegin_1 (gR_o h26) dX8_nextBegin_68 ?_
          refine pt_sipush G (181 : Int32) dX8_nextBegin_71 si_181 ?_
          refine pt_iload_n G 3 dX8_nextBegin_74 rfl rfl ?_
          refine pt_iadd G dX8_nextBegin_75 ?_
          obtain ⟨v27, h28, hd⟩ := bnd hd
          refine pt_iald G h28 dX8_nextBegin_76 ?_
          refine pt_iload_n G 2 dX8_nextBegin_77 rfl rfl ?_
          refine pt_icmp_ge G 92 dX8_nextBegin_78 (by decide) (fun c29 => ?_) (fun c29 => ?_)
          · replace hd := ifp c29 hd
            refine pt_iinc G 3 (x3 + 1) [(3, .int (x3 + 1)), (0, .ref a0), (1, .int x1), (2, .int x2)] dX8_nextBegin_92 rfl (inc_1 _) (by decide) rfl ?_
            refine pt_goto G 5 dX8_nextBegin_95 (by decide) ?_
            exact pt_sub [1, 2, 3, 0] rfl (hc (x2, (x3 + 1)) (Option.some.inj hd).symm)
          · replace hd := ifn c29 hd
            exact pt_sub [0, 1, 3] rfl (X8_nextBegin_L81_w G hd hc he)
theorem X8_nextBegin_w5_w {X : Cx} (G : Gd X yX8_nextBegin cX8_nextBegin wsX8_nextBegin 4 (some .int) rX8_nextBegin) {M : Wo} {a0 : Nat} {x1 : Int32} (n9 : Nat) (s9 : (Int32 × Int32)) (e9 : Int32) (hw : wloop (un2 (X8_nextBegin_b5 M a0 x1)) n9 s9 = some e9) (hz : X8_nextBegin_Z5 X M a0 x1 e9) : X8_nextBegin_P5 X M a0 x1 s9 := by
  refine wl_ind (P := X8_nextBegin_P5 X M a0 x1) (Z := X8_nextBegin_Z5 X M a0 x1) ?_ n9 s9 e9 hw hz
  intro s9 o9 hd hc he
  obtain ⟨x2, x3⟩ := s9
  exact X8_nextBegin_b5_w G hd hc he
def X8_nextBegin (M : Wo) (a0 : Nat) (x1 : Int32) : Option Int32 :=
  (ckO M a0 8).bind fun _ => (wloop (un2 (X8_nextBegin_b5 M a0 x1)) FU ((-6 : Int32), (0 : Int32))).bind fun v34 => some v34
theorem X8_nextBegin_w {X : Cx} (G : Gd X yX8_nextBegin cX8_nextBegin wsX8_nextBegin 4 (some .int) rX8_nextBegin) {M : Wo} {a0 : Nat} {x1 : Int32} {o : Int32} (hd : X8_nextBegin M a0 x1 = some o) (hQ : Qi X o M 0 0) : Pt X 0 0 0 M [(0, .ref a0), (1, .int x1)] [] := by
  unfold X8_nextBegin at hd
  obtain ⟨_, _, hd⟩ := bnd hd
  refine pt_bipush G (-6 : Int32) dX8_nextBegin_0 bi_m6 ?_
  refine pt_istore_n G [(2, .int (-6 : Int32)), (0, .ref a0), (1, .int x1)] dX8_nextBegin_2 rfl (by decide) rfl ?_
  refine pt_iconst G (0 : Int32) dX8_nextBegin_3 ci_0 ?_
  refine pt_istore_n G [(3, .int (0 : Int32)), (2, .int (-6 : Int32)), (0, .ref a0), (1, .int x1)] dX8_nextBegin_4 rfl (by decide) rfl ?_
  obtain ⟨v34, hw35, hd⟩ := bnd hd
  refine pt_sub [2, 3, 1, 0] rfl (X8_nextBegin_w5_w G _ _ _ hw35 ?_)
  show Pt X 0 0 _ _ _ []
  refine pt_iload_n G 0 dX8_nextBegin_98 rfl rfl ?_
  cases hd
  exact pt_iret G hQ dX8_nextBegin_99
theorem X8_nextBegin_c {l : Launch} {D : va_G} {dA : Nat → ClassId} {b : Nat} {M : Wo} {a0 : Nat} {x1 : Int32} {r : Int32} (h : X8_nextBegin M a0 x1 = some r) : Met l yX8_nextBegin wsX8_nextBegin rX8_nextBegin (va_Pc [.ref a0, .int x1] (Wd D dA b M)) (Ei D dA b r M) 0 0 (Ab b) := met_i (by decide) rfl (Nat.le_of_ble_eq_true rfl) (fun X G hN hQ => X8_nextBegin_w G h hQ)
theorem X8_nextBegin_v {X : Cx} {y : MethodName} {cc : ByteArray} {Ts : List Cond} {nL : Nat} {ret : Option FieldType} {R : Room} (G : Gd X y cc Ts nL ret R) {index : Nat} (hg : GoodIn Ts (wsV y.cls index RX8 yX8_nextBegin wsX8_nextBegin)) (hR : rX8_nextBegin.frames + 1 ≤ R.frames ∧ 8 + (4 + 11) + rX8_nextBegin.locals ≤ R.locals) {k n pc : Nat} {M : Wo} {lv : List (Nat × Value)} {st : List Value} {a0 : Nat} {x1 : Int32} {r : Int32} (hv : X8_nextBegin M a0 x1 = some r) (hd : decode cc pc = .ok (.invokevirtual index, 3)) (h8 : (st.map fun v => v.category).sum ≤ 8) (hf : k ≤ R.cells ∧ n ≤ R.slots) (kk : Pt X k n (pc + 3) M lv (.int r :: st)) : Pt X k n pc M lv (.int x1 :: .ref a0 :: st) := pt_cVi (ci := 8) (nA := 1) (As := [.int x1]) G (X8_nextBegin_c hv) hg rfl rfl rfl (by decide +kernel) hR rfl (rcv hv) rfl rfl h8 hd hf kk
abbrev rX8_endOf : Room := { frames := 2, cells := 0, slots := 0, locals := 51 }
theorem m_X8_endOf_1 : Cond.fieldLink RX8 7 "StageLinesModel" "state" "[I" ∈ wsX8_endOf := List.mem_of_getElem? (i := 1) rfl
theorem u_X8_endOf_X8 : ∀ w ∈ u_ws RX8 TX8 13, w ∈ wsX8_endOf := mem_r [19, 20, 21, 22, 23, 24, 25, 26, 27, 28, 29, 30, 31] (by decide +kernel)
theorem m_X8_endOf_2 : Cond.fieldLink RX8 23 "StageLinesModel" "heights" "[I" ∈ wsX8_endOf := List.mem_of_getElem? (i := 2) rfl
abbrev X8_endOf_P31 (X : Cx) (M : Wo) (a0 : Nat) (x1 : Int32) (x2 : Int32) : Int32 → Prop := un1 (fun x3 => Pt X 0 0 31 M [(0, .ref a0), (1, .int x1), (2, .int x2), (3, .int x3)] [])
abbrev X8_endOf_Z31 (X : Cx) (M : Wo) (a0 : Nat) (x1 : Int32) (x2 : Int32) : Int32 → Prop := (un1 (fun x3 => Pt X 0 0 61 M [(3, .int x3)] []))
def X8_endOf_b31 (M : Wo) (a0 : Nat) (x1 : Int32) (x2 : Int32) (x3 : Int32) : Option (Int32 ⊕ Int32) :=
  (gR M a0 8 5).bind fun w13 => (lA M 0 w13 x3).bind fun v15 => (gR M a0 8 0).bind fun w17 => (lA M 0 w17 ((191 : Int32) + x1)).bind fun v19 => if v15 = v19 then (some (.inr x3)) else (if x3 = x2 then (some (.inr x3)) else (some (.inl (x3 + 1))))
theorem X8_endOf_b31_w {X : Cx} (G : Gd X yX8_endOf cX8_endOf wsX8_endOf 4 (some .int) rX8_endOf) {M : Wo} {a0 : Nat} {x1 : Int32} {x2 : Int32} {x3 : Int32} {o : (Int32 ⊕ Int32)} (hd : X8_endOf_b31 M a0 x1 x2 x3 = some o) (hc : ∀ s9, o = .inl s9 → X8_endOf_P31 X M a0 x1 x2 s9) (he : ∀ e9, o = .inr e9 → X8_endOf_Z31 X M a0 x1 x2 e9) : Pt X 0 0 31 M [(0, .ref a0), (1, .int x1), (2, .int x2), (3, .int x3)] [] := by
  unfold X8_endOf_b31 at hd
  refine pt_aload_n G 0 dX8_endOf_31 rfl rfl ?_
  obtain ⟨w13, h14, hd⟩ := bnd hd
  refine pt_get G (ci := 8) (j := 5) rfl (by decide) u_X8_endOf_X8 m_X8_endOf_2 (gR_o h14) dX8_endOf_32 ?_
  refine pt_iload_n G 3 dX8_endOf_35 rfl rfl ?_
  obtain ⟨v15, h16, hd⟩ := bnd hd
  refine pt_iald G h16 dX8_endOf_36 ?_
  refine pt_aload_n G 0 dX8_endOf_37 rfl rfl ?_
  obtain ⟨w17, h18, hd⟩ := bnd hd
  refine pt_get G (ci := 8) (j := 0) rfl (by decide) u_X8_endOf_X8 m_X8_endOf_1 (gR_o h18) dX8_endOf_38 ?_
  refine pt_sipush G (191 : Int32) dX8_endOf_41 si_191 ?_
  refine pt_iload_n G 1 dX8_endOf_44 rfl rfl ?_
  refine pt_iadd G dX8_endOf_45 ?_
  obtain ⟨v19, h20, hd⟩ := bnd hd
  refine pt_iald G h20 dX8_endOf_46 ?_
  refine pt_icmp_eq G 61 dX8_endOf_47 (by decide) (fun c22 => ?_) (fun c22 => ?_)
  · replace hd := ifp c22 hd
    exact pt_sub [3] rfl (he x3 (Option.some.inj hd).symm)
  · replace hd := ifn c22 hd
    refine pt_iload_n G 3 dX8_endOf_50 rfl rfl ?_
    refine pt_iload_n G 2 dX8_endOf_51 rfl rfl ?_
    refine pt_icmp_eq G 61 dX8_endOf_52 (by decide) (fun c21 => ?_) (fun c21 => ?_)
    · replace hd := ifp c21 hd
      exact pt_sub [3] rfl (he x3 (Option.some.inj hd).symm)
    · replace hd := ifn c21 hd
      refine pt_iinc G 3 (x3 + 1) [(3, .int (x3 + 1)), (0, .ref a0), (1, .int x1), (2, .int x2)] dX8_endOf_55 rfl (inc_1 _) (by decide) rfl ?_
      refine pt_goto G 31 dX8_endOf_58 (by decide) ?_
      exact pt_sub [1, 2, 3, 0] rfl (hc (x3 + 1) (Option.some.inj hd).symm)
theorem X8_endOf_w31_w {X : Cx} (G : Gd X yX8_endOf cX8_endOf wsX8_endOf 4 (some .int) rX8_endOf) {M : Wo} {a0 : Nat} {x1 : Int32} {x2 : Int32} (n9 : Nat) (s9 : Int32) (e9 : Int32) (hw : wloop (un1 (X8_endOf_b31 M a0 x1 x2)) n9 s9 = some e9) (hz : X8_endOf_Z31 X M a0 x1 x2 e9) : X8_endOf_P31 X M a0 x1 x2 s9 := by
  refine wl_ind (P := X8_endOf_P31 X M a0 x1 x2) (Z := X8_endOf_Z31 X M a0 x1 x2) ?_ n9 s9 e9 hw hz
  intro s9 o9 hd hc he
  exact X8_endOf_b31_w G hd hc he
def X8_endOf (M : Wo) (a0 : Nat) (x1 : Int32) : Option (Int32 × Wo) :=
  (ckO M a0 8).bind fun _ => (gR M a0 8 0).bind fun w1 => (lA M 0 w1 ((171 : Int32) + x1)).bind fun v3 => (X8_layHeights M a0 v3).bind fun M6 => (X8_nextBegin M6 a0 x1).bind fun v8 => (gR M6 a0 8 0).bind fun w9 => (lA M6 0 w9 ((181 : Int32) + x1)).bind fun v11 => (wloop (un1 (X8_endOf_b31 M6 a0 x1 v8)) FU v11).bind fun v23 => some (v23, M6)
theorem X8_endOf_w {X : Cx} (G : Gd X yX8_endOf cX8_endOf wsX8_endOf 4 (some .int) rX8_endOf) {M : Wo} {a0 : Nat} {x1 : Int32} {o : (Int32 × Wo)} (hd : X8_endOf M a0 x1 = some o) (hQ : Qi X o.1 o.2 0 0) : Pt X 0 0 0 M [(0, .ref a0), (1, .int x1)] [] := by
  unfold X8_endOf at hd
  obtain ⟨_, _, hd⟩ := bnd hd
  refine pt_aload_n G 0 dX8_endOf_0 rfl rfl ?_
  refine pt_aload_n G 0 dX8_endOf_1 rfl rfl ?_
  obtain ⟨w1, h2, hd⟩ := bnd hd
  refine pt_get G (ci := 8) (j := 0) rfl (by decide) u_X8_endOf_X8 m_X8_endOf_1 (gR_o h2) dX8_endOf_2 ?_
  refine pt_sipush G (171 : Int32) dX8_endOf_5 si_171 ?_
  refine pt_iload_n G 1 dX8_endOf_8 rfl rfl ?_
  refine pt_iadd G dX8_endOf_9 ?_
  obtain ⟨v3, h4, hd⟩ := bnd hd
  refine pt_iald G h4 dX8_endOf_10 ?_
  obtain ⟨M6, h5, hd⟩ := bnd hd
  refine X8_layHeights_v G gX8_endOf_X8_layHeights ⟨(Nat.le_of_ble_eq_true rfl), (Nat.le_of_ble_eq_true rfl)⟩ h5 dX8_endOf_11 (Nat.le_of_ble_eq_true rfl) ⟨(Nat.le_of_ble_eq_true rfl), (Nat.le_of_ble_eq_true rfl)⟩ ?_
  refine pt_aload_n G 0 dX8_endOf_14 rfl rfl ?_
  refine pt_iload_n G 1 dX8_endOf_15 rfl rfl ?_
  obtain ⟨v8, h7, hd⟩ := bnd hd
  refine X8_nextBegin_v G gX8_endOf_X8_nextBegin ⟨(Nat.le_of_ble_eq_true rfl), (Nat.le_of_ble_eq_true rfl)⟩ h7 dX8_endOf_16 (Nat.le_of_ble_eq_true rfl) ⟨(Nat.le_of_ble_eq_true rfl), (Nat.le_of_ble_eq_true rfl)⟩ ?_
  refine pt_istore_n G [(2, .int v8), (0, .ref a0), (1, .int x1)] dX8_endOf_19 rfl (by decide) rfl ?_
  refine pt_aload_n G 1 dX8_endOf_20 rfl rfl ?_
  obtain ⟨w9, h10, hd⟩ := bnd hd
  refine pt_get G (ci := 8) (j := 0) rfl (by decide) u_X8_endOf_X8 m_X8_endOf_1 (gR_o h10) dX8_endOf_21 ?_
  refine pt_sipush G (181 : Int32) dX8_endOf_24 si_181 ?_
  refine pt_iload_n G 2 dX8_endOf_27 rfl rfl ?_
  refine pt_iadd G dX8_endOf_28 ?_
  obtain ⟨v11, h12, hd⟩ := bnd hd
  refine pt_iald G h12 dX8_endOf_29 ?_
  refine pt_istore_n G [(3, .int v11), (2, .int v8), (0, .ref a0), (1, .int x1)] dX8_endOf_30 rfl (by decide) rfl ?_
  obtain ⟨v23, hw24, hd⟩ := bnd hd
  refine pt_sub [2, 3, 1, 0] rfl (X8_endOf_w31_w G _ _ _ hw24 ?_)
  show Pt X 0 0 _ _ _ []
  refine pt_iload_n G 0 dX8_endOf_61 rfl rfl ?_
  cases hd
  exact pt_iret G hQ dX8_endOf_62
theorem X8_endOf_c {l : Launch} {D : va_G} {dA : Nat → ClassId} {b : Nat} {M : Wo} {a0 : Nat} {x1 : Int32} {r : Int32} {M2 : Wo} (h : X8_endOf M a0 x1 = some (r, M2)) : Met l yX8_endOf wsX8_endOf rX8_endOf (va_Pc [.ref a0, .int x1] (Wd D dA b M)) (Ei D dA b r M2) 0 0 (Ab b) := met_i (by decide) rfl (Nat.le_of_ble_eq_true rfl) (fun X G hN hQ => X8_endOf_w G h hQ)
theorem X8_endOf_v {X : Cx} {y : MethodName} {cc : ByteArray} {Ts : List Cond} {nL : Nat} {ret : Option FieldType} {R : Room} (G : Gd X y cc Ts nL ret R) {index : Nat} (hg : GoodIn Ts (wsV y.cls index RX8 yX8_endOf wsX8_endOf)) (hR : rX8_endOf.frames + 1 ≤ R.frames ∧ 8 + (4 + 11) + rX8_endOf.locals ≤ R.locals) {k n pc : Nat} {M : Wo} {lv : List (Nat × Value)} {st : List Value} {a0 : Nat} {x1 : Int32} {r : Int32} {M2 : Wo} (hv : X8_endOf M a0 x1 = some (r, M2)) (hd : decode cc pc = .ok (.invokevirtual index, 3)) (h8 : (st.map fun v => v.category).sum ≤ 8) (hf : k ≤ R.cells ∧ n ≤ R.slots) (kk : Pt X k n (pc + 3) M2 lv (.int r :: st)) : Pt X k n pc M lv (.int x1 :: .ref a0 :: st) := pt_cVi (ci := 8) (nA := 1) (As := [.int x1]) G (X8_endOf_c hv) hg rfl rfl rfl (by decide +kernel) hR rfl (rcv hv) rfl rfl h8 hd hf kk
abbrev rX8_isCut : Room := { frames := 3, cells := 0, slots := 0, locals := 74 }
theorem m_X8_isCut_2 : Cond.fieldLink RX8 7 "StageLinesModel" "state" "[I" ∈ wsX8_isCut := List.mem_of_getElem? (i := 2) rfl
theorem u_X8_isCut_X8 : ∀ w ∈ u_ws RX8 TX8 13, w ∈ wsX8_isCut := mem_r [23, 24, 25, 26, 27, 28, 29, 30, 31, 32, 33, 34, 35] (by decide +kernel)
theorem m_X8_isCut_1 : Cond.fieldLink RX8 23 "StageLinesModel" "heights" "[I" ∈ wsX8_isCut := List.mem_of_getElem? (i := 1) rfl
def X8_isCut (M : Wo) (a0 : Nat) (x1 : Int32) : Option (Int32 × Wo) :=
  (ckO M a0 8).bind fun _ => (gR M a0 8 5).bind fun w1 => (X8_endOf M a0 x1).bind (un2 fun v4 M5 => (lA M5 0 w1 v4).bind fun v6 => (gR M5 a0 8 0).bind fun w8 => (lA M5 0 w8 ((191 : Int32) + x1)).bind fun v10 => if v6 = v10 then (some ((0 : Int32), M5)) else (some ((1 : Int32), M5)))
theorem X8_isCut_w {X : Cx} (G : Gd X yX8_isCut cX8_isCut wsX8_isCut 2 (some .boolean) rX8_isCut) {M : Wo} {a0 : Nat} {x1 : Int32} {o : (Int32 × Wo)} (hd : X8_isCut M a0 x1 = some o) (hQ : Qi X o.1 o.2 0 0) : Pt X 0 0 0 M [(0, .ref a0), (1, .int x1)] [] := by
  unfold X8_isCut at hd
  obtain ⟨_, _, hd⟩ := bnd hd
  refine pt_aload_n G 0 dX8_isCut_0 rfl rfl ?_
  obtain ⟨w1, h2, hd⟩ := bnd hd
  refine pt_get G (ci := 8) (j := 5) rfl (by decide) u_X8_isCut_X8 m_X8_isCut_1 (gR_o h2) dX8_isCut_1 ?_
  refine pt_aload_n G 0 dX8_isCut_4 rfl rfl ?_
  refine pt_iload_n G 1 dX8_isCut_5 rfl rfl ?_
  obtain ⟨⟨v4, M5⟩, h3, hd⟩ := bnd hd
  replace hd := un2_e hd
  refine X8_endOf_v G gX8_isCut_X8_endOf ⟨(Nat.le_of_ble_eq_true rfl), (Nat.le_of_ble_eq_true rfl)⟩ h3 dX8_isCut_6 (Nat.le_of_ble_eq_true rfl) ⟨(Nat.le_of_ble_eq_true rfl), (Nat.le_of_ble_eq_true rfl)⟩ ?_
  obtain ⟨v6, h7, hd⟩ := bnd hd
  refine pt_iald G h7 dX8_isCut_9 ?_
  refine pt_aload_n G 0 dX8_isCut_10 rfl rfl ?_
  obtain ⟨w8, h9, hd⟩ := bnd hd
  refine pt_get G (ci := 8) (j := 0) rfl (by decide) u_X8_isCut_X8 m_X8_isCut_2 (gR_o h9) dX8_isCut_11 ?_
  refine pt_sipush G (191 : Int32) dX8_isCut_14 si_191 ?_
  refine pt_iload_n G 1 dX8_isCut_17 rfl rfl ?_
  refine pt_iadd G dX8_isCut_18 ?_
  obtain ⟨v10, h11, hd⟩ := bnd hd
  refine pt_iald G h11 dX8_isCut_19 ?_
  refine pt_icmp_eq G 27 dX8_isCut_20 (by decide) (fun c12 => ?_) (fun c12 => ?_)
  · replace hd := ifp c12 hd
    refine pt_iconst G (0 : Int32) dX8_isCut_27 ci_0 ?_
    cases hd
    exact pt_zret G (by decide) hQ dX8_isCut_28
  · replace hd := ifn c12 hd
    refine pt_iconst G (1 : Int32) dX8_isCut_23 ci_1 ?_
    refine pt_goto G 28 dX8_isCut_24 (by decide) ?_
    cases hd
    exact pt_zret G (by decide) hQ dX8_isCut_28
theorem X8_isCut_c {l : Launch} {D : va_G} {dA : Nat → ClassId} {b : Nat} {M : Wo} {a0 : Nat} {x1 : Int32} {r : Int32} {M2 : Wo} (h : X8_isCut M a0 x1 = some (r, M2)) : Met l yX8_isCut wsX8_isCut rX8_isCut (va_Pc [.ref a0, .int x1] (Wd D dA b M)) (Ei D dA b r M2) 0 0 (Ab b) := met_i (by decide) rfl (Nat.le_of_ble_eq_true rfl) (fun X G hN hQ => X8_isCut_w G h hQ)
theorem X8_isCut_v {X : Cx} {y : MethodName} {cc : ByteArray} {Ts : List Cond} {nL : Nat} {ret : Option FieldType} {R : Room} (G : Gd X y cc Ts nL ret R) {index : Nat} (hg : GoodIn Ts (wsV y.cls index RX8 yX8_isCut wsX8_isCut)) (hR : rX8_isCut.frames + 1 ≤ R.frames ∧ 8 + (2 + 11) + rX8_isCut.locals ≤ R.locals) {k n pc : Nat} {M : Wo} {lv : List (Nat × Value)} {st : List Value} {a0 : Nat} {x1 : Int32} {r : Int32} {M2 : Wo} (hv : X8_isCut M a0 x1 = some (r, M2)) (hd : decode cc pc = .ok (.invokevirtual index, 3)) (h8 : (st.map fun v => v.category).sum ≤ 8) (hf : k ≤ R.cells ∧ n ≤ R.slots) (kk : Pt X k n (pc + 3) M2 lv (.int r :: st)) : Pt X k n pc M lv (.int x1 :: .ref a0 :: st) := pt_cVi (ci := 8) (nA := 1) (As := [.int x1]) G (X8_isCut_c hv) hg rfl rfl rfl (by decide +kernel) hR rfl (rcv hv) rfl rfl h8 hd hf kk
abbrev rX8_height : Room := { frames := 2, cells := 0, slots := 0, locals := 51 }
theorem m_X8_height_1 : Cond.fieldLink RX8 23 "StageLinesModel" "heights" "[I" ∈ wsX8_height := List.mem_of_getElem? (i := 1) rfl
theorem u_X8_height_X8 : ∀ w ∈ u_ws RX8 TX8 13, w ∈ wsX8_height := mem_r [21, 22, 23, 24, 25, 26, 27, 28, 29, 30, 31, 32, 33] (by decide +kernel)
def X8_height (M : Wo) (a0 : Nat) (x1 : Int32) (x2 : Int32) : Option (Int32 × Wo) :=
  (ckO M a0 8).bind fun _ => (X8_isBar M x1).bind fun v2 => if v2 = 0 then (some ((-1 : Int32), M)) else ((X8_in M x2 (0 : Int32) (300 : Int32)).bind fun v4 => if v4 = 0 then (some ((-2 : Int32), M)) else ((X8_layHeights M a0 x1).bind fun M6 => (gR M6 a0 8 5).bind fun w7 => (lA M6 0 w7 x2).bind fun v9 => some (v9, M6)))
theorem X8_height_w {X : Cx} (G : Gd X yX8_height cX8_height wsX8_height 3 (some .int) rX8_height) {M : Wo} {a0 : Nat} {x1 : Int32} {x2 : Int32} {o : (Int32 × Wo)} (hd : X8_height M a0 x1 x2 = some o) (hQ : Qi X o.1 o.2 0 0) : Pt X 0 0 0 M [(0, .ref a0), (1, .int x1), (2, .int x2)] [] := by
  unfold X8_height at hd
  obtain ⟨_, _, hd⟩ := bnd hd
  refine pt_iload_n G 1 dX8_height_0 rfl rfl ?_
  obtain ⟨v2, h1, hd⟩ := bnd hd
  refine X8_isBar_v G gX8_height_X8_isBar ⟨(Nat.le_of_ble_eq_true rfl), (Nat.le_of_ble_eq_true rfl)⟩ h1 dX8_height_1 (Nat.le_of_ble_eq_true rfl) ⟨(Nat.le_of_ble_eq_true rfl), (Nat.le_of_ble_eq_true rfl)⟩ ?_
  refine pt_if_ne G 9 dX8_height_4 (by decide) (fun c12 => ?_) (fun c12 => ?_)
  · replace hd := ifn c12 hd
    refine pt_iload_n G 2 dX8_height_9 rfl rfl ?_
    refine pt_iconst G (0 : Int32) dX8_height_10 ci_0 ?_
    refine pt_sipush G (300 : Int32) dX8_height_11 si_300 ?_
    obtain ⟨v4, h3, hd⟩ := bnd hd
    refine X8_in_v G gX8_height_X8_in ⟨(Nat.le_of_ble_eq_true rfl), (Nat.le_of_ble_eq_true rfl)⟩ h3 dX8_height_14 (Nat.le_of_ble_eq_true rfl) ⟨(Nat.le_of_ble_eq_true rfl), (Nat.le_of_ble_eq_true rfl)⟩ ?_
    refine pt_if_ne G 23 dX8_height_17 (by decide) (fun c11 => ?_) (fun c11 => ?_)
    · replace hd := ifn c11 hd
      refine pt_aload_n G 0 dX8_height_23 rfl rfl ?_
      refine pt_iload_n G 1 dX8_height_24 rfl rfl ?_
      obtain ⟨M6, h5, hd⟩ := bnd hd
      refine X8_layHeights_v G gX8_height_X8_layHeights ⟨(Nat.le_of_ble_eq_true rfl), (Nat.le_of_ble_eq_true rfl)⟩ h5 dX8_height_25 (Nat.le_of_ble_eq_true rfl) ⟨(Nat.le_of_ble_eq_true rfl), (Nat.le_of_ble_eq_true rfl)⟩ ?_
      refine pt_aload_n G 0 dX8_height_28 rfl rfl ?_
      obtain ⟨w7, h8, hd⟩ := bnd hd
      refine pt_get G (ci := 8) (j := 5) rfl (by decide) u_X8_height_X8 m_X8_height_1 (gR_o h8) dX8_height_29 ?_
      refine pt_iload_n G 2 dX8_height_32 rfl rfl ?_
      obtain ⟨v9, h10, hd⟩ := bnd hd
      refine pt_iald G h10 dX8_height_33 ?_
      cases hd
      exact pt_iret G hQ dX8_height_34
    · replace hd := ifp c11 hd
      refine pt_bipush G (-2 : Int32) dX8_height_20 bi_m2 ?_
      cases hd
      exact pt_iret G hQ dX8_height_22
  · replace hd := ifp c12 hd
    refine pt_iconst G (-1 : Int32) dX8_height_7 ci_m1 ?_
    cases hd
    exact pt_iret G hQ dX8_height_8
theorem X8_height_c {l : Launch} {D : va_G} {dA : Nat → ClassId} {b : Nat} {M : Wo} {a0 : Nat} {x1 : Int32} {x2 : Int32} {r : Int32} {M2 : Wo} (h : X8_height M a0 x1 x2 = some (r, M2)) : Met l yX8_height wsX8_height rX8_height (va_Pc [.ref a0, .int x1, .int x2] (Wd D dA b M)) (Ei D dA b r M2) 0 0 (Ab b) := met_i (by decide) rfl (Nat.le_of_ble_eq_true rfl) (fun X G hN hQ => X8_height_w G h hQ)
theorem X8_height_v {X : Cx} {y : MethodName} {cc : ByteArray} {Ts : List Cond} {nL : Nat} {ret : Option FieldType} {R : Room} (G : Gd X y cc Ts nL ret R) {index : Nat} (hg : GoodIn Ts (wsV y.cls index RX8 yX8_height wsX8_height)) (hR : rX8_height.frames + 1 ≤ R.frames ∧ 8 + (3 + 11) + rX8_height.locals ≤ R.locals) {k n pc : Nat} {M : Wo} {lv : List (Nat × Value)} {st : List Value} {a0 : Nat} {x1 : Int32} {x2 : Int32} {r : Int32} {M2 : Wo} (hv : X8_height M a0 x1 x2 = some (r, M2)) (hd : decode cc pc = .ok (.invokevirtual index, 3)) (h8 : (st.map fun v => v.category).sum ≤ 8) (hf : k ≤ R.cells ∧ n ≤ R.slots) (kk : Pt X k n (pc + 3) M2 lv (.int r :: st)) : Pt X k n pc M lv (.int x2 :: .int x1 :: .ref a0 :: st) := pt_cVi (ci := 8) (nA := 2) (As := [.int x1, .int x2]) G (X8_height_c hv) hg rfl rfl rfl (by decide +kernel) hR rfl (rcv hv) rfl rfl h8 hd hf kk
abbrev rX8_layRows : Room := { frames := 2, cells := 0, slots := 0, locals := 51 }
theorem m_X8_layRows_2 : Cond.fieldLink RX8 23 "StageLinesModel" "heights" "[I" ∈ wsX8_layRows := List.mem_of_getElem? (i := 2) rfl
theorem u_X8_layRows_X8 : ∀ w ∈ u_ws RX8 TX8 13, w ∈ wsX8_layRows := mem_r [16, 17, 18, 19, 20, 21, 22, 23, 24, 25, 26, 27, 28] (by decide +kernel)
theorem m_X8_layRows_1 : Cond.fieldLink RX8 26 "StageLinesModel" "rows" "[I" ∈ wsX8_layRows := List.mem_of_getElem? (i := 1) rfl
abbrev X8_layRows_P2 (X : Cx) (a0 : Nat) : (Wo × Int32) → Prop := un2 (fun M x1 => Pt X 0 0 2 M [(0, .ref a0), (1, .int x1)] [])
abbrev X8_layRows_Z2 (X : Cx) (a0 : Nat) : Wo → Prop := (un1 (fun M => Pt X 0 0 52 M [] []))
abbrev X8_layRows_P15 (X : Cx) (a0 : Nat) (x1 : Int32) : (Wo × Int32) → Prop := un2 (fun M x2 => Pt X 0 0 15 M [(0, .ref a0), (1, .int x1), (2, .int x2)] [])
abbrev X8_layRows_Z15 (X : Cx) (a0 : Nat) (x1 : Int32) : Wo → Prop := (un1 (fun M => Pt X 0 0 46 M [(0, .ref a0), (1, .int x1)] []))
def X8_layRows_b15 (a0 : Nat) (x1 : Int32) (M : Wo) (x2 : Int32) : Option ((Wo × Int32) ⊕ Wo) :=
  if (300 : Int32) < x2 then (some (.inr M)) else ((gR M a0 8 6).bind fun w3 => (gR M a0 8 5).bind fun w5 => (lA M 0 w5 x2).bind fun v7 => (sA M w3 (((301 : Int32) * x1) + x2) v7).bind fun M9 => some (.inl (M9, (x2 + 1))))
theorem X8_layRows_b15_w {X : Cx} (G : Gd X yX8_layRows cX8_layRows wsX8_layRows 3 none rX8_layRows) {a0 : Nat} {x1 : Int32} {M : Wo} {x2 : Int32} {o : ((Wo × Int32) ⊕ Wo)} (hd : X8_layRows_b15 a0 x1 M x2 = some o) (hc : ∀ s9, o = .inl s9 → X8_layRows_P15 X a0 x1 s9) (he : ∀ e9, o = .inr e9 → X8_layRows_Z15 X a0 x1 e9) : Pt X 0 0 15 M [(0, .ref a0), (1, .int x1), (2, .int x2)] [] := by
  unfold X8_layRows_b15 at hd
  refine pt_iload_n G 2 dX8_layRows_15 rfl rfl ?_
  refine pt_sipush G (300 : Int32) dX8_layRows_16 si_300 ?_
  refine pt_icmp_gt G 46 dX8_layRows_19 (by decide) (fun c11 => ?_) (fun c11 => ?_)
  · replace hd := ifp c11 hd
    exact pt_sub [0, 1] rfl (he M (Option.some.inj hd).symm)
  · replace hd := ifn c11 hd
    refine pt_aload_n G 0 dX8_layRows_22 rfl rfl ?_
    obtain ⟨w3, h4, hd⟩ := bnd hd
    refine pt_get G (ci := 8) (j := 6) rfl (by decide) u_X8_layRows_X8 m_X8_layRows_1 (gR_o h4) dX8_layRows_23 ?_
    refine pt_sipush G (301 : Int32) dX8_layRows_26 si_301 ?_
    refine pt_iload_n G 1 dX8_layRows_29 rfl rfl ?_
    refine pt_imul G dX8_layRows_30 ?_
    refine pt_iload_n G 2 dX8_layRows_31 rfl rfl ?_
    refine pt_iadd G dX8_layRows_32 ?_
    refine pt_aload_n G 0 dX8_layRows_33 rfl rfl ?_
    obtain ⟨w5, h6, hd⟩ := bnd hd
    refine pt_get G (ci := 8) (j := 5) rfl (by decide) u_X8_layRows_X8 m_X8_layRows_2 (gR_o h6) dX8_layRows_34 ?_
    refine pt_iload_n G 2 dX8_layRows_37 rfl rfl ?_
    obtain ⟨v7, h8, hd⟩ := bnd hd
    refine pt_iald G h8 dX8_layRows_38 ?_
    obtain ⟨M9, h10, hd⟩ := bnd hd
    refine pt_iast G h10 dX8_layRows_39 ?_
    refine pt_iinc G 2 (x2 + 1) [(2, .int (x2 + 1)), (0, .ref a0), (1, .int x1)] dX8_layRows_40 rfl (inc_1 _) (by decide) rfl ?_
    refine pt_goto G 15 dX8_layRows_43 (by decide) ?_
    exact pt_sub [1, 2, 0] rfl (hc (M9, (x2 + 1)) (Option.some.inj hd).symm)
theorem X8_layRows_w15_w {X : Cx} (G : Gd X yX8_layRows cX8_layRows wsX8_layRows 3 none rX8_layRows) {a0 : Nat} {x1 : Int32} (n9 : Nat) (s9 : (Wo × Int32)) (e9 : Wo) (hw : wloop (un2 (X8_layRows_b15 a0 x1)) n9 s9 = some e9) (hz : X8_layRows_Z15 X a0 x1 e9) : X8_layRows_P15 X a0 x1 s9 := by
  refine wl_ind (P := X8_layRows_P15 X a0 x1) (Z := X8_layRows_Z15 X a0 x1) ?_ n9 s9 e9 hw hz
  intro s9 o9 hd hc he
  obtain ⟨M, x2⟩ := s9
  exact X8_layRows_b15_w G hd hc he
def X8_layRows_b2 (a0 : Nat) (M : Wo) (x1 : Int32) : Option ((Wo × Int32) ⊕ Wo) :=
  if (10 : Int32) ≤ x1 then (some (.inr M)) else ((X8_layHeights M a0 x1).bind fun M2 => (wloop (un2 (X8_layRows_b15 a0 x1)) FU (M2, (0 : Int32))).bind fun M12 => some (.inl (M12, (x1 + 1))))
theorem X8_layRows_b2_w {X : Cx} (G : Gd X yX8_layRows cX8_layRows wsX8_layRows 3 none rX8_layRows) {a0 : Nat} {M : Wo} {x1 : Int32} {o : ((Wo × Int32) ⊕ Wo)} (hd : X8_layRows_b2 a0 M x1 = some o) (hc : ∀ s9, o = .inl s9 → X8_layRows_P2 X a0 s9) (he : ∀ e9, o = .inr e9 → X8_layRows_Z2 X a0 e9) : Pt X 0 0 2 M [(0, .ref a0), (1, .int x1)] [] := by
  unfold X8_layRows_b2 at hd
  refine pt_iload_n G 1 dX8_layRows_2 rfl rfl ?_
  refine pt_bipush G (10 : Int32) dX8_layRows_3 bi_10 ?_
  refine pt_icmp_ge G 52 dX8_layRows_5 (by decide) (fun c14 => ?_) (fun c14 => ?_)
  · replace hd := ifp c14 hd
    exact pt_sub [] rfl (he M (Option.some.inj hd).symm)
  · replace hd := ifn c14 hd
    refine pt_aload_n G 0 dX8_layRows_8 rfl rfl ?_
    refine pt_iload_n G 1 dX8_layRows_9 rfl rfl ?_
    obtain ⟨M2, h1, hd⟩ := bnd hd
    refine X8_layHeights_v G gX8_layRows_X8_layHeights ⟨(Nat.le_of_ble_eq_true rfl), (Nat.le_of_ble_eq_true rfl)⟩ h1 dX8_layRows_10 (Nat.le_of_ble_eq_true rfl) ⟨(Nat.le_of_ble_eq_true rfl), (Nat.le_of_ble_eq_true rfl)⟩ ?_
    refine pt_iconst G (0 : Int32) dX8_layRows_13 ci_0 ?_
    refine pt_istore_n G [(2, .int (0 : Int32)), (0, .ref a0), (1, .int x1)] dX8_layRows_14 rfl (by decide) rfl ?_
    obtain ⟨M12, hw13, hd⟩ := bnd hd
    refine pt_sub [1, 2, 0] rfl (X8_layRows_w15_w G _ _ _ hw13 ?_)
    show Pt X 0 0 _ _ _ []
    refine pt_iinc G 1 (x1 + 1) [(1, .int (x1 + 1)), (0, .ref a0)] dX8_layRows_46 rfl (inc_1 _) (by decide) rfl ?_
    refine pt_goto G 2 dX8_layRows_49 (by decide) ?_
    exact pt_sub [1, 0] rfl (hc (M12, (x1 + 1)) (Option.some.inj hd).symm)
theorem X8_layRows_w2_w {X : Cx} (G : Gd X yX8_layRows cX8_layRows wsX8_layRows 3 none rX8_layRows) {a0 : Nat} (n9 : Nat) (s9 : (Wo × Int32)) (e9 : Wo) (hw : wloop (un2 (X8_layRows_b2 a0)) n9 s9 = some e9) (hz : X8_layRows_Z2 X a0 e9) : X8_layRows_P2 X a0 s9 := by
  refine wl_ind (P := X8_layRows_P2 X a0) (Z := X8_layRows_Z2 X a0) ?_ n9 s9 e9 hw hz
  intro s9 o9 hd hc he
  obtain ⟨M, x1⟩ := s9
  exact X8_layRows_b2_w G hd hc he
def X8_layRows (M : Wo) (a0 : Nat) : Option Wo :=
  (ckO M a0 8).bind fun _ => (wloop (un2 (X8_layRows_b2 a0)) FU (M, (0 : Int32))).bind fun M15 => some M15
theorem X8_layRows_w {X : Cx} (G : Gd X yX8_layRows cX8_layRows wsX8_layRows 3 none rX8_layRows) {M : Wo} {a0 : Nat} {o : Wo} (hd : X8_layRows M a0 = some o) (hQ : Qv X o 0 0) : Pt X 0 0 0 M [(0, .ref a0)] [] := by
  unfold X8_layRows at hd
  obtain ⟨_, _, hd⟩ := bnd hd
  refine pt_iconst G (0 : Int32) dX8_layRows_0 ci_0 ?_
  refine pt_istore_n G [(1, .int (0 : Int32)), (0, .ref a0)] dX8_layRows_1 rfl (by decide) rfl ?_
  obtain ⟨M15, hw16, hd⟩ := bnd hd
  refine pt_sub [1, 0] rfl (X8_layRows_w2_w G _ _ _ hw16 ?_)
  show Pt X 0 0 _ _ _ []
  cases hd
  exact pt_vret G hQ dX8_layRows_52
theorem X8_layRows_c {l : Launch} {D : va_G} {dA : Nat → ClassId} {b : Nat} {M : Wo} {a0 : Nat} {M2 : Wo} (h : X8_layRows M a0 = some M2) : Met l yX8_layRows wsX8_layRows rX8_layRows (va_Pc [.ref a0] (Wd D dA b M)) (Ev D dA b M2) 0 0 (Ab b) := met_v (by decide) rfl (Nat.le_of_ble_eq_true rfl) (fun X G hN hQ => X8_layRows_w G h hQ)
theorem X8_layRows_v {X : Cx} {y : MethodName} {cc : ByteArray} {Ts : List Cond} {nL : Nat} {ret : Option FieldType} {R : Room} (G : Gd X y cc Ts nL ret R) {index : Nat} (hg : GoodIn Ts (wsV y.cls index RX8 yX8_layRows wsX8_layRows)) (hR : rX8_layRows.frames + 1 ≤ R.frames ∧ 8 + (3 + 11) + rX8_layRows.locals ≤ R.locals) {k n pc : Nat} {M : Wo} {lv : List (Nat × Value)} {st : List Value} {a0 : Nat} {M2 : Wo} (hv : X8_layRows M a0 = some M2) (hd : decode cc pc = .ok (.invokevirtual index, 3)) (h8 : (st.map fun v => v.category).sum ≤ 8) (hf : k ≤ R.cells ∧ n ≤ R.slots) (kk : Pt X k n (pc + 3) M2 lv st) : Pt X k n pc M lv (.ref a0 :: st) := pt_cVv (ci := 8) (nA := 0) (As := []) G (X8_layRows_c hv) hg rfl rfl rfl (by decide +kernel) hR rfl (rcv hv) rfl rfl h8 hd hf kk
abbrev rX8_areNear : Room := { frames := 1, cells := 0, slots := 0, locals := 20 }
theorem m_X8_areNear_1 : Cond.fieldLink RX8 7 "StageLinesModel" "state" "[I" ∈ wsX8_areNear := List.mem_of_getElem? (i := 1) rfl
theorem u_X8_areNear_X8 : ∀ w ∈ u_ws RX8 TX8 13, w ∈ wsX8_areNear := mem_r [6, 7, 8, 9, 10, 11, 12, 13, 14, 15, 16, 17, 18] (by decide +kernel)
def X8_areNear (M : Wo) (a0 : Nat) (x1 : Int32) (x2 : Int32) : Option Int32 :=
  (ckO M a0 8).bind fun _ => (X8_size M (x1 - x2)).bind fun v2 => (gR M a0 8 0).bind fun w3 => (lA M 0 w3 ((20 : Int32) + x1)).bind fun v5 => (gR M a0 8 0).bind fun w7 => (lA M 0 w7 ((20 : Int32) + x2)).bind fun v9 => if (v5 + v9) < v2 then (some (0 : Int32)) else (some (1 : Int32))
theorem X8_areNear_w {X : Cx} (G : Gd X yX8_areNear cX8_areNear wsX8_areNear 3 (some .boolean) rX8_areNear) {M : Wo} {a0 : Nat} {x1 : Int32} {x2 : Int32} {o : Int32} (hd : X8_areNear M a0 x1 x2 = some o) (hQ : Qi X o M 0 0) : Pt X 0 0 0 M [(0, .ref a0), (1, .int x1), (2, .int x2)] [] := by
  unfold X8_areNear at hd
  obtain ⟨_, _, hd⟩ := bnd hd
  refine pt_iload_n G 1 dX8_areNear_0 rfl rfl ?_
  refine pt_iload_n G 2 dX8_areNear_1 rfl rfl ?_
  refine pt_isub G dX8_areNear_2 ?_
  obtain ⟨v2, h1, hd⟩ := bnd hd
  refine X8_size_v G gX8_areNear_X8_size ⟨(Nat.le_of_ble_eq_true rfl), (Nat.le_of_ble_eq_true rfl)⟩ h1 dX8_areNear_3 (Nat.le_of_ble_eq_true rfl) ⟨(Nat.le_of_ble_eq_true rfl), (Nat.le_of_ble_eq_true rfl)⟩ ?_
  refine pt_aload_n G 0 dX8_areNear_6 rfl rfl ?_
  obtain ⟨w3, h4, hd⟩ := bnd hd
  refine pt_get G (ci := 8) (j := 0) rfl (by decide) u_X8_areNear_X8 m_X8_areNear_1 (gR_o h4) dX8_areNear_7 ?_
  refine pt_bipush G (20 : Int32) dX8_areNear_10 bi_20 ?_
  refine pt_iload_n G 1 dX8_areNear_12 rfl rfl ?_
  refine pt_iadd G dX8_areNear_13 ?_
  obtain ⟨v5, h6, hd⟩ := bnd hd
  refine pt_iald G h6 dX8_areNear_14 ?_
  refine pt_aload_n G 0 dX8_areNear_15 rfl rfl ?_
  obtain ⟨w7, h8, hd⟩ := bnd hd
  refine pt_get G (ci := 8) (j := 0) rfl (by decide) u_X8_areNear_X8 m_X8_areNear_1 (gR_o h8) dX8_areNear_16 ?_
  refine pt_bipush G (20 : Int32) dX8_areNear_19 bi_20 ?_
  refine pt_iload_n G 2 dX8_areNear_21 rfl rfl ?_
  refine pt_iadd G dX8_areNear_22 ?_
  obtain ⟨v9, h10, hd⟩ := bnd hd
  refine pt_iald G h10 dX8_areNear_23 ?_
  refine pt_iadd G dX8_areNear_24 ?_
  refine pt_icmp_gt G 32 dX8_areNear_25 (by decide) (fun c11 => ?_) (fun c11 => ?_)
  · replace hd := ifp c11 hd
    refine pt_iconst G (0 : Int32) dX8_areNear_32 ci_0 ?_
    cases hd
    exact pt_zret G (by decide) hQ dX8_areNear_33
  · replace hd := ifn c11 hd
    refine pt_iconst G (1 : Int32) dX8_areNear_28 ci_1 ?_
    refine pt_goto G 33 dX8_areNear_29 (by decide) ?_
    cases hd
    exact pt_zret G (by decide) hQ dX8_areNear_33
theorem X8_areNear_c {l : Launch} {D : va_G} {dA : Nat → ClassId} {b : Nat} {M : Wo} {a0 : Nat} {x1 : Int32} {x2 : Int32} {r : Int32} (h : X8_areNear M a0 x1 x2 = some r) : Met l yX8_areNear wsX8_areNear rX8_areNear (va_Pc [.ref a0, .int x1, .int x2] (Wd D dA b M)) (Ei D dA b r M) 0 0 (Ab b) := met_i (by decide) rfl (Nat.le_of_ble_eq_true rfl) (fun X G hN hQ => X8_areNear_w G h hQ)
theorem X8_areNear_v {X : Cx} {y : MethodName} {cc : ByteArray} {Ts : List Cond} {nL : Nat} {ret : Option FieldType} {R : Room} (G : Gd X y cc Ts nL ret R) {index : Nat} (hg : GoodIn Ts (wsV y.cls index RX8 yX8_areNear wsX8_areNear)) (hR : rX8_areNear.frames + 1 ≤ R.frames ∧ 8 + (3 + 11) + rX8_areNear.locals ≤ R.locals) {k n pc : Nat} {M : Wo} {lv : List (Nat × Value)} {st : List Value} {a0 : Nat} {x1 : Int32} {x2 : Int32} {r : Int32} (hv : X8_areNear M a0 x1 x2 = some r) (hd : decode cc pc = .ok (.invokevirtual index, 3)) (h8 : (st.map fun v => v.category).sum ≤ 8) (hf : k ≤ R.cells ∧ n ≤ R.slots) (kk : Pt X k n (pc + 3) M lv (.int r :: st)) : Pt X k n pc M lv (.int x2 :: .int x1 :: .ref a0 :: st) := pt_cVi (ci := 8) (nA := 2) (As := [.int x1, .int x2]) G (X8_areNear_c hv) hg rfl rfl rfl (by decide +kernel) hR rfl (rcv hv) rfl rfl h8 hd hf kk
abbrev rX8_doStrike : Room := { frames := 2, cells := 0, slots := 0, locals := 42 }
theorem m_X8_doStrike_2 : Cond.fieldLink RX8 7 "StageLinesModel" "state" "[I" ∈ wsX8_doStrike := List.mem_of_getElem? (i := 2) rfl
theorem u_X8_doStrike_X8 : ∀ w ∈ u_ws RX8 TX8 13, w ∈ wsX8_doStrike := mem_r [11, 12, 13, 14, 15, 16, 17, 18, 19, 20, 21, 22, 23] (by decide +kernel)
theorem m_X8_doStrike_1 : Cond.fieldLink RX8 26 "StageLinesModel" "rows" "[I" ∈ wsX8_doStrike := List.mem_of_getElem? (i := 1) rfl
def X8_doStrike_L57 (M : Wo) (a0 : Nat) (x1 : Int32) (x2 : Int32) (x4 : Int32) (x5 : Int32) (t0 : Int32) : Option Int32 :=
  if t0 = 0 then (some (0 : Int32)) else ((X8_areNear M a0 x1 x2).bind fun v14 => if v14 = 0 then (some (0 : Int32)) else ((gR M a0 8 0).bind fun w15 => (lA M 0 w15 ((10 : Int32) + x1)).bind fun v17 => if x5 ≤ (x4 - v17) then (some (0 : Int32)) else ((gR M a0 8 0).bind fun w19 => (lA M 0 w19 ((10 : Int32) + x2)).bind fun v21 => if x4 ≤ (x5 - v21) then (some (0 : Int32)) else (some (1 : Int32)))))
theorem X8_doStrike_L57_w {X : Cx} (G : Gd X yX8_doStrike cX8_doStrike wsX8_doStrike 7 (some .boolean) rX8_doStrike) {M : Wo} {a0 : Nat} {x1 : Int32} {x2 : Int32} {x4 : Int32} {x5 : Int32} {t0 : Int32} {o : Int32} (hd : X8_doStrike_L57 M a0 x1 x2 x4 x5 t0 = some o) (hQ : Qi X o M 0 0) : Pt X 0 0 57 M [(0, .ref a0), (1, .int x1), (2, .int x2), (4, .int x4), (5, .int x5)] [.int t0] := by
  unfold X8_doStrike_L57 at hd
  refine pt_istore G [(6, .int t0), (0, .ref a0), (1, .int x1), (2, .int x2), (4, .int x4), (5, .int x5)] dX8_doStrike_57 (by decide) rfl ?_
  refine pt_iload G 0 dX8_doStrike_59 rfl ?_
  refine pt_if_eq G 111 dX8_doStrike_61 (by decide) (fun c26 => ?_) (fun c26 => ?_)
  · replace hd := ifp c26 hd
    refine pt_iconst G (0 : Int32) dX8_doStrike_111 ci_0 ?_
    cases hd
    exact pt_zret G (by decide) hQ dX8_doStrike_112
  · replace hd := ifn c26 hd
    refine pt_aload_n G 1 dX8_doStrike_64 rfl rfl ?_
    refine pt_iload_n G 2 dX8_doStrike_65 rfl rfl ?_
    refine pt_iload_n G 3 dX8_doStrike_66 rfl rfl ?_
    obtain ⟨v14, h13, hd⟩ := bnd hd
    refine X8_areNear_v G gX8_doStrike_X8_areNear ⟨(Nat.le_of_ble_eq_true rfl), (Nat.le_of_ble_eq_true rfl)⟩ h13 dX8_doStrike_67 (Nat.le_of_ble_eq_true rfl) ⟨(Nat.le_of_ble_eq_true rfl), (Nat.le_of_ble_eq_true rfl)⟩ ?_
    refine pt_if_eq G 111 dX8_doStrike_70 (by decide) (fun c25 => ?_) (fun c25 => ?_)
    · replace hd := ifp c25 hd
      refine pt_iconst G (0 : Int32) dX8_doStrike_111 ci_0 ?_
      cases hd
      exact pt_zret G (by decide) hQ dX8_doStrike_112
    · replace hd := ifn c25 hd
      refine pt_iload G 4 dX8_doStrike_73 rfl ?_
      refine pt_aload_n G 1 dX8_doStrike_75 rfl rfl ?_
      obtain ⟨w15, h16, hd⟩ := bnd hd
      refine pt_get G (ci := 8) (j := 0) rfl (by decide) u_X8_doStrike_X8 m_X8_doStrike_2 (gR_o h16) dX8_doStrike_76 ?_
      refine pt_bipush G (10 : Int32) dX8_doStrike_79 bi_10 ?_
      refine pt_iload_n G 2 dX8_doStrike_81 rfl rfl ?_
      refine pt_iadd G dX8_doStrike_82 ?_
      obtain ⟨v17, h18, hd⟩ := bnd hd
      refine pt_iald G h18 dX8_doStrike_83 ?_
      refine pt_isub G dX8_doStrike_84 ?_
      refine pt_iload G 5 dX8_doStrike_85 rfl ?_
      refine pt_icmp_ge G 111 dX8_doStrike_87 (by decide) (fun c24 => ?_) (fun c24 => ?_)
      · replace hd := ifp c24 hd
        refine pt_iconst G (0 : Int32) dX8_doStrike_111 ci_0 ?_
        cases hd
        exact pt_zret G (by decide) hQ dX8_doStrike_112
      · replace hd := ifn c24 hd
        refine pt_iload G 5 dX8_doStrike_90 rfl ?_
        refine pt_aload_n G 1 dX8_doStrike_92 rfl rfl ?_
        obtain ⟨w19, h20, hd⟩ := bnd hd
        refine pt_get G (ci := 8) (j := 0) rfl (by decide) u_X8_doStrike_X8 m_X8_doStrike_2 (gR_o h20) dX8_doStrike_93 ?_
        refine pt_bipush G (10 : Int32) dX8_doStrike_96 bi_10 ?_
        refine pt_iload_n G 3 dX8_doStrike_98 rfl rfl ?_
        refine pt_iadd G dX8_doStrike_99 ?_
        obtain ⟨v21, h22, hd⟩ := bnd hd
        refine pt_iald G h22 dX8_doStrike_100 ?_
        refine pt_isub G dX8_doStrike_101 ?_
        refine pt_iload G 4 dX8_doStrike_102 rfl ?_
        refine pt_icmp_ge G 111 dX8_doStrike_104 (by decide) (fun c23 => ?_) (fun c23 => ?_)
        · replace hd := ifp c23 hd
          refine pt_iconst G (0 : Int32) dX8_doStrike_111 ci_0 ?_
          cases hd
          exact pt_zret G (by decide) hQ dX8_doStrike_112
        · replace hd := ifn c23 hd
          refine pt_iconst G (1 : Int32) dX8_doStrike_107 ci_1 ?_
          refine pt_goto G 112 dX8_doStrike_108 (by decide) ?_
          cases hd
          exact pt_zret G (by decide) hQ dX8_doStrike_112
def X8_doStrike_L56 (M : Wo) (a0 : Nat) (x1 : Int32) (x2 : Int32) (x4 : Int32) (x5 : Int32) : Option Int32 :=
  X8_doStrike_L57 M a0 x1 x2 x4 x5 (0 : Int32)
theorem X8_doStrike_L56_w {X : Cx} (G : Gd X yX8_doStrike cX8_doStrike wsX8_doStrike 7 (some .boolean) rX8_doStrike) {M : Wo} {a0 : Nat} {x1 : Int32} {x2 : Int32} {x4 : Int32} {x5 : Int32} {o : Int32} (hd : X8_doStrike_L56 M a0 x1 x2 x4 x5 = some o) (hQ : Qi X o M 0 0) : Pt X 0 0 56 M [(0, .ref a0), (1, .int x1), (2, .int x2), (4, .int x4), (5, .int x5)] [] := by
  unfold X8_doStrike_L56 at hd
  refine pt_iconst G (0 : Int32) dX8_doStrike_56 ci_0 ?_
  exact pt_sub [0, 1, 2, 3, 4] rfl (X8_doStrike_L57_w G hd hQ)
def X8_doStrike (M : Wo) (a0 : Nat) (x1 : Int32) (x2 : Int32) (x3 : Int32) : Option Int32 :=
  (ckO M a0 8).bind fun _ => (gR M a0 8 6).bind fun w1 => (lA M 0 w1 (((301 : Int32) * x1) + x3)).bind fun v3 => (gR M a0 8 6).bind fun w5 => (lA M 0 w5 (((301 : Int32) * x2) + x3)).bind fun v7 => (gR M a0 8 0).bind fun w9 => (lA M 0 w9 ((10 : Int32) + x1)).bind fun v11 => if v11 ≤ 0 then (X8_doStrike_L56 M a0 x1 x2 v3 v7) else ((gR M a0 8 0).bind fun w27 => (lA M 0 w27 ((10 : Int32) + x2)).bind fun v29 => if v29 ≤ 0 then (X8_doStrike_L56 M a0 x1 x2 v3 v7) else (X8_doStrike_L57 M a0 x1 x2 v3 v7 (1 : Int32)))
theorem X8_doStrike_w {X : Cx} (G : Gd X yX8_doStrike cX8_doStrike wsX8_doStrike 7 (some .boolean) rX8_doStrike) {M : Wo} {a0 : Nat} {x1 : Int32} {x2 : Int32} {x3 : Int32} {o : Int32} (hd : X8_doStrike M a0 x1 x2 x3 = some o) (hQ : Qi X o M 0 0) : Pt X 0 0 0 M [(0, .ref a0), (1, .int x1), (2, .int x2), (3, .int x3)] [] := by
  unfold X8_doStrike at hd
  obtain ⟨_, _, hd⟩ := bnd hd
  refine pt_aload_n G 0 dX8_doStrike_0 rfl rfl ?_
  obtain ⟨w1, h2, hd⟩ := bnd hd
  refine pt_get G (ci := 8) (j := 6) rfl (by decide) u_X8_doStrike_X8 m_X8_doStrike_1 (gR_o h2) dX8_doStrike_1 ?_
  refine pt_sipush G (301 : Int32) dX8_doStrike_4 si_301 ?_
  refine pt_iload_n G 1 dX8_doStrike_7 rfl rfl ?_
  refine pt_imul G dX8_doStrike_8 ?_
  refine pt_iload_n G 3 dX8_doStrike_9 rfl rfl ?_
  refine pt_iadd G dX8_doStrike_10 ?_
  obtain ⟨v3, h4, hd⟩ := bnd hd
  refine pt_iald G h4 dX8_doStrike_11 ?_
  refine pt_istore G [(4, .int v3), (0, .ref a0), (1, .int x1), (2, .int x2), (3, .int x3)] dX8_doStrike_12 (by decide) rfl ?_
  refine pt_aload_n G 1 dX8_doStrike_14 rfl rfl ?_
  obtain ⟨w5, h6, hd⟩ := bnd hd
  refine pt_get G (ci := 8) (j := 6) rfl (by decide) u_X8_doStrike_X8 m_X8_doStrike_1 (gR_o h6) dX8_doStrike_15 ?_
  refine pt_sipush G (301 : Int32) dX8_doStrike_18 si_301 ?_
  refine pt_iload_n G 3 dX8_doStrike_21 rfl rfl ?_
  refine pt_imul G dX8_doStrike_22 ?_
  refine pt_iload_n G 4 dX8_doStrike_23 rfl rfl ?_
  refine pt_iadd G dX8_doStrike_24 ?_
  obtain ⟨v7, h8, hd⟩ := bnd hd
  refine pt_iald G h8 dX8_doStrike_25 ?_
  refine pt_istore G [(5, .int v7), (4, .int v3), (0, .ref a0), (1, .int x1), (2, .int x2), (3, .int x3)] dX8_doStrike_26 (by decide) rfl ?_
  refine pt_aload_n G 2 dX8_doStrike_28 rfl rfl ?_
  obtain ⟨w9, h10, hd⟩ := bnd hd
  refine pt_get G (ci := 8) (j := 0) rfl (by decide) u_X8_doStrike_X8 m_X8_doStrike_2 (gR_o h10) dX8_doStrike_29 ?_
  refine pt_bipush G (10 : Int32) dX8_doStrike_32 bi_10 ?_
  refine pt_iload_n G 3 dX8_doStrike_34 rfl rfl ?_
  refine pt_iadd G dX8_doStrike_35 ?_
  obtain ⟨v11, h12, hd⟩ := bnd hd
  refine pt_iald G h12 dX8_doStrike_36 ?_
  refine pt_if_le G 56 dX8_doStrike_37 (by decide) (fun c32 => ?_) (fun c32 => ?_)
  · replace hd := ifp c32 hd
    exact pt_sub [2, 3, 4, 1, 0] rfl (X8_doStrike_L56_w G hd hQ)
  · replace hd := ifn c32 hd
    refine pt_aload_n G 2 dX8_doStrike_40 rfl rfl ?_
    obtain ⟨w27, h28, hd⟩ := bnd hd
    refine pt_get G (ci := 8) (j := 0) rfl (by decide) u_X8_doStrike_X8 m_X8_doStrike_2 (gR_o h28) dX8_doStrike_41 ?_
    refine pt_bipush G (10 : Int32) dX8_doStrike_44 bi_10 ?_
    refine pt_iload_n G 4 dX8_doStrike_46 rfl rfl ?_
    refine pt_iadd G dX8_doStrike_47 ?_
    obtain ⟨v29, h30, hd⟩ := bnd hd
    refine pt_iald G h30 dX8_doStrike_48 ?_
    refine pt_if_le G 56 dX8_doStrike_49 (by decide) (fun c31 => ?_) (fun c31 => ?_)
    · replace hd := ifp c31 hd
      exact pt_sub [2, 3, 4, 1, 0] rfl (X8_doStrike_L56_w G hd hQ)
    · replace hd := ifn c31 hd
      refine pt_iconst G (1 : Int32) dX8_doStrike_52 ci_1 ?_
      refine pt_goto G 57 dX8_doStrike_53 (by decide) ?_
      exact pt_sub [2, 3, 4, 1, 0] rfl (X8_doStrike_L57_w G hd hQ)
theorem X8_doStrike_c {l : Launch} {D : va_G} {dA : Nat → ClassId} {b : Nat} {M : Wo} {a0 : Nat} {x1 : Int32} {x2 : Int32} {x3 : Int32} {r : Int32} (h : X8_doStrike M a0 x1 x2 x3 = some r) : Met l yX8_doStrike wsX8_doStrike rX8_doStrike (va_Pc [.ref a0, .int x1, .int x2, .int x3] (Wd D dA b M)) (Ei D dA b r M) 0 0 (Ab b) := met_i (by decide) rfl (Nat.le_of_ble_eq_true rfl) (fun X G hN hQ => X8_doStrike_w G h hQ)
theorem X8_doStrike_v {X : Cx} {y : MethodName} {cc : ByteArray} {Ts : List Cond} {nL : Nat} {ret : Option FieldType} {R : Room} (G : Gd X y cc Ts nL ret R) {index : Nat} (hg : GoodIn Ts (wsV y.cls index RX8 yX8_doStrike wsX8_doStrike)) (hR : rX8_doStrike.frames + 1 ≤ R.frames ∧ 8 + (7 + 11) + rX8_doStrike.locals ≤ R.locals) {k n pc : Nat} {M : Wo} {lv : List (Nat × Value)} {st : List Value} {a0 : Nat} {x1 : Int32} {x2 : Int32} {x3 : Int32} {r : Int32} (hv : X8_doStrike M a0 x1 x2 x3 = some r) (hd : decode cc pc = .ok (.invokevirtual index, 3)) (h8 : (st.map fun v => v.category).sum ≤ 8) (hf : k ≤ R.cells ∧ n ≤ R.slots) (kk : Pt X k n (pc + 3) M lv (.int r :: st)) : Pt X k n pc M lv (.int x3 :: .int x2 :: .int x1 :: .ref a0 :: st) := pt_cVi (ci := 8) (nA := 3) (As := [.int x1, .int x2, .int x3]) G (X8_doStrike_c hv) hg rfl rfl rfl (by decide +kernel) hR rfl (rcv hv) rfl rfl h8 hd hf kk
abbrev rX8_strike : Room := { frames := 3, cells := 0, slots := 0, locals := 73 }
def X8_strike (M : Wo) (a0 : Nat) (x1 : Int32) (x2 : Int32) (x3 : Int32) : Option (Int32 × Wo) :=
  (ckO M a0 8).bind fun _ => (X8_isBar M x1).bind fun v2 => if v2 = 0 then (some ((-1 : Int32), M)) else ((X8_isBar M x2).bind fun v4 => if v4 = 0 then (some ((-1 : Int32), M)) else (if x1 = x2 then (some ((-2 : Int32), M)) else ((X8_in M x3 (0 : Int32) (300 : Int32)).bind fun v6 => if v6 = 0 then (some ((-2 : Int32), M)) else ((X8_layRows M a0).bind fun M8 => (X8_doStrike M8 a0 x1 x2 x3).bind fun v10 => if v10 = 0 then (some ((0 : Int32), M8)) else (some ((1 : Int32), M8))))))
theorem X8_strike_w {X : Cx} (G : Gd X yX8_strike cX8_strike wsX8_strike 4 (some .int) rX8_strike) {M : Wo} {a0 : Nat} {x1 : Int32} {x2 : Int32} {x3 : Int32} {o : (Int32 × Wo)} (hd : X8_strike M a0 x1 x2 x3 = some o) (hQ : Qi X o.1 o.2 0 0) : Pt X 0 0 0 M [(0, .ref a0), (1, .int x1), (2, .int x2), (3, .int x3)] [] := by
  unfold X8_strike at hd
  obtain ⟨_, _, hd⟩ := bnd hd
  refine pt_iload_n G 1 dX8_strike_0 rfl rfl ?_
  obtain ⟨v2, h1, hd⟩ := bnd hd
  refine X8_isBar_v G gX8_strike_X8_isBar ⟨(Nat.le_of_ble_eq_true rfl), (Nat.le_of_ble_eq_true rfl)⟩ h1 dX8_strike_1 (Nat.le_of_ble_eq_true rfl) ⟨(Nat.le_of_ble_eq_true rfl), (Nat.le_of_ble_eq_true rfl)⟩ ?_
  refine pt_if_eq G 14 dX8_strike_4 (by decide) (fun c15 => ?_) (fun c15 => ?_)
  · replace hd := ifp c15 hd
    refine pt_iconst G (-1 : Int32) dX8_strike_14 ci_m1 ?_
    cases hd
    exact pt_iret G hQ dX8_strike_15
  · replace hd := ifn c15 hd
    refine pt_iload_n G 2 dX8_strike_7 rfl rfl ?_
    obtain ⟨v4, h3, hd⟩ := bnd hd
    refine X8_isBar_v G gX8_strike_X8_isBar ⟨(Nat.le_of_ble_eq_true rfl), (Nat.le_of_ble_eq_true rfl)⟩ h3 dX8_strike_8 (Nat.le_of_ble_eq_true rfl) ⟨(Nat.le_of_ble_eq_true rfl), (Nat.le_of_ble_eq_true rfl)⟩ ?_
    refine pt_if_ne G 16 dX8_strike_11 (by decide) (fun c14 => ?_) (fun c14 => ?_)
    · replace hd := ifn c14 hd
      refine pt_iload_n G 1 dX8_strike_16 rfl rfl ?_
      refine pt_iload_n G 2 dX8_strike_17 rfl rfl ?_
      refine pt_icmp_eq G 32 dX8_strike_18 (by decide) (fun c13 => ?_) (fun c13 => ?_)
      · replace hd := ifp c13 hd
        refine pt_bipush G (-2 : Int32) dX8_strike_32 bi_m2 ?_
        cases hd
        exact pt_iret G hQ dX8_strike_34
      · replace hd := ifn c13 hd
        refine pt_iload_n G 3 dX8_strike_21 rfl rfl ?_
        refine pt_iconst G (0 : Int32) dX8_strike_22 ci_0 ?_
        refine pt_sipush G (300 : Int32) dX8_strike_23 si_300 ?_
        obtain ⟨v6, h5, hd⟩ := bnd hd
        refine X8_in_v G gX8_strike_X8_in ⟨(Nat.le_of_ble_eq_true rfl), (Nat.le_of_ble_eq_true rfl)⟩ h5 dX8_strike_26 (Nat.le_of_ble_eq_true rfl) ⟨(Nat.le_of_ble_eq_true rfl), (Nat.le_of_ble_eq_true rfl)⟩ ?_
        refine pt_if_ne G 35 dX8_strike_29 (by decide) (fun c12 => ?_) (fun c12 => ?_)
        · replace hd := ifn c12 hd
          refine pt_aload_n G 0 dX8_strike_35 rfl rfl ?_
          obtain ⟨M8, h7, hd⟩ := bnd hd
          refine X8_layRows_v G gX8_strike_X8_layRows ⟨(Nat.le_of_ble_eq_true rfl), (Nat.le_of_ble_eq_true rfl)⟩ h7 dX8_strike_36 (Nat.le_of_ble_eq_true rfl) ⟨(Nat.le_of_ble_eq_true rfl), (Nat.le_of_ble_eq_true rfl)⟩ ?_
          refine pt_aload_n G 0 dX8_strike_39 rfl rfl ?_
          refine pt_iload_n G 1 dX8_strike_40 rfl rfl ?_
          refine pt_iload_n G 2 dX8_strike_41 rfl rfl ?_
          refine pt_iload_n G 3 dX8_strike_42 rfl rfl ?_
          obtain ⟨v10, h9, hd⟩ := bnd hd
          refine X8_doStrike_v G gX8_strike_X8_doStrike ⟨(Nat.le_of_ble_eq_true rfl), (Nat.le_of_ble_eq_true rfl)⟩ h9 dX8_strike_43 (Nat.le_of_ble_eq_true rfl) ⟨(Nat.le_of_ble_eq_true rfl), (Nat.le_of_ble_eq_true rfl)⟩ ?_
          refine pt_if_eq G 53 dX8_strike_46 (by decide) (fun c11 => ?_) (fun c11 => ?_)
          · replace hd := ifp c11 hd
            refine pt_iconst G (0 : Int32) dX8_strike_53 ci_0 ?_
            cases hd
            exact pt_iret G hQ dX8_strike_54
          · replace hd := ifn c11 hd
            refine pt_iconst G (1 : Int32) dX8_strike_49 ci_1 ?_
            refine pt_goto G 54 dX8_strike_50 (by decide) ?_
            cases hd
            exact pt_iret G hQ dX8_strike_54
        · replace hd := ifp c12 hd
          refine pt_bipush G (-2 : Int32) dX8_strike_32 bi_m2 ?_
          cases hd
          exact pt_iret G hQ dX8_strike_34
    · replace hd := ifp c14 hd
      refine pt_iconst G (-1 : Int32) dX8_strike_14 ci_m1 ?_
      cases hd
      exact pt_iret G hQ dX8_strike_15
theorem X8_strike_c {l : Launch} {D : va_G} {dA : Nat → ClassId} {b : Nat} {M : Wo} {a0 : Nat} {x1 : Int32} {x2 : Int32} {x3 : Int32} {r : Int32} {M2 : Wo} (h : X8_strike M a0 x1 x2 x3 = some (r, M2)) : Met l yX8_strike wsX8_strike rX8_strike (va_Pc [.ref a0, .int x1, .int x2, .int x3] (Wd D dA b M)) (Ei D dA b r M2) 0 0 (Ab b) := met_i (by decide) rfl (Nat.le_of_ble_eq_true rfl) (fun X G hN hQ => X8_strike_w G h hQ)
theorem X8_strike_v {X : Cx} {y : MethodName} {cc : ByteArray} {Ts : List Cond} {nL : Nat} {ret : Option FieldType} {R : Room} (G : Gd X y cc Ts nL ret R) {index : Nat} (hg : GoodIn Ts (wsV y.cls index RX8 yX8_strike wsX8_strike)) (hR : rX8_strike.frames + 1 ≤ R.frames ∧ 8 + (4 + 11) + rX8_strike.locals ≤ R.locals) {k n pc : Nat} {M : Wo} {lv : List (Nat × Value)} {st : List Value} {a0 : Nat} {x1 : Int32} {x2 : Int32} {x3 : Int32} {r : Int32} {M2 : Wo} (hv : X8_strike M a0 x1 x2 x3 = some (r, M2)) (hd : decode cc pc = .ok (.invokevirtual index, 3)) (h8 : (st.map fun v => v.category).sum ≤ 8) (hf : k ≤ R.cells ∧ n ≤ R.slots) (kk : Pt X k n (pc + 3) M2 lv (.int r :: st)) : Pt X k n pc M lv (.int x3 :: .int x2 :: .int x1 :: .ref a0 :: st) := pt_cVi (ci := 8) (nA := 3) (As := [.int x1, .int x2, .int x3]) G (X8_strike_c hv) hg rfl rfl rfl (by decide +kernel) hR rfl (rcv hv) rfl rfl h8 hd hf kk
abbrev rX8_clash : Room := { frames := 3, cells := 0, slots := 0, locals := 73 }
abbrev X8_clash_P29 (X : Cx) (M : Wo) (a0 : Nat) (x2 : Int32) : Int32 → Prop := un1 (fun x3 => Pt X 0 0 29 M [(0, .ref a0), (2, .int x2), (3, .int x3)] [])
abbrev X8_clash_Z29 (X : Cx) (M : Wo) (a0 : Nat) (x2 : Int32) : ((Int32 × Int32 × Int32) ⊕ Unit) → Prop := (sOf (un3 (fun x3 x4 x5 => Pt X 0 0 71 M [(2, .int x2), (3, .int x3), (4, .int x4), (5, .int x5)] [])) (fun (_ : Unit) => Pt X 0 0 110 M [] []))
abbrev X8_clash_P39 (X : Cx) (M : Wo) (a0 : Nat) (x2 : Int32) (x3 : Int32) : Int32 → Prop := un1 (fun x4 => Pt X 0 0 39 M [(0, .ref a0), (2, .int x2), (3, .int x3), (4, .int x4)] [])
abbrev X8_clash_Z39 (X : Cx) (M : Wo) (a0 : Nat) (x2 : Int32) (x3 : Int32) : ((Int32 × Int32) ⊕ Unit) → Prop := (sOf (un2 (fun x4 x5 => Pt X 0 0 71 M [(2, .int x2), (3, .int x3), (4, .int x4), (5, .int x5)] [])) (fun (_ : Unit) => Pt X 0 0 104 M [(0, .ref a0), (2, .int x2), (3, .int x3)] []))
abbrev X8_clash_P52 (X : Cx) (M : Wo) (a0 : Nat) (x2 : Int32) (x3 : Int32) (x4 : Int32) : Int32 → Prop := un1 (fun x5 => Pt X 0 0 52 M [(0, .ref a0), (2, .int x2), (3, .int x3), (4, .int x4), (5, .int x5)] [])
abbrev X8_clash_Z52 (X : Cx) (M : Wo) (a0 : Nat) (x2 : Int32) (x3 : Int32) (x4 : Int32) : (Int32 ⊕ Unit) → Prop := (sOf (un1 (fun x5 => Pt X 0 0 71 M [(2, .int x2), (3, .int x3), (4, .int x4), (5, .int x5)] [])) (fun (_ : Unit) => Pt X 0 0 98 M [(0, .ref a0), (2, .int x2), (3, .int x3), (4, .int x4)] []))
def X8_clash_b52 (M : Wo) (a0 : Nat) (x2 : Int32) (x3 : Int32) (x4 : Int32) (x5 : Int32) : Option (Int32 ⊕ (Int32 ⊕ Unit)) :=
  if (10 : Int32) ≤ x5 then (some (.inr (.inr ()))) else ((X8_doStrike M a0 x4 x5 x3).bind fun v8 => if v8 = 0 then (some (.inl (x5 + 1))) else (some (.inr (.inl x5))))
theorem X8_clash_b52_w {X : Cx} (G : Gd X yX8_clash cX8_clash wsX8_clash 6 (some .int) rX8_clash) {M : Wo} {a0 : Nat} {x2 : Int32} {x3 : Int32} {x4 : Int32} {x5 : Int32} {o : (Int32 ⊕ (Int32 ⊕ Unit))} (hd : X8_clash_b52 M a0 x2 x3 x4 x5 = some o) (hc : ∀ s9, o = .inl s9 → X8_clash_P52 X M a0 x2 x3 x4 s9) (he : ∀ e9, o = .inr e9 → X8_clash_Z52 X M a0 x2 x3 x4 e9) : Pt X 0 0 52 M [(0, .ref a0), (2, .int x2), (3, .int x3), (4, .int x4), (5, .int x5)] [] := by
  unfold X8_clash_b52 at hd
  refine pt_iload G 4 dX8_clash_52 rfl ?_
  refine pt_bipush G (10 : Int32) dX8_clash_54 bi_10 ?_
  refine pt_icmp_ge G 98 dX8_clash_56 (by decide) (fun c10 => ?_) (fun c10 => ?_)
  · replace hd := ifp c10 hd
    exact pt_sub [0, 1, 2, 3] rfl (he (.inr ()) (Option.some.inj hd).symm)
  · replace hd := ifn c10 hd
    refine pt_aload_n G 0 dX8_clash_59 rfl rfl ?_
    refine pt_iload G 3 dX8_clash_60 rfl ?_
    refine pt_iload G 4 dX8_clash_62 rfl ?_
    refine pt_iload_n G 2 dX8_clash_64 rfl rfl ?_
    obtain ⟨v8, h7, hd⟩ := bnd hd
    refine X8_doStrike_v G gX8_clash_X8_doStrike ⟨(Nat.le_of_ble_eq_true rfl), (Nat.le_of_ble_eq_true rfl)⟩ h7 dX8_clash_65 (Nat.le_of_ble_eq_true rfl) ⟨(Nat.le_of_ble_eq_true rfl), (Nat.le_of_ble_eq_true rfl)⟩ ?_
    refine pt_if_eq G 92 dX8_clash_68 (by decide) (fun c9 => ?_) (fun c9 => ?_)
    · replace hd := ifp c9 hd
      refine pt_iinc G 4 (x5 + 1) [(5, .int (x5 + 1)), (0, .ref a0), (2, .int x2), (3, .int x3), (4, .int x4)] dX8_clash_92 rfl (inc_1 _) (by decide) rfl ?_
      refine pt_goto G 52 dX8_clash_95 (by decide) ?_
      exact pt_sub [1, 2, 3, 4, 0] rfl (hc (x5 + 1) (Option.some.inj hd).symm)
    · replace hd := ifn c9 hd
      exact pt_sub [1, 2, 3, 4] rfl (he (.inl x5) (Option.some.inj hd).symm)
theorem X8_clash_w52_w {X : Cx} (G : Gd X yX8_clash cX8_clash wsX8_clash 6 (some .int) rX8_clash) {M : Wo} {a0 : Nat} {x2 : Int32} {x3 : Int32} {x4 : Int32} (n9 : Nat) (s9 : Int32) (e9 : (Int32 ⊕ Unit)) (hw : wloop (un1 (X8_clash_b52 M a0 x2 x3 x4)) n9 s9 = some e9) (hz : X8_clash_Z52 X M a0 x2 x3 x4 e9) : X8_clash_P52 X M a0 x2 x3 x4 s9 := by
  refine wl_ind (P := X8_clash_P52 X M a0 x2 x3 x4) (Z := X8_clash_Z52 X M a0 x2 x3 x4) ?_ n9 s9 e9 hw hz
  intro s9 o9 hd hc he
  exact X8_clash_b52_w G hd hc he
def X8_clash_b39 (M : Wo) (a0 : Nat) (x2 : Int32) (x3 : Int32) (x4 : Int32) : Option (Int32 ⊕ ((Int32 × Int32) ⊕ Unit)) :=
  if (10 : Int32) ≤ x4 then (some (.inr (.inr ()))) else ((wloop (un1 (X8_clash_b52 M a0 x2 x3 x4)) FU (x4 + (1 : Int32))).bind (sOf (fun v11 => some (.inr (.inl (x4, v11)))) (fun _ => some (.inl (x4 + 1)))))
theorem X8_clash_b39_w {X : Cx} (G : Gd X yX8_clash cX8_clash wsX8_clash 6 (some .int) rX8_clash) {M : Wo} {a0 : Nat} {x2 : Int32} {x3 : Int32} {x4 : Int32} {o : (Int32 ⊕ ((Int32 × Int32) ⊕ Unit))} (hd : X8_clash_b39 M a0 x2 x3 x4 = some o) (hc : ∀ s9, o = .inl s9 → X8_clash_P39 X M a0 x2 x3 s9) (he : ∀ e9, o = .inr e9 → X8_clash_Z39 X M a0 x2 x3 e9) : Pt X 0 0 39 M [(0, .ref a0), (2, .int x2), (3, .int x3), (4, .int x4)] [] := by
  unfold X8_clash_b39 at hd
  refine pt_iload G 3 dX8_clash_39 rfl ?_
  refine pt_bipush G (10 : Int32) dX8_clash_41 bi_10 ?_
  refine pt_icmp_ge G 104 dX8_clash_43 (by decide) (fun c14 => ?_) (fun c14 => ?_)
  · replace hd := ifp c14 hd
    exact pt_sub [0, 1, 2] rfl (he (.inr ()) (Option.some.inj hd).symm)
  · replace hd := ifn c14 hd
    refine pt_iload G 3 dX8_clash_46 rfl ?_
    refine pt_iconst G (1 : Int32) dX8_clash_48 ci_1 ?_
    refine pt_iadd G dX8_clash_49 ?_
    refine pt_istore G [(5, .int (x4 + (1 : Int32))), (0, .ref a0), (2, .int x2), (3, .int x3), (4, .int x4)] dX8_clash_50 (by decide) rfl ?_
    obtain ⟨e13, hw12, hd⟩ := bnd hd
    rcases e13 with v11 | _
    · replace hd := sO_1 hd
      refine pt_sub [1, 2, 3, 4, 0] rfl (X8_clash_w52_w G _ _ _ hw12 ?_)
      show Pt X 0 0 _ _ _ []
      exact pt_sub [0, 1, 2, 3] rfl (he (.inl (x4, v11)) (Option.some.inj hd).symm)
    · replace hd := sO_2 hd
      refine pt_sub [1, 2, 3, 4, 0] rfl (X8_clash_w52_w G _ _ _ hw12 ?_)
      show Pt X 0 0 _ _ _ []
      refine pt_iinc G 3 (x4 + 1) [(4, .int (x4 + 1)), (0, .ref a0), (2, .int x2), (3, .int x3)] dX8_clash_98 rfl (inc_1 _) (by decide) rfl ?_
      refine pt_goto G 39 dX8_clash_101 (by decide) ?_
      exact pt_sub [1, 2, 3, 0] rfl (hc (x4 + 1) (Option.some.inj hd).symm)
theorem X8_clash_w39_w {X : Cx} (G : Gd X yX8_clash cX8_clash wsX8_clash 6 (some .int) rX8_clash) {M : Wo} {a0 : Nat} {x2 : Int32} {x3 : Int32} (n9 : Nat) (s9 : Int32) (e9 : ((Int32 × Int32) ⊕ Unit)) (hw : wloop (un1 (X8_clash_b39 M a0 x2 x3)) n9 s9 = some e9) (hz : X8_clash_Z39 X M a0 x2 x3 e9) : X8_clash_P39 X M a0 x2 x3 s9 := by
  refine wl_ind (P := X8_clash_P39 X M a0 x2 x3) (Z := X8_clash_Z39 X M a0 x2 x3) ?_ n9 s9 e9 hw hz
  intro s9 o9 hd hc he
  exact X8_clash_b39_w G hd hc he
def X8_clash_b29 (M : Wo) (a0 : Nat) (x2 : Int32) (x3 : Int32) : Option (Int32 ⊕ ((Int32 × Int32 × Int32) ⊕ Unit)) :=
  if (300 : Int32) < x3 then (some (.inr (.inr ()))) else ((wloop (un1 (X8_clash_b39 M a0 x2 x3)) FU (0 : Int32)).bind (sOf (un2 fun v15 v16 => some (.inr (.inl (x3, v15, v16)))) (fun _ => some (.inl (x3 + 1)))))
theorem X8_clash_b29_w {X : Cx} (G : Gd X yX8_clash cX8_clash wsX8_clash 6 (some .int) rX8_clash) {M : Wo} {a0 : Nat} {x2 : Int32} {x3 : Int32} {o : (Int32 ⊕ ((Int32 × Int32 × Int32) ⊕ Unit))} (hd : X8_clash_b29 M a0 x2 x3 = some o) (hc : ∀ s9, o = .inl s9 → X8_clash_P29 X M a0 x2 s9) (he : ∀ e9, o = .inr e9 → X8_clash_Z29 X M a0 x2 e9) : Pt X 0 0 29 M [(0, .ref a0), (2, .int x2), (3, .int x3)] [] := by
  unfold X8_clash_b29 at hd
  refine pt_iload_n G 2 dX8_clash_29 rfl rfl ?_
  refine pt_sipush G (300 : Int32) dX8_clash_30 si_300 ?_
  refine pt_icmp_gt G 110 dX8_clash_33 (by decide) (fun c19 => ?_) (fun c19 => ?_)
  · replace hd := ifp c19 hd
    exact pt_sub [] rfl (he (.inr ()) (Option.some.inj hd).symm)
  · replace hd := ifn c19 hd
    refine pt_iconst G (0 : Int32) dX8_clash_36 ci_0 ?_
    refine pt_istore G [(4, .int (0 : Int32)), (0, .ref a0), (2, .int x2), (3, .int x3)] dX8_clash_37 (by decide) rfl ?_
    obtain ⟨e18, hw17, hd⟩ := bnd hd
    rcases e18 with ⟨v15, v16⟩ | _
    · replace hd := sO_1 hd
      replace hd := un2_e hd
      refine pt_sub [1, 2, 3, 0] rfl (X8_clash_w39_w G _ _ _ hw17 ?_)
      show Pt X 0 0 _ _ _ []
      exact pt_sub [0, 1, 2, 3] rfl (he (.inl (x3, v15, v16)) (Option.some.inj hd).symm)
    · replace hd := sO_2 hd
      refine pt_sub [1, 2, 3, 0] rfl (X8_clash_w39_w G _ _ _ hw17 ?_)
      show Pt X 0 0 _ _ _ []
      refine pt_iinc G 2 (x3 + 1) [(3, .int (x3 + 1)), (0, .ref a0), (2, .int x2)] dX8_clash_104 rfl (inc_1 _) (by decide) rfl ?_
      refine pt_goto G 29 dX8_clash_107 (by decide) ?_
      exact pt_sub [1, 2, 0] rfl (hc (x3 + 1) (Option.some.inj hd).symm)
theorem X8_clash_w29_w {X : Cx} (G : Gd X yX8_clash cX8_clash wsX8_clash 6 (some .int) rX8_clash) {M : Wo} {a0 : Nat} {x2 : Int32} (n9 : Nat) (s9 : Int32) (e9 : ((Int32 × Int32 × Int32) ⊕ Unit)) (hw : wloop (un1 (X8_clash_b29 M a0 x2)) n9 s9 = some e9) (hz : X8_clash_Z29 X M a0 x2 e9) : X8_clash_P29 X M a0 x2 s9 := by
  refine wl_ind (P := X8_clash_P29 X M a0 x2) (Z := X8_clash_Z29 X M a0 x2) ?_ n9 s9 e9 hw hz
  intro s9 o9 hd hc he
  exact X8_clash_b29_w G hd hc he
def X8_clash (M : Wo) (a0 : Nat) (x1 : Int32) (x2 : Int32) : Option (Int32 × Wo) :=
  (ckO M a0 8).bind fun _ => (X8_in M x1 (0 : Int32) (300 : Int32)).bind fun v2 => if v2 = 0 then (some ((-2 : Int32), M)) else ((X8_in M x2 (0 : Int32) (2 : Int32)).bind fun v4 => if v4 = 0 then (some ((-2 : Int32), M)) else ((X8_layRows M a0).bind fun M6 => (wloop (un1 (X8_clash_b29 M6 a0 x2)) FU x1).bind (sOf (un3 fun v20 v21 v22 => if x2 = 0 then (some (v20, M6)) else (if x2 = (1 : Int32) then (some (v21, M6)) else (some (v22, M6)))) (fun _ => some ((-6 : Int32), M6)))))
theorem X8_clash_w {X : Cx} (G : Gd X yX8_clash cX8_clash wsX8_clash 6 (some .int) rX8_clash) {M : Wo} {a0 : Nat} {x1 : Int32} {x2 : Int32} {o : (Int32 × Wo)} (hd : X8_clash M a0 x1 x2 = some o) (hQ : Qi X o.1 o.2 0 0) : Pt X 0 0 0 M [(0, .ref a0), (1, .int x1), (2, .int x2)] [] := by
  unfold X8_clash at hd
  obtain ⟨_, _, hd⟩ := bnd hd
  refine pt_iload_n G 1 dX8_clash_0 rfl rfl ?_
  refine pt_iconst G (0 : Int32) dX8_clash_1 ci_0 ?_
  refine pt_sipush G (300 : Int32) dX8_clash_2 si_300 ?_
  obtain ⟨v2, h1, hd⟩ := bnd hd
  refine X8_in_v G gX8_clash_X8_in ⟨(Nat.le_of_ble_eq_true rfl), (Nat.le_of_ble_eq_true rfl)⟩ h1 dX8_clash_5 (Nat.le_of_ble_eq_true rfl) ⟨(Nat.le_of_ble_eq_true rfl), (Nat.le_of_ble_eq_true rfl)⟩ ?_
  refine pt_if_eq G 20 dX8_clash_8 (by decide) (fun c28 => ?_) (fun c28 => ?_)
  · replace hd := ifp c28 hd
    refine pt_bipush G (-2 : Int32) dX8_clash_20 bi_m2 ?_
    cases hd
    exact pt_iret G hQ dX8_clash_22
  · replace hd := ifn c28 hd
    refine pt_iload_n G 2 dX8_clash_11 rfl rfl ?_
    refine pt_iconst G (0 : Int32) dX8_clash_12 ci_0 ?_
    refine pt_iconst G (2 : Int32) dX8_clash_13 ci_2 ?_
    obtain ⟨v4, h3, hd⟩ := bnd hd
    refine X8_in_v G gX8_clash_X8_in ⟨(Nat.le_of_ble_eq_true rfl), (Nat.le_of_ble_eq_true rfl)⟩ h3 dX8_clash_14 (Nat.le_of_ble_eq_true rfl) ⟨(Nat.le_of_ble_eq_true rfl), (Nat.le_of_ble_eq_true rfl)⟩ ?_
    refine pt_if_ne G 23 dX8_clash_17 (by decide) (fun c27 => ?_) (fun c27 => ?_)
    · replace hd := ifn c27 hd
      refine pt_aload_n G 0 dX8_clash_23 rfl rfl ?_
      obtain ⟨M6, h5, hd⟩ := bnd hd
      refine X8_layRows_v G gX8_clash_X8_layRows ⟨(Nat.le_of_ble_eq_true rfl), (Nat.le_of_ble_eq_true rfl)⟩ h5 dX8_clash_24 (Nat.le_of_ble_eq_true rfl) ⟨(Nat.le_of_ble_eq_true rfl), (Nat.le_of_ble_eq_true rfl)⟩ ?_
      refine pt_iload_n G 1 dX8_clash_27 rfl rfl ?_
      refine pt_istore_n G [(3, .int x1), (0, .ref a0), (1, .int x1), (2, .int x2)] dX8_clash_28 rfl (by decide) rfl ?_
      obtain ⟨e26, hw25, hd⟩ := bnd hd
      rcases e26 with ⟨v20, v21, v22⟩ | _
      · replace hd := sO_1 hd
        replace hd := un3_e hd
        refine pt_sub [1, 3, 0] rfl (X8_clash_w29_w G _ _ _ hw25 ?_)
        show Pt X 0 0 _ _ _ []
        refine pt_iload_n G 0 dX8_clash_71 rfl rfl ?_
        refine pt_if_ne G 79 dX8_clash_72 (by decide) (fun c24 => ?_) (fun c24 => ?_)
        · replace hd := ifn c24 hd
          refine pt_iload_n G 0 dX8_clash_79 rfl rfl ?_
          refine pt_iconst G (1 : Int32) dX8_clash_80 ci_1 ?_
          refine pt_icmp_ne G 89 dX8_clash_81 (by decide) (fun c23 => ?_) (fun c23 => ?_)
          · replace hd := ifn c23 hd
            refine pt_iload G 3 dX8_clash_89 rfl ?_
            cases hd
            exact pt_iret G hQ dX8_clash_91
          · replace hd := ifp c23 hd
            refine pt_iload G 2 dX8_clash_84 rfl ?_
            refine pt_goto G 91 dX8_clash_86 (by decide) ?_
            cases hd
            exact pt_iret G hQ dX8_clash_91
        · replace hd := ifp c24 hd
          refine pt_iload_n G 1 dX8_clash_75 rfl rfl ?_
          refine pt_goto G 91 dX8_clash_76 (by decide) ?_
          cases hd
          exact pt_iret G hQ dX8_clash_91
      · replace hd := sO_2 hd
        refine pt_sub [1, 3, 0] rfl (X8_clash_w29_w G _ _ _ hw25 ?_)
        show Pt X 0 0 _ _ _ []
        refine pt_bipush G (-6 : Int32) dX8_clash_110 bi_m6 ?_
        cases hd
        exact pt_iret G hQ dX8_clash_112
    · replace hd := ifp c27 hd
      refine pt_bipush G (-2 : Int32) dX8_clash_20 bi_m2 ?_
      cases hd
      exact pt_iret G hQ dX8_clash_22
theorem X8_clash_c {l : Launch} {D : va_G} {dA : Nat → ClassId} {b : Nat} {M : Wo} {a0 : Nat} {x1 : Int32} {x2 : Int32} {r : Int32} {M2 : Wo} (h : X8_clash M a0 x1 x2 = some (r, M2)) : Met l yX8_clash wsX8_clash rX8_clash (va_Pc [.ref a0, .int x1, .int x2] (Wd D dA b M)) (Ei D dA b r M2) 0 0 (Ab b) := met_i (by decide) rfl (Nat.le_of_ble_eq_true rfl) (fun X G hN hQ => X8_clash_w G h hQ)
theorem X8_clash_v {X : Cx} {y : MethodName} {cc : ByteArray} {Ts : List Cond} {nL : Nat} {ret : Option FieldType} {R : Room} (G : Gd X y cc Ts nL ret R) {index : Nat} (hg : GoodIn Ts (wsV y.cls index RX8 yX8_clash wsX8_clash)) (hR : rX8_clash.frames + 1 ≤ R.frames ∧ 8 + (6 + 11) + rX8_clash.locals ≤ R.locals) {k n pc : Nat} {M : Wo} {lv : List (Nat × Value)} {st : List Value} {a0 : Nat} {x1 : Int32} {x2 : Int32} {r : Int32} {M2 : Wo} (hv : X8_clash M a0 x1 x2 = some (r, M2)) (hd : decode cc pc = .ok (.invokevirtual index, 3)) (h8 : (st.map fun v => v.category).sum ≤ 8) (hf : k ≤ R.cells ∧ n ≤ R.slots) (kk : Pt X k n (pc + 3) M2 lv (.int r :: st)) : Pt X k n pc M lv (.int x2 :: .int x1 :: .ref a0 :: st) := pt_cVi (ci := 8) (nA := 2) (As := [.int x1, .int x2]) G (X8_clash_c hv) hg rfl rfl rfl (by decide +kernel) hR rfl (rcv hv) rfl rfl h8 hd hf kk
abbrev rX8_often : Room := { frames := 3, cells := 0, slots := 0, locals := 73 }
abbrev X8_often_P33 (X : Cx) (M : Wo) (a0 : Nat) (x1 : Int32) (x2 : Int32) : (Int32 × Int32) → Prop := un2 (fun x3 x4 => Pt X 0 0 33 M [(0, .ref a0), (1, .int x1), (2, .int x2), (3, .int x3), (4, .int x4)] [])
abbrev X8_often_Z33 (X : Cx) (M : Wo) (a0 : Nat) (x1 : Int32) (x2 : Int32) : Int32 → Prop := (un1 (fun x3 => Pt X 0 0 66 M [(3, .int x3)] []))
def X8_often_b33 (M : Wo) (a0 : Nat) (x1 : Int32) (x2 : Int32) (x3 : Int32) (x4 : Int32) : Option ((Int32 × Int32) ⊕ Int32) :=
  if (300 : Int32) < x4 then (some (.inr x3)) else ((X8_doStrike M a0 x1 x2 x4).bind fun v8 => if v8 = 0 then (some (.inl ((x3 + (0 : Int32)), (x4 + 1)))) else (some (.inl ((x3 + (1 : Int32)), (x4 + 1)))))
theorem X8_often_b33_w {X : Cx} (G : Gd X yX8_often cX8_often wsX8_often 5 (some .int) rX8_often) {M : Wo} {a0 : Nat} {x1 : Int32} {x2 : Int32} {x3 : Int32} {x4 : Int32} {o : ((Int32 × Int32) ⊕ Int32)} (hd : X8_often_b33 M a0 x1 x2 x3 x4 = some o) (hc : ∀ s9, o = .inl s9 → X8_often_P33 X M a0 x1 x2 s9) (he : ∀ e9, o = .inr e9 → X8_often_Z33 X M a0 x1 x2 e9) : Pt X 0 0 33 M [(0, .ref a0), (1, .int x1), (2, .int x2), (3, .int x3), (4, .int x4)] [] := by
  unfold X8_often_b33 at hd
  refine pt_iload G 4 dX8_often_33 rfl ?_
  refine pt_sipush G (300 : Int32) dX8_often_35 si_300 ?_
  refine pt_icmp_gt G 66 dX8_often_38 (by decide) (fun c10 => ?_) (fun c10 => ?_)
  · replace hd := ifp c10 hd
    exact pt_sub [3] rfl (he x3 (Option.some.inj hd).symm)
  · replace hd := ifn c10 hd
    refine pt_iload_n G 3 dX8_often_41 rfl rfl ?_
    refine pt_aload_n G 0 dX8_often_42 rfl rfl ?_
    refine pt_iload_n G 1 dX8_often_43 rfl rfl ?_
    refine pt_iload_n G 2 dX8_often_44 rfl rfl ?_
    refine pt_iload G 4 dX8_often_45 rfl ?_
    obtain ⟨v8, h7, hd⟩ := bnd hd
    refine X8_doStrike_v G gX8_often_X8_doStrike ⟨(Nat.le_of_ble_eq_true rfl), (Nat.le_of_ble_eq_true rfl)⟩ h7 dX8_often_47 (Nat.le_of_ble_eq_true rfl) ⟨(Nat.le_of_ble_eq_true rfl), (Nat.le_of_ble_eq_true rfl)⟩ ?_
    refine pt_if_eq G 57 dX8_often_50 (by decide) (fun c9 => ?_) (fun c9 => ?_)
    · replace hd := ifp c9 hd
      refine pt_iconst G (0 : Int32) dX8_often_57 ci_0 ?_
      refine pt_iadd G dX8_often_58 ?_
      refine pt_istore_n G [(3, .int (x3 + (0 : Int32))), (0, .ref a0), (1, .int x1), (2, .int x2), (4, .int x4)] dX8_often_59 rfl (by decide) rfl ?_
      refine pt_iinc G 4 (x4 + 1) [(4, .int (x4 + 1)), (3, .int (x3 + (0 : Int32))), (0, .ref a0), (1, .int x1), (2, .int x2)] dX8_often_60 rfl (inc_1 _) (by decide) rfl ?_
      refine pt_goto G 33 dX8_often_63 (by decide) ?_
      exact pt_sub [2, 3, 4, 1, 0] rfl (hc ((x3 + (0 : Int32)), (x4 + 1)) (Option.some.inj hd).symm)
    · replace hd := ifn c9 hd
      refine pt_iconst G (1 : Int32) dX8_often_53 ci_1 ?_
      refine pt_goto G 58 dX8_often_54 (by decide) ?_
      refine pt_iadd G dX8_often_58 ?_
      refine pt_istore_n G [(3, .int (x3 + (1 : Int32))), (0, .ref a0), (1, .int x1), (2, .int x2), (4, .int x4)] dX8_often_59 rfl (by decide) rfl ?_
      refine pt_iinc G 4 (x4 + 1) [(4, .int (x4 + 1)), (3, .int (x3 + (1 : Int32))), (0, .ref a0), (1, .int x1), (2, .int x2)] dX8_often_60 rfl (inc_1 _) (by decide) rfl ?_
      refine pt_goto G 33 dX8_often_63 (by decide) ?_
      exact pt_sub [2, 3, 4, 1, 0] rfl (hc ((x3 + (1 : Int32)), (x4 + 1)) (Option.some.inj hd).symm)
theorem X8_often_w33_w {X : Cx} (G : Gd X yX8_often cX8_often wsX8_often 5 (some .int) rX8_often) {M : Wo} {a0 : Nat} {x1 : Int32} {x2 : Int32} (n9 : Nat) (s9 : (Int32 × Int32)) (e9 : Int32) (hw : wloop (un2 (X8_often_b33 M a0 x1 x2)) n9 s9 = some e9) (hz : X8_often_Z33 X M a0 x1 x2 e9) : X8_often_P33 X M a0 x1 x2 s9 := by
  refine wl_ind (P := X8_often_P33 X M a0 x1 x2) (Z := X8_often_Z33 X M a0 x1 x2) ?_ n9 s9 e9 hw hz
  intro s9 o9 hd hc he
  obtain ⟨x3, x4⟩ := s9
  exact X8_often_b33_w G hd hc he
def X8_often (M : Wo) (a0 : Nat) (x1 : Int32) (x2 : Int32) : Option (Int32 × Wo) :=
  (ckO M a0 8).bind fun _ => (X8_isBar M x1).bind fun v2 => if v2 = 0 then (some ((-1 : Int32), M)) else ((X8_isBar M x2).bind fun v4 => if v4 = 0 then (some ((-1 : Int32), M)) else (if x1 = x2 then (some ((-2 : Int32), M)) else ((X8_layRows M a0).bind fun M6 => (wloop (un2 (X8_often_b33 M6 a0 x1 x2)) FU ((0 : Int32), (0 : Int32))).bind fun v11 => some (v11, M6))))
theorem X8_often_w {X : Cx} (G : Gd X yX8_often cX8_often wsX8_often 5 (some .int) rX8_often) {M : Wo} {a0 : Nat} {x1 : Int32} {x2 : Int32} {o : (Int32 × Wo)} (hd : X8_often M a0 x1 x2 = some o) (hQ : Qi X o.1 o.2 0 0) : Pt X 0 0 0 M [(0, .ref a0), (1, .int x1), (2, .int x2)] [] := by
  unfold X8_often at hd
  obtain ⟨_, _, hd⟩ := bnd hd
  refine pt_iload_n G 1 dX8_often_0 rfl rfl ?_
  obtain ⟨v2, h1, hd⟩ := bnd hd
  refine X8_isBar_v G gX8_often_X8_isBar ⟨(Nat.le_of_ble_eq_true rfl), (Nat.le_of_ble_eq_true rfl)⟩ h1 dX8_often_1 (Nat.le_of_ble_eq_true rfl) ⟨(Nat.le_of_ble_eq_true rfl), (Nat.le_of_ble_eq_true rfl)⟩ ?_
  refine pt_if_eq G 14 dX8_often_4 (by decide) (fun c15 => ?_) (fun c15 => ?_)
  · replace hd := ifp c15 hd
    refine pt_iconst G (-1 : Int32) dX8_often_14 ci_m1 ?_
    cases hd
    exact pt_iret G hQ dX8_often_15
  · replace hd := ifn c15 hd
    refine pt_iload_n G 2 dX8_often_7 rfl rfl ?_
    obtain ⟨v4, h3, hd⟩ := bnd hd
    refine X8_isBar_v G gX8_often_X8_isBar ⟨(Nat.le_of_ble_eq_true rfl), (Nat.le_of_ble_eq_true rfl)⟩ h3 dX8_often_8 (Nat.le_of_ble_eq_true rfl) ⟨(Nat.le_of_ble_eq_true rfl), (Nat.le_of_ble_eq_true rfl)⟩ ?_
    refine pt_if_ne G 16 dX8_often_11 (by decide) (fun c14 => ?_) (fun c14 => ?_)
    · replace hd := ifn c14 hd
      refine pt_iload_n G 1 dX8_often_16 rfl rfl ?_
      refine pt_iload_n G 2 dX8_often_17 rfl rfl ?_
      refine pt_icmp_ne G 24 dX8_often_18 (by decide) (fun c13 => ?_) (fun c13 => ?_)
      · replace hd := ifn c13 hd
        refine pt_aload_n G 0 dX8_often_24 rfl rfl ?_
        obtain ⟨M6, h5, hd⟩ := bnd hd
        refine X8_layRows_v G gX8_often_X8_layRows ⟨(Nat.le_of_ble_eq_true rfl), (Nat.le_of_ble_eq_true rfl)⟩ h5 dX8_often_25 (Nat.le_of_ble_eq_true rfl) ⟨(Nat.le_of_ble_eq_true rfl), (Nat.le_of_ble_eq_true rfl)⟩ ?_
        refine pt_iconst G (0 : Int32) dX8_often_28 ci_0 ?_
        refine pt_istore_n G [(3, .int (0 : Int32)), (0, .ref a0), (1, .int x1), (2, .int x2)] dX8_often_29 rfl (by decide) rfl ?_
        refine pt_iconst G (0 : Int32) dX8_often_30 ci_0 ?_
        refine pt_istore G [(4, .int (0 : Int32)), (3, .int (0 : Int32)), (0, .ref a0), (1, .int x1), (2, .int x2)] dX8_often_31 (by decide) rfl ?_
        obtain ⟨v11, hw12, hd⟩ := bnd hd
        refine pt_sub [2, 3, 4, 1, 0] rfl (X8_often_w33_w G _ _ _ hw12 ?_)
        show Pt X 0 0 _ _ _ []
        refine pt_iload_n G 0 dX8_often_66 rfl rfl ?_
        cases hd
        exact pt_iret G hQ dX8_often_67
      · replace hd := ifp c13 hd
        refine pt_bipush G (-2 : Int32) dX8_often_21 bi_m2 ?_
        cases hd
        exact pt_iret G hQ dX8_often_23
    · replace hd := ifp c14 hd
      refine pt_iconst G (-1 : Int32) dX8_often_14 ci_m1 ?_
      cases hd
      exact pt_iret G hQ dX8_often_15
theorem X8_often_c {l : Launch} {D : va_G} {dA : Nat → ClassId} {b : Nat} {M : Wo} {a0 : Nat} {x1 : Int32} {x2 : Int32} {r : Int32} {M2 : Wo} (h : X8_often M a0 x1 x2 = some (r, M2)) : Met l yX8_often wsX8_often rX8_often (va_Pc [.ref a0, .int x1, .int x2] (Wd D dA b M)) (Ei D dA b r M2) 0 0 (Ab b) := met_i (by decide) rfl (Nat.le_of_ble_eq_true rfl) (fun X G hN hQ => X8_often_w G h hQ)
theorem X8_often_v {X : Cx} {y : MethodName} {cc : ByteArray} {Ts : List Cond} {nL : Nat} {ret : Option FieldType} {R : Room} (G : Gd X y cc Ts nL ret R) {index : Nat} (hg : GoodIn Ts (wsV y.cls index RX8 yX8_often wsX8_often)) (hR : rX8_often.frames + 1 ≤ R.frames ∧ 8 + (5 + 11) + rX8_often.locals ≤ R.locals) {k n pc : Nat} {M : Wo} {lv : List (Nat × Value)} {st : List Value} {a0 : Nat} {x1 : Int32} {x2 : Int32} {r : Int32} {M2 : Wo} (hv : X8_often M a0 x1 x2 = some (r, M2)) (hd : decode cc pc = .ok (.invokevirtual index, 3)) (h8 : (st.map fun v => v.category).sum ≤ 8) (hf : k ≤ R.cells ∧ n ≤ R.slots) (kk : Pt X k n (pc + 3) M2 lv (.int r :: st)) : Pt X k n pc M lv (.int x2 :: .int x1 :: .ref a0 :: st) := pt_cVi (ci := 8) (nA := 2) (As := [.int x1, .int x2]) G (X8_often_c hv) hg rfl rfl rfl (by decide +kernel) hR rfl (rcv hv) rfl rfl h8 hd hf kk
