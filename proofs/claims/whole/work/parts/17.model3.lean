abbrev rX8_begin : Room := { frames := 0, cells := 0, slots := 0, locals := 0 }
theorem m_X8_begin_2 : Cond.fieldLink RX8 29 "StageLinesModel" "able" "[I" ∈ wsX8_begin := List.mem_of_getElem? (i := 2) rfl
theorem u_X8_begin_X8 : ∀ w ∈ u_ws RX8 TX8 13, w ∈ wsX8_begin := mem_r [3, 4, 5, 6, 7, 8, 9, 10, 11, 12, 13, 14, 15] (by decide +kernel)
theorem m_X8_begin_1 : Cond.fieldLink RX8 7 "StageLinesModel" "state" "[I" ∈ wsX8_begin := List.mem_of_getElem? (i := 1) rfl
def X8_begin (M : Wo) (a0 : Nat) (x1 : Int32) : Option Int32 :=
  (ckO M a0 8).bind fun _ => (gR M a0 8 0).bind fun w1 => (gR M a0 8 7).bind fun w3 => (lA M 0 w3 x1).bind fun v5 => (lA M 0 w1 ((181 : Int32) + v5)).bind fun v7 => some v7
theorem X8_begin_w {X : Cx} (G : Gd X yX8_begin cX8_begin wsX8_begin 2 (some .int) rX8_begin) {M : Wo} {a0 : Nat} {x1 : Int32} {o : Int32} (hd : X8_begin M a0 x1 = some o) (hQ : Qi X o M 0 0) : Pt X 0 0 0 M [(0, .ref a0), (1, .int x1)] [] := by
  unfold X8_begin at hd
  obtain ⟨_, _, hd⟩ := bnd hd
  refine pt_aload_n G 0 dX8_begin_0 rfl rfl ?_
  obtain ⟨w1, h2, hd⟩ := bnd hd
  refine pt_get G (ci := 8) (j := 0) rfl (by decide) u_X8_begin_X8 m_X8_begin_1 (gR_o h2) dX8_begin_1 ?_
  refine pt_sipush G (181 : Int32) dX8_begin_4 si_181 ?_
  refine pt_aload_n G 0 dX8_begin_7 rfl rfl ?_
  obtain ⟨w3, h4, hd⟩ := bnd hd
  refine pt_get G (ci := 8) (j := 7) rfl (by decide) u_X8_begin_X8 m_X8_begin_2 (gR_o h4) dX8_begin_8 ?_
  refine pt_iload_n G 1 dX8_begin_11 rfl rfl ?_
  obtain ⟨v5, h6, hd⟩ := bnd hd
  refine pt_iald G h6 dX8_begin_12 ?_
  refine pt_iadd G dX8_begin_13 ?_
  obtain ⟨v7, h8, hd⟩ := bnd hd
  refine pt_iald G h8 dX8_begin_14 ?_
  cases hd
  exact pt_iret G hQ dX8_begin_15
theorem X8_begin_c {l : Launch} {D : va_G} {dA : Nat → ClassId} {b : Nat} {M : Wo} {a0 : Nat} {x1 : Int32} {r : Int32} (h : X8_begin M a0 x1 = some r) : Met l yX8_begin wsX8_begin rX8_begin (va_Pc [.ref a0, .int x1] (Wd D dA b M)) (Ei D dA b r M) 0 0 (Ab b) := met_i (by decide) rfl (Nat.le_of_ble_eq_true rfl) (fun X G hN hQ => X8_begin_w G h hQ)
theorem X8_begin_v {X : Cx} {y : MethodName} {cc : ByteArray} {Ts : List Cond} {nL : Nat} {ret : Option FieldType} {R : Room} (G : Gd X y cc Ts nL ret R) {index : Nat} (hg : GoodIn Ts (wsV y.cls index RX8 yX8_begin wsX8_begin)) (hR : rX8_begin.frames + 1 ≤ R.frames ∧ 8 + (2 + 11) + rX8_begin.locals ≤ R.locals) {k n pc : Nat} {M : Wo} {lv : List (Nat × Value)} {st : List Value} {a0 : Nat} {x1 : Int32} {r : Int32} (hv : X8_begin M a0 x1 = some r) (hd : decode cc pc = .ok (.invokevirtual index, 3)) (h8 : (st.map fun v => v.category).sum ≤ 8) (hf : k ≤ R.cells ∧ n ≤ R.slots) (kk : Pt X k n (pc + 3) M lv (.int r :: st)) : Pt X k n pc M lv (.int x1 :: .ref a0 :: st) := pt_cVi (ci := 8) (nA := 1) (As := [.int x1]) G (X8_begin_c hv) hg rfl rfl rfl (by decide +kernel) hR rfl (rcv hv) rfl rfl h8 hd hf kk
abbrev rX8_canDoBoth : Room := { frames := 1, cells := 0, slots := 0, locals := 21 }
theorem m_X8_canDoBoth_3 : Cond.fieldLink RX8 32 "StageLinesModel" "ends" "[I" ∈ wsX8_canDoBoth := List.mem_of_getElem? (i := 3) rfl
theorem u_X8_canDoBoth_X8 : ∀ w ∈ u_ws RX8 TX8 13, w ∈ wsX8_canDoBoth := mem_r [12, 13, 14, 15, 16, 17, 18, 19, 20, 21, 22, 23, 24] (by decide +kernel)
theorem m_X8_canDoBoth_2 : Cond.fieldLink RX8 29 "StageLinesModel" "able" "[I" ∈ wsX8_canDoBoth := List.mem_of_getElem? (i := 2) rfl
theorem m_X8_canDoBoth_1 : Cond.fieldLink RX8 7 "StageLinesModel" "state" "[I" ∈ wsX8_canDoBoth := List.mem_of_getElem? (i := 1) rfl
def X8_canDoBoth (M : Wo) (a0 : Nat) (x1 : Int32) (x2 : Int32) : Option Int32 :=
  (ckO M a0 8).bind fun _ => (gR M a0 8 0).bind fun w1 => (gR M a0 8 7).bind fun w3 => (lA M 0 w3 x1).bind fun v5 => (lA M 0 w1 ((171 : Int32) + v5)).bind fun v7 => (gR M a0 8 0).bind fun w9 => (gR M a0 8 7).bind fun w11 => (lA M 0 w11 x2).bind fun v13 => (lA M 0 w9 ((171 : Int32) + v13)).bind fun v15 => (X8_size M (v7 - v15)).bind fun v18 => (gR M a0 8 8).bind fun w19 => (lA M 0 w19 x1).bind fun v21 => (X8_begin M a0 x2).bind fun v24 => if v21 ≤ (v24 - v18) then (some (1 : Int32)) else ((gR M a0 8 8).bind fun w25 => (lA M 0 w25 x2).bind fun v27 => (X8_begin M a0 x1).bind fun v30 => if (v30 - v18) < v27 then (some (0 : Int32)) else (some (1 : Int32)))
theorem X8_canDoBoth_w {X : Cx} (G : Gd X yX8_canDoBoth cX8_canDoBoth wsX8_canDoBoth 4 (some .boolean) rX8_canDoBoth) {M : Wo} {a0 : Nat} {x1 : Int32} {x2 : Int32} {o : Int32} (hd : X8_canDoBoth M a0 x1 x2 = some o) (hQ : Qi X o M 0 0) : Pt X 0 0 0 M [(0, .ref a0), (1, .int x1), (2, .int x2)] [] := by
  unfold X8_canDoBoth at hd
  obtain ⟨_, _, hd⟩ := bnd hd
  refine pt_aload_n G 0 dX8_canDoBoth_0 rfl rfl ?_
  obtain ⟨w1, h2, hd⟩ := bnd hd
  refine pt_get G (ci := 8) (j := 0) rfl (by decide) u_X8_canDoBoth_X8 m_X8_canDoBoth_1 (gR_o h2) dX8_canDoBoth_1 ?_
  refine pt_sipush G (171 : Int32) dX8_canDoBoth_4 si_171 ?_
  refine pt_aload_n G 0 dX8_canDoBoth_7 rfl rfl ?_
  obtain ⟨w3, h4, hd⟩ := bnd hd
  refine pt_get G (ci := 8) (j := 7) rfl (by decide) u_X8_canDoBoth_X8 m_X8_canDoBoth_2 (gR_o h4) dX8_canDoBoth_8 ?_
  refine pt_iload_n G 1 dX8_canDoBoth_11 rfl rfl ?_
  obtain ⟨v5, h6, hd⟩ := bnd hd
  refine pt_iald G h6 dX8_canDoBoth_12 ?_
  refine pt_iadd G dX8_canDoBoth_13 ?_
  obtain ⟨v7, h8, hd⟩ := bnd hd
  refine pt_iald G h8 dX8_canDoBoth_14 ?_
  refine pt_aload_n G 0 dX8_canDoBoth_15 rfl rfl ?_
  obtain ⟨w9, h10, hd⟩ := bnd hd
  refine pt_get G (ci := 8) (j := 0) rfl (by decide) u_X8_canDoBoth_X8 m_X8_canDoBoth_1 (gR_o h10) dX8_canDoBoth_16 ?_
  refine pt_sipush G (171 : Int32) dX8_canDoBoth_19 si_171 ?_
  refine pt_aload_n G 0 dX8_canDoBoth_22 rfl rfl ?_
  obtain ⟨w11, h12, hd⟩ := bnd hd
  refine pt_get G (ci := 8) (j := 7) rfl (by decide) u_X8_canDoBoth_X8 m_X8_canDoBoth_2 (gR_o h12) dX8_canDoBoth_23 ?_
  refine pt_iload_n G 2 dX8_canDoBoth_26 rfl rfl ?_
  obtain ⟨v13, h14, hd⟩ := bnd hd
  refine pt_iald G h14 dX8_canDoBoth_27 ?_
  refine pt_iadd G dX8_canDoBoth_28 ?_
  obtain ⟨v15, h16, hd⟩ := bnd hd
  refine pt_iald G h16 dX8_canDoBoth_29 ?_
  refine pt_isub G dX8_canDoBoth_30 ?_
  obtain ⟨v18, h17, hd⟩ := bnd hd
  refine X8_size_v G gX8_canDoBoth_X8_size ⟨(Nat.le_of_ble_eq_true rfl), (Nat.le_of_ble_eq_true rfl)⟩ h17 dX8_canDoBoth_31 (Nat.le_of_ble_eq_true rfl) ⟨(Nat.le_of_ble_eq_true rfl), (Nat.le_of_ble_eq_true rfl)⟩ ?_
  refine pt_istore_n G [(3, .int v18), (0, .ref a0), (1, .int x1), (2, .int x2)] dX8_canDoBoth_34 rfl (by decide) rfl ?_
  refine pt_aload_n G 1 dX8_canDoBoth_35 rfl rfl ?_
  obtain ⟨w19, h20, hd⟩ := bnd hd
  refine pt_get G (ci := 8) (j := 8) rfl (by decide) u_X8_canDoBoth_X8 m_X8_canDoBoth_3 (gR_o h20) dX8_canDoBoth_36 ?_
  refine pt_iload_n G 2 dX8_canDoBoth_39 rfl rfl ?_
  obtain ⟨v21, h22, hd⟩ := bnd hd
  refine pt_iald G h22 dX8_canDoBoth_40 ?_
  refine pt_aload_n G 1 dX8_canDoBoth_41 rfl rfl ?_
  refine pt_iload_n G 3 dX8_canDoBoth_42 rfl rfl ?_
  obtain ⟨v24, h23, hd⟩ := bnd hd
  refine X8_begin_v G gX8_canDoBoth_X8_begin ⟨(Nat.le_of_ble_eq_true rfl), (Nat.le_of_ble_eq_true rfl)⟩ h23 dX8_canDoBoth_43 (Nat.le_of_ble_eq_true rfl) ⟨(Nat.le_of_ble_eq_true rfl), (Nat.le_of_ble_eq_true rfl)⟩ ?_
  refine pt_iload_n G 0 dX8_canDoBoth_46 rfl rfl ?_
  refine pt_isub G dX8_canDoBoth_47 ?_
  refine pt_icmp_le G 67 dX8_canDoBoth_48 (by decide) (fun c32 => ?_) (fun c32 => ?_)
  · replace hd := ifp c32 hd
    refine pt_iconst G (1 : Int32) dX8_canDoBoth_67 ci_1 ?_
    refine pt_goto G 72 dX8_canDoBoth_68 (by decide) ?_
    cases hd
    exact pt_zret G (by decide) hQ dX8_canDoBoth_72
  · replace hd := ifn c32 hd
    refine pt_aload_n G 1 dX8_canDoBoth_51 rfl rfl ?_
    obtain ⟨w25, h26, hd⟩ := bnd hd
    refine pt_get G (ci := 8) (j := 8) rfl (by decide) u_X8_canDoBoth_X8 m_X8_canDoBoth_3 (gR_o h26) dX8_canDoBoth_52 ?_
    refine pt_iload_n G 3 dX8_canDoBoth_55 rfl rfl ?_
    obtain ⟨v27, h28, hd⟩ := bnd hd
    refine pt_iald G h28 dX8_canDoBoth_56 ?_
    refine pt_aload_n G 1 dX8_canDoBoth_57 rfl rfl ?_
    refine pt_iload_n G 2 dX8_canDoBoth_58 rfl rfl ?_
    obtain ⟨v30, h29, hd⟩ := bnd hd
    refine X8_begin_v G gX8_canDoBoth_X8_begin ⟨(Nat.le_of_ble_eq_true rfl), (Nat.le_of_ble_eq_true rfl)⟩ h29 dX8_canDoBoth_59 (Nat.le_of_ble_eq_true rfl) ⟨(Nat.le_of_ble_eq_true rfl), (Nat.le_of_ble_eq_true rfl)⟩ ?_
    refine pt_iload_n G 0 dX8_canDoBoth_62 rfl rfl ?_
    refine pt_isub G dX8_canDoBoth_63 ?_
    refine pt_icmp_gt G 71 dX8_canDoBoth_64 (by decide) (fun c31 => ?_) (fun c31 => ?_)
    · replace hd := ifp c31 hd
      refine pt_iconst G (0 : Int32) dX8_canDoBoth_71 ci_0 ?_
      cases hd
      exact pt_zret G (by decide) hQ dX8_canDoBoth_72
    · replace hd := ifn c31 hd
      refine pt_iconst G (1 : Int32) dX8_canDoBoth_67 ci_1 ?_
      refine pt_goto G 72 dX8_canDoBoth_68 (by decide) ?_
      cases hd
      exact pt_zret G (by decide) hQ dX8_canDoBoth_72
theorem X8_canDoBoth_c {l : Launch} {D : va_G} {dA : Nat → ClassId} {b : Nat} {M : Wo} {a0 : Nat} {x1 : Int32} {x2 : Int32} {r : Int32} (h : X8_canDoBoth M a0 x1 x2 = some r) : Met l yX8_canDoBoth wsX8_canDoBoth rX8_canDoBoth (va_Pc [.ref a0, .int x1, .int x2] (Wd D dA b M)) (Ei D dA b r M) 0 0 (Ab b) := met_i (by decide) rfl (Nat.le_of_ble_eq_true rfl) (fun X G hN hQ => X8_canDoBoth_w G h hQ)
theorem X8_canDoBoth_v {X : Cx} {y : MethodName} {cc : ByteArray} {Ts : List Cond} {nL : Nat} {ret : Option FieldType} {R : Room} (G : Gd X y cc Ts nL ret R) {index : Nat} (hg : GoodIn Ts (wsV y.cls index RX8 yX8_canDoBoth wsX8_canDoBoth)) (hR : rX8_canDoBoth.frames + 1 ≤ R.frames ∧ 8 + (4 + 11) + rX8_canDoBoth.locals ≤ R.locals) {k n pc : Nat} {M : Wo} {lv : List (Nat × Value)} {st : List Value} {a0 : Nat} {x1 : Int32} {x2 : Int32} {r : Int32} (hv : X8_canDoBoth M a0 x1 x2 = some r) (hd : decode cc pc = .ok (.invokevirtual index, 3)) (h8 : (st.map fun v => v.category).sum ≤ 8) (hf : k ≤ R.cells ∧ n ≤ R.slots) (kk : Pt X k n (pc + 3) M lv (.int r :: st)) : Pt X k n pc M lv (.int x2 :: .int x1 :: .ref a0 :: st) := pt_cVi (ci := 8) (nA := 2) (As := [.int x1, .int x2]) G (X8_canDoBoth_c hv) hg rfl rfl rfl (by decide +kernel) hR rfl (rcv hv) rfl rfl h8 hd hf kk
abbrev rX8_layAble : Room := { frames := 3, cells := 0, slots := 0, locals := 74 }
theorem m_X8_layAble_1 : Cond.fieldLink RX8 121 "StageLinesModel" "ables" "I" ∈ wsX8_layAble := List.mem_of_getElem? (i := 1) rfl
theorem u_X8_layAble_X8 : ∀ w ∈ u_ws RX8 TX8 13, w ∈ wsX8_layAble := mem_r [42, 43, 44, 45, 46, 47, 48, 49, 50, 51, 52, 53, 54] (by decide +kernel)
theorem m_X8_layAble_4 : Cond.fieldLink RX8 32 "StageLinesModel" "ends" "[I" ∈ wsX8_layAble := List.mem_of_getElem? (i := 4) rfl
theorem m_X8_layAble_3 : Cond.fieldLink RX8 29 "StageLinesModel" "able" "[I" ∈ wsX8_layAble := List.mem_of_getElem? (i := 3) rfl
theorem m_X8_layAble_2 : Cond.fieldLink RX8 7 "StageLinesModel" "state" "[I" ∈ wsX8_layAble := List.mem_of_getElem? (i := 2) rfl
abbrev X8_layAble_P7 (X : Cx) (a0 : Nat) : (Wo × Int32) → Prop := un2 (fun M x1 => Pt X 0 0 7 M [(0, .ref a0), (1, .int x1)] [])
abbrev X8_layAble_Z7 (X : Cx) (a0 : Nat) : Wo → Prop := (un1 (fun M => Pt X 0 0 76 M [] []))
def X8_layAble_b7 (a0 : Nat) (M : Wo) (x1 : Int32) : Option ((Wo × Int32) ⊕ Wo) :=
  (gR M a0 8 0).bind fun w3 => (lA M 0 w3 (211 : Int32)).bind fun v5 => if v5 ≤ x1 then (some (.inr M)) else ((gR M a0 8 0).bind fun w7 => (lA M 0 w7 ((171 : Int32) + x1)).bind fun v9 => (X8_isEven M a0 v9).bind fun v12 => if v12 = 0 then (some (.inl (M, (x1 + 1)))) else ((gR M a0 8 7).bind fun w13 => (gI M a0 8 9).bind fun v15 => (sA M w13 v15 x1).bind fun M17 => (gR M17 a0 8 8).bind fun w19 => (gI M17 a0 8 9).bind fun v21 => (X8_endOf M17 a0 x1).bind (un2 fun v24 M25 => (sA M25 w19 v21 v24).bind fun M26 => (gI M26 a0 8 9).bind fun v28 => (pV M26 a0 8 9 (.int (v28 + (1 : Int32)))).bind fun M30 => some (.inl (M30, (x1 + 1))))))
theorem X8_layAble_b7_w {X : Cx} (G : Gd X yX8_layAble cX8_layAble wsX8_layAble 2 none rX8_layAble) {a0 : Nat} {M : Wo} {x1 : Int32} {o : ((Wo × Int32) ⊕ Wo)} (hd : X8_layAble_b7 a0 M x1 = some o) (hc : ∀ s9, o = .inl s9 → X8_layAble_P7 X a0 s9) (he : ∀ e9, o = .inr e9 → X8_layAble_Z7 X a0 e9) : Pt X 0 0 7 M [(0, .ref a0), (1, .int x1)] [] := by
  unfold X8_layAble_b7 at hd
  refine pt_iload_n G 1 dX8_layAble_7 rfl rfl ?_
  refine pt_aload_n G 0 dX8_layAble_8 rfl rfl ?_
  obtain ⟨w3, h4, hd⟩ := bnd hd
  refine pt_get G (ci := 8) (j := 0) rfl (by decide) u_X8_layAble_X8 m_X8_layAble_2 (gR_o h4) dX8_layAble_9 ?_
  refine pt_sipush G (211 : Int32) dX8_layAble_12 si_211 ?_
  obtain ⟨v5, h6, hd⟩ := bnd hd
  refine pt_iald G h6 dX8_layAble_15 ?_
  refine pt_icmp_ge G 76 dX8_layAble_16 (by decide) (fun c33 => ?_) (fun c33 => ?_)
  · replace hd := ifp c33 hd
    exact pt_sub [] rfl (he M (Option.some.inj hd).symm)
  · replace hd := ifn c33 hd
    refine pt_aload_n G 0 dX8_layAble_19 rfl rfl ?_
    refine pt_aload_n G 0 dX8_layAble_20 rfl rfl ?_
    obtain ⟨w7, h8, hd⟩ := bnd hd
    refine pt_get G (ci := 8) (j := 0) rfl (by decide) u_X8_layAble_X8 m_X8_layAble_2 (gR_o h8) dX8_layAble_21 ?_
    refine pt_sipush G (171 : Int32) dX8_layAble_24 si_171 ?_
    refine pt_iload_n G 1 dX8_layAble_27 rfl rfl ?_
    refine pt_iadd G dX8_layAble_28 ?_
    obtain ⟨v9, h10, hd⟩ := bnd hd
    refine pt_iald G h10 dX8_layAble_29 ?_
    obtain ⟨v12, h11, hd⟩ := bnd hd
    refine X8_isEven_v G gX8_layAble_X8_isEven ⟨(Nat.le_of_ble_eq_true rfl), (Nat.le_of_ble_eq_true rfl)⟩ h11 dX8_layAble_30 (Nat.le_of_ble_eq_true rfl) ⟨(Nat.le_of_ble_eq_true rfl), (Nat.le_of_ble_eq_true rfl)⟩ ?_
    refine pt_if_eq G 70 dX8_layAble_33 (by decide) (fun c32 => ?_) (fun c32 => ?_)
    · replace hd := ifp c32 hd
      refine pt_iinc G 1 (x1 + 1) [(1, .int (x1 + 1)), (0, .ref a0)] dX8_layAble_70 rfl (inc_1 _) (by decide) rfl ?_
      refine pt_goto G 7 dX8_layAble_73 (by decide) ?_
      exact pt_sub [1, 0] rfl (hc (M, (x1 + 1)) (Option.some.inj hd).symm)
    · replace hd := ifn c32 hd
      refine pt_aload_n G 0 dX8_layAble_36 rfl rfl ?_
      obtain ⟨w13, h14, hd⟩ := bnd hd
      refine pt_get G (ci := 8) (j := 7) rfl (by decide) u_X8_layAble_X8 m_X8_layAble_3 (gR_o h14) dX8_layAble_37 ?_
      refine pt_aload_n G 0 dX8_layAble_40 rfl rfl ?_
      obtain ⟨v15, h16, hd⟩ := bnd hd
      refine pt_get G (ci := 8) (j := 9) rfl (by decide) u_X8_layAble_X8 m_X8_layAble_1 (gI_o h16) dX8_layAble_41 ?_
      refine pt_iload_n G 1 dX8_layAble_44 rfl rfl ?_
      obtain ⟨M17, h18, hd⟩ := bnd hd
      refine pt_iast G h18 dX8_layAble_45 ?_
      refine pt_aload_n G 0 dX8_layAble_46 rfl rfl ?_
      obtain ⟨w19, h20, hd⟩ := bnd hd
      refine pt_get G (ci := 8) (j := 8) rfl (by decide) u_X8_layAble_X8 m_X8_layAble_4 (gR_o h20) dX8_layAble_47 ?_
      refine pt_aload_n G 0 dX8_layAble_50 rfl rfl ?_
      obtain ⟨v21, h22, hd⟩ := bnd hd
      refine pt_get G (ci := 8) (j := 9) rfl (by decide) u_X8_layAble_X8 m_X8_layAble_1 (gI_o h22) dX8_layAble_51 ?_
      refine pt_aload_n G 0 dX8_layAble_54 rfl rfl ?_
      refine pt_iload_n G 1 dX8_layAble_55 rfl rfl ?_
      obtain ⟨⟨v24, M25⟩, h23, hd⟩ := bnd hd
      replace hd := un2_e hd
      refine X8_endOf_v G gX8_layAble_X8_endOf ⟨(Nat.le_of_ble_eq_true rfl), (Nat.le_of_ble_eq_true rfl)⟩ h23 dX8_layAble_56 (Nat.le_of_ble_eq_true rfl) ⟨(Nat.le_of_ble_eq_true rfl), (Nat.le_of_ble_eq_true rfl)⟩ ?_
      obtain ⟨M26, h27, hd⟩ := bnd hd
      refine pt_iast G h27 dX8_layAble_59 ?_
      refine pt_aload_n G 0 dX8_layAble_60 rfl rfl ?_
      refine pt_dup G dX8_layAble_61 rfl ?_
      obtain ⟨v28, h29, hd⟩ := bnd hd
      refine pt_get G (ci := 8) (j := 9) rfl (by decide) u_X8_layAble_X8 m_X8_layAble_1 (gI_o h29) dX8_layAble_62 ?_
      refine pt_iconst G (1 : Int32) dX8_layAble_65 ci_1 ?_
      refine pt_iadd G dX8_layAble_66 ?_
      obtain ⟨M30, h31, hd⟩ := bnd hd
      refine pt_put G (ci := 8) (j := 9) rfl (by decide) u_X8_layAble_X8 m_X8_layAble_1 tyX8 tyX8_ok nmX8 rfl rfl rfl h31 dX8_layAble_67 ?_
      refine pt_iinc G 1 (x1 + 1) [(1, .int (x1 + 1)), (0, .ref a0)] dX8_layAble_70 rfl (inc_1 _) (by decide) rfl ?_
      refine pt_goto G 7 dX8_layAble_73 (by decide) ?_
      exact pt_sub [1, 0] rfl (hc (M30, (x1 + 1)) (Option.some.inj hd).symm)
theorem X8_layAble_w7_w {X : Cx} (G : Gd X yX8_layAble cX8_layAble wsX8_layAble 2 none rX8_layAble) {a0 : Nat} (n9 : Nat) (s9 : (Wo × Int32)) (e9 : Wo) (hw : wloop (un2 (X8_layAble_b7 a0)) n9 s9 = some e9) (hz : X8_layAble_Z7 X a0 e9) : X8_layAble_P7 X a0 s9 := by
  refine wl_ind (P := X8_layAble_P7 X a0) (Z := X8_layAble_Z7 X a0) ?_ n9 s9 e9 hw hz
  intro s9 o9 hd hc he
  obtain ⟨M, x1⟩ := s9
  exact X8_layAble_b7_w G hd hc he
def X8_layAble (M : Wo) (a0 : Nat) : Option Wo :=
  (ckO M a0 8).bind fun _ => (pV M a0 8 9 (.int (0 : Int32))).bind fun M1 => (wloop (un2 (X8_layAble_b7 a0)) FU (M1, (0 : Int32))).bind fun M34 => some M34
theorem X8_layAble_w {X : Cx} (G : Gd X yX8_layAble cX8_layAble wsX8_layAble 2 none rX8_layAble) {M : Wo} {a0 : Nat} {o : Wo} (hd : X8_layAble M a0 = some o) (hQ : Qv X o 0 0) : Pt X 0 0 0 M [(0, .ref a0)] [] := by
  unfold X8_layAble at hd
  obtain ⟨_, _, hd⟩ := bnd hd
  refine pt_aload_n G 0 dX8_layAble_0 rfl rfl ?_
  refine pt_iconst G (0 : Int32) dX8_layAble_1 ci_0 ?_
  obtain ⟨M1, h2, hd⟩ := bnd hd
  refine pt_put G (ci := 8) (j := 9) rfl (by decide) u_X8_layAble_X8 m_X8_layAble_1 tyX8 tyX8_ok nmX8 rfl rfl rfl h2 dX8_layAble_2 ?_
  refine pt_iconst G (0 : Int32) dX8_layAble_5 ci_0 ?_
  refine pt_istore_n G [(1, .int (0 : Int32)), (0, .ref a0)] dX8_layAble_6 rfl (by decide) rfl ?_
  obtain ⟨M34, hw35, hd⟩ := bnd hd
  refine pt_sub [1, 0] rfl (X8_layAble_w7_w G _ _ _ hw35 ?_)
  show Pt X 0 0 _ _ _ []
  cases hd
  exact pt_vret G hQ dX8_layAble_76
theorem X8_layAble_c {l : Launch} {D : va_G} {dA : Nat → ClassId} {b : Nat} {M : Wo} {a0 : Nat} {M2 : Wo} (h : X8_layAble M a0 = some M2) : Met l yX8_layAble wsX8_layAble rX8_layAble (va_Pc [.ref a0] (Wd D dA b M)) (Ev D dA b M2) 0 0 (Ab b) := met_v (by decide) rfl (Nat.le_of_ble_eq_true rfl) (fun X G hN hQ => X8_layAble_w G h hQ)
theorem X8_layAble_v {X : Cx} {y : MethodName} {cc : ByteArray} {Ts : List Cond} {nL : Nat} {ret : Option FieldType} {R : Room} (G : Gd X y cc Ts nL ret R) {index : Nat} (hg : GoodIn Ts (wsV y.cls index RX8 yX8_layAble wsX8_layAble)) (hR : rX8_layAble.frames + 1 ≤ R.frames ∧ 8 + (2 + 11) + rX8_layAble.locals ≤ R.locals) {k n pc : Nat} {M : Wo} {lv : List (Nat × Value)} {st : List Value} {a0 : Nat} {M2 : Wo} (hv : X8_layAble M a0 = some M2) (hd : decode cc pc = .ok (.invokevirtual index, 3)) (h8 : (st.map fun v => v.category).sum ≤ 8) (hf : k ≤ R.cells ∧ n ≤ R.slots) (kk : Pt X k n (pc + 3) M2 lv st) : Pt X k n pc M lv (.ref a0 :: st) := pt_cVv (ci := 8) (nA := 0) (As := []) G (X8_layAble_c hv) hg rfl rfl rfl (by decide +kernel) hR rfl (rcv hv) rfl rfl h8 hd hf kk
abbrev rX8_canBeOne : Room := { frames := 2, cells := 0, slots := 0, locals := 44 }
theorem m_X8_canBeOne_1 : Cond.fieldLink RX8 121 "StageLinesModel" "ables" "I" ∈ wsX8_canBeOne := List.mem_of_getElem? (i := 1) rfl
theorem u_X8_canBeOne_X8 : ∀ w ∈ u_ws RX8 TX8 13, w ∈ wsX8_canBeOne := mem_r [20, 21, 22, 23, 24, 25, 26, 27, 28, 29, 30, 31, 32] (by decide +kernel)
abbrev X8_canBeOne_P2 (X : Cx) (M : Wo) (a0 : Nat) (x1 : Int32) : Int32 → Prop := un1 (fun x2 => Pt X 0 0 2 M [(0, .ref a0), (1, .int x1), (2, .int x2)] [])
abbrev X8_canBeOne_Z2 (X : Cx) (M : Wo) (a0 : Nat) (x1 : Int32) : (Unit ⊕ Unit) → Prop := (sOf (fun (_ : Unit) => Pt X 0 0 42 M [] []) (fun (_ : Unit) => Pt X 0 0 56 M [] []))
abbrev X8_canBeOne_P12 (X : Cx) (M : Wo) (a0 : Nat) (x1 : Int32) (x2 : Int32) : Int32 → Prop := un1 (fun x3 => Pt X 0 0 12 M [(0, .ref a0), (1, .int x1), (2, .int x2), (3, .int x3)] [])
abbrev X8_canBeOne_Z12 (X : Cx) (M : Wo) (a0 : Nat) (x1 : Int32) (x2 : Int32) : (Unit ⊕ Unit) → Prop := (sOf (fun (_ : Unit) => Pt X 0 0 42 M [] []) (fun (_ : Unit) => Pt X 0 0 50 M [(0, .ref a0), (1, .int x1), (2, .int x2)] []))
def X8_canBeOne_b12 (M : Wo) (a0 : Nat) (x1 : Int32) (x2 : Int32) (x3 : Int32) : Option (Int32 ⊕ (Unit ⊕ Unit)) :=
  if x2 ≤ x3 then (some (.inr (.inr ()))) else ((X8_has M x1 x2).bind fun v4 => if v4 = 0 then (some (.inl (x3 + 1))) else ((X8_has M x1 x3).bind fun v6 => if v6 = 0 then (some (.inl (x3 + 1))) else ((X8_canDoBoth M a0 x2 x3).bind fun v8 => if v8 = 0 then (some (.inr (.inl ()))) else (some (.inl (x3 + 1))))))
theorem X8_canBeOne_b12_w {X : Cx} (G : Gd X yX8_canBeOne cX8_canBeOne wsX8_canBeOne 4 (some .boolean) rX8_canBeOne) {M : Wo} {a0 : Nat} {x1 : Int32} {x2 : Int32} {x3 : Int32} {o : (Int32 ⊕ (Unit ⊕ Unit))} (hd : X8_canBeOne_b12 M a0 x1 x2 x3 = some o) (hc : ∀ s9, o = .inl s9 → X8_canBeOne_P12 X M a0 x1 x2 s9) (he : ∀ e9, o = .inr e9 → X8_canBeOne_Z12 X M a0 x1 x2 e9) : Pt X 0 0 12 M [(0, .ref a0), (1, .int x1), (2, .int x2), (3, .int x3)] [] := by
  unfold X8_canBeOne_b12 at hd
  refine pt_iload_n G 3 dX8_canBeOne_12 rfl rfl ?_
  refine pt_iload_n G 2 dX8_canBeOne_13 rfl rfl ?_
  refine pt_icmp_ge G 50 dX8_canBeOne_14 (by decide) (fun c12 => ?_) (fun c12 => ?_)
  · replace hd := ifp c12 hd
    exact pt_sub [0, 1, 2] rfl (he (.inr ()) (Option.some.inj hd).symm)
  · replace hd := ifn c12 hd
    refine pt_iload_n G 1 dX8_canBeOne_17 rfl rfl ?_
    refine pt_iload_n G 2 dX8_canBeOne_18 rfl rfl ?_
    obtain ⟨v4, h3, hd⟩ := bnd hd
    refine X8_has_v G gX8_canBeOne_X8_has ⟨(Nat.le_of_ble_eq_true rfl), (Nat.le_of_ble_eq_true rfl)⟩ h3 dX8_canBeOne_19 (Nat.le_of_ble_eq_true rfl) ⟨(Nat.le_of_ble_eq_true rfl), (Nat.le_of_ble_eq_true rfl)⟩ ?_
    refine pt_if_eq G 44 dX8_canBeOne_22 (by decide) (fun c11 => ?_) (fun c11 => ?_)
    · replace hd := ifp c11 hd
      refine pt_iinc G 3 (x3 + 1) [(3, .int (x3 + 1)), (0, .ref a0), (1, .int x1), (2, .int x2)] dX8_canBeOne_44 rfl (inc_1 _) (by decide) rfl ?_
      refine pt_goto G 12 dX8_canBeOne_47 (by decide) ?_
      exact pt_sub [1, 2, 3, 0] rfl (hc (x3 + 1) (Option.some.inj hd).symm)
    · replace hd := ifn c11 hd
      refine pt_iload_n G 1 dX8_canBeOne_25 rfl rfl ?_
      refine pt_iload_n G 3 dX8_canBeOne_26 rfl rfl ?_
      obtain ⟨v6, h5, hd⟩ := bnd hd
      refine X8_has_v G gX8_canBeOne_X8_has ⟨(Nat.le_of_ble_eq_true rfl), (Nat.le_of_ble_eq_true rfl)⟩ h5 dX8_canBeOne_27 (Nat.le_of_ble_eq_true rfl) ⟨(Nat.le_of_ble_eq_true rfl), (Nat.le_of_ble_eq_true rfl)⟩ ?_
      refine pt_if_eq G 44 dX8_canBeOne_30 (by decide) (fun c10 => ?_) (fun c10 => ?_)
      · replace hd := ifp c10 hd
        refine pt_iinc G 3 (x3 + 1) [(3, .int (x3 + 1)), (0, .ref a0), (1, .int x1), (2, .int x2)] dX8_canBeOne_44 rfl (inc_1 _) (by decide) rfl ?_
        refine pt_goto G 12 dX8_canBeOne_47 (by decide) ?_
        exact pt_sub [1, 2, 3, 0] rfl (hc (x3 + 1) (Option.some.inj hd).symm)
      · replace hd := ifn c10 hd
        refine pt_aload_n G 0 dX8_canBeOne_33 rfl rfl ?_
        refine pt_iload_n G 2 dX8_canBeOne_34 rfl rfl ?_
        refine pt_iload_n G 3 dX8_canBeOne_35 rfl rfl ?_
        obtain ⟨v8, h7, hd⟩ := bnd hd
        refine X8_canDoBoth_v G gX8_canBeOne_X8_canDoBoth ⟨(Nat.le_of_ble_eq_true rfl), (Nat.le_of_ble_eq_true rfl)⟩ h7 dX8_canBeOne_36 (Nat.le_of_ble_eq_true rfl) ⟨(Nat.le_of_ble_eq_true rfl), (Nat.le_of_ble_eq_true rfl)⟩ ?_
        refine pt_if_ne G 44 dX8_canBeOne_39 (by decide) (fun c9 => ?_) (fun c9 => ?_)
        · replace hd := ifn c9 hd
          refine pt_iinc G 3 (x3 + 1) [(3, .int (x3 + 1)), (0, .ref a0), (1, .int x1), (2, .int x2)] dX8_canBeOne_44 rfl (inc_1 _) (by decide) rfl ?_
          refine pt_goto G 12 dX8_canBeOne_47 (by decide) ?_
          exact pt_sub [1, 2, 3, 0] rfl (hc (x3 + 1) (Option.some.inj hd).symm)
        · replace hd := ifp c9 hd
          exact pt_sub [] rfl (he (.inl ()) (Option.some.inj hd).symm)
theorem X8_canBeOne_w12_w {X : Cx} (G : Gd X yX8_canBeOne cX8_canBeOne wsX8_canBeOne 4 (some .boolean) rX8_canBeOne) {M : Wo} {a0 : Nat} {x1 : Int32} {x2 : Int32} (n9 : Nat) (s9 : Int32) (e9 : (Unit ⊕ Unit)) (hw : wloop (un1 (X8_canBeOne_b12 M a0 x1 x2)) n9 s9 = some e9) (hz : X8_canBeOne_Z12 X M a0 x1 x2 e9) : X8_canBeOne_P12 X M a0 x1 x2 s9 := by
  refine wl_ind (P := X8_canBeOne_P12 X M a0 x1 x2) (Z := X8_canBeOne_Z12 X M a0 x1 x2) ?_ n9 s9 e9 hw hz
  intro s9 o9 hd hc he
  exact X8_canBeOne_b12_w G hd hc he
def X8_canBeOne_b2 (M : Wo) (a0 : Nat) (x1 : Int32) (x2 : Int32) : Option (Int32 ⊕ (Unit ⊕ Unit)) :=
  (gI M a0 8 9).bind fun v1 => if v1 ≤ x2 then (some (.inr (.inr ()))) else ((wloop (un1 (X8_canBeOne_b12 M a0 x1 x2)) FU (0 : Int32)).bind (sOf (fun _ => some (.inr (.inl ()))) (fun _ => some (.inl (x2 + 1)))))
theorem X8_canBeOne_b2_w {X : Cx} (G : Gd X yX8_canBeOne cX8_canBeOne wsX8_canBeOne 4 (some .boolean) rX8_canBeOne) {M : Wo} {a0 : Nat} {x1 : Int32} {x2 : Int32} {o : (Int32 ⊕ (Unit ⊕ Unit))} (hd : X8_canBeOne_b2 M a0 x1 x2 = some o) (hc : ∀ s9, o = .inl s9 → X8_canBeOne_P2 X M a0 x1 s9) (he : ∀ e9, o = .inr e9 → X8_canBeOne_Z2 X M a0 x1 e9) : Pt X 0 0 2 M [(0, .ref a0), (1, .int x1), (2, .int x2)] [] := by
  unfold X8_canBeOne_b2 at hd
  refine pt_iload_n G 2 dX8_canBeOne_2 rfl rfl ?_
  refine pt_aload_n G 0 dX8_canBeOne_3 rfl rfl ?_
  obtain ⟨v1, h2, hd⟩ := bnd hd
  refine pt_get G (ci := 8) (j := 9) rfl (by decide) u_X8_canBeOne_X8 m_X8_canBeOne_1 (gI_o h2) dX8_canBeOne_4 ?_
  refine pt_icmp_ge G 56 dX8_canBeOne_7 (by decide) (fun c15 => ?_) (fun c15 => ?_)
  · replace hd := ifp c15 hd
    exact pt_sub [] rfl (he (.inr ()) (Option.some.inj hd).symm)
  · replace hd := ifn c15 hd
    refine pt_iconst G (0 : Int32) dX8_canBeOne_10 ci_0 ?_
    refine pt_istore_n G [(3, .int (0 : Int32)), (0, .ref a0), (1, .int x1), (2, .int x2)] dX8_canBeOne_11 rfl (by decide) rfl ?_
    obtain ⟨e14, hw13, hd⟩ := bnd hd
    rcases e14 with _ | _
    · replace hd := sO_1 hd
      refine pt_sub [1, 2, 3, 0] rfl (X8_canBeOne_w12_w G _ _ _ hw13 ?_)
      show Pt X 0 0 _ _ _ []
      exact pt_sub [] rfl (he (.inl ()) (Option.some.inj hd).symm)
    · replace hd := sO_2 hd
      refine pt_sub [1, 2, 3, 0] rfl (X8_canBeOne_w12_w G _ _ _ hw13 ?_)
      show Pt X 0 0 _ _ _ []
      refine pt_iinc G 2 (x2 + 1) [(2, .int (x2 + 1)), (0, .ref a0), (1, .int x1)] dX8_canBeOne_50 rfl (inc_1 _) (by decide) rfl ?_
      refine pt_goto G 2 dX8_canBeOne_53 (by decide) ?_
      exact pt_sub [1, 2, 0] rfl (hc (x2 + 1) (Option.some.inj hd).symm)
theorem X8_canBeOne_w2_w {X : Cx} (G : Gd X yX8_canBeOne cX8_canBeOne wsX8_canBeOne 4 (some .boolean) rX8_canBeOne) {M : Wo} {a0 : Nat} {x1 : Int32} (n9 : Nat) (s9 : Int32) (e9 : (Unit ⊕ Unit)) (hw : wloop (un1 (X8_canBeOne_b2 M a0 x1)) n9 s9 = some e9) (hz : X8_canBeOne_Z2 X M a0 x1 e9) : X8_canBeOne_P2 X M a0 x1 s9 := by
  refine wl_ind (P := X8_canBeOne_P2 X M a0 x1) (Z := X8_canBeOne_Z2 X M a0 x1) ?_ n9 s9 e9 hw hz
  intro s9 o9 hd hc he
  exact X8_canBeOne_b2_w G hd hc he
def X8_canBeOne (M : Wo) (a0 : Nat) (x1 : Int32) : Option Int32 :=
  (ckO M a0 8).bind fun _ => (wloop (un1 (X8_canBeOne_b2 M a0 x1)) FU (0 : Int32)).bind (sOf (fun _ => some (0 : Int32)) (fun _ => some (1 : Int32)))
theorem X8_canBeOne_w {X : Cx} (G : Gd X yX8_canBeOne cX8_canBeOne wsX8_canBeOne 4 (some .boolean) rX8_canBeOne) {M : Wo} {a0 : Nat} {x1 : Int32} {o : Int32} (hd : X8_canBeOne M a0 x1 = some o) (hQ : Qi X o M 0 0) : Pt X 0 0 0 M [(0, .ref a0), (1, .int x1)] [] := by
  unfold X8_canBeOne at hd
  obtain ⟨_, _, hd⟩ := bnd hd
  refine pt_iconst G (0 : Int32) dX8_canBeOne_0 ci_0 ?_
  refine pt_istore_n G [(2, .int (0 : Int32)), (0, .ref a0), (1, .int x1)] dX8_canBeOne_1 rfl (by decide) rfl ?_
  obtain ⟨e17, hw16, hd⟩ := bnd hd
  rcases e17 with _ | _
  · replace hd := sO_1 hd
    refine pt_sub [1, 2, 0] rfl (X8_canBeOne_w2_w G _ _ _ hw16 ?_)
    show Pt X 0 0 _ _ _ []
    refine pt_iconst G (0 : Int32) dX8_canBeOne_42 ci_0 ?_
    cases hd
    exact pt_zret G (by decide) hQ dX8_canBeOne_43
  · replace hd := sO_2 hd
    refine pt_sub [1, 2, 0] rfl (X8_canBeOne_w2_w G _ _ _ hw16 ?_)
    show Pt X 0 0 _ _ _ []
    refine pt_iconst G (1 : Int32) dX8_canBeOne_56 ci_1 ?_
    cases hd
    exact pt_zret G (by decide) hQ dX8_canBeOne_57
theorem X8_canBeOne_c {l : Launch} {D : va_G} {dA : Nat → ClassId} {b : Nat} {M : Wo} {a0 : Nat} {x1 : Int32} {r : Int32} (h : X8_canBeOne M a0 x1 = some r) : Met l yX8_canBeOne wsX8_canBeOne rX8_canBeOne (va_Pc [.ref a0, .int x1] (Wd D dA b M)) (Ei D dA b r M) 0 0 (Ab b) := met_i (by decide) rfl (Nat.le_of_ble_eq_true rfl) (fun X G hN hQ => X8_canBeOne_w G h hQ)
theorem X8_canBeOne_v {X : Cx} {y : MethodName} {cc : ByteArray} {Ts : List Cond} {nL : Nat} {ret : Option FieldType} {R : Room} (G : Gd X y cc Ts nL ret R) {index : Nat} (hg : GoodIn Ts (wsV y.cls index RX8 yX8_canBeOne wsX8_canBeOne)) (hR : rX8_canBeOne.frames + 1 ≤ R.frames ∧ 8 + (4 + 11) + rX8_canBeOne.locals ≤ R.locals) {k n pc : Nat} {M : Wo} {lv : List (Nat × Value)} {st : List Value} {a0 : Nat} {x1 : Int32} {r : Int32} (hv : X8_canBeOne M a0 x1 = some r) (hd : decode cc pc = .ok (.invokevirtual index, 3)) (h8 : (st.map fun v => v.category).sum ≤ 8) (hf : k ≤ R.cells ∧ n ≤ R.slots) (kk : Pt X k n (pc + 3) M lv (.int r :: st)) : Pt X k n pc M lv (.int x1 :: .ref a0 :: st) := pt_cVi (ci := 8) (nA := 1) (As := [.int x1]) G (X8_canBeOne_c hv) hg rfl rfl rfl (by decide +kernel) hR rfl (rcv hv) rfl rfl h8 hd hf kk
abbrev rX8_layHands : Room := { frames := 4, cells := 0, slots := 0, locals := 95 }
theorem m_X8_layHands_2 : Cond.fieldLink RX8 35 "StageLinesModel" "isOne" "[Z" ∈ wsX8_layHands := List.mem_of_getElem? (i := 2) rfl
theorem u_X8_layHands_X8 : ∀ w ∈ u_ws RX8 TX8 13, w ∈ wsX8_layHands := mem_r [63, 64, 65, 66, 67, 68, 69, 70, 71, 72, 73, 74, 75] (by decide +kernel)
theorem m_X8_layHands_3 : Cond.fieldLink RX8 38 "StageLinesModel" "least" "[I" ∈ wsX8_layHands := List.mem_of_getElem? (i := 3) rfl
theorem m_X8_layHands_1 : Cond.fieldLink RX8 121 "StageLinesModel" "ables" "I" ∈ wsX8_layHands := List.mem_of_getElem? (i := 1) rfl
abbrev X8_layHands_P15 (X : Cx) (a0 : Nat) (x1 : Int32) : (Wo × Int32) → Prop := un2 (fun M x2 => Pt X 0 0 15 M [(0, .ref a0), (1, .int x1), (2, .int x2)] [])
abbrev X8_layHands_Z15 (X : Cx) (a0 : Nat) (x1 : Int32) : Wo → Prop := (un1 (fun M => Pt X 0 0 37 M [(0, .ref a0), (1, .int x1)] []))
def X8_layHands_b15 (a0 : Nat) (x1 : Int32) (M : Wo) (x2 : Int32) : Option ((Wo × Int32) ⊕ Wo) :=
  if x1 < x2 then (some (.inr M)) else ((gR M a0 8 10).bind fun w5 => (X8_canBeOne M a0 x2).bind fun v8 => (sZ M w5 x2 v8).bind fun M9 => some (.inl (M9, (x2 + 1))))
theorem X8_layHands_b15_w {X : Cx} (G : Gd X yX8_layHands cX8_layHands wsX8_layHands 4 (some .int) rX8_layHands) {a0 : Nat} {x1 : Int32} {M : Wo} {x2 : Int32} {o : ((Wo × Int32) ⊕ Wo)} (hd : X8_layHands_b15 a0 x1 M x2 = some o) (hc : ∀ s9, o = .inl s9 → X8_layHands_P15 X a0 x1 s9) (he : ∀ e9, o = .inr e9 → X8_layHands_Z15 X a0 x1 e9) : Pt X 0 0 15 M [(0, .ref a0), (1, .int x1), (2, .int x2)] [] := by
  unfold X8_layHands_b15 at hd
  refine pt_iload_n G 2 dX8_layHands_15 rfl rfl ?_
  refine pt_iload_n G 1 dX8_layHands_16 rfl rfl ?_
  refine pt_icmp_gt G 37 dX8_layHands_17 (by decide) (fun c11 => ?_) (fun c11 => ?_)
  · replace hd := ifp c11 hd
    exact pt_sub [0, 1] rfl (he M (Option.some.inj hd).symm)
  · replace hd := ifn c11 hd
    refine pt_aload_n G 0 dX8_layHands_20 rfl rfl ?_
    obtain ⟨w5, h6, hd⟩ := bnd hd
    refine pt_get G (ci := 8) (j := 10) rfl (by decide) u_X8_layHands_X8 m_X8_layHands_2 (gR_o h6) dX8_layHands_21 ?_
    refine pt_iload_n G 2 dX8_layHands_24 rfl rfl ?_
    refine pt_aload_n G 0 dX8_layHands_25 rfl rfl ?_
    refine pt_iload_n G 2 dX8_layHands_26 rfl rfl ?_
    obtain ⟨v8, h7, hd⟩ := bnd hd
    refine X8_canBeOne_v G gX8_layHands_X8_canBeOne ⟨(Nat.le_of_ble_eq_true rfl), (Nat.le_of_ble_eq_true rfl)⟩ h7 dX8_layHands_27 (Nat.le_of_ble_eq_true rfl) ⟨(Nat.le_of_ble_eq_true rfl), (Nat.le_of_ble_eq_true rfl)⟩ ?_
    obtain ⟨M9, h10, hd⟩ := bnd hd
    refine pt_zast G h10 dX8_layHands_30 ?_
    refine pt_iinc G 2 (x2 + 1) [(2, .int (x2 + 1)), (0, .ref a0), (1, .int x1)] dX8_layHands_31 rfl (inc_1 _) (by decide) rfl ?_
    refine pt_goto G 15 dX8_layHands_34 (by decide) ?_
    exact pt_sub [1, 2, 0] rfl (hc (M9, (x2 + 1)) (Option.some.inj hd).symm)
theorem X8_layHands_w15_w {X : Cx} (G : Gd X yX8_layHands cX8_layHands wsX8_layHands 4 (some .int) rX8_layHands) {a0 : Nat} {x1 : Int32} (n9 : Nat) (s9 : (Wo × Int32)) (e9 : Wo) (hw : wloop (un2 (X8_layHands_b15 a0 x1)) n9 s9 = some e9) (hz : X8_layHands_Z15 X a0 x1 e9) : X8_layHands_P15 X a0 x1 s9 := by
  refine wl_ind (P := X8_layHands_P15 X a0 x1) (Z := X8_layHands_Z15 X a0 x1) ?_ n9 s9 e9 hw hz
  intro s9 o9 hd hc he
  obtain ⟨M, x2⟩ := s9
  exact X8_layHands_b15_w G hd hc he
abbrev X8_layHands_P46 (X : Cx) (a0 : Nat) (x1 : Int32) : (Wo × Int32) → Prop := un2 (fun M x2 => Pt X 0 0 46 M [(0, .ref a0), (1, .int x1), (2, .int x2)] [])
abbrev X8_layHands_Z46 (X : Cx) (a0 : Nat) (x1 : Int32) : Wo → Prop := (un1 (fun M => Pt X 0 0 130 M [(0, .ref a0), (1, .int x1)] []))
abbrev X8_layHands_P63 (X : Cx) (a0 : Nat) (x1 : Int32) (x2 : Int32) : (Wo × Int32) → Prop := un2 (fun M x3 => Pt X 0 0 63 M [(0, .ref a0), (1, .int x1), (2, .int x2), (3, .int x3)] [])
abbrev X8_layHands_Z63 (X : Cx) (a0 : Nat) (x1 : Int32) (x2 : Int32) : Wo → Prop := (un1 (fun M => Pt X 0 0 124 M [(0, .ref a0), (1, .int x1), (2, .int x2)] []))
def X8_layHands_L115 (M : Wo) (a0 : Nat) (x1 : Int32) (x2 : Int32) (x3 : Int32) : Option ((Wo × Int32) ⊕ Wo) :=
  some (.inl (M, ((x3 - (1 : Int32)) &&& x2)))
theorem X8_layHands_L115_w {X : Cx} (G : Gd X yX8_layHands cX8_layHands wsX8_layHands 4 (some .int) rX8_layHands) {M : Wo} {a0 : Nat} {x1 : Int32} {x2 : Int32} {x3 : Int32} {o : ((Wo × Int32) ⊕ Wo)} (hd : X8_layHands_L115 M a0 x1 x2 x3 = some o) (hc : ∀ s9, o = .inl s9 → X8_layHands_P63 X a0 x1 x2 s9) (he : ∀ e9, o = .inr e9 → X8_layHands_Z63 X a0 x1 x2 e9) : Pt X 0 0 115 M [(0, .ref a0), (1, .int x1), (2, .int x2), (3, .int x3)] [] := by
  unfold X8_layHands_L115 at hd
  refine pt_iload_n G 3 dX8_layHands_115 rfl rfl ?_
  refine pt_iconst G (1 : Int32) dX8_layHands_116 ci_1 ?_
  refine pt_isub G dX8_layHands_117 ?_
  refine pt_iload_n G 2 dX8_layHands_118 rfl rfl ?_
  refine pt_iand G dX8_layHands_119 ?_
  refine pt_istore_n G [(3, .int ((x3 - (1 : Int32)) &&& x2)), (0, .ref a0), (1, .int x1), (2, .int x2)] dX8_layHands_120 rfl (by decide) rfl ?_
  refine pt_goto G 63 dX8_layHands_121 (by decide) ?_
  exact pt_sub [1, 2, 3, 0] rfl (hc (M, ((x3 - (1 : Int32)) &&& x2)) (Option.some.inj hd).symm)
def X8_layHands_b63 (a0 : Nat) (x1 : Int32) (x2 : Int32) (M : Wo) (x3 : Int32) : Option ((Wo × Int32) ⊕ Wo) :=
  if x3 ≤ 0 then (some (.inr M)) else ((gR M a0 8 10).bind fun w23 => (lA M 1 w23 x3).bind fun v25 => if v25 = 0 then (X8_layHands_L115 M a0 x1 x2 x3) else ((gR M a0 8 11).bind fun w27 => (lA M 0 w27 (x2 &&& (x3 ^^^ (-1 : Int32)))).bind fun v29 => (gR M a0 8 11).bind fun w31 => (lA M 0 w31 x2).bind fun v33 => if v33 ≤ (v29 + (1 : Int32)) then (X8_layHands_L115 M a0 x1 x2 x3) else ((gR M a0 8 11).bind fun w35 => (gR M a0 8 11).bind fun w37 => (lA M 0 w37 (x2 &&& (x3 ^^^ (-1 : Int32)))).bind fun v39 => (sA M w35 x2 (v39 + (1 : Int32))).bind fun M41 => X8_layHands_L115 M41 a0 x1 x2 x3)))
theorem X8_layHands_b63_w {X : Cx} (G : Gd X yX8_layHands cX8_layHands wsX8_layHands 4 (some .int) rX8_layHands) {a0 : Nat} {x1 : Int32} {x2 : Int32} {M : Wo} {x3 : Int32} {o : ((Wo × Int32) ⊕ Wo)} (hd : X8_layHands_b63 a0 x1 x2 M x3 = some o) (hc : ∀ s9, o = .inl s9 → X8_layHands_P63 X a0 x1 x2 s9) (he : ∀ e9, o = .inr e9 → X8_layHands_Z63 X a0 x1 x2 e9) : Pt X 0 0 63 M [(0, .ref a0), (1, .int x1), (2, .int x2), (3, .int x3)] [] := by
  unfold X8_layHands_b63 at hd
  refine pt_iload_n G 3 dX8_layHands_63 rfl rfl ?_
  refine pt_if_le G 124 dX8_layHands_64 (by decide) (fun c45 => ?_) (fun c45 => ?_)
  · replace hd := ifp c45 hd
    exact pt_sub [0, 1, 2] rfl (he M (Option.some.inj hd).symm)
  · replace hd := ifn c45 hd
    refine pt_aload_n G 0 dX8_layHands_67 rfl rfl ?_
    obtain ⟨w23, h24, hd⟩ := bnd hd
    refine pt_get G (ci := 8) (j := 10) rfl (by decide) u_X8_layHands_X8 m_X8_layHands_2 (gR_o h24) dX8_layHands_68 ?_
    refine pt_iload_n G 3 dX8_layHands_71 rfl rfl ?_
    obtain ⟨v25, h26, hd⟩ := bnd hd
    refine pt_zald G h26 dX8_layHands_72 ?_
    refine pt_if_eq G 115 dX8_layHands_73 (by decide) (fun c44 => ?_) (fun c44 => ?_)
    · replace hd := ifp c44 hd
      exact pt_sub [0, 1, 2, 3] rfl (X8_layHands_L115_w G hd hc he)
    · replace hd := ifn c44 hd
      refine pt_aload_n G 0 dX8_layHands_76 rfl rfl ?_
      obtain ⟨w27, h28, hd⟩ := bnd hd
      refine pt_get G (ci := 8) (j := 11) rfl (by decide) u_X8_layHands_X8 m_X8_layHands_3 (gR_o h28) dX8_layHands_77 ?_
      refine pt_iload_n G 2 dX8_layHands_80 rfl rfl ?_
      refine pt_iload_n G 3 dX8_layHands_81 rfl rfl ?_
      refine pt_iconst G (-1 : Int32) dX8_layHands_82 ci_m1 ?_
      refine pt_ixor G dX8_layHands_83 ?_
      refine pt_iand G dX8_layHands_84 ?_
      obtain ⟨v29, h30, hd⟩ := bnd hd
      refine pt_iald G h30 dX8_layHands_85 ?_
      refine pt_iconst G (1 : Int32) dX8_layHands_86 ci_1 ?_
      refine pt_iadd G dX8_layHands_87 ?_
      refine pt_aload_n G 0 dX8_layHands_88 rfl rfl ?_
      obtain ⟨w31, h32, hd⟩ := bnd hd
      refine pt_get G (ci := 8) (j := 11) rfl (by decide) u_X8_layHands_X8 m_X8_layHands_3 (gR_o h32) dX8_layHands_89 ?_
      refine pt_iload_n G 2 dX8_layHands_92 rfl rfl ?_
      obtain ⟨v33, h34, hd⟩ := bnd hd
      refine pt_iald G h34 dX8_layHands_93 ?_
      refine pt_icmp_ge G 115 dX8_layHands_94 (by decide) (fun c43 => ?_) (fun c43 => ?_)
      · replace hd := ifp c43 hd
        exact pt_sub [0, 1, 2, 3] rfl (X8_layHands_L115_w G hd hc he)
      · replace hd := ifn c43 hd
        refine pt_aload_n G 0 dX8_layHands_97 rfl rfl ?_
        obtain ⟨w35, h36, hd⟩ := bnd hd
        refine pt_get G (ci := 8) (j := 11) rfl (by decide) u_X8_layHands_X8 m_X8_layHands_3 (gR_o h36) dX8_layHands_98 ?_
        refine pt_iload_n G 2 dX8_layHands_101 rfl rfl ?_
        refine pt_aload_n G 0 dX8_layHands_102 rfl rfl ?_
        obtain ⟨w37, h38, hd⟩ := bnd hd
        refine pt_get G (ci := 8) (j := 11) rfl (by decide) u_X8_layHands_X8 m_X8_layHands_3 (gR_o h38) dX8_layHands_103 ?_
        refine pt_iload_n G 2 dX8_layHands_106 rfl rfl ?_
        refine pt_iload_n G 3 dX8_layHands_107 rfl rfl ?_
        refine pt_iconst G (-1 : Int32) dX8_layHands_108 ci_m1 ?_
        refine pt_ixor G dX8_layHands_109 ?_
        refine pt_iand G dX8_layHands_110 ?_
        obtain ⟨v39, h40, hd⟩ := bnd hd
        refine pt_iald G h40 dX8_layHands_111 ?_
        refine pt_iconst G (1 : Int32) dX8_layHands_112 ci_1 ?_
        refine pt_iadd G dX8_layHands_113 ?_
        obtain ⟨M41, h42, hd⟩ := bnd hd
        refine pt_iast G h42 dX8_layHands_114 ?_
        exact pt_sub [0, 1, 2, 3] rfl (X8_layHands_L115_w G hd hc he)
theorem X8_layHands_w63_w {X : Cx} (G : Gd X yX8_layHands cX8_layHands wsX8_layHands 4 (some .int) rX8_layHands) {a0 : Nat} {x1 : Int32} {x2 : Int32} (n9 : Nat) (s9 : (Wo × Int32)) (e9 : Wo) (hw : wloop (un2 (X8_layHands_b63 a0 x1 x2)) n9 s9 = some e9) (hz : X8_layHands_Z63 X a0 x1 x2 e9) : X8_layHands_P63 X a0 x1 x2 s9 := by
  refine wl_ind (P := X8_layHands_P63 X a0 x1 x2) (Z := X8_layHands_Z63 X a0 x1 x2) ?_ n9 s9 e9 hw hz
  intro s9 o9 hd hc he
  obtain ⟨M, x3⟩ := s9
  exact X8_layHands_b63_w G hd hc he
def X8_layHands_b46 (a0 : Nat) (x1 : Int32) (M : Wo) (x2 : Int32) : Option ((Wo × Int32) ⊕ Wo) :=
  if x1 < x2 then (some (.inr M)) else ((gR M a0 8 11).bind fun w17 => (gI M a0 8 9).bind fun v19 => (sA M w17 x2 v19).bind fun M21 => (wloop (un2 (X8_layHands_b63 a0 x1 x2)) FU (M21, x2)).bind fun M46 => some (.inl (M46, (x2 + 1))))
theorem X8_layHands_b46_w {X : Cx} (G : Gd X yX8_layHands cX8_layHands wsX8_layHands 4 (some .int) rX8_layHands) {a0 : Nat} {x1 : Int32} {M : Wo} {x2 : Int32} {o : ((Wo × Int32) ⊕ Wo)} (hd : X8_layHands_b46 a0 x1 M x2 = some o) (hc : ∀ s9, o = .inl s9 → X8_layHands_P46 X a0 x1 s9) (he : ∀ e9, o = .inr e9 → X8_layHands_Z46 X a0 x1 e9) : Pt X 0 0 46 M [(0, .ref a0), (1, .int x1), (2, .int x2)] [] := by
  unfold X8_layHands_b46 at hd
  refine pt_iload_n G 2 dX8_layHands_46 rfl rfl ?_
  refine pt_iload_n G 1 dX8_layHands_47 rfl rfl ?_
  refine pt_icmp_gt G 130 dX8_layHands_48 (by decide) (fun c48 => ?_) (fun c48 => ?_)
  · replace hd := ifp c48 hd
    exact pt_sub [0, 1] rfl (he M (Option.some.inj hd).symm)
  · replace hd := ifn c48 hd
    refine pt_aload_n G 0 dX8_layHands_51 rfl rfl ?_
    obtain ⟨w17, h18, hd⟩ := bnd hd
    refine pt_get G (ci := 8) (j := 11) rfl (by decide) u_X8_layHands_X8 m_X8_layHands_3 (gR_o h18) dX8_layHands_52 ?_
    refine pt_iload_n G 2 dX8_layHands_55 rfl rfl ?_
    refine pt_aload_n G 0 dX8_layHands_56 rfl rfl ?_
    obtain ⟨v19, h20, hd⟩ := bnd hd
    refine pt_get G (ci := 8) (j := 9) rfl (by decide) u_X8_layHands_X8 m_X8_layHands_1 (gI_o h20) dX8_layHands_57 ?_
    obtain ⟨M21, h22, hd⟩ := bnd hd
    refine pt_iast G h22 dX8_layHands_60 ?_
    refine pt_iload_n G 2 dX8_layHands_61 rfl rfl ?_
    refine pt_istore_n G [(3, .int x2), (0, .ref a0), (1, .int x1), (2, .int x2)] dX8_layHands_62 rfl (by decide) rfl ?_
    obtain ⟨M46, hw47, hd⟩ := bnd hd
    refine pt_sub [1, 2, 3, 0] rfl (X8_layHands_w63_w G _ _ _ hw47 ?_)
    show Pt X 0 0 _ _ _ []
    refine pt_iinc G 2 (x2 + 1) [(2, .int (x2 + 1)), (0, .ref a0), (1, .int x1)] dX8_layHands_124 rfl (inc_1 _) (by decide) rfl ?_
    refine pt_goto G 46 dX8_layHands_127 (by decide) ?_
    exact pt_sub [1, 2, 0] rfl (hc (M46, (x2 + 1)) (Option.some.inj hd).symm)
theorem X8_layHands_w46_w {X : Cx} (G : Gd X yX8_layHands cX8_layHands wsX8_layHands 4 (some .int) rX8_layHands) {a0 : Nat} {x1 : Int32} (n9 : Nat) (s9 : (Wo × Int32)) (e9 : Wo) (hw : wloop (un2 (X8_layHands_b46 a0 x1)) n9 s9 = some e9) (hz : X8_layHands_Z46 X a0 x1 e9) : X8_layHands_P46 X a0 x1 s9 := by
  refine wl_ind (P := X8_layHands_P46 X a0 x1) (Z := X8_layHands_Z46 X a0 x1) ?_ n9 s9 e9 hw hz
  intro s9 o9 hd hc he
  obtain ⟨M, x2⟩ := s9
  exact X8_layHands_b46_w G hd hc he
def X8_layHands (M : Wo) (a0 : Nat) : Option (Int32 × Wo) :=
  (ckO M a0 8).bind fun _ => (X8_layAble M a0).bind fun M2 => (gI M2 a0 8 9).bind fun v3 => (wloop (un2 (X8_layHands_b15 a0 (((1 : Int32) <<< (v3 &&& 31)) - (1 : Int32)))) FU (M2, (0 : Int32))).bind fun M12 => (gR M12 a0 8 11).bind fun w13 => (sA M12 w13 (0 : Int32) (0 : Int32)).bind fun M15 => (wloop (un2 (X8_layHands_b46 a0 (((1 : Int32) <<< (v3 &&& 31)) - (1 : Int32)))) FU (M15, (1 : Int32))).bind fun M49 => (gR M49 a0 8 11).bind fun w50 => (lA M49 0 w50 (((1 : Int32) <<< (v3 &&& 31)) - (1 : Int32))).bind fun v52 => some (v52, M49)
theorem X8_layHands_w {X : Cx} (G : Gd X yX8_layHands cX8_layHands wsX8_layHands 4 (some .int) rX8_layHands) {M : Wo} {a0 : Nat} {o : (Int32 × Wo)} (hd : X8_layHands M a0 = some o) (hQ : Qi X o.1 o.2 0 0) : Pt X 0 0 0 M [(0, .ref a0)] [] := by
  unfold X8_layHands at hd
  obtain ⟨_, _, hd⟩ := bnd hd
  refine pt_aload_n G 0 dX8_layHands_0 rfl rfl ?_
  obtain ⟨M2, h1, hd⟩ := bnd hd
  refine X8_layAble_v G gX8_layHands_X8_layAble ⟨(Nat.le_of_ble_eq_true rfl), (Nat.le_of_ble_eq_true rfl)⟩ h1 dX8_layHands_1 (Nat.le_of_ble_eq_true rfl) ⟨(Nat.le_of_ble_eq_true rfl), (Nat.le_of_ble_eq_true rfl)⟩ ?_
  refine pt_iconst G (1 : Int32) dX8_layHands_4 ci_1 ?_
  refine pt_aload_n G 0 dX8_layHands_5 rfl rfl ?_
  obtain ⟨v3, h4, hd⟩ := bnd hd
  refine pt_get G (ci := 8) (j := 9) rfl (by decide) u_X8_layHands_X8 m_X8_layHands_1 (gI_o h4) dX8_layHands_6 ?_
  refine pt_ishl G dX8_layHands_9 ?_
  refine pt_iconst G (1 : Int32) dX8_layHands_10 ci_1 ?_
  refine pt_isub G dX8_layHands_11 ?_
  refine pt_istore_n G [(1, .int (((1 : Int32) <<< (v3 &&& 31)) - (1 : Int32))), (0, .ref a0)] dX8_layHands_12 rfl (by decide) rfl ?_
  refine pt_iconst G (0 : Int32) dX8_layHands_13 ci_0 ?_
  refine pt_istore_n G [(2, .int (0 : Int32)), (1, .int (((1 : Int32) <<< (v3 &&& 31)) - (1 : Int32))), (0, .ref a0)] dX8_layHands_14 rfl (by decide) rfl ?_
  obtain ⟨M12, hw55, hd⟩ := bnd hd
  refine pt_sub [2, 1, 0] rfl (X8_layHands_w15_w G _ _ _ hw55 ?_)
  show Pt X 0 0 _ _ _ []
  refine pt_aload_n G 0 dX8_layHands_37 rfl rfl ?_
  obtain ⟨w13, h14, hd⟩ := bnd hd
  refine pt_get G (ci := 8) (j := 11) rfl (by decide) u_X8_layHands_X8 m_X8_layHands_3 (gR_o h14) dX8_layHands_38 ?_
  refine pt_iconst G (0 : Int32) dX8_layHands_41 ci_0 ?_
  refine pt_iconst G (0 : Int32) dX8_layHands_42 ci_0 ?_
  obtain ⟨M15, h16, hd⟩ := bnd hd
  refine pt_iast G h16 dX8_layHands_43 ?_
  refine pt_iconst G (1 : Int32) dX8_layHands_44 ci_1 ?_
  refine pt_istore_n G [(2, .int (1 : Int32)), (0, .ref a0), (1, .int (((1 : Int32) <<< (v3 &&& 31)) - (1 : Int32)))] dX8_layHands_45 rfl (by decide) rfl ?_
  obtain ⟨M49, hw54, hd⟩ := bnd hd
  refine pt_sub [1, 2, 0] rfl (X8_layHands_w46_w G _ _ _ hw54 ?_)
  show Pt X 0 0 _ _ _ []
  refine pt_aload_n G 0 dX8_layHands_130 rfl rfl ?_
  obtain ⟨w50, h51, hd⟩ := bnd hd
  refine pt_get G (ci := 8) (j := 11) rfl (by decide) u_X8_layHands_X8 m_X8_layHands_3 (gR_o h51) dX8_layHands_131 ?_
  refine pt_iload_n G 1 dX8_layHands_134 rfl rfl ?_
  obtain ⟨v52, h53, hd⟩ := bnd hd
  refine pt_iald G h53 dX8_layHands_135 ?_
  cases hd
  exact pt_iret G hQ dX8_layHands_136
theorem X8_layHands_c {l : Launch} {D : va_G} {dA : Nat → ClassId} {b : Nat} {M : Wo} {a0 : Nat} {r : Int32} {M2 : Wo} (h : X8_layHands M a0 = some (r, M2)) : Met l yX8_layHands wsX8_layHands rX8_layHands (va_Pc [.ref a0] (Wd D dA b M)) (Ei D dA b r M2) 0 0 (Ab b) := met_i (by decide) rfl (Nat.le_of_ble_eq_true rfl) (fun X G hN hQ => X8_layHands_w G h hQ)
theorem X8_layHands_v {X : Cx} {y : MethodName} {cc : ByteArray} {Ts : List Cond} {nL : Nat} {ret : Option FieldType} {R : Room} (G : Gd X y cc Ts nL ret R) {index : Nat} (hg : GoodIn Ts (wsV y.cls index RX8 yX8_layHands wsX8_layHands)) (hR : rX8_layHands.frames + 1 ≤ R.frames ∧ 8 + (4 + 11) + rX8_layHands.locals ≤ R.locals) {k n pc : Nat} {M : Wo} {lv : List (Nat × Value)} {st : List Value} {a0 : Nat} {r : Int32} {M2 : Wo} (hv : X8_layHands M a0 = some (r, M2)) (hd : decode cc pc = .ok (.invokevirtual index, 3)) (h8 : (st.map fun v => v.category).sum ≤ 8) (hf : k ≤ R.cells ∧ n ≤ R.slots) (kk : Pt X k n (pc + 3) M2 lv (.int r :: st)) : Pt X k n pc M lv (.ref a0 :: st) := pt_cVi (ci := 8) (nA := 0) (As := []) G (X8_layHands_c hv) hg rfl rfl rfl (by decide +kernel) hR rfl (rcv hv) rfl rfl h8 hd hf kk
abbrev rX8_fits : Room := { frames := 2, cells := 0, slots := 0, locals := 44 }
theorem m_X8_fits_1 : Cond.fieldLink RX8 41 "StageLinesModel" "hand" "[I" ∈ wsX8_fits := List.mem_of_getElem? (i := 1) rfl
theorem u_X8_fits_X8 : ∀ w ∈ u_ws RX8 TX8 13, w ∈ wsX8_fits := mem_r [17, 18, 19, 20, 21, 22, 23, 24, 25, 26, 27, 28, 29] (by decide +kernel)
abbrev X8_fits_P2 (X : Cx) (M : Wo) (a0 : Nat) (x1 : Int32) : Int32 → Prop := un1 (fun x2 => Pt X 0 0 2 M [(0, .ref a0), (1, .int x1), (2, .int x2)] [])
abbrev X8_fits_Z2 (X : Cx) (M : Wo) (a0 : Nat) (x1 : Int32) : (Unit ⊕ Unit) → Prop := (sOf (fun (_ : Unit) => Pt X 0 0 31 M [] []) (fun (_ : Unit) => Pt X 0 0 39 M [] []))
def X8_fits_b2 (M : Wo) (a0 : Nat) (x1 : Int32) (x2 : Int32) : Option (Int32 ⊕ (Unit ⊕ Unit)) :=
  if x1 ≤ x2 then (some (.inr (.inr ()))) else ((gR M a0 8 12).bind fun w1 => (lA M 0 w1 x2).bind fun v3 => (gR M a0 8 12).bind fun w5 => (lA M 0 w5 x1).bind fun v7 => if v3 = v7 then ((X8_canDoBoth M a0 x1 x2).bind fun v10 => if v10 = 0 then (some (.inr (.inl ()))) else (some (.inl (x2 + 1)))) else (some (.inl (x2 + 1))))
theorem X8_fits_b2_w {X : Cx} (G : Gd X yX8_fits cX8_fits wsX8_fits 3 (some .boolean) rX8_fits) {M : Wo} {a0 : Nat} {x1 : Int32} {x2 : Int32} {o : (Int32 ⊕ (Unit ⊕ Unit))} (hd : X8_fits_b2 M a0 x1 x2 = some o) (hc : ∀ s9, o = .inl s9 → X8_fits_P2 X M a0 x1 s9) (he : ∀ e9, o = .inr e9 → X8_fits_Z2 X M a0 x1 e9) : Pt X 0 0 2 M [(0, .ref a0), (1, .int x1), (2, .int x2)] [] := by
  unfold X8_fits_b2 at hd
  refine pt_iload_n G 2 dX8_fits_2 rfl rfl ?_
  refine pt_iload_n G 1 dX8_fits_3 rfl rfl ?_
  refine pt_icmp_ge G 39 dX8_fits_4 (by decide) (fun c13 => ?_) (fun c13 => ?_)
  · replace hd := ifp c13 hd
    exact pt_sub [] rfl (he (.inr ()) (Option.some.inj hd).symm)
  · replace hd := ifn c13 hd
    refine pt_aload_n G 0 dX8_fits_7 rfl rfl ?_
    obtain ⟨w1, h2, hd⟩ := bnd hd
    refine pt_get G (ci := 8) (j := 12) rfl (by decide) u_X8_fits_X8 m_X8_fits_1 (gR_o h2) dX8_fits_8 ?_
    refine pt_iload_n G 2 dX8_fits_11 rfl rfl ?_
    obtain ⟨v3, h4, hd⟩ := bnd hd
    refine pt_iald G h4 dX8_fits_12 ?_
    refine pt_aload_n G 0 dX8_fits_13 rfl rfl ?_
    obtain ⟨w5, h6, hd⟩ := bnd hd
    refine pt_get G (ci := 8) (j := 12) rfl (by decide) u_X8_fits_X8 m_X8_fits_1 (gR_o h6) dX8_fits_14 ?_
    refine pt_iload_n G 1 dX8_fits_17 rfl rfl ?_
    obtain ⟨v7, h8, hd⟩ := bnd hd
    refine pt_iald G h8 dX8_fits_18 ?_
    refine pt_icmp_ne G 33 dX8_fits_19 (by decide) (fun c12 => ?_) (fun c12 => ?_)
    · replace hd := ifn c12 hd
      refine pt_iinc G 2 (x2 + 1) [(2, .int (x2 + 1)), (0, .ref a0), (1, .int x1)] dX8_fits_33 rfl (inc_1 _) (by decide) rfl ?_
      refine pt_goto G 2 dX8_fits_36 (by decide) ?_
      exact pt_sub [1, 2, 0] rfl (hc (x2 + 1) (Option.some.inj hd).symm)
    · replace hd := ifp c12 hd
      refine pt_aload_n G 0 dX8_fits_22 rfl rfl ?_
      refine pt_iload_n G 1 dX8_fits_23 rfl rfl ?_
      refine pt_iload_n G 2 dX8_fits_24 rfl rfl ?_
      obtain ⟨v10, h9, hd⟩ := bnd hd
      refine X8_canDoBoth_v G gX8_fits_X8_canDoBoth ⟨(Nat.le_of_ble_eq_true rfl), (Nat.le_of_ble_eq_true rfl)⟩ h9 dX8_fits_25 (Nat.le_of_ble_eq_true rfl) ⟨(Nat.le_of_ble_eq_true rfl), (Nat.le_of_ble_eq_true rfl)⟩ ?_
      refine pt_if_ne G 33 dX8_fits_28 (by decide) (fun c11 => ?_) (fun c11 => ?_)
      · replace hd := ifn c11 hd
        refine pt_iinc G 2 (x2 + 1) [(2, .int (x2 + 1)), (0, .ref a0), (1, .int x1)] dX8_fits_33 rfl (inc_1 _) (by decide) rfl ?_
        refine pt_goto G 2 dX8_fits_36 (by decide) ?_
        exact pt_sub [1, 2, 0] rfl (hc (x2 + 1) (Option.some.inj hd).symm)
      · replace hd := ifp c11 hd
        exact pt_sub [] rfl (he (.inl ()) (Option.some.inj hd).symm)
theorem X8_fits_w2_w {X : Cx} (G : Gd X yX8_fits cX8_fits wsX8_fits 3 (some .boolean) rX8_fits) {M : Wo} {a0 : Nat} {x1 : Int32} (n9 : Nat) (s9 : Int32) (e9 : (Unit ⊕ Unit)) (hw : wloop (un1 (X8_fits_b2 M a0 x1)) n9 s9 = some e9) (hz : X8_fits_Z2 X M a0 x1 e9) : X8_fits_P2 X M a0 x1 s9 := by
  refine wl_ind (P := X8_fits_P2 X M a0 x1) (Z := X8_fits_Z2 X M a0 x1) ?_ n9 s9 e9 hw hz
  intro s9 o9 hd hc he
  exact X8_fits_b2_w G hd hc he
def X8_fits (M : Wo) (a0 : Nat) (x1 : Int32) : Option Int32 :=
  (ckO M a0 8).bind fun _ => (wloop (un1 (X8_fits_b2 M a0 x1)) FU (0 : Int32)).bind (sOf (fun _ => some (0 : Int32)) (fun _ => some (1 : Int32)))
theorem X8_fits_w {X : Cx} (G : Gd X yX8_fits cX8_fits wsX8_fits 3 (some .boolean) rX8_fits) {M : Wo} {a0 : Nat} {x1 : Int32} {o : Int32} (hd : X8_fits M a0 x1 = some o) (hQ : Qi X o M 0 0) : Pt X 0 0 0 M [(0, .ref a0), (1, .int x1)] [] := by
  unfold X8_fits at hd
  obtain ⟨_, _, hd⟩ := bnd hd
  refine pt_iconst G (0 : Int32) dX8_fits_0 ci_0 ?_
  refine pt_istore_n G [(2, .int (0 : Int32)), (0, .ref a0), (1, .int x1)] dX8_fits_1 rfl (by decide) rfl ?_
  obtain ⟨e15, hw14, hd⟩ := bnd hd
  rcases e15 with _ | _
  · replace hd := sO_1 hd
    refine pt_sub [1, 2, 0] rfl (X8_fits_w2_w G _ _ _ hw14 ?_)
    show Pt X 0 0 _ _ _ []
    refine pt_iconst G (0 : Int32) dX8_fits_31 ci_0 ?_
    cases hd
    exact pt_zret G (by decide) hQ dX8_fits_32
  · replace hd := sO_2 hd
    refine pt_sub [1, 2, 0] rfl (X8_fits_w2_w G _ _ _ hw14 ?_)
    show Pt X 0 0 _ _ _ []
    refine pt_iconst G (1 : Int32) dX8_fits_39 ci_1 ?_
    cases hd
    exact pt_zret G (by decide) hQ dX8_fits_40
theorem X8_fits_c {l : Launch} {D : va_G} {dA : Nat → ClassId} {b : Nat} {M : Wo} {a0 : Nat} {x1 : Int32} {r : Int32} (h : X8_fits M a0 x1 = some r) : Met l yX8_fits wsX8_fits rX8_fits (va_Pc [.ref a0, .int x1] (Wd D dA b M)) (Ei D dA b r M) 0 0 (Ab b) := met_i (by decide) rfl (Nat.le_of_ble_eq_true rfl) (fun X G hN hQ => X8_fits_w G h hQ)
theorem X8_fits_v {X : Cx} {y : MethodName} {cc : ByteArray} {Ts : List Cond} {nL : Nat} {ret : Option FieldType} {R : Room} (G : Gd X y cc Ts nL ret R) {index : Nat} (hg : GoodIn Ts (wsV y.cls index RX8 yX8_fits wsX8_fits)) (hR : rX8_fits.frames + 1 ≤ R.frames ∧ 8 + (3 + 11) + rX8_fits.locals ≤ R.locals) {k n pc : Nat} {M : Wo} {lv : List (Nat × Value)} {st : List Value} {a0 : Nat} {x1 : Int32} {r : Int32} (hv : X8_fits M a0 x1 = some r) (hd : decode cc pc = .ok (.invokevirtual index, 3)) (h8 : (st.map fun v => v.category).sum ≤ 8) (hf : k ≤ R.cells ∧ n ≤ R.slots) (kk : Pt X k n (pc + 3) M lv (.int r :: st)) : Pt X k n pc M lv (.int x1 :: .ref a0 :: st) := pt_cVi (ci := 8) (nA := 1) (As := [.int x1]) G (X8_fits_c hv) hg rfl rfl rfl (by decide +kernel) hR rfl (rcv hv) rfl rfl h8 hd hf kk
abbrev rX8_layCrew : Room := { frames := 5, cells := 0, slots := 0, locals := 118 }
theorem m_X8_layCrew_2 : Cond.fieldLink RX8 41 "StageLinesModel" "hand" "[I" ∈ wsX8_layCrew := List.mem_of_getElem? (i := 2) rfl
theorem u_X8_layCrew_X8 : ∀ w ∈ u_ws RX8 TX8 13, w ∈ wsX8_layCrew := mem_r [72, 73, 74, 75, 76, 77, 78, 79, 80, 81, 82, 83, 84] (by decide +kernel)
theorem m_X8_layCrew_1 : Cond.fieldLink RX8 121 "StageLinesModel" "ables" "I" ∈ wsX8_layCrew := List.mem_of_getElem? (i := 1) rfl
abbrev X8_layCrew_P7 (X : Cx) (a0 : Nat) (x1 : Int32) : (Wo × Int32) → Prop := un2 (fun M x2 => Pt X 0 0 7 M [(0, .ref a0), (1, .int x1), (2, .int x2)] [])
abbrev X8_layCrew_Z7 (X : Cx) (a0 : Nat) (x1 : Int32) : Wo → Prop := (un1 (fun M => Pt X 0 0 28 M [(0, .ref a0), (1, .int x1)] []))
def X8_layCrew_b7 (a0 : Nat) (x1 : Int32) (M : Wo) (x2 : Int32) : Option ((Wo × Int32) ⊕ Wo) :=
  (gI M a0 8 9).bind fun v4 => if v4 ≤ x2 then (some (.inr M)) else ((gR M a0 8 12).bind fun w6 => (sA M w6 x2 (-1 : Int32)).bind fun M8 => some (.inl (M8, (x2 + 1))))
theorem X8_layCrew_b7_w {X : Cx} (G : Gd X yX8_layCrew cX8_layCrew wsX8_layCrew 3 none rX8_layCrew) {a0 : Nat} {x1 : Int32} {M : Wo} {x2 : Int32} {o : ((Wo × Int32) ⊕ Wo)} (hd : X8_layCrew_b7 a0 x1 M x2 = some o) (hc : ∀ s9, o = .inl s9 → X8_layCrew_P7 X a0 x1 s9) (he : ∀ e9, o = .inr e9 → X8_layCrew_Z7 X a0 x1 e9) : Pt X 0 0 7 M [(0, .ref a0), (1, .int x1), (2, .int x2)] [] := by
  unfold X8_layCrew_b7 at hd
  refine pt_iload_n G 2 dX8_layCrew_7 rfl rfl ?_
  refine pt_aload_n G 0 dX8_layCrew_8 rfl rfl ?_
  obtain ⟨v4, h5, hd⟩ := bnd hd
  refine pt_get G (ci := 8) (j := 9) rfl (by decide) u_X8_layCrew_X8 m_X8_layCrew_1 (gI_o h5) dX8_layCrew_9 ?_
  refine pt_icmp_ge G 28 dX8_layCrew_12 (by decide) (fun c10 => ?_) (fun c10 => ?_)
  · replace hd := ifp c10 hd
    exact pt_sub [0, 1] rfl (he M (Option.some.inj hd).symm)
  · replace hd := ifn c10 hd
    refine pt_aload_n G 0 dX8_layCrew_15 rfl rfl ?_
    obtain ⟨w6, h7, hd⟩ := bnd hd
    refine pt_get G (ci := 8) (j := 12) rfl (by decide) u_X8_layCrew_X8 m_X8_layCrew_2 (gR_o h7) dX8_layCrew_16 ?_
    refine pt_iload_n G 2 dX8_layCrew_19 rfl rfl ?_
    refine pt_iconst G (-1 : Int32) dX8_layCrew_20 ci_m1 ?_
    obtain ⟨M8, h9, hd⟩ := bnd hd
    refine pt_iast G h9 dX8_layCrew_21 ?_
    refine pt_iinc G 2 (x2 + 1) [(2, .int (x2 + 1)), (0, .ref a0), (1, .int x1)] dX8_layCrew_22 rfl (inc_1 _) (by decide) rfl ?_
    refine pt_goto G 7 dX8_layCrew_25 (by decide) ?_
    exact pt_sub [1, 2, 0] rfl (hc (M8, (x2 + 1)) (Option.some.inj hd).symm)
theorem X8_layCrew_w7_w {X : Cx} (G : Gd X yX8_layCrew cX8_layCrew wsX8_layCrew 3 none rX8_layCrew) {a0 : Nat} {x1 : Int32} (n9 : Nat) (s9 : (Wo × Int32)) (e9 : Wo) (hw : wloop (un2 (X8_layCrew_b7 a0 x1)) n9 s9 = some e9) (hz : X8_layCrew_Z7 X a0 x1 e9) : X8_layCrew_P7 X a0 x1 s9 := by
  refine wl_ind (P := X8_layCrew_P7 X a0 x1) (Z := X8_layCrew_Z7 X a0 x1) ?_ n9 s9 e9 hw hz
  intro s9 o9 hd hc he
  obtain ⟨M, x2⟩ := s9
  exact X8_layCrew_b7_w G hd hc he
abbrev X8_layCrew_P30 (X : Cx) (a0 : Nat) (x1 : Int32) : (Wo × Int32) → Prop := un2 (fun M x2 => Pt X 0 0 30 M [(0, .ref a0), (1, .int x1), (2, .int x2)] [])
abbrev X8_layCrew_Z30 (X : Cx) (a0 : Nat) (x1 : Int32) : Wo → Prop := (un1 (fun M => Pt X 0 0 112 M [] []))
abbrev X8_layCrew_P52 (X : Cx) (a0 : Nat) (x1 : Int32) (x2 : Int32) : Wo → Prop := un1 (fun M => Pt X 0 0 52 M [(0, .ref a0), (1, .int x1), (2, .int x2)] [])
abbrev X8_layCrew_Z52 (X : Cx) (a0 : Nat) (x1 : Int32) (x2 : Int32) : Wo → Prop := (un1 (fun M => Pt X 0 0 83 M [(0, .ref a0), (1, .int x1), (2, .int x2)] []))
def X8_layCrew_b52 (a0 : Nat) (x1 : Int32) (x2 : Int32) (M : Wo) : Option (Wo ⊕ Wo) :=
  (gR M a0 8 12).bind fun w20 => (lA M 0 w20 x2).bind fun v22 => if x1 ≤ v22 then (some (.inr M)) else ((X8_fits M a0 x2).bind fun v25 => if v25 = 0 then ((gR M a0 8 12).bind fun w26 => (lA M 0 w26 x2).bind fun v28 => (sA M w26 x2 (v28 + (1 : Int32))).bind fun M30 => some (.inl M30)) else (some (.inr M)))
theorem X8_layCrew_b52_w {X : Cx} (G : Gd X yX8_layCrew cX8_layCrew wsX8_layCrew 3 none rX8_layCrew) {a0 : Nat} {x1 : Int32} {x2 : Int32} {M : Wo} {o : (Wo ⊕ Wo)} (hd : X8_layCrew_b52 a0 x1 x2 M = some o) (hc : ∀ s9, o = .inl s9 → X8_layCrew_P52 X a0 x1 x2 s9) (he : ∀ e9, o = .inr e9 → X8_layCrew_Z52 X a0 x1 x2 e9) : Pt X 0 0 52 M [(0, .ref a0), (1, .int x1), (2, .int x2)] [] := by
  unfold X8_layCrew_b52 at hd
  refine pt_aload_n G 0 dX8_layCrew_52 rfl rfl ?_
  obtain ⟨w20, h21, hd⟩ := bnd hd
  refine pt_get G (ci := 8) (j := 12) rfl (by decide) u_X8_layCrew_X8 m_X8_layCrew_2 (gR_o h21) dX8_layCrew_53 ?_
  refine pt_iload_n G 2 dX8_layCrew_56 rfl rfl ?_
  obtain ⟨v22, h23, hd⟩ := bnd hd
  refine pt_iald G h23 dX8_layCrew_57 ?_
  refine pt_iload_n G 1 dX8_layCrew_58 rfl rfl ?_
  refine pt_icmp_ge G 83 dX8_layCrew_59 (by decide) (fun c33 => ?_) (fun c33 => ?_)
  · replace hd := ifp c33 hd
    exact pt_sub [0, 1, 2] rfl (he M (Option.some.inj hd).symm)
  · replace hd := ifn c33 hd
    refine pt_aload_n G 0 dX8_layCrew_62 rfl rfl ?_
    refine pt_iload_n G 2 dX8_layCrew_63 rfl rfl ?_
    obtain ⟨v25, h24, hd⟩ := bnd hd
    refine X8_fits_v G gX8_layCrew_X8_fits ⟨(Nat.le_of_ble_eq_true rfl), (Nat.le_of_ble_eq_true rfl)⟩ h24 dX8_layCrew_64 (Nat.le_of_ble_eq_true rfl) ⟨(Nat.le_of_ble_eq_true rfl), (Nat.le_of_ble_eq_true rfl)⟩ ?_
    refine pt_if_ne G 83 dX8_layCrew_67 (by decide) (fun c32 => ?_) (fun c32 => ?_)
    · replace hd := ifn c32 hd
      exact pt_sub [0, 1, 2] rfl (he M (Option.some.inj hd).symm)
    · replace hd := ifp c32 hd
      refine pt_aload_n G 0 dX8_layCrew_70 rfl rfl ?_
      obtain ⟨w26, h27, hd⟩ := bnd hd
      refine pt_get G (ci := 8) (j := 12) rfl (by decide) u_X8_layCrew_X8 m_X8_layCrew_2 (gR_o h27) dX8_layCrew_71 ?_
      refine pt_iload_n G 2 dX8_layCrew_74 rfl rfl ?_
      refine pt_dup2 G dX8_layCrew_75 rfl rfl ?_
      obtain ⟨v28, h29, hd⟩ := bnd hd
      refine pt_iald G h29 dX8_layCrew_76 ?_
      refine pt_iconst G (1 : Int32) dX8_layCrew_77 ci_1 ?_
      refine pt_iadd G dX8_layCrew_78 ?_
      obtain ⟨M30, h31, hd⟩ := bnd hd
      refine pt_iast G h31 dX8_layCrew_79 ?_
      refine pt_goto G 52 dX8_layCrew_80 (by decide) ?_
      exact pt_sub [0, 1, 2] rfl (hc M30 (Option.some.inj hd).symm)
theorem X8_layCrew_w52_w {X : Cx} (G : Gd X yX8_layCrew cX8_layCrew wsX8_layCrew 3 none rX8_layCrew) {a0 : Nat} {x1 : Int32} {x2 : Int32} (n9 : Nat) (s9 : Wo) (e9 : Wo) (hw : wloop (un1 (X8_layCrew_b52 a0 x1 x2)) n9 s9 = some e9) (hz : X8_layCrew_Z52 X a0 x1 x2 e9) : X8_layCrew_P52 X a0 x1 x2 s9 := by
  refine wl_ind (P := X8_layCrew_P52 X a0 x1 x2) (Z := X8_layCrew_Z52 X a0 x1 x2) ?_ n9 s9 e9 hw hz
  intro s9 o9 hd hc he
  exact X8_layCrew_b52_w G hd hc he
def X8_layCrew_L83 (M : Wo) (a0 : Nat) (x1 : Int32) (x2 : Int32) : Option ((Wo × Int32) ⊕ Wo) :=
  (gR M a0 8 12).bind fun w35 => (lA M 0 w35 x2).bind fun v37 => if x1 ≤ v37 then ((gR M a0 8 12).bind fun w39 => (sA M w39 x2 (-1 : Int32)).bind fun M41 => some (.inl (M41, (x2 + (-1 : Int32))))) else (some (.inl (M, (x2 + 1))))
theorem X8_layCrew_L83_w {X : Cx} (G : Gd X yX8_layCrew cX8_layCrew wsX8_layCrew 3 none rX8_layCrew) {M : Wo} {a0 : Nat} {x1 : Int32} {x2 : Int32} {o : ((Wo × Int32) ⊕ Wo)} (hd : X8_layCrew_L83 M a0 x1 x2 = some o) (hc : ∀ s9, o = .inl s9 → X8_layCrew_P30 X a0 x1 s9) (he : ∀ e9, o = .inr e9 → X8_layCrew_Z30 X a0 x1 e9) : Pt X 0 0 83 M [(0, .ref a0), (1, .int x1), (2, .int x2)] [] := by
  unfold X8_layCrew_L83 at hd
  refine pt_aload_n G 0 dX8_layCrew_83 rfl rfl ?_
  obtain ⟨w35, h36, hd⟩ := bnd hd
  refine pt_get G (ci := 8) (j := 12) rfl (by decide) u_X8_layCrew_X8 m_X8_layCrew_2 (gR_o h36) dX8_layCrew_84 ?_
  refine pt_iload_n G 2 dX8_layCrew_87 rfl rfl ?_
  obtain ⟨v37, h38, hd⟩ := bnd hd
  refine pt_iald G h38 dX8_layCrew_88 ?_
  refine pt_iload_n G 1 dX8_layCrew_89 rfl rfl ?_
  refine pt_icmp_ge G 99 dX8_layCrew_90 (by decide) (fun c43 => ?_) (fun c43 => ?_)
  · replace hd := ifp c43 hd
    refine pt_aload_n G 0 dX8_layCrew_99 rfl rfl ?_
    obtain ⟨w39, h40, hd⟩ := bnd hd
    refine pt_get G (ci := 8) (j := 12) rfl (by decide) u_X8_layCrew_X8 m_X8_layCrew_2 (gR_o h40) dX8_layCrew_100 ?_
    refine pt_iload_n G 2 dX8_layCrew_103 rfl rfl ?_
    refine pt_iconst G (-1 : Int32) dX8_layCrew_104 ci_m1 ?_
    obtain ⟨M41, h42, hd⟩ := bnd hd
    refine pt_iast G h42 dX8_layCrew_105 ?_
    refine pt_iinc G 2 (x2 + (-1 : Int32)) [(2, .int (x2 + (-1 : Int32))), (0, .ref a0), (1, .int x1)] dX8_layCrew_106 rfl (inc_m1 _) (by decide) rfl ?_
    refine pt_goto G 30 dX8_layCrew_109 (by decide) ?_
    exact pt_sub [1, 2, 0] rfl (hc (M41, (x2 + (-1 : Int32))) (Option.some.inj hd).symm)
  · replace hd := ifn c43 hd
    refine pt_iinc G 2 (x2 + 1) [(2, .int (x2 + 1)), (0, .ref a0), (1, .int x1)] dX8_layCrew_93 rfl (inc_1 _) (by decide) rfl ?_
    refine pt_goto G 30 dX8_layCrew_96 (by decide) ?_
    exact pt_sub [1, 2, 0] rfl (hc (M, (x2 + 1)) (Option.some.inj hd).symm)
def X8_layCrew_b30 (a0 : Nat) (x1 : Int32) (M : Wo) (x2 : Int32) : Option ((Wo × Int32) ⊕ Wo) :=
  (gI M a0 8 9).bind fun v12 => if v12 ≤ x2 then (some (.inr M)) else (if x2 < 0 then (some (.inr M)) else ((gR M a0 8 12).bind fun w14 => (lA M 0 w14 x2).bind fun v16 => (sA M w14 x2 (v16 + (1 : Int32))).bind fun M18 => (wloop (un1 (X8_layCrew_b52 a0 x1 x2)) FU M18).bind fun M34 => X8_layCrew_L83 M34 a0 x1 x2))
theorem X8_layCrew_b30_w {X : Cx} (G : Gd X yX8_layCrew cX8_layCrew wsX8_layCrew 3 none rX8_layCrew) {a0 : Nat} {x1 : Int32} {M : Wo} {x2 : Int32} {o : ((Wo × Int32) ⊕ Wo)} (hd : X8_layCrew_b30 a0 x1 M x2 = some o) (hc : ∀ s9, o = .inl s9 → X8_layCrew_P30 X a0 x1 s9) (he : ∀ e9, o = .inr e9 → X8_layCrew_Z30 X a0 x1 e9) : Pt X 0 0 30 M [(0, .ref a0), (1, .int x1), (2, .int x2)] [] := by
  unfold X8_layCrew_b30 at hd
  refine pt_iload_n G 2 dX8_layCrew_30 rfl rfl ?_
  refine pt_aload_n G 0 dX8_layCrew_31 rfl rfl ?_
  obtain ⟨v12, h13, hd⟩ := bnd hd
  refine pt_get G (ci := 8) (j := 9) rfl (by decide) u_X8_layCrew_X8 m_X8_layCrew_1 (gI_o h13) dX8_layCrew_32 ?_
  refine pt_icmp_ge G 112 dX8_layCrew_35 (by decide) (fun c46 => ?_) (fun c46 => ?_)
  · replace hd := ifp c46 hd
    exact pt_sub [] rfl (he M (Option.some.inj hd).symm)
  · replace hd := ifn c46 hd
    refine pt_iload_n G 2 dX8_layCrew_38 rfl rfl ?_
    refine pt_if_lt G 112 dX8_layCrew_39 (by decide) (fun c45 => ?_) (fun c45 => ?_)
    · replace hd := ifp c45 hd
      exact pt_sub [] rfl (he M (Option.some.inj hd).symm)
    · replace hd := ifn c45 hd
      refine pt_aload_n G 0 dX8_layCrew_42 rfl rfl ?_
      obtain ⟨w14, h15, hd⟩ := bnd hd
      refine pt_get G (ci := 8) (j := 12) rfl (by decide) u_X8_layCrew_X8 m_X8_layCrew_2 (gR_o h15) dX8_layCrew_43 ?_
      refine pt_iload_n G 2 dX8_layCrew_46 rfl rfl ?_
      refine pt_dup2 G dX8_layCrew_47 rfl rfl ?_
      obtain ⟨v16, h17, hd⟩ := bnd hd
      refine pt_iald G h17 dX8_layCrew_48 ?_
      refine pt_iconst G (1 : Int32) dX8_layCrew_49 ci_1 ?_
      refine pt_iadd G dX8_layCrew_50 ?_
      obtain ⟨M18, h19, hd⟩ := bnd hd
      refine pt_iast G h19 dX8_layCrew_51 ?_
      obtain ⟨M34, hw44, hd⟩ := bnd hd
      refine pt_sub [0, 1, 2] rfl (X8_layCrew_w52_w G _ _ _ hw44 ?_)
      show Pt X 0 0 _ _ _ []
      exact pt_sub [0, 1, 2] rfl (X8_layCrew_L83_w G hd hc he)
theorem X8_layCrew_w30_w {X : Cx} (G : Gd X yX8_layCrew cX8_layCrew wsX8_layCrew 3 none rX8_layCrew) {a0 : Nat} {x1 : Int32} (n9 : Nat) (s9 : (Wo × Int32)) (e9 : Wo) (hw : wloop (un2 (X8_layCrew_b30 a0 x1)) n9 s9 = some e9) (hz : X8_layCrew_Z30 X a0 x1 e9) : X8_layCrew_P30 X a0 x1 s9 := by
  refine wl_ind (P := X8_layCrew_P30 X a0 x1) (Z := X8_layCrew_Z30 X a0 x1) ?_ n9 s9 e9 hw hz
  intro s9 o9 hd hc he
  obtain ⟨M, x2⟩ := s9
  exact X8_layCrew_b30_w G hd hc he
def X8_layCrew (M : Wo) (a0 : Nat) : Option Wo :=
  (ckO M a0 8).bind fun _ => (X8_layHands M a0).bind (un2 fun v2 M3 => (wloop (un2 (X8_layCrew_b7 a0 v2)) FU (M3, (0 : Int32))).bind fun M11 => (wloop (un2 (X8_layCrew_b30 a0 v2)) FU (M11, (0 : Int32))).bind fun M47 => some M47)
theorem X8_layCrew_w {X : Cx} (G : Gd X yX8_layCrew cX8_layCrew wsX8_layCrew 3 none rX8_layCrew) {M : Wo} {a0 : Nat} {o : Wo} (hd : X8_layCrew M a0 = some o) (hQ : Qv X o 0 0) : Pt X 0 0 0 M [(0, .ref a0)] [] := by
  unfold X8_layCrew at hd
  obtain ⟨_, _, hd⟩ := bnd hd
  refine pt_aload_n G 0 dX8_layCrew_0 rfl rfl ?_
  obtain ⟨⟨v2, M3⟩, h1, hd⟩ := bnd hd
  replace hd := un2_e hd
  refine X8_layHands_v G gX8_layCrew_X8_layHands ⟨(Nat.le_of_ble_eq_true rfl), (Nat.le_of_ble_eq_true rfl)⟩ h1 dX8_layCrew_1 (Nat.le_of_ble_eq_true rfl) ⟨(Nat.le_of_ble_eq_true rfl), (Nat.le_of_ble_eq_true rfl)⟩ ?_
  refine pt_istore_n G [(1, .int v2), (0, .ref a0)] dX8_layCrew_4 rfl (by decide) rfl ?_
  refine pt_iconst G (0 : Int32) dX8_layCrew_5 ci_0 ?_
  refine pt_istore_n G [(2, .int (0 : Int32)), (1, .int v2), (0, .ref a0)] dX8_layCrew_6 rfl (by decide) rfl ?_
  obtain ⟨M11, hw49, hd⟩ := bnd hd
  refine pt_sub [2, 1, 0] rfl (X8_layCrew_w7_w G _ _ _ hw49 ?_)
  show Pt X 0 0 _ _ _ []
  refine pt_iconst G (0 : Int32) dX8_layCrew_28 ci_0 ?_
  refine pt_istore_n G [(2, .int (0 : Int32)), (0, .ref a0), (1, .int v2)] dX8_layCrew_29 rfl (by decide) rfl ?_
  obtain ⟨M47, hw48, hd⟩ := bnd hd
  refine pt_sub [1, 2, 0] rfl (X8_layCrew_w30_w G _ _ _ hw48 ?_)
  show Pt X 0 0 _ _ _ []
  cases hd
  exact pt_vret G hQ dX8_layCrew_112
theorem X8_layCrew_c {l : Launch} {D : va_G} {dA : Nat → ClassId} {b : Nat} {M : Wo} {a0 : Nat} {M2 : Wo} (h : X8_layCrew M a0 = some M2) : Met l yX8_layCrew wsX8_layCrew rX8_layCrew (va_Pc [.ref a0] (Wd D dA b M)) (Ev D dA b M2) 0 0 (Ab b) := met_v (by decide) rfl (Nat.le_of_ble_eq_true rfl) (fun X G hN hQ => X8_layCrew_w G h hQ)
theorem X8_layCrew_v {X : Cx} {y : MethodName} {cc : ByteArray} {Ts : List Cond} {nL : Nat} {ret : Option FieldType} {R : Room} (G : Gd X y cc Ts nL ret R) {index : Nat} (hg : GoodIn Ts (wsV y.cls index RX8 yX8_layCrew wsX8_layCrew)) (hR : rX8_layCrew.frames + 1 ≤ R.frames ∧ 8 + (3 + 11) + rX8_layCrew.locals ≤ R.locals) {k n pc : Nat} {M : Wo} {lv : List (Nat × Value)} {st : List Value} {a0 : Nat} {M2 : Wo} (hv : X8_layCrew M a0 = some M2) (hd : decode cc pc = .ok (.invokevirtual index, 3)) (h8 : (st.map fun v => v.category).sum ≤ 8) (hf : k ≤ R.cells ∧ n ≤ R.slots) (kk : Pt X k n (pc + 3) M2 lv st) : Pt X k n pc M lv (.ref a0 :: st) := pt_cVv (ci := 8) (nA := 0) (As := []) G (X8_layCrew_c hv) hg rfl rfl rfl (by decide +kernel) hR rfl (rcv hv) rfl rfl h8 hd hf kk
abbrev rX8_handOf : Room := { frames := 6, cells := 0, slots := 0, locals := 140 }
theorem m_X8_handOf_3 : Cond.fieldLink RX8 41 "StageLinesModel" "hand" "[I" ∈ wsX8_handOf := List.mem_of_getElem? (i := 3) rfl
theorem u_X8_handOf_X8 : ∀ w ∈ u_ws RX8 TX8 13, w ∈ wsX8_handOf := mem_r [76, 77, 78, 79, 80, 81, 82, 83, 84, 85, 86, 87, 88] (by decide +kernel)
theorem m_X8_handOf_2 : Cond.fieldLink RX8 29 "StageLinesModel" "able" "[I" ∈ wsX8_handOf := List.mem_of_getElem? (i := 2) rfl
theorem m_X8_handOf_1 : Cond.fieldLink RX8 121 "StageLinesModel" "ables" "I" ∈ wsX8_handOf := List.mem_of_getElem? (i := 1) rfl
abbrev X8_handOf_P9 (X : Cx) (M : Wo) (a0 : Nat) (x1 : Int32) : (Int32 × Int32) → Prop := un2 (fun x2 x3 => Pt X 0 0 9 M [(0, .ref a0), (1, .int x1), (2, .int x2), (3, .int x3)] [])
abbrev X8_handOf_Z9 (X : Cx) (M : Wo) (a0 : Nat) (x1 : Int32) : Int32 → Prop := (un1 (fun x2 => Pt X 0 0 44 M [(2, .int x2)] []))
def X8_handOf_b9 (M : Wo) (a0 : Nat) (x1 : Int32) (x2 : Int32) (x3 : Int32) : Option ((Int32 × Int32) ⊕ Int32) :=
  (gI M a0 8 9).bind fun v3 => if v3 ≤ x3 then (some (.inr x2)) else ((gR M a0 8 7).bind fun w5 => (lA M 0 w5 x3).bind fun v7 => if v7 = x1 then ((gR M a0 8 12).bind fun w9 => (lA M 0 w9 x3).bind fun v11 => some (.inl (v11, (x3 + 1)))) else (some (.inl (x2, (x3 + 1)))))
theorem X8_handOf_b9_w {X : Cx} (G : Gd X yX8_handOf cX8_handOf wsX8_handOf 4 (some .int) rX8_handOf) {M : Wo} {a0 : Nat} {x1 : Int32} {x2 : Int32} {x3 : Int32} {o : ((Int32 × Int32) ⊕ Int32)} (hd : X8_handOf_b9 M a0 x1 x2 x3 = some o) (hc : ∀ s9, o = .inl s9 → X8_handOf_P9 X M a0 x1 s9) (he : ∀ e9, o = .inr e9 → X8_handOf_Z9 X M a0 x1 e9) : Pt X 0 0 9 M [(0, .ref a0), (1, .int x1), (2, .int x2), (3, .int x3)] [] := by
  unfold X8_handOf_b9 at hd
  refine pt_iload_n G 3 dX8_handOf_9 rfl rfl ?_
  refine pt_aload_n G 0 dX8_handOf_10 rfl rfl ?_
  obtain ⟨v3, h4, hd⟩ := bnd hd
  refine pt_get G (ci := 8) (j := 9) rfl (by decide) u_X8_handOf_X8 m_X8_handOf_1 (gI_o h4) dX8_handOf_11 ?_
  refine pt_icmp_ge G 44 dX8_handOf_14 (by decide) (fun c14 => ?_) (fun c14 => ?_)
  · replace hd := ifp c14 hd
    exact pt_sub [2] rfl (he x2 (Option.some.inj hd).symm)
  · replace hd := ifn c14 hd
    refine pt_aload_n G 0 dX8_handOf_17 rfl rfl ?_
    obtain ⟨w5, h6, hd⟩ := bnd hd
    refine pt_get G (ci := 8) (j := 7) rfl (by decide) u_X8_handOf_X8 m_X8_handOf_2 (gR_o h6) dX8_handOf_18 ?_
    refine pt_iload_n G 3 dX8_handOf_21 rfl rfl ?_
    obtain ⟨v7, h8, hd⟩ := bnd hd
    refine pt_iald G h8 dX8_handOf_22 ?_
    refine pt_iload_n G 1 dX8_handOf_23 rfl rfl ?_
    refine pt_icmp_ne G 36 dX8_handOf_24 (by decide) (fun c13 => ?_) (fun c13 => ?_)
    · replace hd := ifn c13 hd
      refine pt_iload_n G 2 dX8_handOf_36 rfl rfl ?_
      refine pt_istore_n G [(2, .int x2), (0, .ref a0), (1, .int x1), (3, .int x3)] dX8_handOf_37 rfl (by decide) rfl ?_
      refine pt_iinc G 3 (x3 + 1) [(3, .int (x3 + 1)), (2, .int x2), (0, .ref a0), (1, .int x1)] dX8_handOf_38 rfl (inc_1 _) (by decide) rfl ?_
      refine pt_goto G 9 dX8_handOf_41 (by decide) ?_
      exact pt_sub [2, 3, 1, 0] rfl (hc (x2, (x3 + 1)) (Option.some.inj hd).symm)
    · replace hd := ifp c13 hd
      refine pt_aload_n G 0 dX8_handOf_27 rfl rfl ?_
      obtain ⟨w9, h10, hd⟩ := bnd hd
      refine pt_get G (ci := 8) (j := 12) rfl (by decide) u_X8_handOf_X8 m_X8_handOf_3 (gR_o h10) dX8_handOf_28 ?_
      refine pt_iload_n G 3 dX8_handOf_31 rfl rfl ?_
      obtain ⟨v11, h12, hd⟩ := bnd hd
      refine pt_iald G h12 dX8_handOf_32 ?_
      refine pt_goto G 37 dX8_handOf_33 (by decide) ?_
      refine pt_istore_n G [(2, .int v11), (0, .ref a0), (1, .int x1), (3, .int x3)] dX8_handOf_37 rfl (by decide) rfl ?_
      refine pt_iinc G 3 (x3 + 1) [(3, .int (x3 + 1)), (2, .int v11), (0, .ref a0), (1, .int x1)] dX8_handOf_38 rfl (inc_1 _) (by decide) rfl ?_
      refine pt_goto G 9 dX8_handOf_41 (by decide) ?_
      exact pt_sub [2, 3, 1, 0] rfl (hc (v11, (x3 + 1)) (Option.some.inj hd).symm)
theorem X8_handOf_w9_w {X : Cx} (G : Gd X yX8_handOf cX8_handOf wsX8_handOf 4 (some .int) rX8_handOf) {M : Wo} {a0 : Nat} {x1 : Int32} (n9 : Nat) (s9 : (Int32 × Int32)) (e9 : Int32) (hw : wloop (un2 (X8_handOf_b9 M a0 x1)) n9 s9 = some e9) (hz : X8_handOf_Z9 X M a0 x1 e9) : X8_handOf_P9 X M a0 x1 s9 := by
  refine wl_ind (P := X8_handOf_P9 X M a0 x1) (Z := X8_handOf_Z9 X M a0 x1) ?_ n9 s9 e9 hw hz
  intro s9 o9 hd hc he
  obtain ⟨x2, x3⟩ := s9
  exact X8_handOf_b9_w G hd hc he
def X8_handOf (M : Wo) (a0 : Nat) (x1 : Int32) : Option (Int32 × Wo) :=
  (ckO M a0 8).bind fun _ => (X8_layCrew M a0).bind fun M2 => (wloop (un2 (X8_handOf_b9 M2 a0 x1)) FU ((-6 : Int32), (0 : Int32))).bind fun v15 => some (v15, M2)
theorem X8_handOf_w {X : Cx} (G : Gd X yX8_handOf cX8_handOf wsX8_handOf 4 (some .int) rX8_handOf) {M : Wo} {a0 : Nat} {x1 : Int32} {o : (Int32 × Wo)} (hd : X8_handOf M a0 x1 = some o) (hQ : Qi X o.1 o.2 0 0) : Pt X 0 0 0 M [(0, .ref a0), (1, .int x1)] [] := by
  unfold X8_handOf at hd
  obtain ⟨_, _, hd⟩ := bnd hd
  refine pt_aload_n G 0 dX8_handOf_0 rfl rfl ?_
  obtain ⟨M2, h1, hd⟩ := bnd hd
  refine X8_layCrew_v G gX8_handOf_X8_layCrew ⟨(Nat.le_of_ble_eq_true rfl), (Nat.le_of_ble_eq_true rfl)⟩ h1 dX8_handOf_1 (Nat.le_of_ble_eq_true rfl) ⟨(Nat.le_of_ble_eq_true rfl), (Nat.le_of_ble_eq_true rfl)⟩ ?_
  refine pt_bipush G (-6 : Int32) dX8_handOf_4 bi_m6 ?_
  refine pt_istore_n G [(2, .int (-6 : Int32)), (0, .ref a0), (1, .int x1)] dX8_handOf_6 rfl (by decide) rfl ?_
  refine pt_iconst G (0 : Int32) dX8_handOf_7 ci_0 ?_
  refine pt_istore_n G [(3, .int (0 : Int32)), (2, .int (-6 : Int32)), (0, .ref a0), (1, .int x1)] dX8_handOf_8 rfl (by decide) rfl ?_
  obtain ⟨v15, hw16, hd⟩ := bnd hd
  refine pt_sub [2, 3, 1, 0] rfl (X8_handOf_w9_w G _ _ _ hw16 ?_)
  show Pt X 0 0 _ _ _ []
  refine pt_iload_n G 0 dX8_handOf_44 rfl rfl ?_
  cases hd
  exact pt_iret G hQ dX8_handOf_45
theorem X8_handOf_c {l : Launch} {D : va_G} {dA : Nat → ClassId} {b : Nat} {M : Wo} {a0 : Nat} {x1 : Int32} {r : Int32} {M2 : Wo} (h : X8_handOf M a0 x1 = some (r, M2)) : Met l yX8_handOf wsX8_handOf rX8_handOf (va_Pc [.ref a0, .int x1] (Wd D dA b M)) (Ei D dA b r M2) 0 0 (Ab b) := met_i (by decide) rfl (Nat.le_of_ble_eq_true rfl) (fun X G hN hQ => X8_handOf_w G h hQ)
theorem X8_handOf_v {X : Cx} {y : MethodName} {cc : ByteArray} {Ts : List Cond} {nL : Nat} {ret : Option FieldType} {R : Room} (G : Gd X y cc Ts nL ret R) {index : Nat} (hg : GoodIn Ts (wsV y.cls index RX8 yX8_handOf wsX8_handOf)) (hR : rX8_handOf.frames + 1 ≤ R.frames ∧ 8 + (4 + 11) + rX8_handOf.locals ≤ R.locals) {k n pc : Nat} {M : Wo} {lv : List (Nat × Value)} {st : List Value} {a0 : Nat} {x1 : Int32} {r : Int32} {M2 : Wo} (hv : X8_handOf M a0 x1 = some (r, M2)) (hd : decode cc pc = .ok (.invokevirtual index, 3)) (h8 : (st.map fun v => v.category).sum ≤ 8) (hf : k ≤ R.cells ∧ n ≤ R.slots) (kk : Pt X k n (pc + 3) M2 lv (.int r :: st)) : Pt X k n pc M lv (.int x1 :: .ref a0 :: st) := pt_cVi (ci := 8) (nA := 1) (As := [.int x1]) G (X8_handOf_c hv) hg rfl rfl rfl (by decide +kernel) hR rfl (rcv hv) rfl rfl h8 hd hf kk
abbrev rX8_told : Room := { frames := 7, cells := 0, slots := 0, locals := 163 }
theorem m_X8_told_1 : Cond.fieldLink RX8 7 "StageLinesModel" "state" "[I" ∈ wsX8_told := List.mem_of_getElem? (i := 1) rfl
theorem u_X8_told_X8 : ∀ w ∈ u_ws RX8 TX8 13, w ∈ wsX8_told := mem_r [91, 92, 93, 94, 95, 96, 97, 98, 99, 100, 101, 102, 103] (by decide +kernel)
theorem m_X8_told_2 : Cond.fieldLink RX8 23 "StageLinesModel" "heights" "[I" ∈ wsX8_told := List.mem_of_getElem? (i := 2) rfl
def X8_told (M : Wo) (a0 : Nat) (x1 : Int32) (x2 : Int32) : Option (Int32 × Wo) :=
  (ckO M a0 8).bind fun _ => (X8_isMove M a0 x1).bind fun v2 => if v2 = 0 then (some ((-1 : Int32), M)) else (if x2 = (0 : Int32) then ((gR M a0 8 0).bind fun w4 => (lA M 0 w4 (((171 : Int32) + ((10 : Int32) * x2)) + x1)).bind fun v6 => some (v6, M)) else if x2 = (1 : Int32) then ((gR M a0 8 0).bind fun w9 => (lA M 0 w9 (((171 : Int32) + ((10 : Int32) * x2)) + x1)).bind fun v11 => some (v11, M)) else if x2 = (2 : Int32) then ((gR M a0 8 0).bind fun w14 => (lA M 0 w14 (((171 : Int32) + ((10 : Int32) * x2)) + x1)).bind fun v16 => some (v16, M)) else if x2 = (3 : Int32) then ((gR M a0 8 0).bind fun w19 => (lA M 0 w19 (((171 : Int32) + ((10 : Int32) * x2)) + x1)).bind fun v21 => some (v21, M)) else if x2 = (4 : Int32) then ((X8_endOf M a0 x1).bind (un2 fun v25 M26 => some (v25, M26))) else if x2 = (5 : Int32) then ((gR M a0 8 0).bind fun w28 => (lA M 0 w28 ((171 : Int32) + x1)).bind fun v30 => (X8_layHeights M a0 v30).bind fun M33 => (gR M33 a0 8 5).bind fun w34 => (gR M33 a0 8 0).bind fun w36 => (lA M33 0 w36 ((181 : Int32) + x1)).bind fun v38 => (lA M33 0 w34 v38).bind fun v40 => some (v40, M33)) else if x2 = (6 : Int32) then ((gR M a0 8 5).bind fun w43 => (X8_endOf M a0 x1).bind (un2 fun v46 M47 => (lA M47 0 w43 v46).bind fun v48 => some (v48, M47))) else if x2 = (7 : Int32) then ((X8_isCut M a0 x1).bind (un2 fun v52 M53 => if v52 = 0 then (some ((0 : Int32), M53)) else (some ((1 : Int32), M53)))) else if x2 = (8 : Int32) then ((X8_handOf M a0 x1).bind (un2 fun v57 M58 => some (v57, M58))) else (some ((-2 : Int32), M)))
theorem X8_told_w {X : Cx} (G : Gd X yX8_told cX8_told wsX8_told 3 (some .int) rX8_told) {M : Wo} {a0 : Nat} {x1 : Int32} {x2 : Int32} {o : (Int32 × Wo)} (hd : X8_told M a0 x1 x2 = some o) (hQ : Qi X o.1 o.2 0 0) : Pt X 0 0 0 M [(0, .ref a0), (1, .int x1), (2, .int x2)] [] := by
  unfold X8_told at hd
  obtain ⟨_, _, hd⟩ := bnd hd
  refine pt_aload_n G 0 dX8_told_0 rfl rfl ?_
  refine pt_iload_n G 1 dX8_told_1 rfl rfl ?_
  obtain ⟨v2, h1, hd⟩ := bnd hd
  refine X8_isMove_v G gX8_told_X8_isMove ⟨(Nat.le_of_ble_eq_true rfl), (Nat.le_of_ble_eq_true rfl)⟩ h1 dX8_told_2 (Nat.le_of_ble_eq_true rfl) ⟨(Nat.le_of_ble_eq_true rfl), (Nat.le_of_ble_eq_true rfl)⟩ ?_
  refine pt_if_ne G 10 dX8_told_5 (by decide) (fun c59 => ?_) (fun c59 => ?_)
  · replace hd := ifn c59 hd
    refine pt_iload_n G 2 dX8_told_10 rfl rfl ?_
    by_cases c3 : x2 = (0 : Int32)
    · replace hd := ifp c3 hd
      refine pt_tsIn G 60 dX8_told_11 (by rw [c3]; decide) (by rw [c3]; decide) (by rw [c3]; rfl) (by decide) ?_
      refine pt_aload_n G 0 dX8_told_60 rfl rfl ?_
      obtain ⟨w4, h5, hd⟩ := bnd hd
      refine pt_get G (ci := 8) (j := 0) rfl (by decide) u_X8_told_X8 m_X8_told_1 (gR_o h5) dX8_told_61 ?_
      refine pt_sipush G (171 : Int32) dX8_told_64 si_171 ?_
      refine pt_bipush G (10 : Int32) dX8_told_67 bi_10 ?_
      refine pt_iload_n G 2 dX8_told_69 rfl rfl ?_
      refine pt_imul G dX8_told_70 ?_
      refine pt_iadd G dX8_told_71 ?_
      refine pt_iload_n G 1 dX8_told_72 rfl rfl ?_
      refine pt_iadd G dX8_told_73 ?_
      obtain ⟨v6, h7, hd⟩ := bnd hd
      refine pt_iald G h7 dX8_told_74 ?_
      cases hd
      exact pt_iret G hQ dX8_told_75
    replace hd := ifn c3 hd
    by_cases c8 : x2 = (1 : Int32)
    · replace hd := ifp c8 hd
      refine pt_tsIn G 60 dX8_told_11 (by rw [c8]; decide) (by rw [c8]; decide) (by rw [c8]; rfl) (by decide) ?_
      refine pt_aload_n G 0 dX8_told_60 rfl rfl ?_
      obtain ⟨w9, h10, hd⟩ := bnd hd
      refine pt_get G (ci := 8) (j := 0) rfl (by decide) u_X8_told_X8 m_X8_told_1 (gR_o h10) dX8_told_61 ?_
      refine pt_sipush G (171 : Int32) dX8_told_64 si_171 ?_
      refine pt_bipush G (10 : Int32) dX8_told_67 bi_10 ?_
      refine pt_iload_n G 2 dX8_told_69 rfl rfl ?_
      refine pt_imul G dX8_told_70 ?_
      refine pt_iadd G dX8_told_71 ?_
      refine pt_iload_n G 1 dX8_told_72 rfl rfl ?_
      refine pt_iadd G dX8_told_73 ?_
      obtain ⟨v11, h12, hd⟩ := bnd hd
      refine pt_iald G h12 dX8_told_74 ?_
      cases hd
      exact pt_iret G hQ dX8_told_75
    replace hd := ifn c8 hd
    by_cases c13 : x2 = (2 : Int32)
    · replace hd := ifp c13 hd
      refine pt_tsIn G 60 dX8_told_11 (by rw [c13]; decide) (by rw [c13]; decide) (by rw [c13]; rfl) (by decide) ?_
      refine pt_aload_n G 0 dX8_told_60 rfl rfl ?_
      obtain ⟨w14, h15, hd⟩ := bnd hd
      refine pt_get G (ci := 8) (j := 0) rfl (by decide) u_X8_told_X8 m_X8_told_1 (gR_o h15) dX8_told_61 ?_
      refine pt_sipush G (171 : Int32) dX8_told_64 si_171 ?_
      refine pt_bipush G (10 : Int32) dX8_told_67 bi_10 ?_
      refine pt_iload_n G 2 dX8_told_69 rfl rfl ?_
      refine pt_imul G dX8_told_70 ?_
      refine pt_iadd G dX8_told_71 ?_
      refine pt_iload_n G 1 dX8_told_72 rfl rfl ?_
      refine pt_iadd G dX8_told_73 ?_
      obtain ⟨v16, h17, hd⟩ := bnd hd
      refine pt_iald G h17 dX8_told_74 ?_
      cases hd
      exact pt_iret G hQ dX8_told_75
    replace hd := ifn c13 hd
    by_cases c18 : x2 = (3 : Int32)
    · replace hd := ifp c18 hd
      refine pt_tsIn G 60 dX8_told_11 (by rw [c18]; decide) (by rw [c18]; decide) (by rw [c18]; rfl) (by decide) ?_
      refine pt_aload_n G 0 dX8_told_60 rfl rfl ?_
      obtain ⟨w19, h20, hd⟩ := bnd hd
      refine pt_get G (ci := 8) (j := 0) rfl (by decide) u_X8_told_X8 m_X8_told_1 (gR_o h20) dX8_told_61 ?_
      refine pt_sipush G (171 : Int32) dX8_told_64 si_171 ?_
      refine pt_bipush G (10 : Int32) dX8_told_67 bi_10 ?_
      refine pt_iload_n G 2 dX8_told_69 rfl rfl ?_
      refine pt_imul G dX8_told_70 ?_
      refine pt_iadd G dX8_told_71 ?_
      refine pt_iload_n G 1 dX8_told_72 rfl rfl ?_
      refine pt_iadd G dX8_told_73 ?_
      obtain ⟨v21, h22, hd⟩ := bnd hd
      refine pt_iald G h22 dX8_told_74 ?_
      cases hd
      exact pt_iret G hQ dX8_told_75
    replace hd := ifn c18 hd
    by_cases c23 : x2 = (4 : Int32)
    · replace hd := ifp c23 hd
      refine pt_tsIn G 76 dX8_told_11 (by rw [c23]; decide) (by rw [c23]; decide) (by rw [c23]; rfl) (by decide) ?_
      refine pt_aload_n G 0 dX8_told_76 rfl rfl ?_
      refine pt_iload_n G 1 dX8_told_77 rfl rfl ?_
      obtain ⟨⟨v25, M26⟩, h24, hd⟩ := bnd hd
      replace hd := un2_e hd
      refine X8_endOf_v G gX8_told_X8_endOf ⟨(Nat.le_of_ble_eq_true rfl), (Nat.le_of_ble_eq_true rfl)⟩ h24 dX8_told_78 (Nat.le_of_ble_eq_true rfl) ⟨(Nat.le_of_ble_eq_true rfl), (Nat.le_of_ble_eq_true rfl)⟩ ?_
      cases hd
      exact pt_iret G hQ dX8_told_81
    replace hd := ifn c23 hd
    by_cases c27 : x2 = (5 : Int32)
    · replace hd := ifp c27 hd
      refine pt_tsIn G 82 dX8_told_11 (by rw [c27]; decide) (by rw [c27]; decide) (by rw [c27]; rfl) (by decide) ?_
      refine pt_aload_n G 0 dX8_told_82 rfl rfl ?_
      refine pt_aload_n G 0 dX8_told_83 rfl rfl ?_
      obtain ⟨w28, h29, hd⟩ := bnd hd
      refine pt_get G (ci := 8) (j := 0) rfl (by decide) u_X8_told_X8 m_X8_told_1 (gR_o h29) dX8_told_84 ?_
      refine pt_sipush G (171 : Int32) dX8_told_87 si_171 ?_
      refine pt_iload_n G 1 dX8_told_90 rfl rfl ?_
      refine pt_iadd G dX8_told_91 ?_
      obtain ⟨v30, h31, hd⟩ := bnd hd
      refine pt_iald G h31 dX8_told_92 ?_
      obtain ⟨M33, h32, hd⟩ := bnd hd
      refine X8_layHeights_v G gX8_told_X8_layHeights ⟨(Nat.le_of_ble_eq_true rfl), (Nat.le_of_ble_eq_true rfl)⟩ h32 dX8_told_93 (Nat.le_of_ble_eq_true rfl) ⟨(Nat.le_of_ble_eq_true rfl), (Nat.le_of_ble_eq_true rfl)⟩ ?_
      refine pt_aload_n G 0 dX8_told_96 rfl rfl ?_
      obtain ⟨w34, h35, hd⟩ := bnd hd
      refine pt_get G (ci := 8) (j := 5) rfl (by decide) u_X8_told_X8 m_X8_told_2 (gR_o h35) dX8_told_97 ?_
      refine pt_aload_n G 0 dX8_told_100 rfl rfl ?_
      obtain ⟨w36, h37, hd⟩ := bnd hd
      refine pt_get G (ci := 8) (j := 0) rfl (by decide) u_X8_told_X8 m_X8_told_1 (gR_o h37) dX8_told_101 ?_
      refine pt_sipush G (181 : Int32) dX8_told_104 si_181 ?_
      refine pt_iload_n G 1 dX8_told_107 rfl rfl ?_
      refine pt_iadd G dX8_told_108 ?_
      obtain ⟨v38, h39, hd⟩ := bnd hd
      refine pt_iald G h39 dX8_told_109 ?_
      obtain ⟨v40, h41, hd⟩ := bnd hd
      refine pt_iald G h41 dX8_told_110 ?_
      cases hd
      exact pt_iret G hQ dX8_told_111
    replace hd := ifn c27 hd
    by_cases c42 : x2 = (6 : Int32)
    · replace hd := ifp c42 hd
      refine pt_tsIn G 112 dX8_told_11 (by rw [c42]; decide) (by rw [c42]; decide) (by rw [c42]; rfl) (by decide) ?_
      refine pt_aload_n G 0 dX8_told_112 rfl rfl ?_
      obtain ⟨w43, h44, hd⟩ := bnd hd
      refine pt_get G (ci := 8) (j := 5) rfl (by decide) u_X8_told_X8 m_X8_told_2 (gR_o h44) dX8_told_113 ?_
      refine pt_aload_n G 0 dX8_told_116 rfl rfl ?_
      refine pt_iload_n G 1 dX8_told_117 rfl rfl ?_
      obtain ⟨⟨v46, M47⟩, h45, hd⟩ := bnd hd
      replace hd := un2_e hd
      refine X8_endOf_v G gX8_told_X8_endOf ⟨(Nat.le_of_ble_eq_true rfl), (Nat.le_of_ble_eq_true rfl)⟩ h45 dX8_told_118 (Nat.le_of_ble_eq_true rfl) ⟨(Nat.le_of_ble_eq_true rfl), (Nat.le_of_ble_eq_true rfl)⟩ ?_
      obtain ⟨v48, h49, hd⟩ := bnd hd
      refine pt_iald G h49 dX8_told_121 ?_
      cases hd
      exact pt_iret G hQ dX8_told_122
    replace hd := ifn c42 hd
    by_cases c50 : x2 = (7 : Int32)
    · replace hd := ifp c50 hd
      refine pt_tsIn G 123 dX8_told_11 (by rw [c50]; decide) (by rw [c50]; decide) (by rw [c50]; rfl) (by decide) ?_
      refine pt_aload_n G 0 dX8_told_123 rfl rfl ?_
      refine pt_iload_n G 1 dX8_told_124 rfl rfl ?_
      obtain ⟨⟨v52, M53⟩, h51, hd⟩ := bnd hd
      replace hd := un2_e hd
      refine X8_isCut_v G gX8_told_X8_isCut ⟨(Nat.le_of_ble_eq_true rfl), (Nat.le_of_ble_eq_true rfl)⟩ h51 dX8_told_125 (Nat.le_of_ble_eq_true rfl) ⟨(Nat.le_of_ble_eq_true rfl), (Nat.le_of_ble_eq_true rfl)⟩ ?_
      refine pt_if_eq G 135 dX8_told_128 (by decide) (fun c54 => ?_) (fun c54 => ?_)
      · replace hd := ifp c54 hd
        refine pt_iconst G (0 : Int32) dX8_told_135 ci_0 ?_
        cases hd
        exact pt_iret G hQ dX8_told_136
      · replace hd := ifn c54 hd
        refine pt_iconst G (1 : Int32) dX8_told_131 ci_1 ?_
        refine pt_goto G 136 dX8_told_132 (by decide) ?_
        cases hd
        exact pt_iret G hQ dX8_told_136
    replace hd := ifn c50 hd
    by_cases c55 : x2 = (8 : Int32)
    · replace hd := ifp c55 hd
      refine pt_tsIn G 137 dX8_told_11 (by rw [c55]; decide) (by rw [c55]; decide) (by rw [c55]; rfl) (by decide) ?_
      refine pt_aload_n G 0 dX8_told_137 rfl rfl ?_
      refine pt_iload_n G 1 dX8_told_138 rfl rfl ?_
      obtain ⟨⟨v57, M58⟩, h56, hd⟩ := bnd hd
      replace hd := un2_e hd
      refine X8_handOf_v G gX8_told_X8_handOf ⟨(Nat.le_of_ble_eq_true rfl), (Nat.le_of_ble_eq_true rfl)⟩ h56 dX8_told_139 (Nat.le_of_ble_eq_true rfl) ⟨(Nat.le_of_ble_eq_true rfl), (Nat.le_of_ble_eq_true rfl)⟩ ?_
      cases hd
      exact pt_iret G hQ dX8_told_142
    replace hd := ifn c55 hd
    have nc3 : x2.toInt ≠ 0 := fun h => c3 (Int32.toInt_inj.mp (h.trans (by decide)))
    have nc8 : x2.toInt ≠ 1 := fun h => c8 (Int32.toInt_inj.mp (h.trans (by decide)))
    have nc13 : x2.toInt ≠ 2 := fun h => c13 (Int32.toInt_inj.mp (h.trans (by decide)))
    have nc18 : x2.toInt ≠ 3 := fun h => c18 (Int32.toInt_inj.mp (h.trans (by decide)))
    have nc23 : x2.toInt ≠ 4 := fun h => c23 (Int32.toInt_inj.mp (h.trans (by decide)))
    have nc27 : x2.toInt ≠ 5 := fun h => c27 (Int32.toInt_inj.mp (h.trans (by decide)))
    have nc42 : x2.toInt ≠ 6 := fun h => c42 (Int32.toInt_inj.mp (h.trans (by decide)))
    have nc50 : x2.toInt ≠ 7 := fun h => c50 (Int32.toInt_inj.mp (h.trans (by decide)))
    have nc55 : x2.toInt ≠ 8 := fun h => c55 (Int32.toInt_inj.mp (h.trans (by decide)))
    refine pt_tsOut G 143 dX8_told_11 (by omega) (by decide) ?_
    refine pt_bipush G (-2 : Int32) dX8_told_143 bi_m2 ?_
    cases hd
    exact pt_iret G hQ dX8_told_145
  · replace hd := ifp c59 hd
    refine pt_iconst G (-1 : Int32) dX8_told_8 ci_m1 ?_
    cases hd
    exact pt_iret G hQ dX8_told_9
theorem X8_told_c {l : Launch} {D : va_G} {dA : Nat → ClassId} {b : Nat} {M : Wo} {a0 : Nat} {x1 : Int32} {x2 : Int32} {r : Int32} {M2 : Wo} (h : X8_told M a0 x1 x2 = some (r, M2)) : Met l yX8_told wsX8_told rX8_told (va_Pc [.ref a0, .int x1, .int x2] (Wd D dA b M)) (Ei D dA b r M2) 0 0 (Ab b) := met_i (by decide) rfl (Nat.le_of_ble_eq_true rfl) (fun X G hN hQ => X8_told_w G h hQ)
theorem X8_told_v {X : Cx} {y : MethodName} {cc : ByteArray} {Ts : List Cond} {nL : Nat} {ret : Option FieldType} {R : Room} (G : Gd X y cc Ts nL ret R) {index : Nat} (hg : GoodIn Ts (wsV y.cls index RX8 yX8_told wsX8_told)) (hR : rX8_told.frames + 1 ≤ R.frames ∧ 8 + (3 + 11) + rX8_told.locals ≤ R.locals) {k n pc : Nat} {M : Wo} {lv : List (Nat × Value)} {st : List Value} {a0 : Nat} {x1 : Int32} {x2 : Int32} {r : Int32} {M2 : Wo} (hv : X8_told M a0 x1 x2 = some (r, M2)) (hd : decode cc pc = .ok (.invokevirtual index, 3)) (h8 : (st.map fun v => v.category).sum ≤ 8) (hf : k ≤ R.cells ∧ n ≤ R.slots) (kk : Pt X k n (pc + 3) M2 lv (.int r :: st)) : Pt X k n pc M lv (.int x2 :: .int x1 :: .ref a0 :: st) := pt_cVi (ci := 8) (nA := 2) (As := [.int x1, .int x2]) G (X8_told_c hv) hg rfl rfl rfl (by decide +kernel) hR rfl (rcv hv) rfl rfl h8 hd hf kk
abbrev rX8_mostAtOnce : Room := { frames := 1, cells := 0, slots := 0, locals := 21 }
theorem m_X8_mostAtOnce_2 : Cond.fieldLink RX8 32 "StageLinesModel" "ends" "[I" ∈ wsX8_mostAtOnce := List.mem_of_getElem? (i := 2) rfl
theorem u_X8_mostAtOnce_X8 : ∀ w ∈ u_ws RX8 TX8 13, w ∈ wsX8_mostAtOnce := mem_r [10, 11, 12, 13, 14, 15, 16, 17, 18, 19, 20, 21, 22] (by decide +kernel)
theorem m_X8_mostAtOnce_1 : Cond.fieldLink RX8 121 "StageLinesModel" "ables" "I" ∈ wsX8_mostAtOnce := List.mem_of_getElem? (i := 1) rfl
abbrev X8_mostAtOnce_P4 (X : Cx) (M : Wo) (a0 : Nat) : (Int32 × Int32) → Prop := un2 (fun x1 x2 => Pt X 0 0 4 M [(0, .ref a0), (1, .int x1), (2, .int x2)] [])
abbrev X8_mostAtOnce_Z4 (X : Cx) (M : Wo) (a0 : Nat) : Int32 → Prop := (un1 (fun x1 => Pt X 0 0 77 M [(1, .int x1)] []))
abbrev X8_mostAtOnce_P16 (X : Cx) (M : Wo) (a0 : Nat) (x1 : Int32) (x2 : Int32) : (Int32 × Int32) → Prop := un2 (fun x3 x4 => Pt X 0 0 16 M [(0, .ref a0), (1, .int x1), (2, .int x2), (3, .int x3), (4, .int x4)] [])
abbrev X8_mostAtOnce_Z16 (X : Cx) (M : Wo) (a0 : Nat) (x1 : Int32) (x2 : Int32) : Int32 → Prop := (un1 (fun x3 => Pt X 0 0 60 M [(0, .ref a0), (1, .int x1), (2, .int x2), (3, .int x3)] []))
def X8_mostAtOnce_b16 (M : Wo) (a0 : Nat) (x1 : Int32) (x2 : Int32) (x3 : Int32) (x4 : Int32) : Option ((Int32 × Int32) ⊕ Int32) :=
  (gI M a0 8 9).bind fun v1 => if v1 ≤ x4 then (some (.inr x3)) else ((X8_begin M a0 x4).bind fun v4 => if x2 < v4 then (some (.inl ((x3 + (0 : Int32)), (x4 + 1)))) else ((gR M a0 8 8).bind fun w5 => (lA M 0 w5 x4).bind fun v7 => if v7 ≤ x2 then (some (.inl ((x3 + (0 : Int32)), (x4 + 1)))) else (some (.inl ((x3 + (1 : Int32)), (x4 + 1))))))
theorem X8_mostAtOnce_b16_w {X : Cx} (G : Gd X yX8_mostAtOnce cX8_mostAtOnce wsX8_mostAtOnce 5 (some .int) rX8_mostAtOnce) {M : Wo} {a0 : Nat} {x1 : Int32} {x2 : Int32} {x3 : Int32} {x4 : Int32} {o : ((Int32 × Int32) ⊕ Int32)} (hd : X8_mostAtOnce_b16 M a0 x1 x2 x3 x4 = some o) (hc : ∀ s9, o = .inl s9 → X8_mostAtOnce_P16 X M a0 x1 x2 s9) (he : ∀ e9, o = .inr e9 → X8_mostAtOnce_Z16 X M a0 x1 x2 e9) : Pt X 0 0 16 M [(0, .ref a0), (1, .int x1), (2, .int x2), (3, .int x3), (4, .int x4)] [] := by
  unfold X8_mostAtOnce_b16 at hd
  refine pt_iload G 4 dX8_mostAtOnce_16 rfl ?_
  refine pt_aload_n G 0 dX8_mostAtOnce_18 rfl rfl ?_
  obtain ⟨v1, h2, hd⟩ := bnd hd
  refine pt_get G (ci := 8) (j := 9) rfl (by decide) u_X8_mostAtOnce_X8 m_X8_mostAtOnce_1 (gI_o h2) dX8_mostAtOnce_19 ?_
  refine pt_icmp_ge G 60 dX8_mostAtOnce_22 (by decide) (fun c11 => ?_) (fun c11 => ?_)
  · replace hd := ifp c11 hd
    exact pt_sub [0, 1, 2, 3] rfl (he x3 (Option.some.inj hd).symm)
  · replace hd := ifn c11 hd
    refine pt_iload_n G 3 dX8_mostAtOnce_25 rfl rfl ?_
    refine pt_aload_n G 0 dX8_mostAtOnce_26 rfl rfl ?_
    refine pt_iload G 4 dX8_mostAtOnce_27 rfl ?_
    obtain ⟨v4, h3, hd⟩ := bnd hd
    refine X8_begin_v G gX8_mostAtOnce_X8_begin ⟨(Nat.le_of_ble_eq_true rfl), (Nat.le_of_ble_eq_true rfl)⟩ h3 dX8_mostAtOnce_29 (Nat.le_of_ble_eq_true rfl) ⟨(Nat.le_of_ble_eq_true rfl), (Nat.le_of_ble_eq_true rfl)⟩ ?_
    refine pt_iload_n G 2 dX8_mostAtOnce_32 rfl rfl ?_
    refine pt_icmp_gt G 51 dX8_mostAtOnce_33 (by decide) (fun c10 => ?_) (fun c10 => ?_)
    · replace hd := ifp c10 hd
      refine pt_iconst G (0 : Int32) dX8_mostAtOnce_51 ci_0 ?_
      refine pt_iadd G dX8_mostAtOnce_52 ?_
      refine pt_istore_n G [(3, .int (x3 + (0 : Int32))), (0, .ref a0), (1, .int x1), (2, .int x2), (4, .int x4)] dX8_mostAtOnce_53 rfl (by decide) rfl ?_
      refine pt_iinc G 4 (x4 + 1) [(4, .int (x4 + 1)), (3, .int (x3 + (0 : Int32))), (0, .ref a0), (1, .int x1), (2, .int x2)] dX8_mostAtOnce_54 rfl (inc_1 _) (by decide) rfl ?_
      refine pt_goto G 16 dX8_mostAtOnce_57 (by decide) ?_
      exact pt_sub [2, 3, 4, 1, 0] rfl (hc ((x3 + (0 : Int32)), (x4 + 1)) (Option.some.inj hd).symm)
    · replace hd := ifn c10 hd
      refine pt_aload_n G 0 dX8_mostAtOnce_36 rfl rfl ?_
      obtain ⟨w5, h6, hd⟩ := bnd hd
      refine pt_get G (ci := 8) (j := 8) rfl (by decide) u_X8_mostAtOnce_X8 m_X8_mostAtOnce_2 (gR_o h6) dX8_mostAtOnce_37 ?_
      refine pt_iload G 4 dX8_mostAtOnce_40 rfl ?_
      obtain ⟨v7, h8, hd⟩ := bnd hd
      refine pt_iald G h8 dX8_mostAtOnce_42 ?_
      refine pt_iload_n G 2 dX8_mostAtOnce_43 rfl rfl ?_
      refine pt_icmp_le G 51 dX8_mostAtOnce_44 (by decide) (fun c9 => ?_) (fun c9 => ?_)
      · replace hd := ifp c9 hd
        refine pt_iconst G (0 : Int32) dX8_mostAtOnce_51 ci_0 ?_
        refine pt_iadd G dX8_mostAtOnce_52 ?_
        refine pt_istore_n G [(3, .int (x3 + (0 : Int32))), (0, .ref a0), (1, .int x1), (2, .int x2), (4, .int x4)] dX8_mostAtOnce_53 rfl (by decide) rfl ?_
        refine pt_iinc G 4 (x4 + 1) [(4, .int (x4 + 1)), (3, .int (x3 + (0 : Int32))), (0, .ref a0), (1, .int x1), (2, .int x2)] dX8_mostAtOnce_54 rfl (inc_1 _) (by decide) rfl ?_
        refine pt_goto G 16 dX8_mostAtOnce_57 (by decide) ?_
        exact pt_sub [2, 3, 4, 1, 0] rfl (hc ((x3 + (0 : Int32)), (x4 + 1)) (Option.some.inj hd).symm)
      · replace hd := ifn c9 hd
        refine pt_iconst G (1 : Int32) dX8_mostAtOnce_47 ci_1 ?_
        refine pt_goto G 52 dX8_mostAtOnce_48 (by decide) ?_
        refine pt_iadd G dX8_mostAtOnce_52 ?_
        refine pt_istore_n G [(3, .int (x3 + (1 : Int32))), (0, .ref a0), (1, .int x1), (2, .int x2), (4, .int x4)] dX8_mostAtOnce_53 rfl (by decide) rfl ?_
        refine pt_iinc G 4 (x4 + 1) [(4, .int (x4 + 1)), (3, .int (x3 + (1 : Int32))), (0, .ref a0), (1, .int x1), (2, .int x2)] dX8_mostAtOnce_54 rfl (inc_1 _) (by decide) rfl ?_
        refine pt_goto G 16 dX8_mostAtOnce_57 (by decide) ?_
        exact pt_sub [2, 3, 4, 1, 0] rfl (hc ((x3 + (1 : Int32)), (x4 + 1)) (Option.some.inj hd).symm)
theorem X8_mostAtOnce_w16_w {X : Cx} (G : Gd X yX8_mostAtOnce cX8_mostAtOnce wsX8_mostAtOnce 5 (some .int) rX8_mostAtOnce) {M : Wo} {a0 : Nat} {x1 : Int32} {x2 : Int32} (n9 : Nat) (s9 : (Int32 × Int32)) (e9 : Int32) (hw : wloop (un2 (X8_mostAtOnce_b16 M a0 x1 x2)) n9 s9 = some e9) (hz : X8_mostAtOnce_Z16 X M a0 x1 x2 e9) : X8_mostAtOnce_P16 X M a0 x1 x2 s9 := by
  refine wl_ind (P := X8_mostAtOnce_P16 X M a0 x1 x2) (Z := X8_mostAtOnce_Z16 X M a0 x1 x2) ?_ n9 s9 e9 hw hz
  intro s9 o9 hd hc he
  obtain ⟨x3, x4⟩ := s9
  exact X8_mostAtOnce_b16_w G hd hc he
def X8_mostAtOnce_b4 (M : Wo) (a0 : Nat) (x1 : Int32) (x2 : Int32) : Option ((Int32 × Int32) ⊕ Int32) :=
  if (300 : Int32) < x2 then (some (.inr x1)) else ((wloop (un2 (X8_mostAtOnce_b16 M a0 x1 x2)) FU ((0 : Int32), (0 : Int32))).bind fun v12 => if v12 ≤ x1 then (some (.inl (x1, (x2 + 1)))) else (some (.inl (v12, (x2 + 1)))))
theorem X8_mostAtOnce_b4_w {X : Cx} (G : Gd X yX8_mostAtOnce cX8_mostAtOnce wsX8_mostAtOnce 5 (some .int) rX8_mostAtOnce) {M : Wo} {a0 : Nat} {x1 : Int32} {x2 : Int32} {o : ((Int32 × Int32) ⊕ Int32)} (hd : X8_mostAtOnce_b4 M a0 x1 x2 = some o) (hc : ∀ s9, o = .inl s9 → X8_mostAtOnce_P4 X M a0 s9) (he : ∀ e9, o = .inr e9 → X8_mostAtOnce_Z4 X M a0 e9) : Pt X 0 0 4 M [(0, .ref a0), (1, .int x1), (2, .int x2)] [] := by
  unfold X8_mostAtOnce_b4 at hd
  refine pt_iload_n G 2 dX8_mostAtOnce_4 rfl rfl ?_
  refine pt_sipush G (300 : Int32) dX8_mostAtOnce_5 si_300 ?_
  refine pt_icmp_gt G 77 dX8_mostAtOnce_8 (by decide) (fun c15 => ?_) (fun c15 => ?_)
  · replace hd := ifp c15 hd
    exact pt_sub [1] rfl (he x1 (Option.some.inj hd).symm)
  · replace hd := ifn c15 hd
    refine pt_iconst G (0 : Int32) dX8_mostAtOnce_11 ci_0 ?_
    refine pt_istore_n G [(3, .int (0 : Int32)), (0, .ref a0), (1, .int x1), (2, .int x2)] dX8_mostAtOnce_12 rfl (by decide) rfl ?_
    refine pt_iconst G (0 : Int32) dX8_mostAtOnce_13 ci_0 ?_
    refine pt_istore G [(4, .int (0 : Int32)), (3, .int (0 : Int32)), (0, .ref a0), (1, .int x1), (2, .int x2)] dX8_mostAtOnce_14 (by decide) rfl ?_
    obtain ⟨v12, hw14, hd⟩ := bnd hd
    refine pt_sub [2, 3, 4, 1, 0] rfl (X8_mostAtOnce_w16_w G _ _ _ hw14 ?_)
    show Pt X 0 0 _ _ _ []
    refine pt_iload_n G 3 dX8_mostAtOnce_60 rfl rfl ?_
    refine pt_iload_n G 1 dX8_mostAtOnce_61 rfl rfl ?_
    refine pt_icmp_le G 69 dX8_mostAtOnce_62 (by decide) (fun c13 => ?_) (fun c13 => ?_)
    · replace hd := ifp c13 hd
      refine pt_iload_n G 1 dX8_mostAtOnce_69 rfl rfl ?_
      refine pt_istore_n G [(1, .int x1), (0, .ref a0), (2, .int x2), (3, .int v12)] dX8_mostAtOnce_70 rfl (by decide) rfl ?_
      refine pt_iinc G 2 (x2 + 1) [(2, .int (x2 + 1)), (1, .int x1), (0, .ref a0), (3, .int v12)] dX8_mostAtOnce_71 rfl (inc_1 _) (by decide) rfl ?_
      refine pt_goto G 4 dX8_mostAtOnce_74 (by decide) ?_
      exact pt_sub [2, 1, 0] rfl (hc (x1, (x2 + 1)) (Option.some.inj hd).symm)
    · replace hd := ifn c13 hd
      refine pt_iload_n G 3 dX8_mostAtOnce_65 rfl rfl ?_
      refine pt_goto G 70 dX8_mostAtOnce_66 (by decide) ?_
      refine pt_istore_n G [(1, .int v12), (0, .ref a0), (2, .int x2), (3, .int v12)] dX8_mostAtOnce_70 rfl (by decide) rfl ?_
      refine pt_iinc G 2 (x2 + 1) [(2, .int (x2 + 1)), (1, .int v12), (0, .ref a0), (3, .int v12)] dX8_mostAtOnce_71 rfl (inc_1 _) (by decide) rfl ?_
      refine pt_goto G 4 dX8_mostAtOnce_74 (by decide) ?_
      exact pt_sub [2, 1, 0] rfl (hc (v12, (x2 + 1)) (Option.some.inj hd).symm)
theorem X8_mostAtOnce_w4_w {X : Cx} (G : Gd X yX8_mostAtOnce cX8_mostAtOnce wsX8_mostAtOnce 5 (some .int) rX8_mostAtOnce) {M : Wo} {a0 : Nat} (n9 : Nat) (s9 : (Int32 × Int32)) (e9 : Int32) (hw : wloop (un2 (X8_mostAtOnce_b4 M a0)) n9 s9 = some e9) (hz : X8_mostAtOnce_Z4 X M a0 e9) : X8_mostAtOnce_P4 X M a0 s9 := by
  refine wl_ind (P := X8_mostAtOnce_P4 X M a0) (Z := X8_mostAtOnce_Z4 X M a0) ?_ n9 s9 e9 hw hz
  intro s9 o9 hd hc he
  obtain ⟨x1, x2⟩ := s9
  exact X8_mostAtOnce_b4_w G hd hc he
def X8_mostAtOnce (M : Wo) (a0 : Nat) : Option Int32 :=
  (ckO M a0 8).bind fun _ => (wloop (un2 (X8_mostAtOnce_b4 M a0)) FU ((0 : Int32), (0 : Int32))).bind fun v16 => some v16
theorem X8_mostAtOnce_w {X : Cx} (G : Gd X yX8_mostAtOnce cX8_mostAtOnce wsX8_mostAtOnce 5 (some .int) rX8_mostAtOnce) {M : Wo} {a0 : Nat} {o : Int32} (hd : X8_mostAtOnce M a0 = some o) (hQ : Qi X o M 0 0) : Pt X 0 0 0 M [(0, .ref a0)] [] := by
  unfold X8_mostAtOnce at hd
  obtain ⟨_, _, hd⟩ := bnd hd
  refine pt_iconst G (0 : Int32) dX8_mostAtOnce_0 ci_0 ?_
  refine pt_istore_n G [(1, .int (0 : Int32)), (0, .ref a0)] dX8_mostAtOnce_1 rfl (by decide) rfl ?_
  refine pt_iconst G (0 : Int32) dX8_mostAtOnce_2 ci_0 ?_
  refine pt_istore_n G [(2, .int (0 : Int32)), (1, .int (0 : Int32)), (0, .ref a0)] dX8_mostAtOnce_3 rfl (by decide) rfl ?_
  obtain ⟨v16, hw17, hd⟩ := bnd hd
  refine pt_sub [2, 1, 0] rfl (X8_mostAtOnce_w4_w G _ _ _ hw17 ?_)
  show Pt X 0 0 _ _ _ []
  refine pt_iload_n G 0 dX8_mostAtOnce_77 rfl rfl ?_
  cases hd
  exact pt_iret G hQ dX8_mostAtOnce_78
theorem X8_mostAtOnce_c {l : Launch} {D : va_G} {dA : Nat → ClassId} {b : Nat} {M : Wo} {a0 : Nat} {r : Int32} (h : X8_mostAtOnce M a0 = some r) : Met l yX8_mostAtOnce wsX8_mostAtOnce rX8_mostAtOnce (va_Pc [.ref a0] (Wd D dA b M)) (Ei D dA b r M) 0 0 (Ab b) := met_i (by decide) rfl (Nat.le_of_ble_eq_true rfl) (fun X G hN hQ => X8_mostAtOnce_w G h hQ)
theorem X8_mostAtOnce_v {X : Cx} {y : MethodName} {cc : ByteArray} {Ts : List Cond} {nL : Nat} {ret : Option FieldType} {R : Room} (G : Gd X y cc Ts nL ret R) {index : Nat} (hg : GoodIn Ts (wsV y.cls index RX8 yX8_mostAtOnce wsX8_mostAtOnce)) (hR : rX8_mostAtOnce.frames + 1 ≤ R.frames ∧ 8 + (5 + 11) + rX8_mostAtOnce.locals ≤ R.locals) {k n pc : Nat} {M : Wo} {lv : List (Nat × Value)} {st : List Value} {a0 : Nat} {r : Int32} (hv : X8_mostAtOnce M a0 = some r) (hd : decode cc pc = .ok (.invokevirtual index, 3)) (h8 : (st.map fun v => v.category).sum ≤ 8) (hf : k ≤ R.cells ∧ n ≤ R.slots) (kk : Pt X k n (pc + 3) M lv (.int r :: st)) : Pt X k n pc M lv (.ref a0 :: st) := pt_cVi (ci := 8) (nA := 0) (As := []) G (X8_mostAtOnce_c hv) hg rfl rfl rfl (by decide +kernel) hR rfl (rcv hv) rfl rfl h8 hd hf kk
abbrev rX8_hands : Room := { frames := 5, cells := 0, slots := 0, locals := 118 }
theorem m_X8_hands_1 : Cond.fieldLink RX8 121 "StageLinesModel" "ables" "I" ∈ wsX8_hands := List.mem_of_getElem? (i := 1) rfl
theorem u_X8_hands_X8 : ∀ w ∈ u_ws RX8 TX8 13, w ∈ wsX8_hands := mem_r [74, 75, 76, 77, 78, 79, 80, 81, 82, 83, 84, 85, 86] (by decide +kernel)
def X8_hands (M : Wo) (a0 : Nat) (x1 : Int32) : Option (Int32 × Wo) :=
  (ckO M a0 8).bind fun _ => (X8_in M x1 (0 : Int32) (2 : Int32)).bind fun v2 => if v2 = 0 then (some ((-2 : Int32), M)) else ((X8_layHands M a0).bind (un2 fun v4 M5 => if x1 = 0 then (some (v4, M5)) else (if x1 = (1 : Int32) then ((gI M5 a0 8 9).bind fun v8 => some (v8, M5)) else ((X8_mostAtOnce M5 a0).bind fun v7 => some (v7, M5)))))
theorem X8_hands_w {X : Cx} (G : Gd X yX8_hands cX8_hands wsX8_hands 3 (some .int) rX8_hands) {M : Wo} {a0 : Nat} {x1 : Int32} {o : (Int32 × Wo)} (hd : X8_hands M a0 x1 = some o) (hQ : Qi X o.1 o.2 0 0) : Pt X 0 0 0 M [(0, .ref a0), (1, .int x1)] [] := by
  unfold X8_hands at hd
  obtain ⟨_, _, hd⟩ := bnd hd
  refine pt_iload_n G 1 dX8_hands_0 rfl rfl ?_
  refine pt_iconst G (0 : Int32) dX8_hands_1 ci_0 ?_
  refine pt_iconst G (2 : Int32) dX8_hands_2 ci_2 ?_
  obtain ⟨v2, h1, hd⟩ := bnd hd
  refine X8_in_v G gX8_hands_X8_in ⟨(Nat.le_of_ble_eq_true rfl), (Nat.le_of_ble_eq_true rfl)⟩ h1 dX8_hands_3 (Nat.le_of_ble_eq_true rfl) ⟨(Nat.le_of_ble_eq_true rfl), (Nat.le_of_ble_eq_true rfl)⟩ ?_
  refine pt_if_ne G 12 dX8_hands_6 (by decide) (fun c12 => ?_) (fun c12 => ?_)
  · replace hd := ifn c12 hd
    refine pt_aload_n G 0 dX8_hands_12 rfl rfl ?_
    obtain ⟨⟨v4, M5⟩, h3, hd⟩ := bnd hd
    replace hd := un2_e hd
    refine X8_layHands_v G gX8_hands_X8_layHands ⟨(Nat.le_of_ble_eq_true rfl), (Nat.le_of_ble_eq_true rfl)⟩ h3 dX8_hands_13 (Nat.le_of_ble_eq_true rfl) ⟨(Nat.le_of_ble_eq_true rfl), (Nat.le_of_ble_eq_true rfl)⟩ ?_
    refine pt_istore_n G [(2, .int v4), (0, .ref a0), (1, .int x1)] dX8_hands_16 rfl (by decide) rfl ?_
    refine pt_iload_n G 2 dX8_hands_17 rfl rfl ?_
    refine pt_if_ne G 25 dX8_hands_18 (by decide) (fun c11 => ?_) (fun c11 => ?_)
    · replace hd := ifn c11 hd
      refine pt_iload_n G 2 dX8_hands_25 rfl rfl ?_
      refine pt_iconst G (1 : Int32) dX8_hands_26 ci_1 ?_
      refine pt_icmp_ne G 37 dX8_hands_27 (by decide) (fun c10 => ?_) (fun c10 => ?_)
      · replace hd := ifn c10 hd
        refine pt_aload_n G 1 dX8_hands_37 rfl rfl ?_
        obtain ⟨v7, h6, hd⟩ := bnd hd
        refine X8_mostAtOnce_v G gX8_hands_X8_mostAtOnce ⟨(Nat.le_of_ble_eq_true rfl), (Nat.le_of_ble_eq_true rfl)⟩ h6 dX8_hands_38 (Nat.le_of_ble_eq_true rfl) ⟨(Nat.le_of_ble_eq_true rfl), (Nat.le_of_ble_eq_true rfl)⟩ ?_
        cases hd
        exact pt_iret G hQ dX8_hands_41
      · replace hd := ifp c10 hd
        refine pt_aload_n G 1 dX8_hands_30 rfl rfl ?_
        obtain ⟨v8, h9, hd⟩ := bnd hd
        refine pt_get G (ci := 8) (j := 9) rfl (by decide) u_X8_hands_X8 m_X8_hands_1 (gI_o h9) dX8_hands_31 ?_
        refine pt_goto G 41 dX8_hands_34 (by decide) ?_
        cases hd
        exact pt_iret G hQ dX8_hands_41
    · replace hd := ifp c11 hd
      refine pt_iload_n G 0 dX8_hands_21 rfl rfl ?_
      refine pt_goto G 41 dX8_hands_22 (by decide) ?_
      cases hd
      exact pt_iret G hQ dX8_hands_41
  · replace hd := ifp c12 hd
    refine pt_bipush G (-2 : Int32) dX8_hands_9 bi_m2 ?_
    cases hd
    exact pt_iret G hQ dX8_hands_11
theorem X8_hands_c {l : Launch} {D : va_G} {dA : Nat → ClassId} {b : Nat} {M : Wo} {a0 : Nat} {x1 : Int32} {r : Int32} {M2 : Wo} (h : X8_hands M a0 x1 = some (r, M2)) : Met l yX8_hands wsX8_hands rX8_hands (va_Pc [.ref a0, .int x1] (Wd D dA b M)) (Ei D dA b r M2) 0 0 (Ab b) := met_i (by decide) rfl (Nat.le_of_ble_eq_true rfl) (fun X G hN hQ => X8_hands_w G h hQ)
theorem X8_hands_v {X : Cx} {y : MethodName} {cc : ByteArray} {Ts : List Cond} {nL : Nat} {ret : Option FieldType} {R : Room} (G : Gd X y cc Ts nL ret R) {index : Nat} (hg : GoodIn Ts (wsV y.cls index RX8 yX8_hands wsX8_hands)) (hR : rX8_hands.frames + 1 ≤ R.frames ∧ 8 + (3 + 11) + rX8_hands.locals ≤ R.locals) {k n pc : Nat} {M : Wo} {lv : List (Nat × Value)} {st : List Value} {a0 : Nat} {x1 : Int32} {r : Int32} {M2 : Wo} (hv : X8_hands M a0 x1 = some (r, M2)) (hd : decode cc pc = .ok (.invokevirtual index, 3)) (h8 : (st.map fun v => v.category).sum ≤ 8) (hf : k ≤ R.cells ∧ n ≤ R.slots) (kk : Pt X k n (pc + 3) M2 lv (.int r :: st)) : Pt X k n pc M lv (.int x1 :: .ref a0 :: st) := pt_cVi (ci := 8) (nA := 1) (As := [.int x1]) G (X8_hands_c hv) hg rfl rfl rfl (by decide +kernel) hR rfl (rcv hv) rfl rfl h8 hd hf kk
abbrev rX8_crew : Room := { frames := 6, cells := 0, slots := 0, locals := 140 }
theorem m_X8_crew_2 : Cond.fieldLink RX8 41 "StageLinesModel" "hand" "[I" ∈ wsX8_crew := List.mem_of_getElem? (i := 2) rfl
theorem u_X8_crew_X8 : ∀ w ∈ u_ws RX8 TX8 13, w ∈ wsX8_crew := mem_r [79, 80, 81, 82, 83, 84, 85, 86, 87, 88, 89, 90, 91] (by decide +kernel)
theorem m_X8_crew_1 : Cond.fieldLink RX8 121 "StageLinesModel" "ables" "I" ∈ wsX8_crew := List.mem_of_getElem? (i := 1) rfl
theorem m_X8_crew_3 : Cond.fieldLink RX8 29 "StageLinesModel" "able" "[I" ∈ wsX8_crew := List.mem_of_getElem? (i := 3) rfl
abbrev X8_crew_P22 (X : Cx) (M : Wo) (a0 : Nat) (x1 : Int32) (x2 : Int32) : (Int32 × Int32) → Prop := un2 (fun x3 x4 => Pt X 0 0 22 M [(0, .ref a0), (1, .int x1), (2, .int x2), (3, .int x3), (4, .int x4)] [])
abbrev X8_crew_Z22 (X : Cx) (M : Wo) (a0 : Nat) (x1 : Int32) (x2 : Int32) : (Int32 ⊕ Unit) → Prop := (sOf (un1 (fun x5 => Pt X 0 0 69 M [(0, .ref a0), (5, .int x5)] [])) (fun (_ : Unit) => Pt X 0 0 92 M [] []))
abbrev X8_crew_P33 (X : Cx) (M : Wo) (a0 : Nat) (x1 : Int32) (x2 : Int32) (x4 : Int32) : (Int32 × Int32) → Prop := un2 (fun x3 x5 => Pt X 0 0 33 M [(0, .ref a0), (1, .int x1), (2, .int x2), (3, .int x3), (4, .int x4), (5, .int x5)] [])
abbrev X8_crew_Z33 (X : Cx) (M : Wo) (a0 : Nat) (x1 : Int32) (x2 : Int32) (x4 : Int32) : (Int32 ⊕ Int32) → Prop := (sOf (un1 (fun x5 => Pt X 0 0 69 M [(0, .ref a0), (5, .int x5)] [])) (un1 (fun x3 => Pt X 0 0 86 M [(0, .ref a0), (1, .int x1), (2, .int x2), (3, .int x3), (4, .int x4)] [])))
def X8_crew_b33 (M : Wo) (a0 : Nat) (x1 : Int32) (x2 : Int32) (x4 : Int32) (x3 : Int32) (x5 : Int32) : Option ((Int32 × Int32) ⊕ (Int32 ⊕ Int32)) :=
  (gI M a0 8 9).bind fun v5 => if v5 ≤ x5 then (some (.inr (.inr x3))) else ((gR M a0 8 12).bind fun w7 => (lA M 0 w7 x5).bind fun v9 => if v9 = x1 then ((X8_begin M a0 x5).bind fun v12 => if v12 = x4 then (if x3 = x2 then (some (.inr (.inl x5))) else (some (.inl ((x3 + 1), (x5 + 1))))) else (some (.inl (x3, (x5 + 1))))) else (some (.inl (x3, (x5 + 1)))))
theorem X8_crew_b33_w {X : Cx} (G : Gd X yX8_crew cX8_crew wsX8_crew 6 (some .int) rX8_crew) {M : Wo} {a0 : Nat} {x1 : Int32} {x2 : Int32} {x4 : Int32} {x3 : Int32} {x5 : Int32} {o : ((Int32 × Int32) ⊕ (Int32 ⊕ Int32))} (hd : X8_crew_b33 M a0 x1 x2 x4 x3 x5 = some o) (hc : ∀ s9, o = .inl s9 → X8_crew_P33 X M a0 x1 x2 x4 s9) (he : ∀ e9, o = .inr e9 → X8_crew_Z33 X M a0 x1 x2 x4 e9) : Pt X 0 0 33 M [(0, .ref a0), (1, .int x1), (2, .int x2), (3, .int x3), (4, .int x4), (5, .int x5)] [] := by
  unfold X8_crew_b33 at hd
  refine pt_iload G 5 dX8_crew_33 rfl ?_
  refine pt_aload_n G 0 dX8_crew_35 rfl rfl ?_
  obtain ⟨v5, h6, hd⟩ := bnd hd
  refine pt_get G (ci := 8) (j := 9) rfl (by decide) u_X8_crew_X8 m_X8_crew_1 (gI_o h6) dX8_crew_36 ?_
  refine pt_icmp_ge G 86 dX8_crew_39 (by decide) (fun c16 => ?_) (fun c16 => ?_)
  · replace hd := ifp c16 hd
    exact pt_sub [0, 1, 2, 3, 4] rfl (he (.inr x3) (Option.some.inj hd).symm)
  · replace hd := ifn c16 hd
    refine pt_aload_n G 0 dX8_crew_42 rfl rfl ?_
    obtain ⟨w7, h8, hd⟩ := bnd hd
    refine pt_get G (ci := 8) (j := 12) rfl (by decide) u_X8_crew_X8 m_X8_crew_2 (gR_o h8) dX8_crew_43 ?_
    refine pt_iload G 5 dX8_crew_46 rfl ?_
    obtain ⟨v9, h10, hd⟩ := bnd hd
    refine pt_iald G h10 dX8_crew_48 ?_
    refine pt_iload_n G 1 dX8_crew_49 rfl rfl ?_
    refine pt_icmp_ne G 80 dX8_crew_50 (by decide) (fun c15 => ?_) (fun c15 => ?_)
    · replace hd := ifn c15 hd
      refine pt_iinc G 5 (x5 + 1) [(5, .int (x5 + 1)), (0, .ref a0), (1, .int x1), (2, .int x2), (3, .int x3), (4, .int x4)] dX8_crew_80 rfl (inc_1 _) (by decide) rfl ?_
      refine pt_goto G 33 dX8_crew_83 (by decide) ?_
      exact pt_sub [1, 2, 3, 4, 5, 0] rfl (hc (x3, (x5 + 1)) (Option.some.inj hd).symm)
    · replace hd := ifp c15 hd
      refine pt_aload_n G 0 dX8_crew_53 rfl rfl ?_
      refine pt_iload G 5 dX8_crew_54 rfl ?_
      obtain ⟨v12, h11, hd⟩ := bnd hd
      refine X8_begin_v G gX8_crew_X8_begin ⟨(Nat.le_of_ble_eq_true rfl), (Nat.le_of_ble_eq_true rfl)⟩ h11 dX8_crew_56 (Nat.le_of_ble_eq_true rfl) ⟨(Nat.le_of_ble_eq_true rfl), (Nat.le_of_ble_eq_true rfl)⟩ ?_
      refine pt_iload G 4 dX8_crew_59 rfl ?_
      refine pt_icmp_ne G 80 dX8_crew_61 (by decide) (fun c14 => ?_) (fun c14 => ?_)
      · replace hd := ifn c14 hd
        refine pt_iinc G 5 (x5 + 1) [(5, .int (x5 + 1)), (0, .ref a0), (1, .int x1), (2, .int x2), (3, .int x3), (4, .int x4)] dX8_crew_80 rfl (inc_1 _) (by decide) rfl ?_
        refine pt_goto G 33 dX8_crew_83 (by decide) ?_
        exact pt_sub [1, 2, 3, 4, 5, 0] rfl (hc (x3, (x5 + 1)) (Option.some.inj hd).symm)
      · replace hd := ifp c14 hd
        refine pt_iload_n G 3 dX8_crew_64 rfl rfl ?_
        refine pt_iload_n G 2 dX8_crew_65 rfl rfl ?_
        refine pt_icmp_ne G 77 dX8_crew_66 (by decide) (fun c13 => ?_) (fun c13 => ?_)
        · replace hd := ifn c13 hd
          refine pt_iinc G 3 (x3 + 1) [(3, .int (x3 + 1)), (0, .ref a0), (1, .int x1), (2, .int x2), (4, .int x4), (5, .int x5)] dX8_crew_77 rfl (inc_1 _) (by decide) rfl ?_
          refine pt_iinc G 5 (x5 + 1) [(5, .int (x5 + 1)), (3, .int (x3 + 1)), (0, .ref a0), (1, .int x1), (2, .int x2), (4, .int x4)] dX8_crew_80 rfl (inc_1 _) (by decide) rfl ?_
          refine pt_goto G 33 dX8_crew_83 (by decide) ?_
          exact pt_sub [2, 3, 4, 1, 5, 0] rfl (hc ((x3 + 1), (x5 + 1)) (Option.some.inj hd).symm)
        · replace hd := ifp c13 hd
          exact pt_sub [0, 5] rfl (he (.inl x5) (Option.some.inj hd).symm)
theorem X8_crew_w33_w {X : Cx} (G : Gd X yX8_crew cX8_crew wsX8_crew 6 (some .int) rX8_crew) {M : Wo} {a0 : Nat} {x1 : Int32} {x2 : Int32} {x4 : Int32} (n9 : Nat) (s9 : (Int32 × Int32)) (e9 : (Int32 ⊕ Int32)) (hw : wloop (un2 (X8_crew_b33 M a0 x1 x2 x4)) n9 s9 = some e9) (hz : X8_crew_Z33 X M a0 x1 x2 x4 e9) : X8_crew_P33 X M a0 x1 x2 x4 s9 := by
  refine wl_ind (P := X8_crew_P33 X M a0 x1 x2 x4) (Z := X8_crew_Z33 X M a0 x1 x2 x4) ?_ n9 s9 e9 hw hz
  intro s9 o9 hd hc he
  obtain ⟨x3, x5⟩ := s9
  exact X8_crew_b33_w G hd hc he
def X8_crew_b22 (M : Wo) (a0 : Nat) (x1 : Int32) (x2 : Int32) (x3 : Int32) (x4 : Int32) : Option ((Int32 × Int32) ⊕ (Int32 ⊕ Unit)) :=
  if (200 : Int32) < x4 then (some (.inr (.inr ()))) else ((wloop (un2 (X8_crew_b33 M a0 x1 x2 x4)) FU (x3, (0 : Int32))).bind (sOf (fun v17 => some (.inr (.inl v17))) (fun v18 => some (.inl (v18, (x4 + 1))))))
theorem X8_crew_b22_w {X : Cx} (G : Gd X yX8_crew cX8_crew wsX8_crew 6 (some .int) rX8_crew) {M : Wo} {a0 : Nat} {x1 : Int32} {x2 : Int32} {x3 : Int32} {x4 : Int32} {o : ((Int32 × Int32) ⊕ (Int32 ⊕ Unit))} (hd : X8_crew_b22 M a0 x1 x2 x3 x4 = some o) (hc : ∀ s9, o = .inl s9 → X8_crew_P22 X M a0 x1 x2 s9) (he : ∀ e9, o = .inr e9 → X8_crew_Z22 X M a0 x1 x2 e9) : Pt X 0 0 22 M [(0, .ref a0), (1, .int x1), (2, .int x2), (3, .int x3), (4, .int x4)] [] := by
  unfold X8_crew_b22 at hd
  refine pt_iload G 4 dX8_crew_22 rfl ?_
  refine pt_sipush G (200 : Int32) dX8_crew_24 si_200 ?_
  refine pt_icmp_gt G 92 dX8_crew_27 (by decide) (fun c21 => ?_) (fun c21 => ?_)
  · replace hd := ifp c21 hd
    exact pt_sub [] rfl (he (.inr ()) (Option.some.inj hd).symm)
  · replace hd := ifn c21 hd
    refine pt_iconst G (0 : Int32) dX8_crew_30 ci_0 ?_
    refine pt_istore G [(5, .int (0 : Int32)), (0, .ref a0), (1, .int x1), (2, .int x2), (3, .int x3), (4, .int x4)] dX8_crew_31 (by decide) rfl ?_
    obtain ⟨e20, hw19, hd⟩ := bnd hd
    rcases e20 with v17 | v18
    · replace hd := sO_1 hd
      refine pt_sub [1, 2, 3, 4, 5, 0] rfl (X8_crew_w33_w G _ _ _ hw19 ?_)
      show Pt X 0 0 _ _ _ []
      exact pt_sub [0, 1] rfl (he (.inl v17) (Option.some.inj hd).symm)
    · replace hd := sO_2 hd
      refine pt_sub [1, 2, 3, 4, 5, 0] rfl (X8_crew_w33_w G _ _ _ hw19 ?_)
      show Pt X 0 0 _ _ _ []
      refine pt_iinc G 4 (x4 + 1) [(4, .int (x4 + 1)), (0, .ref a0), (1, .int x1), (2, .int x2), (3, .int v18)] dX8_crew_86 rfl (inc_1 _) (by decide) rfl ?_
      refine pt_goto G 22 dX8_crew_89 (by decide) ?_
      exact pt_sub [1, 2, 3, 4, 0] rfl (hc (v18, (x4 + 1)) (Option.some.inj hd).symm)
theorem X8_crew_w22_w {X : Cx} (G : Gd X yX8_crew cX8_crew wsX8_crew 6 (some .int) rX8_crew) {M : Wo} {a0 : Nat} {x1 : Int32} {x2 : Int32} (n9 : Nat) (s9 : (Int32 × Int32)) (e9 : (Int32 ⊕ Unit)) (hw : wloop (un2 (X8_crew_b22 M a0 x1 x2)) n9 s9 = some e9) (hz : X8_crew_Z22 X M a0 x1 x2 e9) : X8_crew_P22 X M a0 x1 x2 s9 := by
  refine wl_ind (P := X8_crew_P22 X M a0 x1 x2) (Z := X8_crew_Z22 X M a0 x1 x2) ?_ n9 s9 e9 hw hz
  intro s9 o9 hd hc he
  obtain ⟨x3, x4⟩ := s9
  exact X8_crew_b22_w G hd hc he
def X8_crew (M : Wo) (a0 : Nat) (x1 : Int32) (x2 : Int32) : Option (Int32 × Wo) :=
  (ckO M a0 8).bind fun _ => (X8_in M x1 (0 : Int32) (9 : Int32)).bind fun v2 => if v2 = 0 then (some ((-2 : Int32), M)) else ((X8_layCrew M a0).bind fun M4 => (wloop (un2 (X8_crew_b22 M4 a0 x1 x2)) FU ((0 : Int32), (0 : Int32))).bind (sOf (fun v22 => (gR M4 a0 8 7).bind fun w23 => (lA M4 0 w23 v22).bind fun v25 => some (v25, M4)) (fun _ => some ((-6 : Int32), M4))))
theorem X8_crew_w {X : Cx} (G : Gd X yX8_crew cX8_crew wsX8_crew 6 (some .int) rX8_crew) {M : Wo} {a0 : Nat} {x1 : Int32} {x2 : Int32} {o : (Int32 × Wo)} (hd : X8_crew M a0 x1 x2 = some o) (hQ : Qi X o.1 o.2 0 0) : Pt X 0 0 0 M [(0, .ref a0), (1, .int x1), (2, .int x2)] [] := by
  unfold X8_crew at hd
  obtain ⟨_, _, hd⟩ := bnd hd
  refine pt_iload_n G 1 dX8_crew_0 rfl rfl ?_
  refine pt_iconst G (0 : Int32) dX8_crew_1 ci_0 ?_
  refine pt_bipush G (9 : Int32) dX8_crew_2 bi_9 ?_
  obtain ⟨v2, h1, hd⟩ := bnd hd
  refine X8_in_v G gX8_crew_X8_in ⟨(Nat.le_of_ble_eq_true rfl), (Nat.le_of_ble_eq_true rfl)⟩ h1 dX8_crew_4 (Nat.le_of_ble_eq_true rfl) ⟨(Nat.le_of_ble_eq_true rfl), (Nat.le_of_ble_eq_true rfl)⟩ ?_
  refine pt_if_ne G 13 dX8_crew_7 (by decide) (fun c29 => ?_) (fun c29 => ?_)
  · replace hd := ifn c29 hd
    refine pt_aload_n G 0 dX8_crew_13 rfl rfl ?_
    obtain ⟨M4, h3, hd⟩ := bnd hd
    refine X8_layCrew_v G gX8_crew_X8_layCrew ⟨(Nat.le_of_ble_eq_true rfl), (Nat.le_of_ble_eq_true rfl)⟩ h3 dX8_crew_14 (Nat.le_of_ble_eq_true rfl) ⟨(Nat.le_of_ble_eq_true rfl), (Nat.le_of_ble_eq_true rfl)⟩ ?_
    refine pt_iconst G (0 : Int32) dX8_crew_17 ci_0 ?_
    refine pt_istore_n G [(3, .int (0 : Int32)), (0, .ref a0), (1, .int x1), (2, .int x2)] dX8_crew_18 rfl (by decide) rfl ?_
    refine pt_iconst G (0 : Int32) dX8_crew_19 ci_0 ?_
    refine pt_istore G [(4, .int (0 : Int32)), (3, .int (0 : Int32)), (0, .ref a0), (1, .int x1), (2, .int x2)] dX8_crew_20 (by decide) rfl ?_
    obtain ⟨e28, hw27, hd⟩ := bnd hd
    rcases e28 with v22 | _
    · replace hd := sO_1 hd
      refine pt_sub [2, 3, 4, 1, 0] rfl (X8_crew_w22_w G _ _ _ hw27 ?_)
      show Pt X 0 0 _ _ _ []
      refine pt_aload_n G 0 dX8_crew_69 rfl rfl ?_
      obtain ⟨w23, h24, hd⟩ := bnd hd
      refine pt_get G (ci := 8) (j := 7) rfl (by decide) u_X8_crew_X8 m_X8_crew_3 (gR_o h24) dX8_crew_70 ?_
      refine pt_iload G 1 dX8_crew_73 rfl ?_
      obtain ⟨v25, h26, hd⟩ := bnd hd
      refine pt_iald G h26 dX8_crew_75 ?_
      cases hd
      exact pt_iret G hQ dX8_crew_76
    · replace hd := sO_2 hd
      refine pt_sub [2, 3, 4, 1, 0] rfl (X8_crew_w22_w G _ _ _ hw27 ?_)
      show Pt X 0 0 _ _ _ []
      refine pt_bipush G (-6 : Int32) dX8_crew_92 bi_m6 ?_
      cases hd
      exact pt_iret G hQ dX8_crew_94
  · replace hd := ifp c29 hd
    refine pt_bipush G (-2 : Int32) dX8_crew_10 bi_m2 ?_
    cases hd
    exact pt_iret G hQ dX8_crew_12
theorem X8_crew_c {l : Launch} {D : va_G} {dA : Nat → ClassId} {b : Nat} {M : Wo} {a0 : Nat} {x1 : Int32} {x2 : Int32} {r : Int32} {M2 : Wo} (h : X8_crew M a0 x1 x2 = some (r, M2)) : Met l yX8_crew wsX8_crew rX8_crew (va_Pc [.ref a0, .int x1, .int x2] (Wd D dA b M)) (Ei D dA b r M2) 0 0 (Ab b) := met_i (by decide) rfl (Nat.le_of_ble_eq_true rfl) (fun X G hN hQ => X8_crew_w G h hQ)
theorem X8_crew_v {X : Cx} {y : MethodName} {cc : ByteArray} {Ts : List Cond} {nL : Nat} {ret : Option FieldType} {R : Room} (G : Gd X y cc Ts nL ret R) {index : Nat} (hg : GoodIn Ts (wsV y.cls index RX8 yX8_crew wsX8_crew)) (hR : rX8_crew.frames + 1 ≤ R.frames ∧ 8 + (6 + 11) + rX8_crew.locals ≤ R.locals) {k n pc : Nat} {M : Wo} {lv : List (Nat × Value)} {st : List Value} {a0 : Nat} {x1 : Int32} {x2 : Int32} {r : Int32} {M2 : Wo} (hv : X8_crew M a0 x1 x2 = some (r, M2)) (hd : decode cc pc = .ok (.invokevirtual index, 3)) (h8 : (st.map fun v => v.category).sum ≤ 8) (hf : k ≤ R.cells ∧ n ≤ R.slots) (kk : Pt X k n (pc + 3) M2 lv (.int r :: st)) : Pt X k n pc M lv (.int x2 :: .int x1 :: .ref a0 :: st) := pt_cVi (ci := 8) (nA := 2) (As := [.int x1, .int x2]) G (X8_crew_c hv) hg rfl rfl rfl (by decide +kernel) hR rfl (rcv hv) rfl rfl h8 hd hf kk
abbrev rX8_image : Room := { frames := 1, cells := 0, slots := 0, locals := 22 }
theorem m_X8_image_2 : Cond.fieldLink RX8 7 "StageLinesModel" "state" "[I" ∈ wsX8_image := List.mem_of_getElem? (i := 2) rfl
theorem u_X8_image_X8 : ∀ w ∈ u_ws RX8 TX8 13, w ∈ wsX8_image := mem_r [8, 9, 10, 11, 12, 13, 14, 15, 16, 17, 18, 19, 20] (by decide +kernel)
theorem m_X8_image_1 : Cond.fieldLink RX8 13 "StageLinesModel" "images" "[I" ∈ wsX8_image := List.mem_of_getElem? (i := 1) rfl
theorem m_X8_image_3 : Cond.fieldLink RX8 16 "StageLinesModel" "isKept" "[Z" ∈ wsX8_image := List.mem_of_getElem? (i := 3) rfl
abbrev X8_image_P14 (X : Cx) (a0 : Nat) (x1 : Int32) : (Wo × Int32) → Prop := un2 (fun M x2 => Pt X 0 0 14 M [(0, .ref a0), (1, .int x1), (2, .int x2)] [])
abbrev X8_image_Z14 (X : Cx) (a0 : Nat) (x1 : Int32) : Wo → Prop := (un1 (fun M => Pt X 0 0 45 M [(0, .ref a0), (1, .int x1)] []))
def X8_image_b14 (a0 : Nat) (x1 : Int32) (M : Wo) (x2 : Int32) : Option ((Wo × Int32) ⊕ Wo) :=
  if (212 : Int32) ≤ x2 then (some (.inr M)) else ((gR M a0 8 1).bind fun w3 => (gR M a0 8 0).bind fun w5 => (lA M 0 w5 x2).bind fun v7 => (sA M w3 (((212 : Int32) * x1) + x2) v7).bind fun M9 => some (.inl (M9, (x2 + 1))))
theorem X8_image_b14_w {X : Cx} (G : Gd X yX8_image cX8_image wsX8_image 3 (some .int) rX8_image) {a0 : Nat} {x1 : Int32} {M : Wo} {x2 : Int32} {o : ((Wo × Int32) ⊕ Wo)} (hd : X8_image_b14 a0 x1 M x2 = some o) (hc : ∀ s9, o = .inl s9 → X8_image_P14 X a0 x1 s9) (he : ∀ e9, o = .inr e9 → X8_image_Z14 X a0 x1 e9) : Pt X 0 0 14 M [(0, .ref a0), (1, .int x1), (2, .int x2)] [] := by
  unfold X8_image_b14 at hd
  refine pt_iload_n G 2 dX8_image_14 rfl rfl ?_
  refine pt_sipush G (212 : Int32) dX8_image_15 si_212 ?_
  refine pt_icmp_ge G 45 dX8_image_18 (by decide) (fun c11 => ?_) (fun c11 => ?_)
  · replace hd := ifp c11 hd
    exact pt_sub [0, 1] rfl (he M (Option.some.inj hd).symm)
  · replace hd := ifn c11 hd
    refine pt_aload_n G 0 dX8_image_21 rfl rfl ?_
    obtain ⟨w3, h4, hd⟩ := bnd hd
    refine pt_get G (ci := 8) (j := 1) rfl (by decide) u_X8_image_X8 m_X8_image_1 (gR_o h4) dX8_image_22 ?_
    refine pt_sipush G (212 : Int32) dX8_image_25 si_212 ?_
    refine pt_iload_n G 1 dX8_image_28 rfl rfl ?_
    refine pt_imul G dX8_image_29 ?_
    refine pt_iload_n G 2 dX8_image_30 rfl rfl ?_
    refine pt_iadd G dX8_image_31 ?_
    refine pt_aload_n G 0 dX8_image_32 rfl rfl ?_
    obtain ⟨w5, h6, hd⟩ := bnd hd
    refine pt_get G (ci := 8) (j := 0) rfl (by decide) u_X8_image_X8 m_X8_image_2 (gR_o h6) dX8_image_33 ?_
    refine pt_iload_n G 2 dX8_image_36 rfl rfl ?_
    obtain ⟨v7, h8, hd⟩ := bnd hd
    refine pt_iald G h8 dX8_image_37 ?_
    obtain ⟨M9, h10, hd⟩ := bnd hd
    refine pt_iast G h10 dX8_image_38 ?_
    refine pt_iinc G 2 (x2 + 1) [(2, .int (x2 + 1)), (0, .ref a0), (1, .int x1)] dX8_image_39 rfl (inc_1 _) (by decide) rfl ?_
    refine pt_goto G 14 dX8_image_42 (by decide) ?_
    exact pt_sub [1, 2, 0] rfl (hc (M9, (x2 + 1)) (Option.some.inj hd).symm)
theorem X8_image_w14_w {X : Cx} (G : Gd X yX8_image cX8_image wsX8_image 3 (some .int) rX8_image) {a0 : Nat} {x1 : Int32} (n9 : Nat) (s9 : (Wo × Int32)) (e9 : Wo) (hw : wloop (un2 (X8_image_b14 a0 x1)) n9 s9 = some e9) (hz : X8_image_Z14 X a0 x1 e9) : X8_image_P14 X a0 x1 s9 := by
  refine wl_ind (P := X8_image_P14 X a0 x1) (Z := X8_image_Z14 X a0 x1) ?_ n9 s9 e9 hw hz
  intro s9 o9 hd hc he
  obtain ⟨M, x2⟩ := s9
  exact X8_image_b14_w G hd hc he
def X8_image (M : Wo) (a0 : Nat) (x1 : Int32) : Option (Int32 × Wo) :=
  (ckO M a0 8).bind fun _ => (X8_in M x1 (0 : Int32) (1 : Int32)).bind fun v2 => if v2 = 0 then (some ((-2 : Int32), M)) else ((wloop (un2 (X8_image_b14 a0 x1)) FU (M, (0 : Int32))).bind fun M12 => (gR M12 a0 8 2).bind fun w13 => (sZ M12 w13 x1 (1 : Int32)).bind fun M15 => some ((1 : Int32), M15))
theorem X8_image_w {X : Cx} (G : Gd X yX8_image cX8_image wsX8_image 3 (some .int) rX8_image) {M : Wo} {a0 : Nat} {x1 : Int32} {o : (Int32 × Wo)} (hd : X8_image M a0 x1 = some o) (hQ : Qi X o.1 o.2 0 0) : Pt X 0 0 0 M [(0, .ref a0), (1, .int x1)] [] := by
  unfold X8_image at hd
  obtain ⟨_, _, hd⟩ := bnd hd
  refine pt_iload_n G 1 dX8_image_0 rfl rfl ?_
  refine pt_iconst G (0 : Int32) dX8_image_1 ci_0 ?_
  refine pt_iconst G (1 : Int32) dX8_image_2 ci_1 ?_
  obtain ⟨v2, h1, hd⟩ := bnd hd
  refine X8_in_v G gX8_image_X8_in ⟨(Nat.le_of_ble_eq_true rfl), (Nat.le_of_ble_eq_true rfl)⟩ h1 dX8_image_3 (Nat.le_of_ble_eq_true rfl) ⟨(Nat.le_of_ble_eq_true rfl), (Nat.le_of_ble_eq_true rfl)⟩ ?_
  refine pt_if_ne G 12 dX8_image_6 (by decide) (fun c18 => ?_) (fun c18 => ?_)
  · replace hd := ifn c18 hd
    refine pt_iconst G (0 : Int32) dX8_image_12 ci_0 ?_
    refine pt_istore_n G [(2, .int (0 : Int32)), (0, .ref a0), (1, .int x1)] dX8_image_13 rfl (by decide) rfl ?_
    obtain ⟨M12, hw17, hd⟩ := bnd hd
    refine pt_sub [1, 2, 0] rfl (X8_image_w14_w G _ _ _ hw17 ?_)
    show Pt X 0 0 _ _ _ []
    refine pt_aload_n G 0 dX8_image_45 rfl rfl ?_
    obtain ⟨w13, h14, hd⟩ := bnd hd
    refine pt_get G (ci := 8) (j := 2) rfl (by decide) u_X8_image_X8 m_X8_image_3 (gR_o h14) dX8_image_46 ?_
    refine pt_iload_n G 1 dX8_image_49 rfl rfl ?_
    refine pt_iconst G (1 : Int32) dX8_image_50 ci_1 ?_
    obtain ⟨M15, h16, hd⟩ := bnd hd
    refine pt_zast G h16 dX8_image_51 ?_
    refine pt_iconst G (1 : Int32) dX8_image_52 ci_1 ?_
    cases hd
    exact pt_iret G hQ dX8_image_53
  · replace hd := ifp c18 hd
    refine pt_bipush G (-2 : Int32) dX8_image_9 bi_m2 ?_
    cases hd
    exact pt_iret G hQ dX8_image_11
theorem X8_image_c {l : Launch} {D : va_G} {dA : Nat → ClassId} {b : Nat} {M : Wo} {a0 : Nat} {x1 : Int32} {r : Int32} {M2 : Wo} (h : X8_image M a0 x1 = some (r, M2)) : Met l yX8_image wsX8_image rX8_image (va_Pc [.ref a0, .int x1] (Wd D dA b M)) (Ei D dA b r M2) 0 0 (Ab b) := met_i (by decide) rfl (Nat.le_of_ble_eq_true rfl) (fun X G hN hQ => X8_image_w G h hQ)
theorem X8_image_v {X : Cx} {y : MethodName} {cc : ByteArray} {Ts : List Cond} {nL : Nat} {ret : Option FieldType} {R : Room} (G : Gd X y cc Ts nL ret R) {index : Nat} (hg : GoodIn Ts (wsV y.cls index RX8 yX8_image wsX8_image)) (hR : rX8_image.frames + 1 ≤ R.frames ∧ 8 + (3 + 11) + rX8_image.locals ≤ R.locals) {k n pc : Nat} {M : Wo} {lv : List (Nat × Value)} {st : List Value} {a0 : Nat} {x1 : Int32} {r : Int32} {M2 : Wo} (hv : X8_image M a0 x1 = some (r, M2)) (hd : decode cc pc = .ok (.invokevirtual index, 3)) (h8 : (st.map fun v => v.category).sum ≤ 8) (hf : k ≤ R.cells ∧ n ≤ R.slots) (kk : Pt X k n (pc + 3) M2 lv (.int r :: st)) : Pt X k n pc M lv (.int x1 :: .ref a0 :: st) := pt_cVi (ci := 8) (nA := 1) (As := [.int x1]) G (X8_image_c hv) hg rfl rfl rfl (by decide +kernel) hR rfl (rcv hv) rfl rfl h8 hd hf kk
abbrev rX8_restore : Room := { frames := 1, cells := 0, slots := 0, locals := 22 }
theorem m_X8_restore_3 : Cond.fieldLink RX8 13 "StageLinesModel" "images" "[I" ∈ wsX8_restore := List.mem_of_getElem? (i := 3) rfl
theorem u_X8_restore_X8 : ∀ w ∈ u_ws RX8 TX8 13, w ∈ wsX8_restore := mem_r [8, 9, 10, 11, 12, 13, 14, 15, 16, 17, 18, 19, 20] (by decide +kernel)
theorem m_X8_restore_2 : Cond.fieldLink RX8 7 "StageLinesModel" "state" "[I" ∈ wsX8_restore := List.mem_of_getElem? (i := 2) rfl
theorem m_X8_restore_1 : Cond.fieldLink RX8 16 "StageLinesModel" "isKept" "[Z" ∈ wsX8_restore := List.mem_of_getElem? (i := 1) rfl
abbrev X8_restore_P26 (X : Cx) (a0 : Nat) (x1 : Int32) : (Wo × Int32) → Prop := un2 (fun M x2 => Pt X 0 0 26 M [(0, .ref a0), (1, .int x1), (2, .int x2)] [])
abbrev X8_restore_Z26 (X : Cx) (a0 : Nat) (x1 : Int32) : Wo → Prop := (un1 (fun M => Pt X 0 0 57 M [] []))
def X8_restore_b26 (a0 : Nat) (x1 : Int32) (M : Wo) (x2 : Int32) : Option ((Wo × Int32) ⊕ Wo) :=
  if (212 : Int32) ≤ x2 then (some (.inr M)) else ((gR M a0 8 0).bind fun w7 => (gR M a0 8 1).bind fun w9 => (lA M 0 w9 (((212 : Int32) * x1) + x2)).bind fun v11 => (sA M w7 x2 v11).bind fun M13 => some (.inl (M13, (x2 + 1))))
theorem X8_restore_b26_w {X : Cx} (G : Gd X yX8_restore cX8_restore wsX8_restore 3 (some .int) rX8_restore) {a0 : Nat} {x1 : Int32} {M : Wo} {x2 : Int32} {o : ((Wo × Int32) ⊕ Wo)} (hd : X8_restore_b26 a0 x1 M x2 = some o) (hc : ∀ s9, o = .inl s9 → X8_restore_P26 X a0 x1 s9) (he : ∀ e9, o = .inr e9 → X8_restore_Z26 X a0 x1 e9) : Pt X 0 0 26 M [(0, .ref a0), (1, .int x1), (2, .int x2)] [] := by
  unfold X8_restore_b26 at hd
  refine pt_iload_n G 2 dX8_restore_26 rfl rfl ?_
  refine pt_sipush G (212 : Int32) dX8_restore_27 si_212 ?_
  refine pt_icmp_ge G 57 dX8_restore_30 (by decide) (fun c15 => ?_) (fun c15 => ?_)
  · replace hd := ifp c15 hd
    exact pt_sub [] rfl (he M (Option.some.inj hd).symm)
  · replace hd := ifn c15 hd
    refine pt_aload_n G 0 dX8_restore_33 rfl rfl ?_
    obtain ⟨w7, h8, hd⟩ := bnd hd
    refine pt_get G (ci := 8) (j := 0) rfl (by decide) u_X8_restore_X8 m_X8_restore_2 (gR_o h8) dX8_restore_34 ?_
    refine pt_iload_n G 2 dX8_restore_37 rfl rfl ?_
    refine pt_aload_n G 0 dX8_restore_38 rfl rfl ?_
    obtain ⟨w9, h10, hd⟩ := bnd hd
    refine pt_get G (ci := 8) (j := 1) rfl (by decide) u_X8_restore_X8 m_X8_restore_3 (gR_o h10) dX8_restore_39 ?_
    refine pt_sipush G (212 : Int32) dX8_restore_42 si_212 ?_
    refine pt_iload_n G 1 dX8_restore_45 rfl rfl ?_
    refine pt_imul G dX8_restore_46 ?_
    refine pt_iload_n G 2 dX8_restore_47 rfl rfl ?_
    refine pt_iadd G dX8_restore_48 ?_
    obtain ⟨v11, h12, hd⟩ := bnd hd
    refine pt_iald G h12 dX8_restore_49 ?_
    obtain ⟨M13, h14, hd⟩ := bnd hd
    refine pt_iast G h14 dX8_restore_50 ?_
    refine pt_iinc G 2 (x2 + 1) [(2, .int (x2 + 1)), (0, .ref a0), (1, .int x1)] dX8_restore_51 rfl (inc_1 _) (by decide) rfl ?_
    refine pt_goto G 26 dX8_restore_54 (by decide) ?_
    exact pt_sub [1, 2, 0] rfl (hc (M13, (x2 + 1)) (Option.some.inj hd).symm)
theorem X8_restore_w26_w {X : Cx} (G : Gd X yX8_restore cX8_restore wsX8_restore 3 (some .int) rX8_restore) {a0 : Nat} {x1 : Int32} (n9 : Nat) (s9 : (Wo × Int32)) (e9 : Wo) (hw : wloop (un2 (X8_restore_b26 a0 x1)) n9 s9 = some e9) (hz : X8_restore_Z26 X a0 x1 e9) : X8_restore_P26 X a0 x1 s9 := by
  refine wl_ind (P := X8_restore_P26 X a0 x1) (Z := X8_restore_Z26 X a0 x1) ?_ n9 s9 e9 hw hz
  intro s9 o9 hd hc he
  obtain ⟨M, x2⟩ := s9
  exact X8_restore_b26_w G hd hc he
def X8_restore (M : Wo) (a0 : Nat) (x1 : Int32) : Option (Int32 × Wo) :=
  (ckO M a0 8).bind fun _ => (X8_in M x1 (0 : Int32) (1 : Int32)).bind fun v2 => if v2 = 0 then (some ((-2 : Int32), M)) else ((gR M a0 8 2).bind fun w3 => (lA M 1 w3 x1).bind fun v5 => if v5 = 0 then (some ((-3 : Int32), M)) else ((wloop (un2 (X8_restore_b26 a0 x1)) FU (M, (0 : Int32))).bind fun M16 => some ((1 : Int32), M16)))
theorem X8_restore_w {X : Cx} (G : Gd X yX8_restore cX8_restore wsX8_restore 3 (some .int) rX8_restore) {M : Wo} {a0 : Nat} {x1 : Int32} {o : (Int32 × Wo)} (hd : X8_restore M a0 x1 = some o) (hQ : Qi X o.1 o.2 0 0) : Pt X 0 0 0 M [(0, .ref a0), (1, .int x1)] [] := by
  unfold X8_restore at hd
  obtain ⟨_, _, hd⟩ := bnd hd
  refine pt_iload_n G 1 dX8_restore_0 rfl rfl ?_
  refine pt_iconst G (0 : Int32) dX8_restore_1 ci_0 ?_
  refine pt_iconst G (1 : Int32) dX8_restore_2 ci_1 ?_
  obtain ⟨v2, h1, hd⟩ := bnd hd
  refine X8_in_v G gX8_restore_X8_in ⟨(Nat.le_of_ble_eq_true rfl), (Nat.le_of_ble_eq_true rfl)⟩ h1 dX8_restore_3 (Nat.le_of_ble_eq_true rfl) ⟨(Nat.le_of_ble_eq_true rfl), (Nat.le_of_ble_eq_true rfl)⟩ ?_
  refine pt_if_ne G 12 dX8_restore_6 (by decide) (fun c19 => ?_) (fun c19 => ?_)
  · replace hd := ifn c19 hd
    refine pt_aload_n G 0 dX8_restore_12 rfl rfl ?_
    obtain ⟨w3, h4, hd⟩ := bnd hd
    refine pt_get G (ci := 8) (j := 2) rfl (by decide) u_X8_restore_X8 m_X8_restore_1 (gR_o h4) dX8_restore_13 ?_
    refine pt_iload_n G 1 dX8_restore_16 rfl rfl ?_
    obtain ⟨v5, h6, hd⟩ := bnd hd
    refine pt_zald G h6 dX8_restore_17 ?_
    refine pt_if_ne G 24 dX8_restore_18 (by decide) (fun c18 => ?_) (fun c18 => ?_)
    · replace hd := ifn c18 hd
      refine pt_iconst G (0 : Int32) dX8_restore_24 ci_0 ?_
      refine pt_istore_n G [(2, .int (0 : Int32)), (0, .ref a0), (1, .int x1)] dX8_restore_25 rfl (by decide) rfl ?_
      obtain ⟨M16, hw17, hd⟩ := bnd hd
      refine pt_sub [1, 2, 0] rfl (X8_restore_w26_w G _ _ _ hw17 ?_)
      show Pt X 0 0 _ _ _ []
      refine pt_iconst G (1 : Int32) dX8_restore_57 ci_1 ?_
      cases hd
      exact pt_iret G hQ dX8_restore_58
    · replace hd := ifp c18 hd
      refine pt_bipush G (-3 : Int32) dX8_restore_21 bi_m3 ?_
      cases hd
      exact pt_iret G hQ dX8_restore_23
  · replace hd := ifp c19 hd
    refine pt_bipush G (-2 : Int32) dX8_restore_9 bi_m2 ?_
    cases hd
    exact pt_iret G hQ dX8_restore_11
theorem X8_restore_c {l : Launch} {D : va_G} {dA : Nat → ClassId} {b : Nat} {M : Wo} {a0 : Nat} {x1 : Int32} {r : Int32} {M2 : Wo} (h : X8_restore M a0 x1 = some (r, M2)) : Met l yX8_restore wsX8_restore rX8_restore (va_Pc [.ref a0, .int x1] (Wd D dA b M)) (Ei D dA b r M2) 0 0 (Ab b) := met_i (by decide) rfl (Nat.le_of_ble_eq_true rfl) (fun X G hN hQ => X8_restore_w G h hQ)
theorem X8_restore_v {X : Cx} {y : MethodName} {cc : ByteArray} {Ts : List Cond} {nL : Nat} {ret : Option FieldType} {R : Room} (G : Gd X y cc Ts nL ret R) {index : Nat} (hg : GoodIn Ts (wsV y.cls index RX8 yX8_restore wsX8_restore)) (hR : rX8_restore.frames + 1 ≤ R.frames ∧ 8 + (3 + 11) + rX8_restore.locals ≤ R.locals) {k n pc : Nat} {M : Wo} {lv : List (Nat × Value)} {st : List Value} {a0 : Nat} {x1 : Int32} {r : Int32} {M2 : Wo} (hv : X8_restore M a0 x1 = some (r, M2)) (hd : decode cc pc = .ok (.invokevirtual index, 3)) (h8 : (st.map fun v => v.category).sum ≤ 8) (hf : k ≤ R.cells ∧ n ≤ R.slots) (kk : Pt X k n (pc + 3) M2 lv (.int r :: st)) : Pt X k n pc M lv (.int x1 :: .ref a0 :: st) := pt_cVi (ci := 8) (nA := 1) (As := [.int x1]) G (X8_restore_c hv) hg rfl rfl rfl (by decide +kernel) hR rfl (rcv hv) rfl rfl h8 hd hf kk
abbrev rX8_evenBars : Room := { frames := 3, cells := 0, slots := 0, locals := 68 }
abbrev X8_evenBars_P4 (X : Cx) (M : Wo) (a0 : Nat) : (Int32 × Int32) → Prop := un2 (fun x1 x2 => Pt X 0 0 4 M [(0, .ref a0), (1, .int x1), (2, .int x2)] [])
abbrev X8_evenBars_Z4 (X : Cx) (M : Wo) (a0 : Nat) : Int32 → Prop := (un1 (fun x1 => Pt X 0 0 32 M [(1, .int x1)] []))
def X8_evenBars_b4 (M : Wo) (a0 : Nat) (x1 : Int32) (x2 : Int32) : Option ((Int32 × Int32) ⊕ Int32) :=
  if (10 : Int32) ≤ x2 then (some (.inr x1)) else ((X8_isEven M a0 x2).bind fun v2 => if v2 = 0 then (some (.inl ((x1 + (0 : Int32)), (x2 + 1)))) else (some (.inl ((x1 + (1 : Int32)), (x2 + 1)))))
theorem X8_evenBars_b4_w {X : Cx} (G : Gd X yX8_evenBars cX8_evenBars wsX8_evenBars 3 (some .int) rX8_evenBars) {M : Wo} {a0 : Nat} {x1 : Int32} {x2 : Int32} {o : ((Int32 × Int32) ⊕ Int32)} (hd : X8_evenBars_b4 M a0 x1 x2 = some o) (hc : ∀ s9, o = .inl s9 → X8_evenBars_P4 X M a0 s9) (he : ∀ e9, o = .inr e9 → X8_evenBars_Z4 X M a0 e9) : Pt X 0 0 4 M [(0, .ref a0), (1, .int x1), (2, .int x2)] [] := by
  unfold X8_evenBars_b4 at hd
  refine pt_iload_n G 2 dX8_evenBars_4 rfl rfl ?_
  refine pt_bipush G (10 : Int32) dX8_evenBars_5 bi_10 ?_
  refine pt_icmp_ge G 32 dX8_evenBars_7 (by decide) (fun c4 => ?_) (fun c4 => ?_)
  · replace hd := ifp c4 hd
    exact pt_sub [1] rfl (he x1 (Option.some.inj hd).symm)
  · replace hd := ifn c4 hd
    refine pt_iload_n G 1 dX8_evenBars_10 rfl rfl ?_
    refine pt_aload_n G 0 dX8_evenBars_11 rfl rfl ?_
    refine pt_iload_n G 2 dX8_evenBars_12 rfl rfl ?_
    obtain ⟨v2, h1, hd⟩ := bnd hd
    refine X8_isEven_v G gX8_evenBars_X8_isEven ⟨(Nat.le_of_ble_eq_true rfl), (Nat.le_of_ble_eq_true rfl)⟩ h1 dX8_evenBars_13 (Nat.le_of_ble_eq_true rfl) ⟨(Nat.le_of_ble_eq_true rfl), (Nat.le_of_ble_eq_true rfl)⟩ ?_
    refine pt_if_eq G 23 dX8_evenBars_16 (by decide) (fun c3 => ?_) (fun c3 => ?_)
    · replace hd := ifp c3 hd
      refine pt_iconst G (0 : Int32) dX8_evenBars_23 ci_0 ?_
      refine pt_iadd G dX8_evenBars_24 ?_
      refine pt_istore_n G [(1, .int (x1 + (0 : Int32))), (0, .ref a0), (2, .int x2)] dX8_evenBars_25 rfl (by decide) rfl ?_
      refine pt_iinc G 2 (x2 + 1) [(2, .int (x2 + 1)), (1, .int (x1 + (0 : Int32))), (0, .ref a0)] dX8_evenBars_26 rfl (inc_1 _) (by decide) rfl ?_
      refine pt_goto G 4 dX8_evenBars_29 (by decide) ?_
      exact pt_sub [2, 1, 0] rfl (hc ((x1 + (0 : Int32)), (x2 + 1)) (Option.some.inj hd).symm)
    · replace hd := ifn c3 hd
      refine pt_iconst G (1 : Int32) dX8_evenBars_19 ci_1 ?_
      refine pt_goto G 24 dX8_evenBars_20 (by decide) ?_
      refine pt_iadd G dX8_evenBars_24 ?_
      refine pt_istore_n G [(1, .int (x1 + (1 : Int32))), (0, .ref a0), (2, .int x2)] dX8_evenBars_25 rfl (by decide) rfl ?_
      refine pt_iinc G 2 (x2 + 1) [(2, .int (x2 + 1)), (1, .int (x1 + (1 : Int32))), (0, .ref a0)] dX8_evenBars_26 rfl (inc_1 _) (by decide) rfl ?_
      refine pt_goto G 4 dX8_evenBars_29 (by decide) ?_
      exact pt_sub [2, 1, 0] rfl (hc ((x1 + (1 : Int32)), (x2 + 1)) (Option.some.inj hd).symm)
theorem X8_evenBars_w4_w {X : Cx} (G : Gd X yX8_evenBars cX8_evenBars wsX8_evenBars 3 (some .int) rX8_evenBars) {M : Wo} {a0 : Nat} (n9 : Nat) (s9 : (Int32 × Int32)) (e9 : Int32) (hw : wloop (un2 (X8_evenBars_b4 M a0)) n9 s9 = some e9) (hz : X8_evenBars_Z4 X M a0 e9) : X8_evenBars_P4 X M a0 s9 := by
  refine wl_ind (P := X8_evenBars_P4 X M a0) (Z := X8_evenBars_Z4 X M a0) ?_ n9 s9 e9 hw hz
  intro s9 o9 hd hc he
  obtain ⟨x1, x2⟩ := s9
  exact X8_evenBars_b4_w G hd hc he
def X8_evenBars (M : Wo) (a0 : Nat) : Option Int32 :=
  (ckO M a0 8).bind fun _ => (wloop (un2 (X8_evenBars_b4 M a0)) FU ((0 : Int32), (0 : Int32))).bind fun v5 => some v5
theorem X8_evenBars_w {X : Cx} (G : Gd X yX8_evenBars cX8_evenBars wsX8_evenBars 3 (some .int) rX8_evenBars) {M : Wo} {a0 : Nat} {o : Int32} (hd : X8_evenBars M a0 = some o) (hQ : Qi X o M 0 0) : Pt X 0 0 0 M [(0, .ref a0)] [] := by
  unfold X8_evenBars at hd
  obtain ⟨_, _, hd⟩ := bnd hd
  refine pt_iconst G (0 : Int32) dX8_evenBars_0 ci_0 ?_
  refine pt_istore_n G [(1, .int (0 : Int32)), (0, .ref a0)] dX8_evenBars_1 rfl (by decide) rfl ?_
  refine pt_iconst G (0 : Int32) dX8_evenBars_2 ci_0 ?_
  refine pt_istore_n G [(2, .int (0 : Int32)), (1, .int (0 : Int32)), (0, .ref a0)] dX8_evenBars_3 rfl (by decide) rfl ?_
  obtain ⟨v5, hw6, hd⟩ := bnd hd
  refine pt_sub [2, 1, 0] rfl (X8_evenBars_w4_w G _ _ _ hw6 ?_)
  show Pt X 0 0 _ _ _ []
  refine pt_iload_n G 0 dX8_evenBars_32 rfl rfl ?_
  cases hd
  exact pt_iret G hQ dX8_evenBars_33
theorem X8_evenBars_c {l : Launch} {D : va_G} {dA : Nat → ClassId} {b : Nat} {M : Wo} {a0 : Nat} {r : Int32} (h : X8_evenBars M a0 = some r) : Met l yX8_evenBars wsX8_evenBars rX8_evenBars (va_Pc [.ref a0] (Wd D dA b M)) (Ei D dA b r M) 0 0 (Ab b) := met_i (by decide) rfl (Nat.le_of_ble_eq_true rfl) (fun X G hN hQ => X8_evenBars_w G h hQ)
theorem X8_evenBars_v {X : Cx} {y : MethodName} {cc : ByteArray} {Ts : List Cond} {nL : Nat} {ret : Option FieldType} {R : Room} (G : Gd X y cc Ts nL ret R) {index : Nat} (hg : GoodIn Ts (wsV y.cls index RX8 yX8_evenBars wsX8_evenBars)) (hR : rX8_evenBars.frames + 1 ≤ R.frames ∧ 8 + (3 + 11) + rX8_evenBars.locals ≤ R.locals) {k n pc : Nat} {M : Wo} {lv : List (Nat × Value)} {st : List Value} {a0 : Nat} {r : Int32} (hv : X8_evenBars M a0 = some r) (hd : decode cc pc = .ok (.invokevirtual index, 3)) (h8 : (st.map fun v => v.category).sum ≤ 8) (hf : k ≤ R.cells ∧ n ≤ R.slots) (kk : Pt X k n (pc + 3) M lv (.int r :: st)) : Pt X k n pc M lv (.ref a0 :: st) := pt_cVi (ci := 8) (nA := 0) (As := []) G (X8_evenBars_c hv) hg rfl rfl rfl (by decide +kernel) hR rfl (rcv hv) rfl rfl h8 hd hf kk
abbrev rX8_nearPairs : Room := { frames := 2, cells := 0, slots := 0, locals := 42 }
abbrev X8_nearPairs_P4 (X : Cx) (M : Wo) (a0 : Nat) : (Int32 × Int32) → Prop := un2 (fun x1 x2 => Pt X 0 0 4 M [(0, .ref a0), (1, .int x1), (2, .int x2)] [])
abbrev X8_nearPairs_Z4 (X : Cx) (M : Wo) (a0 : Nat) : Int32 → Prop := (un1 (fun x1 => Pt X 0 0 49 M [(1, .int x1)] []))
abbrev X8_nearPairs_P14 (X : Cx) (M : Wo) (a0 : Nat) (x2 : Int32) : (Int32 × Int32) → Prop := un2 (fun x1 x3 => Pt X 0 0 14 M [(0, .ref a0), (1, .int x1), (2, .int x2), (3, .int x3)] [])
abbrev X8_nearPairs_Z14 (X : Cx) (M : Wo) (a0 : Nat) (x2 : Int32) : Int32 → Prop := (un1 (fun x1 => Pt X 0 0 43 M [(0, .ref a0), (1, .int x1), (2, .int x2)] []))
def X8_nearPairs_b14 (M : Wo) (a0 : Nat) (x2 : Int32) (x1 : Int32) (x3 : Int32) : Option ((Int32 × Int32) ⊕ Int32) :=
  if (10 : Int32) ≤ x3 then (some (.inr x1)) else ((X8_areNear M a0 x2 x3).bind fun v2 => if v2 = 0 then (some (.inl ((x1 + (0 : Int32)), (x3 + 1)))) else (some (.inl ((x1 + (1 : Int32)), (x3 + 1)))))
theorem X8_nearPairs_b14_w {X : Cx} (G : Gd X yX8_nearPairs cX8_nearPairs wsX8_nearPairs 4 (some .int) rX8_nearPairs) {M : Wo} {a0 : Nat} {x2 : Int32} {x1 : Int32} {x3 : Int32} {o : ((Int32 × Int32) ⊕ Int32)} (hd : X8_nearPairs_b14 M a0 x2 x1 x3 = some o) (hc : ∀ s9, o = .inl s9 → X8_nearPairs_P14 X M a0 x2 s9) (he : ∀ e9, o = .inr e9 → X8_nearPairs_Z14 X M a0 x2 e9) : Pt X 0 0 14 M [(0, .ref a0), (1, .int x1), (2, .int x2), (3, .int x3)] [] := by
  unfold X8_nearPairs_b14 at hd
  refine pt_iload_n G 3 dX8_nearPairs_14 rfl rfl ?_
  refine pt_bipush G (10 : Int32) dX8_nearPairs_15 bi_10 ?_
  refine pt_icmp_ge G 43 dX8_nearPairs_17 (by decide) (fun c4 => ?_) (fun c4 => ?_)
  · replace hd := ifp c4 hd
    exact pt_sub [0, 1, 2] rfl (he x1 (Option.some.inj hd).symm)
  · replace hd := ifn c4 hd
    refine pt_iload_n G 1 dX8_nearPairs_20 rfl rfl ?_
    refine pt_aload_n G 0 dX8_nearPairs_21 rfl rfl ?_
    refine pt_iload_n G 2 dX8_nearPairs_22 rfl rfl ?_
    refine pt_iload_n G 3 dX8_nearPairs_23 rfl rfl ?_
    obtain ⟨v2, h1, hd⟩ := bnd hd
    refine X8_areNear_v G gX8_nearPairs_X8_areNear ⟨(Nat.le_of_ble_eq_true rfl), (Nat.le_of_ble_eq_true rfl)⟩ h1 dX8_nearPairs_24 (Nat.le_of_ble_eq_true rfl) ⟨(Nat.le_of_ble_eq_true rfl), (Nat.le_of_ble_eq_true rfl)⟩ ?_
    refine pt_if_eq G 34 dX8_nearPairs_27 (by decide) (fun c3 => ?_) (fun c3 => ?_)
    · replace hd := ifp c3 hd
      refine pt_iconst G (0 : Int32) dX8_nearPairs_34 ci_0 ?_
      refine pt_iadd G dX8_nearPairs_35 ?_
      refine pt_istore_n G [(1, .int (x1 + (0 : Int32))), (0, .ref a0), (2, .int x2), (3, .int x3)] dX8_nearPairs_36 rfl (by decide) rfl ?_
      refine pt_iinc G 3 (x3 + 1) [(3, .int (x3 + 1)), (1, .int (x1 + (0 : Int32))), (0, .ref a0), (2, .int x2)] dX8_nearPairs_37 rfl (inc_1 _) (by decide) rfl ?_
      refine pt_goto G 14 dX8_nearPairs_40 (by decide) ?_
      exact pt_sub [2, 1, 3, 0] rfl (hc ((x1 + (0 : Int32)), (x3 + 1)) (Option.some.inj hd).symm)
    · replace hd := ifn c3 hd
      refine pt_iconst G (1 : Int32) dX8_nearPairs_30 ci_1 ?_
      refine pt_goto G 35 dX8_nearPairs_31 (by decide) ?_
      refine pt_iadd G dX8_nearPairs_35 ?_
      refine pt_istore_n G [(1, .int (x1 + (1 : Int32))), (0, .ref a0), (2, .int x2), (3, .int x3)] dX8_nearPairs_36 rfl (by decide) rfl ?_
      refine pt_iinc G 3 (x3 + 1) [(3, .int (x3 + 1)), (1, .int (x1 + (1 : Int32))), (0, .ref a0), (2, .int x2)] dX8_nearPairs_37 rfl (inc_1 _) (by decide) rfl ?_
      refine pt_goto G 14 dX8_nearPairs_40 (by decide) ?_
      exact pt_sub [2, 1, 3, 0] rfl (hc ((x1 + (1 : Int32)), (x3 + 1)) (Option.some.inj hd).symm)
theorem X8_nearPairs_w14_w {X : Cx} (G : Gd X yX8_nearPairs cX8_nearPairs wsX8_nearPairs 4 (some .int) rX8_nearPairs) {M : Wo} {a0 : Nat} {x2 : Int32} (n9 : Nat) (s9 : (Int32 × Int32)) (e9 : Int32) (hw : wloop (un2 (X8_nearPairs_b14 M a0 x2)) n9 s9 = some e9) (hz : X8_nearPairs_Z14 X M a0 x2 e9) : X8_nearPairs_P14 X M a0 x2 s9 := by
  refine wl_ind (P := X8_nearPairs_P14 X M a0 x2) (Z := X8_nearPairs_Z14 X M a0 x2) ?_ n9 s9 e9 hw hz
  intro s9 o9 hd hc he
  obtain ⟨x1, x3⟩ := s9
  exact X8_nearPairs_b14_w G hd hc he
def X8_nearPairs_b4 (M : Wo) (a0 : Nat) (x1 : Int32) (x2 : Int32) : Option ((Int32 × Int32) ⊕ Int32) :=
  if (10 : Int32) ≤ x2 then (some (.inr x1)) else ((wloop (un2 (X8_nearPairs_b14 M a0 x2)) FU (x1, (x2 + (1 : Int32)))).bind fun v5 => some (.inl (v5, (x2 + 1))))
theorem X8_nearPairs_b4_w {X : Cx} (G : Gd X yX8_nearPairs cX8_nearPairs wsX8_nearPairs 4 (some .int) rX8_nearPairs) {M : Wo} {a0 : Nat} {x1 : Int32} {x2 : Int32} {o : ((Int32 × Int32) ⊕ Int32)} (hd : X8_nearPairs_b4 M a0 x1 x2 = some o) (hc : ∀ s9, o = .inl s9 → X8_nearPairs_P4 X M a0 s9) (he : ∀ e9, o = .inr e9 → X8_nearPairs_Z4 X M a0 e9) : Pt X 0 0 4 M [(0, .ref a0), (1, .int x1), (2, .int x2)] [] := by
  unfold X8_nearPairs_b4 at hd
  refine pt_iload_n G 2 dX8_nearPairs_4 rfl rfl ?_
  refine pt_bipush G (10 : Int32) dX8_nearPairs_5 bi_10 ?_
  refine pt_icmp_ge G 49 dX8_nearPairs_7 (by decide) (fun c7 => ?_) (fun c7 => ?_)
  · replace hd := ifp c7 hd
    exact pt_sub [1] rfl (he x1 (Option.some.inj hd).symm)
  · replace hd := ifn c7 hd
    refine pt_iload_n G 2 dX8_nearPairs_10 rfl rfl ?_
    refine pt_iconst G (1 : Int32) dX8_nearPairs_11 ci_1 ?_
    refine pt_iadd G dX8_nearPairs_12 ?_
    refine pt_istore_n G [(3, .int (x2 + (1 : Int32))), (0, .ref a0), (1, .int x1), (2, .int x2)] dX8_nearPairs_13 rfl (by decide) rfl ?_
    obtain ⟨v5, hw6, hd⟩ := bnd hd
    refine pt_sub [1, 2, 3, 0] rfl (X8_nearPairs_w14_w G _ _ _ hw6 ?_)
    show Pt X 0 0 _ _ _ []
    refine pt_iinc G 2 (x2 + 1) [(2, .int (x2 + 1)), (0, .ref a0), (1, .int v5)] dX8_nearPairs_43 rfl (inc_1 _) (by decide) rfl ?_
    refine pt_goto G 4 dX8_nearPairs_46 (by decide) ?_
    exact pt_sub [1, 2, 0] rfl (hc (v5, (x2 + 1)) (Option.some.inj hd).symm)
theorem X8_nearPairs_w4_w {X : Cx} (G : Gd X yX8_nearPairs cX8_nearPairs wsX8_nearPairs 4 (some .int) rX8_nearPairs) {M : Wo} {a0 : Nat} (n9 : Nat) (s9 : (Int32 × Int32)) (e9 : Int32) (hw : wloop (un2 (X8_nearPairs_b4 M a0)) n9 s9 = some e9) (hz : X8_nearPairs_Z4 X M a0 e9) : X8_nearPairs_P4 X M a0 s9 := by
  refine wl_ind (P := X8_nearPairs_P4 X M a0) (Z := X8_nearPairs_Z4 X M a0) ?_ n9 s9 e9 hw hz
  intro s9 o9 hd hc he
  obtain ⟨x1, x2⟩ := s9
  exact X8_nearPairs_b4_w G hd hc he
def X8_nearPairs (M : Wo) (a0 : Nat) : Option Int32 :=
  (ckO M a0 8).bind fun _ => (wloop (un2 (X8_nearPairs_b4 M a0)) FU ((0 : Int32), (0 : Int32))).bind fun v8 => some v8
theorem X8_nearPairs_w {X : Cx} (G : Gd X yX8_nearPairs cX8_nearPairs wsX8_nearPairs 4 (some .int) rX8_nearPairs) {M : Wo} {a0 : Nat} {o : Int32} (hd : X8_nearPairs M a0 = some o) (hQ : Qi X o M 0 0) : Pt X 0 0 0 M [(0, .ref a0)] [] := by
  unfold X8_nearPairs at hd
  obtain ⟨_, _, hd⟩ := bnd hd
  refine pt_iconst G (0 : Int32) dX8_nearPairs_0 ci_0 ?_
  refine pt_istore_n G [(1, .int (0 : Int32)), (0, .ref a0)] dX8_nearPairs_1 rfl (by decide) rfl ?_
  refine pt_iconst G (0 : Int32) dX8_nearPairs_2 ci_0 ?_
  refine pt_istore_n G [(2, .int (0 : Int32)), (1, .int (0 : Int32)), (0, .ref a0)] dX8_nearPairs_3 rfl (by decide) rfl ?_
  obtain ⟨v8, hw9, hd⟩ := bnd hd
  refine pt_sub [2, 1, 0] rfl (X8_nearPairs_w4_w G _ _ _ hw9 ?_)
  show Pt X 0 0 _ _ _ []
  refine pt_iload_n G 0 dX8_nearPairs_49 rfl rfl ?_
  cases hd
  exact pt_iret G hQ dX8_nearPairs_50
theorem X8_nearPairs_c {l : Launch} {D : va_G} {dA : Nat → ClassId} {b : Nat} {M : Wo} {a0 : Nat} {r : Int32} (h : X8_nearPairs M a0 = some r) : Met l yX8_nearPairs wsX8_nearPairs rX8_nearPairs (va_Pc [.ref a0] (Wd D dA b M)) (Ei D dA b r M) 0 0 (Ab b) := met_i (by decide) rfl (Nat.le_of_ble_eq_true rfl) (fun X G hN hQ => X8_nearPairs_w G h hQ)
theorem X8_nearPairs_v {X : Cx} {y : MethodName} {cc : ByteArray} {Ts : List Cond} {nL : Nat} {ret : Option FieldType} {R : Room} (G : Gd X y cc Ts nL ret R) {index : Nat} (hg : GoodIn Ts (wsV y.cls index RX8 yX8_nearPairs wsX8_nearPairs)) (hR : rX8_nearPairs.frames + 1 ≤ R.frames ∧ 8 + (4 + 11) + rX8_nearPairs.locals ≤ R.locals) {k n pc : Nat} {M : Wo} {lv : List (Nat × Value)} {st : List Value} {a0 : Nat} {r : Int32} (hv : X8_nearPairs M a0 = some r) (hd : decode cc pc = .ok (.invokevirtual index, 3)) (h8 : (st.map fun v => v.category).sum ≤ 8) (hf : k ≤ R.cells ∧ n ≤ R.slots) (kk : Pt X k n (pc + 3) M lv (.int r :: st)) : Pt X k n pc M lv (.ref a0 :: st) := pt_cVi (ci := 8) (nA := 0) (As := []) G (X8_nearPairs_c hv) hg rfl rfl rfl (by decide +kernel) hR rfl (rcv hv) rfl rfl h8 hd hf kk
abbrev rX8_lastEnd : Room := { frames := 3, cells := 0, slots := 0, locals := 74 }
theorem m_X8_lastEnd_1 : Cond.fieldLink RX8 7 "StageLinesModel" "state" "[I" ∈ wsX8_lastEnd := List.mem_of_getElem? (i := 1) rfl
theorem u_X8_lastEnd_X8 : ∀ w ∈ u_ws RX8 TX8 13, w ∈ wsX8_lastEnd := mem_r [23, 24, 25, 26, 27, 28, 29, 30, 31, 32, 33, 34, 35] (by decide +kernel)
abbrev X8_lastEnd_P5 (X : Cx) (a0 : Nat) : (Wo × Int32 × Int32) → Prop := un3 (fun M x1 x2 => Pt X 0 0 5 M [(0, .ref a0), (1, .int x1), (2, .int x2)] [])
abbrev X8_lastEnd_Z5 (X : Cx) (a0 : Nat) : (Wo × Int32) → Prop := (un2 (fun M x1 => Pt X 0 0 40 M [(1, .int x1)] []))
def X8_lastEnd_b5 (a0 : Nat) (M : Wo) (x1 : Int32) (x2 : Int32) : Option ((Wo × Int32 × Int32) ⊕ (Wo × Int32)) :=
  (gR M a0 8 0).bind fun w1 => (lA M 0 w1 (211 : Int32)).bind fun v3 => if v3 ≤ x2 then (some (.inr (M, x1))) else ((X8_endOf M a0 x2).bind (un2 fun v6 M7 => if v6 ≤ x1 then (some (.inl (M7, x1, (x2 + 1)))) else (some (.inl (M7, v6, (x2 + 1))))))
theorem X8_lastEnd_b5_w {X : Cx} (G : Gd X yX8_lastEnd cX8_lastEnd wsX8_lastEnd 4 (some .int) rX8_lastEnd) {a0 : Nat} {M : Wo} {x1 : Int32} {x2 : Int32} {o : ((Wo × Int32 × Int32) ⊕ (Wo × Int32))} (hd : X8_lastEnd_b5 a0 M x1 x2 = some o) (hc : ∀ s9, o = .inl s9 → X8_lastEnd_P5 X a0 s9) (he : ∀ e9, o = .inr e9 → X8_lastEnd_Z5 X a0 e9) : Pt X 0 0 5 M [(0, .ref a0), (1, .int x1), (2, .int x2)] [] := by
  unfold X8_lastEnd_b5 at hd
  refine pt_iload_n G 2 dX8_lastEnd_5 rfl rfl ?_
  refine pt_aload_n G 0 dX8_lastEnd_6 rfl rfl ?_
  obtain ⟨w1, h2, hd⟩ := bnd hd
  refine pt_get G (ci := 8) (j := 0) rfl (by decide) u_X8_lastEnd_X8 m_X8_lastEnd_1 (gR_o h2) dX8_lastEnd_7 ?_
  refine pt_sipush G (211 : Int32) dX8_lastEnd_10 si_211 ?_
  obtain ⟨v3, h4, hd⟩ := bnd hd
  refine pt_iald G h4 dX8_lastEnd_13 ?_
  refine pt_icmp_ge G 40 dX8_lastEnd_14 (by decide) (fun c9 => ?_) (fun c9 => ?_)
  · replace hd := ifp c9 hd
    exact pt_sub [1] rfl (he (M, x1) (Option.some.inj hd).symm)
  · replace hd := ifn c9 hd
    refine pt_aload_n G 0 dX8_lastEnd_17 rfl rfl ?_
    refine pt_iload_n G 2 dX8_lastEnd_18 rfl rfl ?_
    obtain ⟨⟨v6, M7⟩, h5, hd⟩ := bnd hd
    replace hd := un2_e hd
    refine X8_endOf_v G gX8_lastEnd_X8_endOf ⟨(Nat.le_of_ble_eq_true rfl), (Nat.le_of_ble_eq_true rfl)⟩ h5 dX8_lastEnd_19 (Nat.le_of_ble_eq_true rfl) ⟨(Nat.le_of_ble_eq_true rfl), (Nat.le_of_ble_eq_true rfl)⟩ ?_
    refine pt_istore_n G [(3, .int v6), (0, .ref a0), (1, .int x1), (2, .int x2)] dX8_lastEnd_22 rfl (by decide) rfl ?_
    refine pt_iload_n G 0 dX8_lastEnd_23 rfl rfl ?_
    refine pt_iload_n G 2 dX8_lastEnd_24 rfl rfl ?_
    refine pt_icmp_le G 32 dX8_lastEnd_25 (by decide) (fun c8 => ?_) (fun c8 => ?_)
    · replace hd := ifp c8 hd
      refine pt_iload_n G 2 dX8_lastEnd_32 rfl rfl ?_
      refine pt_istore_n G [(1, .int x1), (3, .int v6), (0, .ref a0), (2, .int x2)] dX8_lastEnd_33 rfl (by decide) rfl ?_
      refine pt_iinc G 3 (x2 + 1) [(2, .int (x2 + 1)), (1, .int x1), (3, .int v6), (0, .ref a0)] dX8_lastEnd_34 rfl (inc_1 _) (by decide) rfl ?_
      refine pt_goto G 5 dX8_lastEnd_37 (by decide) ?_
      exact pt_sub [3, 1, 0] rfl (hc (M7, x1, (x2 + 1)) (Option.some.inj hd).symm)
    · replace hd := ifn c8 hd
      refine pt_iload_n G 0 dX8_lastEnd_28 rfl rfl ?_
      refine pt_goto G 33 dX8_lastEnd_29 (by decide) ?_
      refine pt_istore_n G [(1, .int v6), (3, .int v6), (0, .ref a0), (2, .int x2)] dX8_lastEnd_33 rfl (by decide) rfl ?_
      refine pt_iinc G 3 (x2 + 1) [(2, .int (x2 + 1)), (1, .int v6), (3, .int v6), (0, .ref a0)] dX8_lastEnd_34 rfl (inc_1 _) (by decide) rfl ?_
      refine pt_goto G 5 dX8_lastEnd_37 (by decide) ?_
      exact pt_sub [3, 1, 0] rfl (hc (M7, v6, (x2 + 1)) (Option.some.inj hd).symm)
theorem X8_lastEnd_w5_w {X : Cx} (G : Gd X yX8_lastEnd cX8_lastEnd wsX8_lastEnd 4 (some .int) rX8_lastEnd) {a0 : Nat} (n9 : Nat) (s9 : (Wo × Int32 × Int32)) (e9 : (Wo × Int32)) (hw : wloop (un3 (X8_lastEnd_b5 a0)) n9 s9 = some e9) (hz : X8_lastEnd_Z5 X a0 e9) : X8_lastEnd_P5 X a0 s9 := by
  refine wl_ind (P := X8_lastEnd_P5 X a0) (Z := X8_lastEnd_Z5 X a0) ?_ n9 s9 e9 hw hz
  intro s9 o9 hd hc he
  obtain ⟨M, x1, x2⟩ := s9
  exact X8_lastEnd_b5_w G hd hc he
def X8_lastEnd (M : Wo) (a0 : Nat) : Option (Int32 × Wo) :=
  (ckO M a0 8).bind fun _ => (wloop (un3 (X8_lastEnd_b5 a0)) FU (M, (-6 : Int32), (0 : Int32))).bind (un2 fun M10 v11 => some (v11, M10))
theorem X8_lastEnd_w {X : Cx} (G : Gd X yX8_lastEnd cX8_lastEnd wsX8_lastEnd 4 (some .int) rX8_lastEnd) {M : Wo} {a0 : Nat} {o : (Int32 × Wo)} (hd : X8_lastEnd M a0 = some o) (hQ : Qi X o.1 o.2 0 0) : Pt X 0 0 0 M [(0, .ref a0)] [] := by
  unfold X8_lastEnd at hd
  obtain ⟨_, _, hd⟩ := bnd hd
  refine pt_bipush G (-6 : Int32) dX8_lastEnd_0 bi_m6 ?_
  refine pt_istore_n G [(1, .int (-6 : Int32)), (0, .ref a0)] dX8_lastEnd_2 rfl (by decide) rfl ?_
  refine pt_iconst G (0 : Int32) dX8_lastEnd_3 ci_0 ?_
  refine pt_istore_n G [(2, .int (0 : Int32)), (1, .int (-6 : Int32)), (0, .ref a0)] dX8_lastEnd_4 rfl (by decide) rfl ?_
  obtain ⟨⟨M10, v11⟩, hw12, hd⟩ := bnd hd
  replace hd := un2_e hd
  refine pt_sub [2, 1, 0] rfl (X8_lastEnd_w5_w G _ _ _ hw12 ?_)
  show Pt X 0 0 _ _ _ []
  refine pt_iload_n G 0 dX8_lastEnd_40 rfl rfl ?_
  cases hd
  exact pt_iret G hQ dX8_lastEnd_41
theorem X8_lastEnd_c {l : Launch} {D : va_G} {dA : Nat → ClassId} {b : Nat} {M : Wo} {a0 : Nat} {r : Int32} {M2 : Wo} (h : X8_lastEnd M a0 = some (r, M2)) : Met l yX8_lastEnd wsX8_lastEnd rX8_lastEnd (va_Pc [.ref a0] (Wd D dA b M)) (Ei D dA b r M2) 0 0 (Ab b) := met_i (by decide) rfl (Nat.le_of_ble_eq_true rfl) (fun X G hN hQ => X8_lastEnd_w G h hQ)
theorem X8_lastEnd_v {X : Cx} {y : MethodName} {cc : ByteArray} {Ts : List Cond} {nL : Nat} {ret : Option FieldType} {R : Room} (G : Gd X y cc Ts nL ret R) {index : Nat} (hg : GoodIn Ts (wsV y.cls index RX8 yX8_lastEnd wsX8_lastEnd)) (hR : rX8_lastEnd.frames + 1 ≤ R.frames ∧ 8 + (4 + 11) + rX8_lastEnd.locals ≤ R.locals) {k n pc : Nat} {M : Wo} {lv : List (Nat × Value)} {st : List Value} {a0 : Nat} {r : Int32} {M2 : Wo} (hv : X8_lastEnd M a0 = some (r, M2)) (hd : decode cc pc = .ok (.invokevirtual index, 3)) (h8 : (st.map fun v => v.category).sum ≤ 8) (hf : k ≤ R.cells ∧ n ≤ R.slots) (kk : Pt X k n (pc + 3) M2 lv (.int r :: st)) : Pt X k n pc M lv (.ref a0 :: st) := pt_cVi (ci := 8) (nA := 0) (As := []) G (X8_lastEnd_c hv) hg rfl rfl rfl (by decide +kernel) hR rfl (rcv hv) rfl rfl h8 hd hf kk
abbrev rX8_count : Room := { frames := 4, cells := 0, slots := 0, locals := 97 }
theorem m_X8_count_1 : Cond.fieldLink RX8 7 "StageLinesModel" "state" "[I" ∈ wsX8_count := List.mem_of_getElem? (i := 1) rfl
theorem u_X8_count_X8 : ∀ w ∈ u_ws RX8 TX8 13, w ∈ wsX8_count := mem_r [56, 57, 58, 59, 60, 61, 62, 63, 64, 65, 66, 67, 68] (by decide +kernel)
theorem m_X8_count_2 : Cond.fieldLink RX8 16 "StageLinesModel" "isKept" "[Z" ∈ wsX8_count := List.mem_of_getElem? (i := 2) rfl
def X8_count_L87 (M : Wo) (a0 : Nat) (t0 : Int32) : Option (Int32 × Wo) :=
  (gR M a0 8 2).bind fun w26 => (lA M 1 w26 (1 : Int32)).bind fun v28 => if v28 = 0 then (some ((t0 + (0 : Int32)), M)) else (some ((t0 + (2 : Int32)), M))
theorem X8_count_L87_w {X : Cx} (G : Gd X yX8_count cX8_count wsX8_count 2 (some .int) rX8_count) {M : Wo} {a0 : Nat} {t0 : Int32} {o : (Int32 × Wo)} (hd : X8_count_L87 M a0 t0 = some o) (hQ : Qi X o.1 o.2 0 0) : Pt X 0 0 87 M [(0, .ref a0)] [.int t0] := by
  unfold X8_count_L87 at hd
  refine pt_aload_n G 0 dX8_count_87 rfl rfl ?_
  obtain ⟨w26, h27, hd⟩ := bnd hd
  refine pt_get G (ci := 8) (j := 2) rfl (by decide) u_X8_count_X8 m_X8_count_2 (gR_o h27) dX8_count_88 ?_
  refine pt_iconst G (1 : Int32) dX8_count_91 ci_1 ?_
  obtain ⟨v28, h29, hd⟩ := bnd hd
  refine pt_zald G h29 dX8_count_92 ?_
  refine pt_if_eq G 100 dX8_count_93 (by decide) (fun c30 => ?_) (fun c30 => ?_)
  · replace hd := ifp c30 hd
    refine pt_iconst G (0 : Int32) dX8_count_100 ci_0 ?_
    refine pt_iadd G dX8_count_101 ?_
    cases hd
    exact pt_iret G hQ dX8_count_102
  · replace hd := ifn c30 hd
    refine pt_iconst G (2 : Int32) dX8_count_96 ci_2 ?_
    refine pt_goto G 101 dX8_count_97 (by decide) ?_
    refine pt_iadd G dX8_count_101 ?_
    cases hd
    exact pt_iret G hQ dX8_count_102
def X8_count (M : Wo) (a0 : Nat) (x1 : Int32) : Option (Int32 × Wo) :=
  (ckO M a0 8).bind fun _ => if x1 = (0 : Int32) then ((gR M a0 8 0).bind fun w2 => (lA M 0 w2 (211 : Int32)).bind fun v4 => some (v4, M)) else if x1 = (1 : Int32) then ((gR M a0 8 0).bind fun w7 => (lA M 0 w7 (170 : Int32)).bind fun v9 => some (v9, M)) else if x1 = (2 : Int32) then ((X8_evenBars M a0).bind fun v13 => some (v13, M)) else if x1 = (3 : Int32) then ((X8_nearPairs M a0).bind fun v16 => some (v16, M)) else if x1 = (4 : Int32) then ((X8_lastEnd M a0).bind (un2 fun v19 M20 => some (v19, M20))) else if x1 = (5 : Int32) then ((gR M a0 8 2).bind fun w22 => (lA M 1 w22 (0 : Int32)).bind fun v24 => if v24 = 0 then (X8_count_L87 M a0 (0 : Int32)) else (X8_count_L87 M a0 (1 : Int32))) else (some ((-2 : Int32), M))
theorem X8_count_w {X : Cx} (G : Gd X yX8_count cX8_count wsX8_count 2 (some .int) rX8_count) {M : Wo} {a0 : Nat} {x1 : Int32} {o : (Int32 × Wo)} (hd : X8_count M a0 x1 = some o) (hQ : Qi X o.1 o.2 0 0) : Pt X 0 0 0 M [(0, .ref a0), (1, .int x1)] [] := by
  unfold X8_count at hd
  obtain ⟨_, _, hd⟩ := bnd hd
  refine pt_iload_n G 1 dX8_count_0 rfl rfl ?_
  by_cases c1 : x1 = (0 : Int32)
  · replace hd := ifp c1 hd
    refine pt_tsIn G 40 dX8_count_1 (by rw [c1]; decide) (by rw [c1]; decide) (by rw [c1]; rfl) (by decide) ?_
    refine pt_aload_n G 0 dX8_count_40 rfl rfl ?_
    obtain ⟨w2, h3, hd⟩ := bnd hd
    refine pt_get G (ci := 8) (j := 0) rfl (by decide) u_X8_count_X8 m_X8_count_1 (gR_o h3) dX8_count_41 ?_
    refine pt_sipush G (211 : Int32) dX8_count_44 si_211 ?_
    obtain ⟨v4, h5, hd⟩ := bnd hd
    refine pt_iald G h5 dX8_count_47 ?_
    cases hd
    exact pt_iret G hQ dX8_count_48
  replace hd := ifn c1 hd
  by_cases c6 : x1 = (1 : Int32)
  · replace hd := ifp c6 hd
    refine pt_tsIn G 49 dX8_count_1 (by rw [c6]; decide) (by rw [c6]; decide) (by rw [c6]; rfl) (by decide) ?_
    refine pt_aload_n G 0 dX8_count_49 rfl rfl ?_
    obtain ⟨w7, h8, hd⟩ := bnd hd
    refine pt_get G (ci := 8) (j := 0) rfl (by decide) u_X8_count_X8 m_X8_count_1 (gR_o h8) dX8_count_50 ?_
    refine pt_sipush G (170 : Int32) dX8_count_53 si_170 ?_
    obtain ⟨v9, h10, hd⟩ := bnd hd
    refine pt_iald G h10 dX8_count_56 ?_
    cases hd
    exact pt_iret G hQ dX8_count_57
  replace hd := ifn c6 hd
  by_cases c11 : x1 = (2 : Int32)
  · replace hd := ifp c11 hd
    refine pt_tsIn G 58 dX8_count_1 (by rw [c11]; decide) (by rw [c11]; decide) (by rw [c11]; rfl) (by decide) ?_
    refine pt_aload_n G 0 dX8_count_58 rfl rfl ?_
    obtain ⟨v13, h12, hd⟩ := bnd hd
    refine X8_evenBars_v G gX8_count_X8_evenBars ⟨(Nat.le_of_ble_eq_true rfl), (Nat.le_of_ble_eq_true rfl)⟩ h12 dX8_count_59 (Nat.le_of_ble_eq_true rfl) ⟨(Nat.le_of_ble_eq_true rfl), (Nat.le_of_ble_eq_true rfl)⟩ ?_
    cases hd
    exact pt_iret G hQ dX8_count_62
  replace hd := ifn c11 hd
  by_cases c14 : x1 = (3 : Int32)
  · replace hd := ifp c14 hd
    refine pt_tsIn G 63 dX8_count_1 (by rw [c14]; decide) (by rw [c14]; decide) (by rw [c14]; rfl) (by decide) ?_
    refine pt_aload_n G 0 dX8_count_63 rfl rfl ?_
    obtain ⟨v16, h15, hd⟩ := bnd hd
    refine X8_nearPairs_v G gX8_count_X8_nearPairs ⟨(Nat.le_of_ble_eq_true rfl), (Nat.le_of_ble_eq_true rfl)⟩ h15 dX8_count_64 (Nat.le_of_ble_eq_true rfl) ⟨(Nat.le_of_ble_eq_true rfl), (Nat.le_of_ble_eq_true rfl)⟩ ?_
    cases hd
    exact pt_iret G hQ dX8_count_67
  replace hd := ifn c14 hd
  by_cases c17 : x1 = (4 : Int32)
  · replace hd := ifp c17 hd
    refine pt_tsIn G 68 dX8_count_1 (by rw [c17]; decide) (by rw [c17]; decide) (by rw [c17]; rfl) (by decide) ?_
    refine pt_aload_n G 0 dX8_count_68 rfl rfl ?_
    obtain ⟨⟨v19, M20⟩, h18, hd⟩ := bnd hd
    replace hd := un2_e hd
    refine X8_lastEnd_v G gX8_count_X8_lastEnd ⟨(Nat.le_of_ble_eq_true rfl), (Nat.le_of_ble_eq_true rfl)⟩ h18 dX8_count_69 (Nat.le_of_ble_eq_true rfl) ⟨(Nat.le_of_ble_eq_true rfl), (Nat.le_of_ble_eq_true rfl)⟩ ?_
    cases hd
    exact pt_iret G hQ dX8_count_72
  replace hd := ifn c17 hd
  by_cases c21 : x1 = (5 : Int32)
  · replace hd := ifp c21 hd
    refine pt_tsIn G 73 dX8_count_1 (by rw [c21]; decide) (by rw [c21]; decide) (by rw [c21]; rfl) (by decide) ?_
    refine pt_aload_n G 0 dX8_count_73 rfl rfl ?_
    obtain ⟨w22, h23, hd⟩ := bnd hd
    refine pt_get G (ci := 8) (j := 2) rfl (by decide) u_X8_count_X8 m_X8_count_2 (gR_o h23) dX8_count_74 ?_
    refine pt_iconst G (0 : Int32) dX8_count_77 ci_0 ?_
    obtain ⟨v24, h25, hd⟩ := bnd hd
    refine pt_zald G h25 dX8_count_78 ?_
    refine pt_if_eq G 86 dX8_count_79 (by decide) (fun c31 => ?_) (fun c31 => ?_)
    · replace hd := ifp c31 hd
      refine pt_iconst G (0 : Int32) dX8_count_86 ci_0 ?_
      exact pt_sub [0] rfl (X8_count_L87_w G hd hQ)
    · replace hd := ifn c31 hd
      refine pt_iconst G (1 : Int32) dX8_count_82 ci_1 ?_
      refine pt_goto G 87 dX8_count_83 (by decide) ?_
      exact pt_sub [0] rfl (X8_count_L87_w G hd hQ)
  replace hd := ifn c21 hd
  have nc1 : x1.toInt ≠ 0 := fun h => c1 (Int32.toInt_inj.mp (h.trans (by decide)))
  have nc6 : x1.toInt ≠ 1 := fun h => c6 (Int32.toInt_inj.mp (h.trans (by decide)))
  have nc11 : x1.toInt ≠ 2 := fun h => c11 (Int32.toInt_inj.mp (h.trans (by decide)))
  have nc14 : x1.toInt ≠ 3 := fun h => c14 (Int32.toInt_inj.mp (h.trans (by decide)))
  have nc17 : x1.toInt ≠ 4 := fun h => c17 (Int32.toInt_inj.mp (h.trans (by decide)))
  have nc21 : x1.toInt ≠ 5 := fun h => c21 (Int32.toInt_inj.mp (h.trans (by decide)))
  refine pt_tsOut G 103 dX8_count_1 (by omega) (by decide) ?_
  refine pt_bipush G (-2 : Int32) dX8_count_103 bi_m2 ?_
  cases hd
  exact pt_iret G hQ dX8_count_105
theorem X8_count_c {l : Launch} {D : va_G} {dA : Nat → ClassId} {b : Nat} {M : Wo} {a0 : Nat} {x1 : Int32} {r : Int32} {M2 : Wo} (h : X8_count M a0 x1 = some (r, M2)) : Met l yX8_count wsX8_count rX8_count (va_Pc [.ref a0, .int x1] (Wd D dA b M)) (Ei D dA b r M2) 0 0 (Ab b) := met_i (by decide) rfl (Nat.le_of_ble_eq_true rfl) (fun X G hN hQ => X8_count_w G h hQ)
theorem X8_count_v {X : Cx} {y : MethodName} {cc : ByteArray} {Ts : List Cond} {nL : Nat} {ret : Option FieldType} {R : Room} (G : Gd X y cc Ts nL ret R) {index : Nat} (hg : GoodIn Ts (wsV y.cls index RX8 yX8_count wsX8_count)) (hR : rX8_count.frames + 1 ≤ R.frames ∧ 8 + (2 + 11) + rX8_count.locals ≤ R.locals) {k n pc : Nat} {M : Wo} {lv : List (Nat × Value)} {st : List Value} {a0 : Nat} {x1 : Int32} {r : Int32} {M2 : Wo} (hv : X8_count M a0 x1 = some (r, M2)) (hd : decode cc pc = .ok (.invokevirtual index, 3)) (h8 : (st.map fun v => v.category).sum ≤ 8) (hf : k ≤ R.cells ∧ n ≤ R.slots) (kk : Pt X k n (pc + 3) M2 lv (.int r :: st)) : Pt X k n pc M lv (.int x1 :: .ref a0 :: st) := pt_cVi (ci := 8) (nA := 1) (As := [.int x1]) G (X8_count_c hv) hg rfl rfl rfl (by decide +kernel) hR rfl (rcv hv) rfl rfl h8 hd hf kk
