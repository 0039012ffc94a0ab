abbrev rX5_init : Room := { frames := 1, cells := 1, slots := 6, locals := 60 }
theorem m_X5_init_6 : Cond.fieldLink RX5 15 "StageLines$Pile" "size" "I" ∈ wsX5_init := List.mem_of_getElem? (i := 6) rfl
theorem u_X5_init_X5 : ∀ w ∈ u_ws RX5 TX5 2, w ∈ wsX5_init := mem_r [7, 8] (by decide +kernel)
theorem m_X5_init_5 : Cond.fieldLink RX5 9 "StageLines$Pile" "weights" "[I" ∈ wsX5_init := List.mem_of_getElem? (i := 5) rfl
theorem m_X5_init_4 : Cond.arrayClass .int ∈ wsX5_init := List.mem_of_getElem? (i := 4) rfl
theorem m_X5_init_1 : Cond.methodLink RX5 3 objectInit ∈ wsX5_init := List.mem_of_getElem? (i := 1) rfl
theorem m_X5_init_2 : Cond.instanceMethod objectInit ∈ wsX5_init := List.mem_of_getElem? (i := 2) rfl
theorem m_X5_init_3 : Cond.code objectInit ⟨#[0xb1]⟩ 1 none ∈ wsX5_init := List.mem_of_getElem? (i := 3) rfl
def X5_init (M : Wo) (a0 : Nat) : Option Wo :=
  (ckO M a0 5).bind fun _ => (nwA M 0 6).bind (un2 fun w1 M2 => (pV M2 a0 5 0 (.ref w1)).bind fun M4 => (pV M4 a0 5 1 (.int (0 : Int32))).bind fun M6 => some M6)
theorem X5_init_w {X : Cx} (G : Gd X yX5_init cX5_init wsX5_init 1 none rX5_init) (hN : (xT X).name = "<init>") {M : Wo} {a0 : Nat} {o : Wo} (hd : X5_init M a0 = some o) (hQ : Qv X o 1 6) : Pt X 0 0 0 M [(0, .ref a0)] [] := by
  unfold X5_init at hd
  obtain ⟨_, _, hd⟩ := bnd hd
  refine pt_aload_n G 0 dX5_init_0 rfl rfl ?_
  refine pt_obj G m_X5_init_1 m_X5_init_2 m_X5_init_3 (Nat.le_of_ble_eq_true rfl) (Nat.le_of_ble_eq_true rfl) dX5_init_1 ?_
  refine pt_aload_n G 0 dX5_init_4 rfl rfl ?_
  refine pt_bipush G (6 : Int32) dX5_init_5 bi_6 ?_
  obtain ⟨⟨w1, M2⟩, h3, hd⟩ := bnd hd
  replace hd := un2_e hd
  refine pt_newaE G (kd := 0) (N := 6) (atype := .int) rfl (fun _ => rfl) m_X5_init_4 rfl (by decide) (by decide) (by decide) (by decide) (by decide) h3 dX5_init_7 ?_
  obtain ⟨M4, h5, hd⟩ := bnd hd
  refine pt_putF G hN (ci := 5) (j := 0) rfl (by decide) u_X5_init_X5 m_X5_init_5 tyX5 tyX5_ok nmX5 rfl rfl rfl rfl h5 dX5_init_9 ?_
  refine pt_aload_n G 0 dX5_init_12 rfl rfl ?_
  refine pt_iconst G (0 : Int32) dX5_init_13 ci_0 ?_
  obtain ⟨M6, h7, hd⟩ := bnd hd
  refine pt_put G (ci := 5) (j := 1) rfl (by decide) u_X5_init_X5 m_X5_init_6 tyX5 tyX5_ok nmX5 rfl rfl rfl h7 dX5_init_14 ?_
  cases hd
  exact pt_vret G hQ dX5_init_17
theorem X5_init_c {l : Launch} {D : va_G} {dA : Nat → ClassId} {b : Nat} {M : Wo} {a0 : Nat} {M2 : Wo} (h : X5_init M a0 = some M2) : Met l yX5_init wsX5_init rX5_init (va_Pc [.ref a0] (Wd D dA b M)) (Ev D dA b M2) 1 6 (Ab b) := met_v (by decide) rfl (Nat.le_of_ble_eq_true rfl) (fun X G hN hQ => X5_init_w G hN h hQ)
theorem X5_init_vi {X : Cx} {y : MethodName} {cc : ByteArray} {Ts : List Cond} {nL : Nat} {ret : Option FieldType} {R : Room} (G : Gd X y cc Ts nL ret R) {index : Nat} (hg : GoodIn Ts wsX5_init) (hini : Cond.initialized yX5_init.cls ∈ Ts) (hl : Cond.methodLink y.cls index yX5_init ∈ Ts) (hi : Cond.instanceMethod yX5_init ∈ Ts) (hR : rX5_init.frames + 1 ≤ R.frames ∧ 8 + (1 + 11) + rX5_init.locals ≤ R.locals) {k n pc : Nat} {M : Wo} {lv : List (Nat × Value)} {st : List Value} {a0 : Nat} {M2 : Wo} (hv : X5_init M a0 = some M2) (hd : decode cc pc = .ok (.invokespecial index, 3)) (h8 : (st.map fun v => v.category).sum ≤ 8) (hf : k + 1 ≤ R.cells ∧ n + 6 ≤ R.slots) (kk : Pt X (k + 1) (n + 6) (pc + 3) M2 lv st) : Pt X k n pc M lv (.ref a0 :: st) := pt_cI (nA := 0) (As := []) G (X5_init_c hv) hg rfl rfl rfl hini hl hi rfl (by decide +kernel) hR rfl rfl h8 hd hf kk
theorem X5_init_vn {X : Cx} {y : MethodName} {cc : ByteArray} {Ts : List Cond} {nL : Nat} {ret : Option FieldType} {R : Room} (G : Gd X y cc Ts nL ret R) {index : Nat} (hg : GoodIn Ts wsX5_init) (hini : Cond.initialized yX5_init.cls ∈ Ts) (hl : va_Nw (.methodLinkNest y.cls index yX5_init "StageLines") (xS X)) (hi : Cond.instanceMethod yX5_init ∈ Ts) (hR : rX5_init.frames + 1 ≤ R.frames ∧ 8 + (1 + 11) + rX5_init.locals ≤ R.locals) {k n pc : Nat} {M : Wo} {lv : List (Nat × Value)} {st : List Value} {a0 : Nat} {M2 : Wo} (hv : X5_init M a0 = some M2) (hd : decode cc pc = .ok (.invokespecial index, 3)) (h8 : (st.map fun v => v.category).sum ≤ 8) (hf : k + 1 ≤ R.cells ∧ n + 6 ≤ R.slots) (kk : Pt X (k + 1) (n + 6) (pc + 3) M2 lv st) : Pt X k n pc M lv (.ref a0 :: st) := pt_cN (nA := 0) (As := []) G (X5_init_c hv) hg rfl rfl rfl hini hl hi rfl (by decide +kernel) hR rfl rfl h8 hd hf kk
abbrev rX5_total : Room := { frames := 0, cells := 0, slots := 0, locals := 0 }
theorem m_X5_total_2 : Cond.fieldLink RX5 9 "StageLines$Pile" "weights" "[I" ∈ wsX5_total := List.mem_of_getElem? (i := 2) rfl
theorem u_X5_total_X5 : ∀ w ∈ u_ws RX5 TX5 2, w ∈ wsX5_total := mem_r [3, 4] (by decide +kernel)
theorem m_X5_total_1 : Cond.fieldLink RX5 15 "StageLines$Pile" "size" "I" ∈ wsX5_total := List.mem_of_getElem? (i := 1) rfl
abbrev X5_total_P4 (X : Cx) (M : Wo) (a0 : Nat) : (Int32 × Int32) → Prop := un2 (fun x1 x2 => Pt X 0 0 4 M [(0, .ref a0), (1, .int x1), (2, .int x2)] [])
abbrev X5_total_Z4 (X : Cx) (M : Wo) (a0 : Nat) : Int32 → Prop := (un1 (fun x1 => Pt X 0 0 27 M [(1, .int x1)] []))
def X5_total_b4 (M : Wo) (a0 : Nat) (x1 : Int32) (x2 : Int32) : Option ((Int32 × Int32) ⊕ Int32) :=
  (gI M a0 5 1).bind fun v1 => if v1 ≤ x2 then (some (.inr x1)) else ((gR M a0 5 0).bind fun w3 => (lA M 0 w3 x2).bind fun v5 => some (.inl ((x1 + v5), (x2 + 1))))
theorem X5_total_b4_w {X : Cx} (G : Gd X yX5_total cX5_total wsX5_total 3 (some .int) rX5_total) {M : Wo} {a0 : Nat} {x1 : Int32} {x2 : Int32} {o : ((Int32 × Int32) ⊕ Int32)} (hd : X5_total_b4 M a0 x1 x2 = some o) (hc : ∀ s9, o = .inl s9 → X5_total_P4 X M a0 s9) (he : ∀ e9, o = .inr e9 → X5_total_Z4 X M a0 e9) : Pt X 0 0 4 M [(0, .ref a0), (1, .int x1), (2, .int x2)] [] := by
  unfold X5_total_b4 at hd
  refine pt_iload_n G 2 dX5_total_4 rfl rfl ?_
  refine pt_aload_n G 0 dX5_total_5 rfl rfl ?_
  obtain ⟨v1, h2, hd⟩ := bnd hd
  refine pt_get G (ci := 5) (j := 1) rfl (by decide) u_X5_total_X5 m_X5_total_1 (gI_o h2) dX5_total_6 ?_
  refine pt_icmp_ge G 27 dX5_total_9 (by decide) (fun c7 => ?_) (fun c7 => ?_)
  · replace hd := ifp c7 hd
    exact pt_sub [1] rfl (he x1 (Option.some.inj hd).symm)
  · replace hd := ifn c7 hd
    refine pt_iload_n G 1 dX5_total_12 rfl rfl ?_
    refine pt_aload_n G 0 dX5_total_13 rfl rfl ?_
    obtain ⟨w3, h4, hd⟩ := bnd hd
    refine pt_get G (ci := 5) (j := 0) rfl (by decide) u_X5_total_X5 m_X5_total_2 (gR_o h4) dX5_total_14 ?_
    refine pt_iload_n G 2 dX5_total_17 rfl rfl ?_
    obtain ⟨v5, h6, hd⟩ := bnd hd
    refine pt_iald G h6 dX5_total_18 ?_
    refine pt_iadd G dX5_total_19 ?_
    refine pt_istore_n G [(1, .int (x1 + v5)), (0, .ref a0), (2, .int x2)] dX5_total_20 rfl (by decide) rfl ?_
    refine pt_iinc G 2 (x2 + 1) [(2, .int (x2 + 1)), (1, .int (x1 + v5)), (0, .ref a0)] dX5_total_21 rfl (inc_1 _) (by decide) rfl ?_
    refine pt_goto G 4 dX5_total_24 (by decide) ?_
    exact pt_sub [2, 1, 0] rfl (hc ((x1 + v5), (x2 + 1)) (Option.some.inj hd).symm)
theorem X5_total_w4_w {X : Cx} (G : Gd X yX5_total cX5_total wsX5_total 3 (some .int) rX5_total) {M : Wo} {a0 : Nat} (n9 : Nat) (s9 : (Int32 × Int32)) (e9 : Int32) (hw : wloop (un2 (X5_total_b4 M a0)) n9 s9 = some e9) (hz : X5_total_Z4 X M a0 e9) : X5_total_P4 X M a0 s9 := by
  refine wl_ind (P := X5_total_P4 X M a0) (Z := X5_total_Z4 X M a0) ?_ n9 s9 e9 hw hz
  intro s9 o9 hd hc he
  obtain ⟨x1, x2⟩ := s9
  exact X5_total_b4_w G hd hc he
def X5_total (M : Wo) (a0 : Nat) : Option Int32 :=
  (ckO M a0 5).bind fun _ => (wloop (un2 (X5_total_b4 M a0)) FU ((0 : Int32), (0 : Int32))).bind fun v8 => some v8
theorem X5_total_w {X : Cx} (G : Gd X yX5_total cX5_total wsX5_total 3 (some .int) rX5_total) {M : Wo} {a0 : Nat} {o : Int32} (hd : X5_total M a0 = some o) (hQ : Qi X o M 0 0) : Pt X 0 0 0 M [(0, .ref a0)] [] := by
  unfold X5_total at hd
  obtain ⟨_, _, hd⟩ := bnd hd
  refine pt_iconst G (0 : Int32) dX5_total_0 ci_0 ?_
  refine pt_istore_n G [(1, .int (0 : Int32)), (0, .ref a0)] dX5_total_1 rfl (by decide) rfl ?_
  refine pt_iconst G (0 : Int32) dX5_total_2 ci_0 ?_
  refine pt_istore_n G [(2, .int (0 : Int32)), (1, .int (0 : Int32)), (0, .ref a0)] dX5_total_3 rfl (by decide) rfl ?_
  obtain ⟨v8, hw9, hd⟩ := bnd hd
  refine pt_sub [2, 1, 0] rfl (X5_total_w4_w G _ _ _ hw9 ?_)
  show Pt X 0 0 _ _ _ []
  refine pt_iload_n G 0 dX5_total_27 rfl rfl ?_
  cases hd
  exact pt_iret G hQ dX5_total_28
theorem X5_total_c {l : Launch} {D : va_G} {dA : Nat → ClassId} {b : Nat} {M : Wo} {a0 : Nat} {r : Int32} (h : X5_total M a0 = some r) : Met l yX5_total wsX5_total rX5_total (va_Pc [.ref a0] (Wd D dA b M)) (Ei D dA b r M) 0 0 (Ab b) := met_i (by decide) rfl (Nat.le_of_ble_eq_true rfl) (fun X G hN hQ => X5_total_w G h hQ)
theorem X5_total_v {X : Cx} {y : MethodName} {cc : ByteArray} {Ts : List Cond} {nL : Nat} {ret : Option FieldType} {R : Room} (G : Gd X y cc Ts nL ret R) {index : Nat} (hg : GoodIn Ts (wsV y.cls index RX5 yX5_total wsX5_total)) (hR : rX5_total.frames + 1 ≤ R.frames ∧ 8 + (3 + 11) + rX5_total.locals ≤ R.locals) {k n pc : Nat} {M : Wo} {lv : List (Nat × Value)} {st : List Value} {a0 : Nat} {r : Int32} (hv : X5_total M a0 = some r) (hd : decode cc pc = .ok (.invokevirtual index, 3)) (h8 : (st.map fun v => v.category).sum ≤ 8) (hf : k ≤ R.cells ∧ n ≤ R.slots) (kk : Pt X k n (pc + 3) M lv (.int r :: st)) : Pt X k n pc M lv (.ref a0 :: st) := pt_cVi (ci := 5) (nA := 0) (As := []) G (X5_total_c hv) hg rfl rfl rfl (by decide +kernel) hR rfl (rcv hv) rfl rfl h8 hd hf kk
abbrev rX5_copyFrom : Room := { frames := 1, cells := 0, slots := 0, locals := 60 }
theorem m_X5_copyFrom_2 : Cond.methodLink RX5 19 arraycopyName ∈ wsX5_copyFrom := List.mem_of_getElem? (i := 2) rfl
theorem m_X5_copyFrom_3 : Cond.native arraycopyName ∈ wsX5_copyFrom := List.mem_of_getElem? (i := 3) rfl
theorem m_X5_copyFrom_4 : Cond.static arraycopyName ∈ wsX5_copyFrom := List.mem_of_getElem? (i := 4) rfl
theorem m_X5_copyFrom_5 : Cond.initialized "java/lang/System" ∈ wsX5_copyFrom := List.mem_of_getElem? (i := 5) rfl
theorem m_X5_copyFrom_6 : Cond.fieldLink RX5 15 "StageLines$Pile" "size" "I" ∈ wsX5_copyFrom := List.mem_of_getElem? (i := 6) rfl
theorem u_X5_copyFrom_X5 : ∀ w ∈ u_ws RX5 TX5 2, w ∈ wsX5_copyFrom := mem_r [7, 8] (by decide +kernel)
theorem m_X5_copyFrom_1 : Cond.fieldLink RX5 9 "StageLines$Pile" "weights" "[I" ∈ wsX5_copyFrom := List.mem_of_getElem? (i := 1) rfl
def X5_copyFrom (M : Wo) (a0 : Nat) (a1 : Nat) : Option Wo :=
  (ckO M a0 5).bind fun _ => (gR M a1 5 0).bind fun w1 => (gR M a0 5 0).bind fun w3 => (cpI M w1 (0 : Int32) w3 (0 : Int32) (6 : Int32)).bind fun M5 => (gI M5 a1 5 1).bind fun v7 => (pV M5 a0 5 1 (.int v7)).bind fun M9 => some M9
theorem X5_copyFrom_w {X : Cx} (G : Gd X yX5_copyFrom cX5_copyFrom wsX5_copyFrom 2 none rX5_copyFrom) {M : Wo} {a0 : Nat} {a1 : Nat} {o : Wo} (hd : X5_copyFrom M a0 a1 = some o) (hQ : Qv X o 0 0) : Pt X 0 0 0 M [(0, .ref a0), (1, .ref a1)] [] := by
  unfold X5_copyFrom at hd
  obtain ⟨_, _, hd⟩ := bnd hd
  refine pt_aload_n G 1 dX5_copyFrom_0 rfl rfl ?_
  obtain ⟨w1, h2, hd⟩ := bnd hd
  refine pt_get G (ci := 5) (j := 0) rfl (by decide) u_X5_copyFrom_X5 m_X5_copyFrom_1 (gR_o h2) dX5_copyFrom_1 ?_
  refine pt_iconst G (0 : Int32) dX5_copyFrom_4 ci_0 ?_
  refine pt_aload_n G 0 dX5_copyFrom_5 rfl rfl ?_
  obtain ⟨w3, h4, hd⟩ := bnd hd
  refine pt_get G (ci := 5) (j := 0) rfl (by decide) u_X5_copyFrom_X5 m_X5_copyFrom_1 (gR_o h4) dX5_copyFrom_6 ?_
  refine pt_iconst G (0 : Int32) dX5_copyFrom_9 ci_0 ?_
  refine pt_bipush G (6 : Int32) dX5_copyFrom_10 bi_6 ?_
  obtain ⟨M5, h6, hd⟩ := bnd hd
  refine pt_copy G m_X5_copyFrom_2 m_X5_copyFrom_3 m_X5_copyFrom_4 m_X5_copyFrom_5 (Nat.le_of_ble_eq_true rfl) (by decide) h6 dX5_copyFrom_12 ?_
  refine pt_aload_n G 0 dX5_copyFrom_15 rfl rfl ?_
  refine pt_aload_n G 1 dX5_copyFrom_16 rfl rfl ?_
  obtain ⟨v7, h8, hd⟩ := bnd hd
  refine pt_get G (ci := 5) (j := 1) rfl (by decide) u_X5_copyFrom_X5 m_X5_copyFrom_6 (gI_o h8) dX5_copyFrom_17 ?_
  obtain ⟨M9, h10, hd⟩ := bnd hd
  refine pt_put G (ci := 5) (j := 1) rfl (by decide) u_X5_copyFrom_X5 m_X5_copyFrom_6 tyX5 tyX5_ok nmX5 rfl rfl rfl h10 dX5_copyFrom_20 ?_
  cases hd
  exact pt_vret G hQ dX5_copyFrom_23
theorem X5_copyFrom_c {l : Launch} {D : va_G} {dA : Nat → ClassId} {b : Nat} {M : Wo} {a0 : Nat} {a1 : Nat} {M2 : Wo} (h : X5_copyFrom M a0 a1 = some M2) : Met l yX5_copyFrom wsX5_copyFrom rX5_copyFrom (va_Pc [.ref a0, .ref a1] (Wd D dA b M)) (Ev D dA b M2) 0 0 (Ab b) := met_v (by decide) rfl (Nat.le_of_ble_eq_true rfl) (fun X G hN hQ => X5_copyFrom_w G h hQ)
theorem X5_copyFrom_v {X : Cx} {y : MethodName} {cc : ByteArray} {Ts : List Cond} {nL : Nat} {ret : Option FieldType} {R : Room} (G : Gd X y cc Ts nL ret R) {index : Nat} (hg : GoodIn Ts (wsV y.cls index RX5 yX5_copyFrom wsX5_copyFrom)) (hR : rX5_copyFrom.frames + 1 ≤ R.frames ∧ 8 + (2 + 11) + rX5_copyFrom.locals ≤ R.locals) {k n pc : Nat} {M : Wo} {lv : List (Nat × Value)} {st : List Value} {a0 : Nat} {a1 : Nat} {M2 : Wo} (hv : X5_copyFrom M a0 a1 = some M2) (hd : decode cc pc = .ok (.invokevirtual index, 3)) (h8 : (st.map fun v => v.category).sum ≤ 8) (hf : k ≤ R.cells ∧ n ≤ R.slots) (kk : Pt X k n (pc + 3) M2 lv st) : Pt X k n pc M lv (.ref a1 :: .ref a0 :: st) := pt_cVv (ci := 5) (nA := 1) (As := [.ref a1]) G (X5_copyFrom_c hv) hg rfl rfl rfl (by decide +kernel) hR rfl (rcv hv) rfl rfl h8 hd hf kk
abbrev rX4_stepFrom : Room := { frames := 1, cells := 0, slots := 0, locals := 60 }
theorem m_X4_stepFrom_2 : Cond.methodLink RX4 22 Lib.Math.abs.name ∈ wsX4_stepFrom := List.mem_of_getElem? (i := 2) rfl
theorem m_X4_stepFrom_3 : Cond.static Lib.Math.abs.name ∈ wsX4_stepFrom := List.mem_of_getElem? (i := 3) rfl
theorem m_X4_stepFrom_4 : Cond.initialized "java/lang/Math" ∈ wsX4_stepFrom := List.mem_of_getElem? (i := 4) rfl
theorem m_X4_stepFrom_5 : Cond.code Lib.Math.abs.name Lib.Math.abs.code 1 (some .int) ∈ wsX4_stepFrom := List.mem_of_getElem? (i := 5) rfl
theorem m_X4_stepFrom_6 : Cond.fieldLink RX4 19 "StageLines$Move" "pace" "I" ∈ wsX4_stepFrom := List.mem_of_getElem? (i := 6) rfl
theorem u_X4_stepFrom_X4 : ∀ w ∈ u_ws RX4 TX4 4, w ∈ wsX4_stepFrom := mem_r [7, 8, 9, 10] (by decide +kernel)
theorem m_X4_stepFrom_1 : Cond.fieldLink RX4 16 "StageLines$Move" "target" "I" ∈ wsX4_stepFrom := List.mem_of_getElem? (i := 1) rfl
def X4_stepFrom (M : Wo) (a0 : Nat) (x1 : Int32) : Option Int32 :=
  (ckO M a0 4).bind fun _ => (gI M a0 4 2).bind fun v1 => (gI M a0 4 3).bind fun v3 => if v3 < (iAbs (v1 - x1)) then ((gI M a0 4 2).bind fun v5 => if v5 ≤ x1 then ((gI M a0 4 3).bind fun v7 => some (x1 - v7)) else ((gI M a0 4 3).bind fun v9 => some (x1 + v9))) else ((gI M a0 4 2).bind fun v12 => some v12)
theorem X4_stepFrom_w {X : Cx} (G : Gd X yX4_stepFrom cX4_stepFrom wsX4_stepFrom 2 (some .int) rX4_stepFrom) {M : Wo} {a0 : Nat} {x1 : Int32} {o : Int32} (hd : X4_stepFrom M a0 x1 = some o) (hQ : Qi X o M 0 0) : Pt X 0 0 0 M [(0, .ref a0), (1, .int x1)] [] := by
  unfold X4_stepFrom at hd
  obtain ⟨_, _, hd⟩ := bnd hd
  refine pt_aload_n G 0 dX4_stepFrom_0 rfl rfl ?_
  obtain ⟨v1, h2, hd⟩ := bnd hd
  refine pt_get G (ci := 4) (j := 2) rfl (by decide) u_X4_stepFrom_X4 m_X4_stepFrom_1 (gI_o h2) dX4_stepFrom_1 ?_
  refine pt_iload_n G 1 dX4_stepFrom_4 rfl rfl ?_
  refine pt_isub G dX4_stepFrom_5 ?_
  refine pt_mabs G m_X4_stepFrom_2 m_X4_stepFrom_3 m_X4_stepFrom_4 m_X4_stepFrom_5 (Nat.le_of_ble_eq_true rfl) (Nat.le_of_ble_eq_true rfl) ⟨(Nat.le_of_ble_eq_true rfl), (Nat.le_of_ble_eq_true rfl)⟩ dX4_stepFrom_6 ?_
  refine pt_aload_n G 0 dX4_stepFrom_9 rfl rfl ?_
  obtain ⟨v3, h4, hd⟩ := bnd hd
  refine pt_get G (ci := 4) (j := 3) rfl (by decide) u_X4_stepFrom_X4 m_X4_stepFrom_6 (gI_o h4) dX4_stepFrom_10 ?_
  refine pt_icmp_gt G 21 dX4_stepFrom_13 (by decide) (fun c14 => ?_) (fun c14 => ?_)
  · replace hd := ifp c14 hd
    refine pt_iload_n G 1 dX4_stepFrom_21 rfl rfl ?_
    refine pt_aload_n G 0 dX4_stepFrom_22 rfl rfl ?_
    obtain ⟨v5, h6, hd⟩ := bnd hd
    refine pt_get G (ci := 4) (j := 2) rfl (by decide) u_X4_stepFrom_X4 m_X4_stepFrom_1 (gI_o h6) dX4_stepFrom_23 ?_
    refine pt_icmp_ge G 38 dX4_stepFrom_26 (by decide) (fun c11 => ?_) (fun c11 => ?_)
    · replace hd := ifp c11 hd
      refine pt_iload_n G 1 dX4_stepFrom_38 rfl rfl ?_
      refine pt_aload_n G 0 dX4_stepFrom_39 rfl rfl ?_
      obtain ⟨v7, h8, hd⟩ := bnd hd
      refine pt_get G (ci := 4) (j := 3) rfl (by decide) u_X4_stepFrom_X4 m_X4_stepFrom_6 (gI_o h8) dX4_stepFrom_40 ?_
      refine pt_isub G dX4_stepFrom_43 ?_
      cases hd
      exact pt_iret G hQ dX4_stepFrom_44
    · replace hd := ifn c11 hd
      refine pt_iload_n G 1 dX4_stepFrom_29 rfl rfl ?_
      refine pt_aload_n G 0 dX4_stepFrom_30 rfl rfl ?_
      obtain ⟨v9, h10, hd⟩ := bnd hd
      refine pt_get G (ci := 4) (j := 3) rfl (by decide) u_X4_stepFrom_X4 m_X4_stepFrom_6 (gI_o h10) dX4_stepFrom_31 ?_
      refine pt_iadd G dX4_stepFrom_34 ?_
      refine pt_goto G 44 dX4_stepFrom_35 (by decide) ?_
      cases hd
      exact pt_iret G hQ dX4_stepFrom_44
  · replace hd := ifn c14 hd
    refine pt_aload_n G 0 dX4_stepFrom_16 rfl rfl ?_
    obtain ⟨v12, h13, hd⟩ := bnd hd
    refine pt_get G (ci := 4) (j := 2) rfl (by decide) u_X4_stepFrom_X4 m_X4_stepFrom_1 (gI_o h13) dX4_stepFrom_17 ?_
    cases hd
    exact pt_iret G hQ dX4_stepFrom_20
theorem X4_stepFrom_c {l : Launch} {D : va_G} {dA : Nat → ClassId} {b : Nat} {M : Wo} {a0 : Nat} {x1 : Int32} {r : Int32} (h : X4_stepFrom M a0 x1 = some r) : Met l yX4_stepFrom wsX4_stepFrom rX4_stepFrom (va_Pc [.ref a0, .int x1] (Wd D dA b M)) (Ei D dA b r M) 0 0 (Ab b) := met_i (by decide) rfl (Nat.le_of_ble_eq_true rfl) (fun X G hN hQ => X4_stepFrom_w G h hQ)
theorem X4_stepFrom_v {X : Cx} {y : MethodName} {cc : ByteArray} {Ts : List Cond} {nL : Nat} {ret : Option FieldType} {R : Room} (G : Gd X y cc Ts nL ret R) {index : Nat} (hg : GoodIn Ts (wsV y.cls index RX4 yX4_stepFrom wsX4_stepFrom)) (hR : rX4_stepFrom.frames + 1 ≤ R.frames ∧ 8 + (2 + 11) + rX4_stepFrom.locals ≤ R.locals) {k n pc : Nat} {M : Wo} {lv : List (Nat × Value)} {st : List Value} {a0 : Nat} {x1 : Int32} {r : Int32} (hv : X4_stepFrom M a0 x1 = some r) (hd : decode cc pc = .ok (.invokevirtual index, 3)) (h8 : (st.map fun v => v.category).sum ≤ 8) (hf : k ≤ R.cells ∧ n ≤ R.slots) (kk : Pt X k n (pc + 3) M lv (.int r :: st)) : Pt X k n pc M lv (.int x1 :: .ref a0 :: st) := pt_cVi (ci := 4) (nA := 1) (As := [.int x1]) G (X4_stepFrom_c hv) hg rfl rfl rfl (by decide +kernel) hR rfl (rcv hv) rfl rfl h8 hd hf kk
abbrev rX4_init : Room := { frames := 1, cells := 0, slots := 0, locals := 60 }
theorem m_X4_init_7 : Cond.fieldLink RX4 19 "StageLines$Move" "pace" "I" ∈ wsX4_init := List.mem_of_getElem? (i := 7) rfl
theorem u_X4_init_X4 : ∀ w ∈ u_ws RX4 TX4 4, w ∈ wsX4_init := mem_r [8, 9, 10, 11] (by decide +kernel)
theorem m_X4_init_6 : Cond.fieldLink RX4 16 "StageLines$Move" "target" "I" ∈ wsX4_init := List.mem_of_getElem? (i := 6) rfl
theorem m_X4_init_5 : Cond.fieldLink RX4 13 "StageLines$Move" "begin" "I" ∈ wsX4_init := List.mem_of_getElem? (i := 5) rfl
theorem m_X4_init_4 : Cond.fieldLink RX4 7 "StageLines$Move" "bar" "I" ∈ wsX4_init := List.mem_of_getElem? (i := 4) rfl
theorem m_X4_init_1 : Cond.methodLink RX4 1 objectInit ∈ wsX4_init := List.mem_of_getElem? (i := 1) rfl
theorem m_X4_init_2 : Cond.instanceMethod objectInit ∈ wsX4_init := List.mem_of_getElem? (i := 2) rfl
theorem m_X4_init_3 : Cond.code objectInit ⟨#[0xb1]⟩ 1 none ∈ wsX4_init := List.mem_of_getElem? (i := 3) rfl
def X4_init (M : Wo) (a0 : Nat) : Option Wo :=
  (ckO M a0 4).bind fun _ => (pV M a0 4 0 (.int (0 : Int32))).bind fun M1 => (pV M1 a0 4 1 (.int (0 : Int32))).bind fun M3 => (pV M3 a0 4 2 (.int (0 : Int32))).bind fun M5 => (pV M5 a0 4 3 (.int (1 : Int32))).bind fun M7 => some M7
theorem X4_init_w {X : Cx} (G : Gd X yX4_init cX4_init wsX4_init 1 none rX4_init) (hN : (xT X).name = "<init>") {M : Wo} {a0 : Nat} {o : Wo} (hd : X4_init M a0 = some o) (hQ : Qv X o 0 0) : Pt X 0 0 0 M [(0, .ref a0)] [] := by
  unfold X4_init at hd
  obtain ⟨_, _, hd⟩ := bnd hd
  refine pt_aload_n G 0 dX4_init_0 rfl rfl ?_
  refine pt_obj G m_X4_init_1 m_X4_init_2 m_X4_init_3 (Nat.le_of_ble_eq_true rfl) (Nat.le_of_ble_eq_true rfl) dX4_init_1 ?_
  refine pt_aload_n G 0 dX4_init_4 rfl rfl ?_
  refine pt_iconst G (0 : Int32) dX4_init_5 ci_0 ?_
  obtain ⟨M1, h2, hd⟩ := bnd hd
  refine pt_put G (ci := 4) (j := 0) rfl (by decide) u_X4_init_X4 m_X4_init_4 tyX4 tyX4_ok nmX4 rfl rfl rfl h2 dX4_init_6 ?_
  refine pt_aload_n G 0 dX4_init_9 rfl rfl ?_
  refine pt_iconst G (0 : Int32) dX4_init_10 ci_0 ?_
  obtain ⟨M3, h4, hd⟩ := bnd hd
  refine pt_put G (ci := 4) (j := 1) rfl (by decide) u_X4_init_X4 m_X4_init_5 tyX4 tyX4_ok nmX4 rfl rfl rfl h4 dX4_init_11 ?_
  refine pt_aload_n G 0 dX4_init_14 rfl rfl ?_
  refine pt_iconst G (0 : Int32) dX4_init_15 ci_0 ?_
  obtain ⟨M5, h6, hd⟩ := bnd hd
  refine pt_put G (ci := 4) (j := 2) rfl (by decide) u_X4_init_X4 m_X4_init_6 tyX4 tyX4_ok nmX4 rfl rfl rfl h6 dX4_init_16 ?_
  refine pt_aload_n G 0 dX4_init_19 rfl rfl ?_
  refine pt_iconst G (1 : Int32) dX4_init_20 ci_1 ?_
  obtain ⟨M7, h8, hd⟩ := bnd hd
  refine pt_put G (ci := 4) (j := 3) rfl (by decide) u_X4_init_X4 m_X4_init_7 tyX4 tyX4_ok nmX4 rfl rfl rfl h8 dX4_init_21 ?_
  cases hd
  exact pt_vret G hQ dX4_init_24
theorem X4_init_c {l : Launch} {D : va_G} {dA : Nat → ClassId} {b : Nat} {M : Wo} {a0 : Nat} {M2 : Wo} (h : X4_init M a0 = some M2) : Met l yX4_init wsX4_init rX4_init (va_Pc [.ref a0] (Wd D dA b M)) (Ev D dA b M2) 0 0 (Ab b) := met_v (by decide) rfl (Nat.le_of_ble_eq_true rfl) (fun X G hN hQ => X4_init_w G hN h hQ)
theorem X4_init_vi {X : Cx} {y : MethodName} {cc : ByteArray} {Ts : List Cond} {nL : Nat} {ret : Option FieldType} {R : Room} (G : Gd X y cc Ts nL ret R) {index : Nat} (hg : GoodIn Ts wsX4_init) (hini : Cond.initialized yX4_init.cls ∈ Ts) (hl : Cond.methodLink y.cls index yX4_init ∈ Ts) (hi : Cond.instanceMethod yX4_init ∈ Ts) (hR : rX4_init.frames + 1 ≤ R.frames ∧ 8 + (1 + 11) + rX4_init.locals ≤ R.locals) {k n pc : Nat} {M : Wo} {lv : List (Nat × Value)} {st : List Value} {a0 : Nat} {M2 : Wo} (hv : X4_init M a0 = some M2) (hd : decode cc pc = .ok (.invokespecial index, 3)) (h8 : (st.map fun v => v.category).sum ≤ 8) (hf : k ≤ R.cells ∧ n ≤ R.slots) (kk : Pt X k n (pc + 3) M2 lv st) : Pt X k n pc M lv (.ref a0 :: st) := pt_cI (nA := 0) (As := []) G (X4_init_c hv) hg rfl rfl rfl hini hl hi rfl (by decide +kernel) hR rfl rfl h8 hd hf kk
theorem X4_init_vn {X : Cx} {y : MethodName} {cc : ByteArray} {Ts : List Cond} {nL : Nat} {ret : Option FieldType} {R : Room} (G : Gd X y cc Ts nL ret R) {index : Nat} (hg : GoodIn Ts wsX4_init) (hini : Cond.initialized yX4_init.cls ∈ Ts) (hl : va_Nw (.methodLinkNest y.cls index yX4_init "StageLines") (xS X)) (hi : Cond.instanceMethod yX4_init ∈ Ts) (hR : rX4_init.frames + 1 ≤ R.frames ∧ 8 + (1 + 11) + rX4_init.locals ≤ R.locals) {k n pc : Nat} {M : Wo} {lv : List (Nat × Value)} {st : List Value} {a0 : Nat} {M2 : Wo} (hv : X4_init M a0 = some M2) (hd : decode cc pc = .ok (.invokespecial index, 3)) (h8 : (st.map fun v => v.category).sum ≤ 8) (hf : k ≤ R.cells ∧ n ≤ R.slots) (kk : Pt X k n (pc + 3) M2 lv st) : Pt X k n pc M lv (.ref a0 :: st) := pt_cN (nA := 0) (As := []) G (X4_init_c hv) hg rfl rfl rfl hini hl hi rfl (by decide +kernel) hR rfl rfl h8 hd hf kk
abbrev rX4_copyFrom : Room := { frames := 0, cells := 0, slots := 0, locals := 0 }
theorem m_X4_copyFrom_4 : Cond.fieldLink RX4 19 "StageLines$Move" "pace" "I" ∈ wsX4_copyFrom := List.mem_of_getElem? (i := 4) rfl
theorem u_X4_copyFrom_X4 : ∀ w ∈ u_ws RX4 TX4 4, w ∈ wsX4_copyFrom := mem_r [5, 6, 7, 8] (by decide +kernel)
theorem m_X4_copyFrom_3 : Cond.fieldLink RX4 16 "StageLines$Move" "target" "I" ∈ wsX4_copyFrom := List.mem_of_getElem? (i := 3) rfl
theorem m_X4_copyFrom_2 : Cond.fieldLink RX4 13 "StageLines$Move" "begin" "I" ∈ wsX4_copyFrom := List.mem_of_getElem? (i := 2) rfl
theorem m_X4_copyFrom_1 : Cond.fieldLink RX4 7 "StageLines$Move" "bar" "I" ∈ wsX4_copyFrom := List.mem_of_getElem? (i := 1) rfl
def X4_copyFrom (M : Wo) (a0 : Nat) (a1 : Nat) : Option Wo :=
  (ckO M a0 4).bind fun _ => (gI M a1 4 0).bind fun v1 => (pV M a0 4 0 (.int v1)).bind fun M3 => (gI M3 a1 4 1).bind fun v5 => (pV M3 a0 4 1 (.int v5)).bind fun M7 => (gI M7 a1 4 2).bind fun v9 => (pV M7 a0 4 2 (.int v9)).bind fun M11 => (gI M11 a1 4 3).bind fun v13 => (pV M11 a0 4 3 (.int v13)).bind fun M15 => some M15
theorem X4_copyFrom_w {X : Cx} (G : Gd X yX4_copyFrom cX4_copyFrom wsX4_copyFrom 2 none rX4_copyFrom) {M : Wo} {a0 : Nat} {a1 : Nat} {o : Wo} (hd : X4_copyFrom M a0 a1 = some o) (hQ : Qv X o 0 0) : Pt X 0 0 0 M [(0, .ref a0), (1, .ref a1)] [] := by
  unfold X4_copyFrom at hd
  obtain ⟨_, _, hd⟩ := bnd hd
  refine pt_aload_n G 0 dX4_copyFrom_0 rfl rfl ?_
  refine pt_aload_n G 1 dX4_copyFrom_1 rfl rfl ?_
  obtain ⟨v1, h2, hd⟩ := bnd hd
  refine pt_get G (ci := 4) (j := 0) rfl (by decide) u_X4_copyFrom_X4 m_X4_copyFrom_1 (gI_o h2) dX4_copyFrom_2 ?_
  obtain ⟨M3, h4, hd⟩ := bnd hd
  refine pt_put G (ci := 4) (j := 0) rfl (by decide) u_X4_copyFrom_X4 m_X4_copyFrom_1 tyX4 tyX4_ok nmX4 rfl rfl rfl h4 dX4_copyFrom_5 ?_
  refine pt_aload_n G 0 dX4_copyFrom_8 rfl rfl ?_
  refine pt_aload_n G 1 dX4_copyFrom_9 rfl rfl ?_
  obtain ⟨v5, h6, hd⟩ := bnd hd
  refine pt_get G (ci := 4) (j := 1) rfl (by decide) u_X4_copyFrom_X4 m_X4_copyFrom_2 (gI_o h6) dX4_copyFrom_10 ?_
  obtain ⟨M7, h8, hd⟩ := bnd hd
  refine pt_put G (ci := 4) (j := 1) rfl (by decide) u_X4_copyFrom_X4 m_X4_copyFrom_2 tyX4 tyX4_ok nmX4 rfl rfl rfl h8 dX4_copyFrom_13 ?_
  refine pt_aload_n G 0 dX4_copyFrom_16 rfl rfl ?_
  refine pt_aload_n G 1 dX4_copyFrom_17 rfl rfl ?_
  obtain ⟨v9, h10, hd⟩ := bnd hd
  refine pt_get G (ci := 4) (j := 2) rfl (by decide) u_X4_copyFrom_X4 m_X4_copyFrom_3 (gI_o h10) dX4_copyFrom_18 ?_
  obtain ⟨M11, h12, hd⟩ := bnd hd
  refine pt_put G (ci := 4) (j := 2) rfl (by decide) u_X4_copyFrom_X4 m_X4_copyFrom_3 tyX4 tyX4_ok nmX4 rfl rfl rfl h12 dX4_copyFrom_21 ?_
  refine pt_aload_n G 0 dX4_copyFrom_24 rfl rfl ?_
  refine pt_aload_n G 1 dX4_copyFrom_25 rfl rfl ?_
  obtain ⟨v13, h14, hd⟩ := bnd hd
  refine pt_get G (ci := 4) (j := 3) rfl (by decide) u_X4_copyFrom_X4 m_X4_copyFrom_4 (gI_o h14) dX4_copyFrom_26 ?_
  obtain ⟨M15, h16, hd⟩ := bnd hd
  refine pt_put G (ci := 4) (j := 3) rfl (by decide) u_X4_copyFrom_X4 m_X4_copyFrom_4 tyX4 tyX4_ok nmX4 rfl rfl rfl h16 dX4_copyFrom_29 ?_
  cases hd
  exact pt_vret G hQ dX4_copyFrom_32
theorem X4_copyFrom_c {l : Launch} {D : va_G} {dA : Nat → ClassId} {b : Nat} {M : Wo} {a0 : Nat} {a1 : Nat} {M2 : Wo} (h : X4_copyFrom M a0 a1 = some M2) : Met l yX4_copyFrom wsX4_copyFrom rX4_copyFrom (va_Pc [.ref a0, .ref a1] (Wd D dA b M)) (Ev D dA b M2) 0 0 (Ab b) := met_v (by decide) rfl (Nat.le_of_ble_eq_true rfl) (fun X G hN hQ => X4_copyFrom_w G h hQ)
theorem X4_copyFrom_v {X : Cx} {y : MethodName} {cc : ByteArray} {Ts : List Cond} {nL : Nat} {ret : Option FieldType} {R : Room} (G : Gd X y cc Ts nL ret R) {index : Nat} (hg : GoodIn Ts (wsV y.cls index RX4 yX4_copyFrom wsX4_copyFrom)) (hR : rX4_copyFrom.frames + 1 ≤ R.frames ∧ 8 + (2 + 11) + rX4_copyFrom.locals ≤ R.locals) {k n pc : Nat} {M : Wo} {lv : List (Nat × Value)} {st : List Value} {a0 : Nat} {a1 : Nat} {M2 : Wo} (hv : X4_copyFrom M a0 a1 = some M2) (hd : decode cc pc = .ok (.invokevirtual index, 3)) (h8 : (st.map fun v => v.category).sum ≤ 8) (hf : k ≤ R.cells ∧ n ≤ R.slots) (kk : Pt X k n (pc + 3) M2 lv st) : Pt X k n pc M lv (.ref a1 :: .ref a0 :: st) := pt_cVv (ci := 4) (nA := 1) (As := [.ref a1]) G (X4_copyFrom_c hv) hg rfl rfl rfl (by decide +kernel) hR rfl (rcv hv) rfl rfl h8 hd hf kk
abbrev rX5_add : Room := { frames := 0, cells := 0, slots := 0, locals := 0 }
theorem m_X5_add_2 : Cond.fieldLink RX5 15 "StageLines$Pile" "size" "I" ∈ wsX5_add := List.mem_of_getElem? (i := 2) rfl
theorem u_X5_add_X5 : ∀ w ∈ u_ws RX5 TX5 2, w ∈ wsX5_add := mem_r [3, 4] (by decide +kernel)
theorem m_X5_add_1 : Cond.fieldLink RX5 9 "StageLines$Pile" "weights" "[I" ∈ wsX5_add := List.mem_of_getElem? (i := 1) rfl
def X5_add (M : Wo) (a0 : Nat) (x1 : Int32) : Option Wo :=
  (ckO M a0 5).bind fun _ => (gR M a0 5 0).bind fun w1 => (gI M a0 5 1).bind fun v3 => (sA M w1 v3 x1).bind fun M5 => (gI M5 a0 5 1).bind fun v7 => (pV M5 a0 5 1 (.int (v7 + (1 : Int32)))).bind fun M9 => some M9
theorem X5_add_w {X : Cx} (G : Gd X yX5_add cX5_add wsX5_add 2 none rX5_add) {M : Wo} {a0 : Nat} {x1 : Int32} {o : Wo} (hd : X5_add M a0 x1 = some o) (hQ : Qv X o 0 0) : Pt X 0 0 0 M [(0, .ref a0), (1, .int x1)] [] := by
  unfold X5_add at hd
  obtain ⟨_, _, hd⟩ := bnd hd
  refine pt_aload_n G 0 dX5_add_0 rfl rfl ?_
  obtain ⟨w1, h2, hd⟩ := bnd hd
  refine pt_get G (ci := 5) (j := 0) rfl (by decide) u_X5_add_X5 m_X5_add_1 (gR_o h2) dX5_add_1 ?_
  refine pt_aload_n G 0 dX5_add_4 rfl rfl ?_
  obtain ⟨v3, h4, hd⟩ := bnd hd
  refine pt_get G (ci := 5) (j := 1) rfl (by decide) u_X5_add_X5 m_X5_add_2 (gI_o h4) dX5_add_5 ?_
  refine pt_iload_n G 1 dX5_add_8 rfl rfl ?_
  obtain ⟨M5, h6, hd⟩ := bnd hd
  refine pt_iast G h6 dX5_add_9 ?_
  refine pt_aload_n G 0 dX5_add_10 rfl rfl ?_
  refine pt_dup G dX5_add_11 rfl ?_
  obtain ⟨v7, h8, hd⟩ := bnd hd
  refine pt_get G (ci := 5) (j := 1) rfl (by decide) u_X5_add_X5 m_X5_add_2 (gI_o h8) dX5_add_12 ?_
  refine pt_iconst G (1 : Int32) dX5_add_15 ci_1 ?_
  refine pt_iadd G dX5_add_16 ?_
  obtain ⟨M9, h10, hd⟩ := bnd hd
  refine pt_put G (ci := 5) (j := 1) rfl (by decide) u_X5_add_X5 m_X5_add_2 tyX5 tyX5_ok nmX5 rfl rfl rfl h10 dX5_add_17 ?_
  cases hd
  exact pt_vret G hQ dX5_add_20
theorem X5_add_c {l : Launch} {D : va_G} {dA : Nat → ClassId} {b : Nat} {M : Wo} {a0 : Nat} {x1 : Int32} {M2 : Wo} (h : X5_add M a0 x1 = some M2) : Met l yX5_add wsX5_add rX5_add (va_Pc [.ref a0, .int x1] (Wd D dA b M)) (Ev D dA b M2) 0 0 (Ab b) := met_v (by decide) rfl (Nat.le_of_ble_eq_true rfl) (fun X G hN hQ => X5_add_w G h hQ)
theorem X5_add_v {X : Cx} {y : MethodName} {cc : ByteArray} {Ts : List Cond} {nL : Nat} {ret : Option FieldType} {R : Room} (G : Gd X y cc Ts nL ret R) {index : Nat} (hg : GoodIn Ts (wsV y.cls index RX5 yX5_add wsX5_add)) (hR : rX5_add.frames + 1 ≤ R.frames ∧ 8 + (2 + 11) + rX5_add.locals ≤ R.locals) {k n pc : Nat} {M : Wo} {lv : List (Nat × Value)} {st : List Value} {a0 : Nat} {x1 : Int32} {M2 : Wo} (hv : X5_add M a0 x1 = some M2) (hd : decode cc pc = .ok (.invokevirtual index, 3)) (h8 : (st.map fun v => v.category).sum ≤ 8) (hf : k ≤ R.cells ∧ n ≤ R.slots) (kk : Pt X k n (pc + 3) M2 lv st) : Pt X k n pc M lv (.int x1 :: .ref a0 :: st) := pt_cVv (ci := 5) (nA := 1) (As := [.int x1]) G (X5_add_c hv) hg rfl rfl rfl (by decide +kernel) hR rfl (rcv hv) rfl rfl h8 hd hf kk
abbrev rX5_remove : Room := { frames := 0, cells := 0, slots := 0, locals := 0 }
theorem m_X5_remove_1 : Cond.fieldLink RX5 9 "StageLines$Pile" "weights" "[I" ∈ wsX5_remove := List.mem_of_getElem? (i := 1) rfl
theorem u_X5_remove_X5 : ∀ w ∈ u_ws RX5 TX5 2, w ∈ wsX5_remove := mem_r [3, 4] (by decide +kernel)
theorem m_X5_remove_2 : Cond.fieldLink RX5 15 "StageLines$Pile" "size" "I" ∈ wsX5_remove := List.mem_of_getElem? (i := 2) rfl
abbrev X5_remove_P11 (X : Cx) (a0 : Nat) (x2 : Int32) : (Wo × Int32) → Prop := un2 (fun M x3 => Pt X 0 0 11 M [(0, .ref a0), (2, .int x2), (3, .int x3)] [])
abbrev X5_remove_Z11 (X : Cx) (a0 : Nat) (x2 : Int32) : Wo → Prop := (un1 (fun M => Pt X 0 0 39 M [(0, .ref a0), (2, .int x2)] []))
def X5_remove_b11 (a0 : Nat) (x2 : Int32) (M : Wo) (x3 : Int32) : Option ((Wo × Int32) ⊕ Wo) :=
  (gI M a0 5 1).bind fun v5 => if v5 ≤ x3 then (some (.inr M)) else ((gR M a0 5 0).bind fun w7 => (gR M a0 5 0).bind fun w9 => (lA M 0 w9 x3).bind fun v11 => (sA M w7 (x3 - (1 : Int32)) v11).bind fun M13 => some (.inl (M13, (x3 + 1))))
theorem X5_remove_b11_w {X : Cx} (G : Gd X yX5_remove cX5_remove wsX5_remove 4 (some .int) rX5_remove) {a0 : Nat} {x2 : Int32} {M : Wo} {x3 : Int32} {o : ((Wo × Int32) ⊕ Wo)} (hd : X5_remove_b11 a0 x2 M x3 = some o) (hc : ∀ s9, o = .inl s9 → X5_remove_P11 X a0 x2 s9) (he : ∀ e9, o = .inr e9 → X5_remove_Z11 X a0 x2 e9) : Pt X 0 0 11 M [(0, .ref a0), (2, .int x2), (3, .int x3)] [] := by
  unfold X5_remove_b11 at hd
  refine pt_iload_n G 2 dX5_remove_11 rfl rfl ?_
  refine pt_aload_n G 0 dX5_remove_12 rfl rfl ?_
  obtain ⟨v5, h6, hd⟩ := bnd hd
  refine pt_get G (ci := 5) (j := 1) rfl (by decide) u_X5_remove_X5 m_X5_remove_2 (gI_o h6) dX5_remove_13 ?_
  refine pt_icmp_ge G 39 dX5_remove_16 (by decide) (fun c15 => ?_) (fun c15 => ?_)
  · replace hd := ifp c15 hd
    exact pt_sub [0, 1] rfl (he M (Option.some.inj hd).symm)
  · replace hd := ifn c15 hd
    refine pt_aload_n G 0 dX5_remove_19 rfl rfl ?_
    obtain ⟨w7, h8, hd⟩ := bnd hd
    refine pt_get G (ci := 5) (j := 0) rfl (by decide) u_X5_remove_X5 m_X5_remove_1 (gR_o h8) dX5_remove_20 ?_
    refine pt_iload_n G 2 dX5_remove_23 rfl rfl ?_
    refine pt_iconst G (1 : Int32) dX5_remove_24 ci_1 ?_
    refine pt_isub G dX5_remove_25 ?_
    refine pt_aload_n G 0 dX5_remove_26 rfl rfl ?_
    obtain ⟨w9, h10, hd⟩ := bnd hd
    refine pt_get G (ci := 5) (j := 0) rfl (by decide) u_X5_remove_X5 m_X5_remove_1 (gR_o h10) dX5_remove_27 ?_
    refine pt_iload_n G 2 dX5_remove_30 rfl rfl ?_
    obtain ⟨v11, h12, hd⟩ := bnd hd
    refine pt_iald G h12 dX5_remove_31 ?_
    obtain ⟨M13, h14, hd⟩ := bnd hd
    refine pt_iast G h14 dX5_remove_32 ?_
    refine pt_iinc G 2 (x3 + 1) [(3, .int (x3 + 1)), (0, .ref a0), (2, .int x2)] dX5_remove_33 rfl (inc_1 _) (by decide) rfl ?_
    refine pt_goto G 11 dX5_remove_36 (by decide) ?_
    exact pt_sub [1, 2, 0] rfl (hc (M13, (x3 + 1)) (Option.some.inj hd).symm)
theorem X5_remove_w11_w {X : Cx} (G : Gd X yX5_remove cX5_remove wsX5_remove 4 (some .int) rX5_remove) {a0 : Nat} {x2 : Int32} (n9 : Nat) (s9 : (Wo × Int32)) (e9 : Wo) (hw : wloop (un2 (X5_remove_b11 a0 x2)) n9 s9 = some e9) (hz : X5_remove_Z11 X a0 x2 e9) : X5_remove_P11 X a0 x2 s9 := by
  refine wl_ind (P := X5_remove_P11 X a0 x2) (Z := X5_remove_Z11 X a0 x2) ?_ n9 s9 e9 hw hz
  intro s9 o9 hd hc he
  obtain ⟨M, x3⟩ := s9
  exact X5_remove_b11_w G hd hc he
def X5_remove (M : Wo) (a0 : Nat) (x1 : Int32) : Option (Int32 × Wo) :=
  (ckO M a0 5).bind fun _ => (gR M a0 5 0).bind fun w1 => (lA M 0 w1 x1).bind fun v3 => (wloop (un2 (X5_remove_b11 a0 v3)) FU (M, (x1 + (1 : Int32)))).bind fun M16 => (gI M16 a0 5 1).bind fun v17 => (pV M16 a0 5 1 (.int (v17 - (1 : Int32)))).bind fun M19 => some (v3, M19)
theorem X5_remove_w {X : Cx} (G : Gd X yX5_remove cX5_remove wsX5_remove 4 (some .int) rX5_remove) {M : Wo} {a0 : Nat} {x1 : Int32} {o : (Int32 × Wo)} (hd : X5_remove M a0 x1 = some o) (hQ : Qi X o.1 o.2 0 0) : Pt X 0 0 0 M [(0, .ref a0), (1, .int x1)] [] := by
  unfold X5_remove at hd
  obtain ⟨_, _, hd⟩ := bnd hd
  refine pt_aload_n G 0 dX5_remove_0 rfl rfl ?_
  obtain ⟨w1, h2, hd⟩ := bnd hd
  refine pt_get G (ci := 5) (j := 0) rfl (by decide) u_X5_remove_X5 m_X5_remove_1 (gR_o h2) dX5_remove_1 ?_
  refine pt_iload_n G 1 dX5_remove_4 rfl rfl ?_
  obtain ⟨v3, h4, hd⟩ := bnd hd
  refine pt_iald G h4 dX5_remove_5 ?_
  refine pt_istore_n G [(2, .int v3), (0, .ref a0), (1, .int x1)] dX5_remove_6 rfl (by decide) rfl ?_
  refine pt_iload_n G 2 dX5_remove_7 rfl rfl ?_
  refine pt_iconst G (1 : Int32) dX5_remove_8 ci_1 ?_
  refine pt_iadd G dX5_remove_9 ?_
  refine pt_istore_n G [(3, .int (x1 + (1 : Int32))), (2, .int v3), (0, .ref a0), (1, .int x1)] dX5_remove_10 rfl (by decide) rfl ?_
  obtain ⟨M16, hw21, hd⟩ := bnd hd
  refine pt_sub [2, 1, 0] rfl (X5_remove_w11_w G _ _ _ hw21 ?_)
  show Pt X 0 0 _ _ _ []
  refine pt_aload_n G 0 dX5_remove_39 rfl rfl ?_
  refine pt_dup G dX5_remove_40 rfl ?_
  obtain ⟨v17, h18, hd⟩ := bnd hd
  refine pt_get G (ci := 5) (j := 1) rfl (by decide) u_X5_remove_X5 m_X5_remove_2 (gI_o h18) dX5_remove_41 ?_
  refine pt_iconst G (1 : Int32) dX5_remove_44 ci_1 ?_
  refine pt_isub G dX5_remove_45 ?_
  obtain ⟨M19, h20, hd⟩ := bnd hd
  refine pt_put G (ci := 5) (j := 1) rfl (by decide) u_X5_remove_X5 m_X5_remove_2 tyX5 tyX5_ok nmX5 rfl rfl rfl h20 dX5_remove_46 ?_
  refine pt_iload_n G 1 dX5_remove_49 rfl rfl ?_
  cases hd
  exact pt_iret G hQ dX5_remove_50
theorem X5_remove_c {l : Launch} {D : va_G} {dA : Nat → ClassId} {b : Nat} {M : Wo} {a0 : Nat} {x1 : Int32} {r : Int32} {M2 : Wo} (h : X5_remove M a0 x1 = some (r, M2)) : Met l yX5_remove wsX5_remove rX5_remove (va_Pc [.ref a0, .int x1] (Wd D dA b M)) (Ei D dA b r M2) 0 0 (Ab b) := met_i (by decide) rfl (Nat.le_of_ble_eq_true rfl) (fun X G hN hQ => X5_remove_w G h hQ)
theorem X5_remove_v {X : Cx} {y : MethodName} {cc : ByteArray} {Ts : List Cond} {nL : Nat} {ret : Option FieldType} {R : Room} (G : Gd X y cc Ts nL ret R) {index : Nat} (hg : GoodIn Ts (wsV y.cls index RX5 yX5_remove wsX5_remove)) (hR : rX5_remove.frames + 1 ≤ R.frames ∧ 8 + (4 + 11) + rX5_remove.locals ≤ R.locals) {k n pc : Nat} {M : Wo} {lv : List (Nat × Value)} {st : List Value} {a0 : Nat} {x1 : Int32} {r : Int32} {M2 : Wo} (hv : X5_remove M a0 x1 = some (r, M2)) (hd : decode cc pc = .ok (.invokevirtual index, 3)) (h8 : (st.map fun v => v.category).sum ≤ 8) (hf : k ≤ R.cells ∧ n ≤ R.slots) (kk : Pt X k n (pc + 3) M2 lv (.int r :: st)) : Pt X k n pc M lv (.int x1 :: .ref a0 :: st) := pt_cVi (ci := 5) (nA := 1) (As := [.int x1]) G (X5_remove_c hv) hg rfl rfl rfl (by decide +kernel) hR rfl (rcv hv) rfl rfl h8 hd hf kk
abbrev rX5_weightOf : Room := { frames := 0, cells := 0, slots := 0, locals := 0 }
theorem m_X5_weightOf_2 : Cond.fieldLink RX5 9 "StageLines$Pile" "weights" "[I" ∈ wsX5_weightOf := List.mem_of_getElem? (i := 2) rfl
theorem u_X5_weightOf_X5 : ∀ w ∈ u_ws RX5 TX5 2, w ∈ wsX5_weightOf := mem_r [3, 4] (by decide +kernel)
theorem m_X5_weightOf_1 : Cond.fieldLink RX5 15 "StageLines$Pile" "size" "I" ∈ wsX5_weightOf := List.mem_of_getElem? (i := 1) rfl
def X5_weightOf (M : Wo) (a0 : Nat) (x1 : Int32) : Option Int32 :=
  (ckO M a0 5).bind fun _ => (gI M a0 5 1).bind fun v1 => if v1 ≤ x1 then (some (-6 : Int32)) else ((gR M a0 5 0).bind fun w3 => (lA M 0 w3 x1).bind fun v5 => some v5)
theorem X5_weightOf_w {X : Cx} (G : Gd X yX5_weightOf cX5_weightOf wsX5_weightOf 2 (some .int) rX5_weightOf) {M : Wo} {a0 : Nat} {x1 : Int32} {o : Int32} (hd : X5_weightOf M a0 x1 = some o) (hQ : Qi X o M 0 0) : Pt X 0 0 0 M [(0, .ref a0), (1, .int x1)] [] := by
  unfold X5_weightOf at hd
  obtain ⟨_, _, hd⟩ := bnd hd
  refine pt_iload_n G 1 dX5_weightOf_0 rfl rfl ?_
  refine pt_aload_n G 0 dX5_weightOf_1 rfl rfl ?_
  obtain ⟨v1, h2, hd⟩ := bnd hd
  refine pt_get G (ci := 5) (j := 1) rfl (by decide) u_X5_weightOf_X5 m_X5_weightOf_1 (gI_o h2) dX5_weightOf_2 ?_
  refine pt_icmp_ge G 17 dX5_weightOf_5 (by decide) (fun c7 => ?_) (fun c7 => ?_)
  · replace hd := ifp c7 hd
    refine pt_bipush G (-6 : Int32) dX5_weightOf_17 bi_m6 ?_
    cases hd
    exact pt_iret G hQ dX5_weightOf_19
  · replace hd := ifn c7 hd
    refine pt_aload_n G 0 dX5_weightOf_8 rfl rfl ?_
    obtain ⟨w3, h4, hd⟩ := bnd hd
    refine pt_get G (ci := 5) (j := 0) rfl (by decide) u_X5_weightOf_X5 m_X5_weightOf_2 (gR_o h4) dX5_weightOf_9 ?_
    refine pt_iload_n G 1 dX5_weightOf_12 rfl rfl ?_
    obtain ⟨v5, h6, hd⟩ := bnd hd
    refine pt_iald G h6 dX5_weightOf_13 ?_
    refine pt_goto G 19 dX5_weightOf_14 (by decide) ?_
    cases hd
    exact pt_iret G hQ dX5_weightOf_19
theorem X5_weightOf_c {l : Launch} {D : va_G} {dA : Nat → ClassId} {b : Nat} {M : Wo} {a0 : Nat} {x1 : Int32} {r : Int32} (h : X5_weightOf M a0 x1 = some r) : Met l yX5_weightOf wsX5_weightOf rX5_weightOf (va_Pc [.ref a0, .int x1] (Wd D dA b M)) (Ei D dA b r M) 0 0 (Ab b) := met_i (by decide) rfl (Nat.le_of_ble_eq_true rfl) (fun X G hN hQ => X5_weightOf_w G h hQ)
theorem X5_weightOf_v {X : Cx} {y : MethodName} {cc : ByteArray} {Ts : List Cond} {nL : Nat} {ret : Option FieldType} {R : Room} (G : Gd X y cc Ts nL ret R) {index : Nat} (hg : GoodIn Ts (wsV y.cls index RX5 yX5_weightOf wsX5_weightOf)) (hR : rX5_weightOf.frames + 1 ≤ R.frames ∧ 8 + (2 + 11) + rX5_weightOf.locals ≤ R.locals) {k n pc : Nat} {M : Wo} {lv : List (Nat × Value)} {st : List Value} {a0 : Nat} {x1 : Int32} {r : Int32} (hv : X5_weightOf M a0 x1 = some r) (hd : decode cc pc = .ok (.invokevirtual index, 3)) (h8 : (st.map fun v => v.category).sum ≤ 8) (hf : k ≤ R.cells ∧ n ≤ R.slots) (kk : Pt X k n (pc + 3) M lv (.int r :: st)) : Pt X k n pc M lv (.int x1 :: .ref a0 :: st) := pt_cVi (ci := 5) (nA := 1) (As := [.int x1]) G (X5_weightOf_c hv) hg rfl rfl rfl (by decide +kernel) hR rfl (rcv hv) rfl rfl h8 hd hf kk
