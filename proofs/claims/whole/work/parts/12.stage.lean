abbrev rX6_firstMoveFrom : Room := { frames := 0, cells := 0, slots := 0, locals := 0 }
theorem m_X6_firstMoveFrom_4 : Cond.fieldLink RX6 42 "StageLines$Move" "begin" "I" ∈ wsX6_firstMoveFrom := List.mem_of_getElem? (i := 4) rfl
theorem u_X6_firstMoveFrom_X4 : ∀ w ∈ u_ws RX4 TX4 4, w ∈ wsX6_firstMoveFrom := mem_r [9, 10, 11, 12] (by decide +kernel)
theorem m_X6_firstMoveFrom_2 : Cond.fieldLink RX6 19 "StageLines$Stage" "moves" "[LStageLines$Move;" ∈ wsX6_firstMoveFrom := List.mem_of_getElem? (i := 2) rfl
theorem u_X6_firstMoveFrom_X6 : ∀ w ∈ u_ws RX6 TX6 4, w ∈ wsX6_firstMoveFrom := mem_r [5, 6, 7, 8] (by decide +kernel)
theorem m_X6_firstMoveFrom_3 : Cond.fieldLink RX6 39 "StageLines$Move" "bar" "I" ∈ wsX6_firstMoveFrom := List.mem_of_getElem? (i := 3) rfl
theorem m_X6_firstMoveFrom_1 : Cond.fieldLink RX6 23 "StageLines$Stage" "moveCount" "I" ∈ wsX6_firstMoveFrom := List.mem_of_getElem? (i := 1) rfl
abbrev X6_firstMoveFrom_P5 (X : Cx) (M : Wo) (a0 : Nat) (x1 : Int32) (x2 : Int32) : (Int32 × Int32) → Prop := un2 (fun x3 x4 => Pt X 0 0 5 M [(0, .ref a0), (1, .int x1), (2, .int x2), (3, .int x3), (4, .int x4)] [])
abbrev X6_firstMoveFrom_Z5 (X : Cx) (M : Wo) (a0 : Nat) (x1 : Int32) (x2 : Int32) : Int32 → Prop := (un1 (fun x3 => Pt X 0 0 89 M [(3, .int x3)] []))
def X6_firstMoveFrom_L47 (M : Wo) (a0 : Nat) (x1 : Int32) (x2 : Int32) (x3 : Int32) (x4 : Int32) (t0 : Int32) : Option ((Int32 × Int32) ⊕ Int32) :=
  if t0 = 0 then (some (.inl (x3, (x4 + 1)))) else (if x3 < 0 then (some (.inl (x4, (x4 + 1)))) else ((gR M a0 6 1).bind fun w9 => (lR M 3 w9 x4).bind fun w11 => (gI M w11 4 1).bind fun v13 => (gR M a0 6 1).bind fun w15 => (lR M 3 w15 x3).bind fun w17 => (gI M w17 4 1).bind fun v19 => if v19 ≤ v13 then (some (.inl (x3, (x4 + 1)))) else (some (.inl (x4, (x4 + 1))))))
theorem X6_firstMoveFrom_L47_w {X : Cx} (G : Gd X yX6_firstMoveFrom cX6_firstMoveFrom wsX6_firstMoveFrom 6 (some .int) rX6_firstMoveFrom) {M : Wo} {a0 : Nat} {x1 : Int32} {x2 : Int32} {x3 : Int32} {x4 : Int32} {t0 : Int32} {o : ((Int32 × Int32) ⊕ Int32)} (hd : X6_firstMoveFrom_L47 M a0 x1 x2 x3 x4 t0 = some o) (hc : ∀ s9, o = .inl s9 → X6_firstMoveFrom_P5 X M a0 x1 x2 s9) (he : ∀ e9, o = .inr e9 → X6_firstMoveFrom_Z5 X M a0 x1 x2 e9) : Pt X 0 0 47 M [(0, .ref a0), (1, .int x1), (2, .int x2), (3, .int x3), (4, .int x4)] [.int t0] := by
  unfold X6_firstMoveFrom_L47 at hd
  refine pt_istore G [(5, .int t0), (0, .ref a0), (1, .int x1), (2, .int x2), (3, .int x3), (4, .int x4)] dX6_firstMoveFrom_47 (by decide) rfl ?_
  refine pt_iload G 0 dX6_firstMoveFrom_49 rfl ?_
  refine pt_if_eq G 83 dX6_firstMoveFrom_51 (by decide) (fun c23 => ?_) (fun c23 => ?_)
  · replace hd := ifp c23 hd
    refine pt_iinc G 5 (x4 + 1) [(4, .int (x4 + 1)), (5, .int t0), (0, .ref a0), (1, .int x1), (2, .int x2), (3, .int x3)] dX6_firstMoveFrom_83 rfl (inc_1 _) (by decide) rfl ?_
    refine pt_goto G 5 dX6_firstMoveFrom_86 (by decide) ?_
    exact pt_sub [2, 3, 4, 5, 0] rfl (hc (x3, (x4 + 1)) (Option.some.inj hd).symm)
  · replace hd := ifn c23 hd
    refine pt_iload_n G 4 dX6_firstMoveFrom_54 rfl rfl ?_
    refine pt_if_lt G 80 dX6_firstMoveFrom_55 (by decide) (fun c22 => ?_) (fun c22 => ?_)
    · replace hd := ifp c22 hd
      refine pt_iload G 5 dX6_firstMoveFrom_80 rfl ?_
      refine pt_istore_n G [(3, .int x4), (5, .int t0), (0, .ref a0), (1, .int x1), (2, .int x2), (4, .int x4)] dX6_firstMoveFrom_82 rfl (by decide) rfl ?_
      refine pt_iinc G 5 (x4 + 1) [(4, .int (x4 + 1)), (3, .int x4), (5, .int t0), (0, .ref a0), (1, .int x1), (2, .int x2)] dX6_firstMoveFrom_83 rfl (inc_1 _) (by decide) rfl ?_
      refine pt_goto G 5 dX6_firstMoveFrom_86 (by decide) ?_
      exact pt_sub [3, 4, 5, 1, 0] rfl (hc (x4, (x4 + 1)) (Option.some.inj hd).symm)
    · replace hd := ifn c22 hd
      refine pt_aload_n G 1 dX6_firstMoveFrom_58 rfl rfl ?_
      obtain ⟨w9, h10, hd⟩ := bnd hd
      refine pt_get G (ci := 6) (j := 1) rfl (by decide) u_X6_firstMoveFrom_X6 m_X6_firstMoveFrom_2 (gR_o h10) dX6_firstMoveFrom_59 ?_
      refine pt_iload G 5 dX6_firstMoveFrom_62 rfl ?_
      obtain ⟨w11, h12, hd⟩ := bnd hd
      refine pt_aald G (kd := 3) rfl rfl h12 dX6_firstMoveFrom_64 ?_
      obtain ⟨v13, h14, hd⟩ := bnd hd
      refine pt_get G (ci := 4) (j := 1) rfl (by decide) u_X6_firstMoveFrom_X4 m_X6_firstMoveFrom_4 (gI_o h14) dX6_firstMoveFrom_65 ?_
      refine pt_aload_n G 1 dX6_firstMoveFrom_68 rfl rfl ?_
      obtain ⟨w15, h16, hd⟩ := bnd hd
      refine pt_get G (ci := 6) (j := 1) rfl (by decide) u_X6_firstMoveFrom_X6 m_X6_firstMoveFrom_2 (gR_o h16) dX6_firstMoveFrom_69 ?_
      refine pt_iload_n G 4 dX6_firstMoveFrom_72 rfl rfl ?_
      obtain ⟨w17, h18, hd⟩ := bnd hd
      refine pt_aald G (kd := 3) rfl rfl h18 dX6_firstMoveFrom_73 ?_
      obtain ⟨v19, h20, hd⟩ := bnd hd
      refine pt_get G (ci := 4) (j := 1) rfl (by decide) u_X6_firstMoveFrom_X4 m_X6_firstMoveFrom_4 (gI_o h20) dX6_firstMoveFrom_74 ?_
      refine pt_icmp_ge G 83 dX6_firstMoveFrom_77 (by decide) (fun c21 => ?_) (fun c21 => ?_)
      · replace hd := ifp c21 hd
        refine pt_iinc G 5 (x4 + 1) [(4, .int (x4 + 1)), (5, .int t0), (0, .ref a0), (1, .int x1), (2, .int x2), (3, .int x3)] dX6_firstMoveFrom_83 rfl (inc_1 _) (by decide) rfl ?_
        refine pt_goto G 5 dX6_firstMoveFrom_86 (by decide) ?_
        exact pt_sub [2, 3, 4, 5, 0] rfl (hc (x3, (x4 + 1)) (Option.some.inj hd).symm)
      · replace hd := ifn c21 hd
        refine pt_iload G 5 dX6_firstMoveFrom_80 rfl ?_
        refine pt_istore_n G [(3, .int x4), (5, .int t0), (0, .ref a0), (1, .int x1), (2, .int x2), (4, .int x4)] dX6_firstMoveFrom_82 rfl (by decide) rfl ?_
        refine pt_iinc G 5 (x4 + 1) [(4, .int (x4 + 1)), (3, .int x4), (5, .int t0), (0, .ref a0), (1, .int x1), (2, .int x2)] dX6_firstMoveFrom_83 rfl (inc_1 _) (by decide) rfl ?_
        refine pt_goto G 5 dX6_firstMoveFrom_86 (by decide) ?_
        exact pt_sub [3, 4, 5, 1, 0] rfl (hc (x4, (x4 + 1)) (Option.some.inj hd).symm)
def X6_firstMoveFrom_L46 (M : Wo) (a0 : Nat) (x1 : Int32) (x2 : Int32) (x3 : Int32) (x4 : Int32) : Option ((Int32 × Int32) ⊕ Int32) :=
  X6_firstMoveFrom_L47 M a0 x1 x2 x3 x4 (0 : Int32)
theorem X6_firstMoveFrom_L46_w {X : Cx} (G : Gd X yX6_firstMoveFrom cX6_firstMoveFrom wsX6_firstMoveFrom 6 (some .int) rX6_firstMoveFrom) {M : Wo} {a0 : Nat} {x1 : Int32} {x2 : Int32} {x3 : Int32} {x4 : Int32} {o : ((Int32 × Int32) ⊕ Int32)} (hd : X6_firstMoveFrom_L46 M a0 x1 x2 x3 x4 = some o) (hc : ∀ s9, o = .inl s9 → X6_firstMoveFrom_P5 X M a0 x1 x2 s9) (he : ∀ e9, o = .inr e9 → X6_firstMoveFrom_Z5 X M a0 x1 x2 e9) : Pt X 0 0 46 M [(0, .ref a0), (1, .int x1), (2, .int x2), (3, .int x3), (4, .int x4)] [] := by
  unfold X6_firstMoveFrom_L46 at hd
  refine pt_iconst G (0 : Int32) dX6_firstMoveFrom_46 ci_0 ?_
  exact pt_sub [0, 1, 2, 3, 4] rfl (X6_firstMoveFrom_L47_w G hd hc he)
def X6_firstMoveFrom_b5 (M : Wo) (a0 : Nat) (x1 : Int32) (x2 : Int32) (x3 : Int32) (x4 : Int32) : Option ((Int32 × Int32) ⊕ Int32) :=
  (gI M a0 6 2).bind fun v1 => if v1 ≤ x4 then (some (.inr x3)) else ((gR M a0 6 1).bind fun w3 => (lR M 3 w3 x4).bind fun w5 => (gI M w5 4 0).bind fun v7 => if v7 = x1 then ((gR M a0 6 1).bind fun w24 => (lR M 3 w24 x4).bind fun w26 => (gI M w26 4 1).bind fun v28 => if v28 < x2 then (X6_firstMoveFrom_L46 M a0 x1 x2 x3 x4) else (X6_firstMoveFrom_L47 M a0 x1 x2 x3 x4 (1 : Int32))) else (X6_firstMoveFrom_L46 M a0 x1 x2 x3 x4))
theorem X6_firstMoveFrom_b5_w {X : Cx} (G : Gd X yX6_firstMoveFrom cX6_firstMoveFrom wsX6_firstMoveFrom 6 (some .int) rX6_firstMoveFrom) {M : Wo} {a0 : Nat} {x1 : Int32} {x2 : Int32} {x3 : Int32} {x4 : Int32} {o : ((Int32 × Int32) ⊕ Int32)} (hd : X6_firstMoveFrom_b5 M a0 x1 x2 x3 x4 = some o) (hc : ∀ s9, o = .inl s9 → X6_firstMoveFrom_P5 X M a0 x1 x2 s9) (he : ∀ e9, o = .inr e9 → X6_firstMoveFrom_Z5 X M a0 x1 x2 e9) : Pt X 0 0 5 M [(0, .ref a0), (1, .int x1), (2, .int x2), (3, .int x3), (4, .int x4)] [] := by
  unfold X6_firstMoveFrom_b5 at hd
  refine pt_iload G 4 dX6_firstMoveFrom_5 rfl ?_
  refine pt_aload_n G 0 dX6_firstMoveFrom_7 rfl rfl ?_
  obtain ⟨v1, h2, hd⟩ := bnd hd
  refine pt_get G (ci := 6) (j := 2) rfl (by decide) u_X6_firstMoveFrom_X6 m_X6_firstMoveFrom_1 (gI_o h2) dX6_firstMoveFrom_8 ?_
  refine pt_icmp_ge G 89 dX6_firstMoveFrom_11 (by decide) (fun c32 => ?_) (fun c32 => ?_)
  · replace hd := ifp c32 hd
    exact pt_sub [3] rfl (he x3 (Option.some.inj hd).symm)
  · replace hd := ifn c32 hd
    refine pt_aload_n G 0 dX6_firstMoveFrom_14 rfl rfl ?_
    obtain ⟨w3, h4, hd⟩ := bnd hd
    refine pt_get G (ci := 6) (j := 1) rfl (by decide) u_X6_firstMoveFrom_X6 m_X6_firstMoveFrom_2 (gR_o h4) dX6_firstMoveFrom_15 ?_
    refine pt_iload G 4 dX6_firstMoveFrom_18 rfl ?_
    obtain ⟨w5, h6, hd⟩ := bnd hd
    refine pt_aald G (kd := 3) rfl rfl h6 dX6_firstMoveFrom_20 ?_
    obtain ⟨v7, h8, hd⟩ := bnd hd
    refine pt_get G (ci := 4) (j := 0) rfl (by decide) u_X6_firstMoveFrom_X4 m_X6_firstMoveFrom_3 (gI_o h8) dX6_firstMoveFrom_21 ?_
    refine pt_iload_n G 1 dX6_firstMoveFrom_24 rfl rfl ?_
    refine pt_icmp_ne G 46 dX6_firstMoveFrom_25 (by decide) (fun c31 => ?_) (fun c31 => ?_)
    · replace hd := ifn c31 hd
      exact pt_sub [0, 1, 2, 3, 4] rfl (X6_firstMoveFrom_L46_w G hd hc he)
    · replace hd := ifp c31 hd
      refine pt_aload_n G 0 dX6_firstMoveFrom_28 rfl rfl ?_
      obtain ⟨w24, h25, hd⟩ := bnd hd
      refine pt_get G (ci := 6) (j := 1) rfl (by decide) u_X6_firstMoveFrom_X6 m_X6_firstMoveFrom_2 (gR_o h25) dX6_firstMoveFrom_29 ?_
      refine pt_iload G 4 dX6_firstMoveFrom_32 rfl ?_
      obtain ⟨w26, h27, hd⟩ := bnd hd
      refine pt_aald G (kd := 3) rfl rfl h27 dX6_firstMoveFrom_34 ?_
      obtain ⟨v28, h29, hd⟩ := bnd hd
      refine pt_get G (ci := 4) (j := 1) rfl (by decide) u_X6_firstMoveFrom_X4 m_X6_firstMoveFrom_4 (gI_o h29) dX6_firstMoveFrom_35 ?_
      refine pt_iload_n G 2 dX6_firstMoveFrom_38 rfl rfl ?_
      refine pt_icmp_lt G 46 dX6_firstMoveFrom_39 (by decide) (fun c30 => ?_) (fun c30 => ?_)
      · replace hd := ifp c30 hd
        exact pt_sub [0, 1, 2, 3, 4] rfl (X6_firstMoveFrom_L46_w G hd hc he)
      · replace hd := ifn c30 hd
        refine pt_iconst G (1 : Int32) dX6_firstMoveFrom_42 ci_1 ?_
        refine pt_goto G 47 dX6_firstMoveFrom_43 (by decide) ?_
        exact pt_sub [0, 1, 2, 3, 4] rfl (X6_firstMoveFrom_L47_w G hd hc he)
theorem X6_firstMoveFrom_w5_w {X : Cx} (G : Gd X yX6_firstMoveFrom cX6_firstMoveFrom wsX6_firstMoveFrom 6 (some .int) rX6_firstMoveFrom) {M : Wo} {a0 : Nat} {x1 : Int32} {x2 : Int32} (n9 : Nat) (s9 : (Int32 × Int32)) (e9 : Int32) (hw : wloop (un2 (X6_firstMoveFrom_b5 M a0 x1 x2)) n9 s9 = some e9) (hz : X6_firstMoveFrom_Z5 X M a0 x1 x2 e9) : X6_firstMoveFrom_P5 X M a0 x1 x2 s9 := by
  refine wl_ind (P := X6_firstMoveFrom_P5 X M a0 x1 x2) (Z := X6_firstMoveFrom_Z5 X M a0 x1 x2) ?_ n9 s9 e9 hw hz
  intro s9 o9 hd hc he
  obtain ⟨x3, x4⟩ := s9
  exact X6_firstMoveFrom_b5_w G hd hc he
def X6_firstMoveFrom (M : Wo) (a0 : Nat) (x1 : Int32) (x2 : Int32) : Option Int32 :=
  (ckO M a0 6).bind fun _ => (wloop (un2 (X6_firstMoveFrom_b5 M a0 x1 x2)) FU ((-1 : Int32), (0 : Int32))).bind fun v33 => some v33
theorem X6_firstMoveFrom_w {X : Cx} (G : Gd X yX6_firstMoveFrom cX6_firstMoveFrom wsX6_firstMoveFrom 6 (some .int) rX6_firstMoveFrom) {M : Wo} {a0 : Nat} {x1 : Int32} {x2 : Int32} {o : Int32} (hd : X6_firstMoveFrom M a0 x1 x2 = some o) (hQ : Qi X o M 0 0) : Pt X 0 0 0 M [(0, .ref a0), (1, .int x1), (2, .int x2)] [] := by
  unfold X6_firstMoveFrom at hd
  obtain ⟨_, _, hd⟩ := bnd hd
  refine pt_iconst G (-1 : Int32) dX6_firstMoveFrom_0 ci_m1 ?_
  refine pt_istore_n G [(3, .int (-1 : Int32)), (0, .ref a0), (1, .int x1), (2, .int x2)] dX6_firstMoveFrom_1 rfl (by decide) rfl ?_
  refine pt_iconst G (0 : Int32) dX6_firstMoveFrom_2 ci_0 ?_
  refine pt_istore G [(4, .int (0 : Int32)), (3, .int (-1 : Int32)), (0, .ref a0), (1, .int x1), (2, .int x2)] dX6_firstMoveFrom_3 (by decide) rfl ?_
  obtain ⟨v33, hw34, hd⟩ := bnd hd
  refine pt_sub [2, 3, 4, 1, 0] rfl (X6_firstMoveFrom_w5_w G _ _ _ hw34 ?_)
  show Pt X 0 0 _ _ _ []
  refine pt_iload_n G 0 dX6_firstMoveFrom_89 rfl rfl ?_
  cases hd
  exact pt_iret G hQ dX6_firstMoveFrom_90
theorem X6_firstMoveFrom_c {l : Launch} {D : va_G} {dA : Nat → ClassId} {b : Nat} {M : Wo} {a0 : Nat} {x1 : Int32} {x2 : Int32} {r : Int32} (h : X6_firstMoveFrom M a0 x1 x2 = some r) : Met l yX6_firstMoveFrom wsX6_firstMoveFrom rX6_firstMoveFrom (va_Pc [.ref a0, .int x1, .int x2] (Wd D dA b M)) (Ei D dA b r M) 0 0 (Ab b) := met_i (by decide) rfl (Nat.le_of_ble_eq_true rfl) (fun X G hN hQ => X6_firstMoveFrom_w G h hQ)
theorem X6_firstMoveFrom_v {X : Cx} {y : MethodName} {cc : ByteArray} {Ts : List Cond} {nL : Nat} {ret : Option FieldType} {R : Room} (G : Gd X y cc Ts nL ret R) {index : Nat} (hg : GoodIn Ts (wsV y.cls index RX6 yX6_firstMoveFrom wsX6_firstMoveFrom)) (hR : rX6_firstMoveFrom.frames + 1 ≤ R.frames ∧ 8 + (6 + 11) + rX6_firstMoveFrom.locals ≤ R.locals) {k n pc : Nat} {M : Wo} {lv : List (Nat × Value)} {st : List Value} {a0 : Nat} {x1 : Int32} {x2 : Int32} {r : Int32} (hv : X6_firstMoveFrom M a0 x1 x2 = some r) (hd : decode cc pc = .ok (.invokevirtual index, 3)) (h8 : (st.map fun v => v.category).sum ≤ 8) (hf : k ≤ R.cells ∧ n ≤ R.slots) (kk : Pt X k n (pc + 3) M lv (.int r :: st)) : Pt X k n pc M lv (.int x2 :: .int x1 :: .ref a0 :: st) := pt_cVi (ci := 6) (nA := 2) (As := [.int x1, .int x2]) G (X6_firstMoveFrom_c hv) hg rfl rfl rfl (by decide +kernel) hR rfl (rcv hv) rfl rfl h8 hd hf kk
abbrev rX6_isDoable : Room := { frames := 2, cells := 0, slots := 0, locals := 81 }
theorem m_X6_isDoable_4 : Cond.fieldLink RX6 27 "StageLines$Stage" "sway" "I" ∈ wsX6_isDoable := List.mem_of_getElem? (i := 4) rfl
theorem u_X6_isDoable_X6 : ∀ w ∈ u_ws RX6 TX6 4, w ∈ wsX6_isDoable := mem_r [23, 24, 25, 26] (by decide +kernel)
theorem m_X6_isDoable_3 : Cond.fieldLink RX6 39 "StageLines$Move" "bar" "I" ∈ wsX6_isDoable := List.mem_of_getElem? (i := 3) rfl
theorem u_X6_isDoable_X4 : ∀ w ∈ u_ws RX4 TX4 4, w ∈ wsX6_isDoable := mem_r [27, 28, 29, 30] (by decide +kernel)
theorem m_X6_isDoable_2 : Cond.fieldLink RX6 19 "StageLines$Stage" "moves" "[LStageLines$Move;" ∈ wsX6_isDoable := List.mem_of_getElem? (i := 2) rfl
theorem m_X6_isDoable_1 : Cond.fieldLink RX6 11 "StageLines$Stage" "bars" "[LStageLines$Bar;" ∈ wsX6_isDoable := List.mem_of_getElem? (i := 1) rfl
def X6_isDoable (M : Wo) (a0 : Nat) (x1 : Int32) : Option Int32 :=
  (ckO M a0 6).bind fun _ => (gR M a0 6 0).bind fun w1 => (gR M a0 6 1).bind fun w3 => (lR M 3 w3 x1).bind fun w5 => (gI M w5 4 0).bind fun v7 => (lR M 2 w1 v7).bind fun w9 => (gI M a0 6 3).bind fun v11 => (X0_isEven M w9 v11).bind fun v14 => (ckB v14).bind fun _ => some v14
theorem X6_isDoable_w {X : Cx} (G : Gd X yX6_isDoable cX6_isDoable wsX6_isDoable 2 (some .boolean) rX6_isDoable) {M : Wo} {a0 : Nat} {x1 : Int32} {o : Int32} (hd : X6_isDoable M a0 x1 = some o) (hQ : Qi X o M 0 0) : Pt X 0 0 0 M [(0, .ref a0), (1, .int x1)] [] := by
  unfold X6_isDoable at hd
  obtain ⟨_, _, hd⟩ := bnd hd
  refine pt_aload_n G 0 dX6_isDoable_0 rfl rfl ?_
  obtain ⟨w1, h2, hd⟩ := bnd hd
  refine pt_get G (ci := 6) (j := 0) rfl (by decide) u_X6_isDoable_X6 m_X6_isDoable_1 (gR_o h2) dX6_isDoable_1 ?_
  refine pt_aload_n G 0 dX6_isDoable_4 rfl rfl ?_
  obtain ⟨w3, h4, hd⟩ := bnd hd
  refine pt_get G (ci := 6) (j := 1) rfl (by decide) u_X6_isDoable_X6 m_X6_isDoable_2 (gR_o h4) dX6_isDoable_5 ?_
  refine pt_iload_n G 1 dX6_isDoable_8 rfl rfl ?_
  obtain ⟨w5, h6, hd⟩ := bnd hd
  refine pt_aald G (kd := 3) rfl rfl h6 dX6_isDoable_9 ?_
  obtain ⟨v7, h8, hd⟩ := bnd hd
  refine pt_get G (ci := 4) (j := 0) rfl (by decide) u_X6_isDoable_X4 m_X6_isDoable_3 (gI_o h8) dX6_isDoable_10 ?_
  obtain ⟨w9, h10, hd⟩ := bnd hd
  refine pt_aald G (kd := 2) rfl rfl h10 dX6_isDoable_13 ?_
  refine pt_aload_n G 0 dX6_isDoable_14 rfl rfl ?_
  obtain ⟨v11, h12, hd⟩ := bnd hd
  refine pt_get G (ci := 6) (j := 3) rfl (by decide) u_X6_isDoable_X6 m_X6_isDoable_4 (gI_o h12) dX6_isDoable_15 ?_
  obtain ⟨v14, h13, hd⟩ := bnd hd
  refine X0_isEven_v G gX6_isDoable_X0_isEven ⟨(Nat.le_of_ble_eq_true rfl), (Nat.le_of_ble_eq_true rfl)⟩ h13 dX6_isDoable_18 (Nat.le_of_ble_eq_true rfl) ⟨(Nat.le_of_ble_eq_true rfl), (Nat.le_of_ble_eq_true rfl)⟩ ?_
  obtain ⟨_, h15, hd⟩ := bnd hd
  cases hd
  exact pt_zret G (ckB_o h15) hQ dX6_isDoable_21
theorem X6_isDoable_c {l : Launch} {D : va_G} {dA : Nat → ClassId} {b : Nat} {M : Wo} {a0 : Nat} {x1 : Int32} {r : Int32} (h : X6_isDoable M a0 x1 = some r) : Met l yX6_isDoable wsX6_isDoable rX6_isDoable (va_Pc [.ref a0, .int x1] (Wd D dA b M)) (Ei D dA b r M) 0 0 (Ab b) := met_i (by decide) rfl (Nat.le_of_ble_eq_true rfl) (fun X G hN hQ => X6_isDoable_w G h hQ)
theorem X6_isDoable_v {X : Cx} {y : MethodName} {cc : ByteArray} {Ts : List Cond} {nL : Nat} {ret : Option FieldType} {R : Room} (G : Gd X y cc Ts nL ret R) {index : Nat} (hg : GoodIn Ts (wsV y.cls index RX6 yX6_isDoable wsX6_isDoable)) (hR : rX6_isDoable.frames + 1 ≤ R.frames ∧ 8 + (2 + 11) + rX6_isDoable.locals ≤ R.locals) {k n pc : Nat} {M : Wo} {lv : List (Nat × Value)} {st : List Value} {a0 : Nat} {x1 : Int32} {r : Int32} (hv : X6_isDoable M a0 x1 = some r) (hd : decode cc pc = .ok (.invokevirtual index, 3)) (h8 : (st.map fun v => v.category).sum ≤ 8) (hf : k ≤ R.cells ∧ n ≤ R.slots) (kk : Pt X k n (pc + 3) M lv (.int r :: st)) : Pt X k n pc M lv (.int x1 :: .ref a0 :: st) := pt_cVi (ci := 6) (nA := 1) (As := [.int x1]) G (X6_isDoable_c hv) hg rfl rfl rfl (by decide +kernel) hR rfl (rcv hv) rfl rfl h8 hd hf kk
abbrev rX6_areNear : Room := { frames := 1, cells := 0, slots := 0, locals := 60 }
theorem m_X6_areNear_1 : Cond.methodLink RX6 55 Lib.Math.abs.name ∈ wsX6_areNear := List.mem_of_getElem? (i := 1) rfl
theorem m_X6_areNear_2 : Cond.static Lib.Math.abs.name ∈ wsX6_areNear := List.mem_of_getElem? (i := 2) rfl
theorem m_X6_areNear_3 : Cond.initialized "java/lang/Math" ∈ wsX6_areNear := List.mem_of_getElem? (i := 3) rfl
theorem m_X6_areNear_4 : Cond.code Lib.Math.abs.name Lib.Math.abs.code 1 (some .int) ∈ wsX6_areNear := List.mem_of_getElem? (i := 4) rfl
theorem m_X6_areNear_6 : Cond.fieldLink RX6 61 "StageLines$Bar" "settings" "[I" ∈ wsX6_areNear := List.mem_of_getElem? (i := 6) rfl
theorem u_X6_areNear_X0 : ∀ w ∈ u_ws RX0 TX0 3, w ∈ wsX6_areNear := mem_r [11, 12, 13] (by decide +kernel)
theorem m_X6_areNear_5 : Cond.fieldLink RX6 11 "StageLines$Stage" "bars" "[LStageLines$Bar;" ∈ wsX6_areNear := List.mem_of_getElem? (i := 5) rfl
theorem u_X6_areNear_X6 : ∀ w ∈ u_ws RX6 TX6 4, w ∈ wsX6_areNear := mem_r [7, 8, 9, 10] (by decide +kernel)
def X6_areNear (M : Wo) (a0 : Nat) (x1 : Int32) (x2 : Int32) : Option Int32 :=
  (ckO M a0 6).bind fun _ => (gR M a0 6 0).bind fun w1 => (lR M 2 w1 x1).bind fun w3 => (gR M w3 0 0).bind fun w5 => (lA M 0 w5 (2 : Int32)).bind fun v7 => (gR M a0 6 0).bind fun w9 => (lR M 2 w9 x2).bind fun w11 => (gR M w11 0 0).bind fun w13 => (lA M 0 w13 (2 : Int32)).bind fun v15 => if (v7 + v15) < (iAbs (x1 - x2)) then (some (0 : Int32)) else (some (1 : Int32))
theorem X6_areNear_w {X : Cx} (G : Gd X yX6_areNear cX6_areNear wsX6_areNear 3 (some .boolean) rX6_areNear) {M : Wo} {a0 : Nat} {x1 : Int32} {x2 : Int32} {o : Int32} (hd : X6_areNear M a0 x1 x2 = some o) (hQ : Qi X o M 0 0) : Pt X 0 0 0 M [(0, .ref a0), (1, .int x1), (2, .int x2)] [] := by
  unfold X6_areNear at hd
  obtain ⟨_, _, hd⟩ := bnd hd
  refine pt_iload_n G 1 dX6_areNear_0 rfl rfl ?_
  refine pt_iload_n G 2 dX6_areNear_1 rfl rfl ?_
  refine pt_isub G dX6_areNear_2 ?_
  refine pt_mabs G m_X6_areNear_1 m_X6_areNear_2 m_X6_areNear_3 m_X6_areNear_4 (Nat.le_of_ble_eq_true rfl) (Nat.le_of_ble_eq_true rfl) ⟨(Nat.le_of_ble_eq_true rfl), (Nat.le_of_ble_eq_true rfl)⟩ dX6_areNear_3 ?_
  refine pt_aload_n G 0 dX6_areNear_6 rfl rfl ?_
  obtain ⟨w1, h2, hd⟩ := bnd hd
  refine pt_get G (ci := 6) (j := 0) rfl (by decide) u_X6_areNear_X6 m_X6_areNear_5 (gR_o h2) dX6_areNear_7 ?_
  refine pt_iload_n G 1 dX6_areNear_10 rfl rfl ?_
  obtain ⟨w3, h4, hd⟩ := bnd hd
  refine pt_aald G (kd := 2) rfl rfl h4 dX6_areNear_11 ?_
  obtain ⟨w5, h6, hd⟩ := bnd hd
  refine pt_get G (ci := 0) (j := 0) rfl (by decide) u_X6_areNear_X0 m_X6_areNear_6 (gR_o h6) dX6_areNear_12 ?_
  refine pt_iconst G (2 : Int32) dX6_areNear_15 ci_2 ?_
  obtain ⟨v7, h8, hd⟩ := bnd hd
  refine pt_iald G h8 dX6_areNear_16 ?_
  refine pt_aload_n G 0 dX6_areNear_17 rfl rfl ?_
  obtain ⟨w9, h10, hd⟩ := bnd hd
  refine pt_get G (ci := 6) (j := 0) rfl (by decide) u_X6_areNear_X6 m_X6_areNear_5 (gR_o h10) dX6_areNear_18 ?_
  refine pt_iload_n G 2 dX6_areNear_21 rfl rfl ?_
  obtain ⟨w11, h12, hd⟩ := bnd hd
  refine pt_aald G (kd := 2) rfl rfl h12 dX6_areNear_22 ?_
  obtain ⟨w13, h14, hd⟩ := bnd hd
  refine pt_get G (ci := 0) (j := 0) rfl (by decide) u_X6_areNear_X0 m_X6_areNear_6 (gR_o h14) dX6_areNear_23 ?_
  refine pt_iconst G (2 : Int32) dX6_areNear_26 ci_2 ?_
  obtain ⟨v15, h16, hd⟩ := bnd hd
  refine pt_iald G h16 dX6_areNear_27 ?_
  refine pt_iadd G dX6_areNear_28 ?_
  refine pt_icmp_gt G 36 dX6_areNear_29 (by decide) (fun c17 => ?_) (fun c17 => ?_)
  · replace hd := ifp c17 hd
    refine pt_iconst G (0 : Int32) dX6_areNear_36 ci_0 ?_
    cases hd
    exact pt_zret G (by decide) hQ dX6_areNear_37
  · replace hd := ifn c17 hd
    refine pt_iconst G (1 : Int32) dX6_areNear_32 ci_1 ?_
    refine pt_goto G 37 dX6_areNear_33 (by decide) ?_
    cases hd
    exact pt_zret G (by decide) hQ dX6_areNear_37
theorem X6_areNear_c {l : Launch} {D : va_G} {dA : Nat → ClassId} {b : Nat} {M : Wo} {a0 : Nat} {x1 : Int32} {x2 : Int32} {r : Int32} (h : X6_areNear M a0 x1 x2 = some r) : Met l yX6_areNear wsX6_areNear rX6_areNear (va_Pc [.ref a0, .int x1, .int x2] (Wd D dA b M)) (Ei D dA b r M) 0 0 (Ab b) := met_i (by decide) rfl (Nat.le_of_ble_eq_true rfl) (fun X G hN hQ => X6_areNear_w G h hQ)
theorem X6_areNear_v {X : Cx} {y : MethodName} {cc : ByteArray} {Ts : List Cond} {nL : Nat} {ret : Option FieldType} {R : Room} (G : Gd X y cc Ts nL ret R) {index : Nat} (hg : GoodIn Ts (wsV y.cls index RX6 yX6_areNear wsX6_areNear)) (hR : rX6_areNear.frames + 1 ≤ R.frames ∧ 8 + (3 + 11) + rX6_areNear.locals ≤ R.locals) {k n pc : Nat} {M : Wo} {lv : List (Nat × Value)} {st : List Value} {a0 : Nat} {x1 : Int32} {x2 : Int32} {r : Int32} (hv : X6_areNear M a0 x1 x2 = some r) (hd : decode cc pc = .ok (.invokevirtual index, 3)) (h8 : (st.map fun v => v.category).sum ≤ 8) (hf : k ≤ R.cells ∧ n ≤ R.slots) (kk : Pt X k n (pc + 3) M lv (.int r :: st)) : Pt X k n pc M lv (.int x2 :: .int x1 :: .ref a0 :: st) := pt_cVi (ci := 6) (nA := 2) (As := [.int x1, .int x2]) G (X6_areNear_c hv) hg rfl rfl rfl (by decide +kernel) hR rfl (rcv hv) rfl rfl h8 hd hf kk
abbrev rX6_init : Room := { frames := 3, cells := 72, slots := 280, locals := 100 }
theorem m_X6_init_13 : Cond.initialized RX4 ∈ wsX6_init := List.mem_of_getElem? (i := 13) rfl
theorem m_X6_init_29 : Cond.instanceMethod yX4_init ∈ wsX6_init := List.mem_of_getElem? (i := 29) rfl
theorem u_X6_init_X4 : ∀ w ∈ u_ws RX4 TX4 4, w ∈ wsX6_init := mem_r [43, 44, 45, 46] (by decide +kernel)
theorem m_X6_init_6 : Cond.classLink RX6 17 RX4 ∈ wsX6_init := List.mem_of_getElem? (i := 6) rfl
theorem m_X6_init_12 : Cond.instantiable RX4 4 ∈ wsX6_init := List.mem_of_getElem? (i := 12) rfl
theorem m_X6_init_7 : Cond.fieldLink RX6 19 "StageLines$Stage" "moves" "[LStageLines$Move;" ∈ wsX6_init := List.mem_of_getElem? (i := 7) rfl
theorem u_X6_init_X6 : ∀ w ∈ u_ws RX6 TX6 4, w ∈ wsX6_init := mem_r [36, 37, 38, 39] (by decide +kernel)
theorem m_X6_init_11 : Cond.initialized RX0 ∈ wsX6_init := List.mem_of_getElem? (i := 11) rfl
theorem m_X6_init_14 : Cond.instanceMethod yX0_init ∈ wsX6_init := List.mem_of_getElem? (i := 14) rfl
theorem u_X6_init_X0 : ∀ w ∈ u_ws RX0 TX0 3, w ∈ wsX6_init := mem_r [40, 41, 42] (by decide +kernel)
theorem m_X6_init_4 : Cond.classLink RX6 9 RX0 ∈ wsX6_init := List.mem_of_getElem? (i := 4) rfl
theorem m_X6_init_10 : Cond.instantiable RX0 3 ∈ wsX6_init := List.mem_of_getElem? (i := 10) rfl
theorem m_X6_init_5 : Cond.fieldLink RX6 11 "StageLines$Stage" "bars" "[LStageLines$Bar;" ∈ wsX6_init := List.mem_of_getElem? (i := 5) rfl
theorem m_X6_init_9 : Cond.fieldLink RX6 27 "StageLines$Stage" "sway" "I" ∈ wsX6_init := List.mem_of_getElem? (i := 9) rfl
theorem m_X6_init_8 : Cond.fieldLink RX6 23 "StageLines$Stage" "moveCount" "I" ∈ wsX6_init := List.mem_of_getElem? (i := 8) rfl
theorem m_X6_init_1 : Cond.methodLink RX6 3 objectInit ∈ wsX6_init := List.mem_of_getElem? (i := 1) rfl
theorem m_X6_init_2 : Cond.instanceMethod objectInit ∈ wsX6_init := List.mem_of_getElem? (i := 2) rfl
theorem m_X6_init_3 : Cond.code objectInit ⟨#[0xb1]⟩ 1 none ∈ wsX6_init := List.mem_of_getElem? (i := 3) rfl
def X6_init (M : Wo) (a0 : Nat) : Option Wo :=
  (ckO M a0 6).bind fun _ => (nwR M 2 10).bind (un2 fun w1 M2 => (pV M2 a0 6 0 (.ref w1)).bind fun M4 => (nwR M4 3 10).bind (un2 fun w6 M7 => (pV M7 a0 6 1 (.ref w6)).bind fun M9 => (pV M9 a0 6 2 (.int (0 : Int32))).bind fun M11 => (pV M11 a0 6 3 (.int (20 : Int32))).bind fun M13 => (gR M13 a0 6 0).bind fun w15 => (nwO M13 0 [.null, .null, .null]).bind (un2 fun w17 M18 => (X0_init M18 w17).bind fun M21 => (sR M21 2 0 w15 (0 : Int32) w17).bind fun M22 => (gR M22 a0 6 0).bind fun w24 => (nwO M22 0 [.null, .null, .null]).bind (un2 fun w26 M27 => (X0_init M27 w26).bind fun M30 => (sR M30 2 0 w24 (1 : Int32) w26).bind fun M31 => (gR M31 a0 6 0).bind fun w33 => (nwO M31 0 [.null, .null, .null]).bind (un2 fun w35 M36 => (X0_init M36 w35).bind fun M39 => (sR M39 2 0 w33 (2 : Int32) w35).bind fun M40 => (gR M40 a0 6 0).bind fun w42 => (nwO M40 0 [.null, .null, .null]).bind (un2 fun w44 M45 => (X0_init M45 w44).bind fun M48 => (sR M48 2 0 w42 (3 : Int32) w44).bind fun M49 => (gR M49 a0 6 0).bind fun w51 => (nwO M49 0 [.null, .null, .null]).bind (un2 fun w53 M54 => (X0_init M54 w53).bind fun M57 => (sR M57 2 0 w51 (4 : Int32) w53).bind fun M58 => (gR M58 a0 6 0).bind fun w60 => (nwO M58 0 [.null, .null, .null]).bind (un2 fun w62 M63 => (X0_init M63 w62).bind fun M66 => (sR M66 2 0 w60 (5 : Int32) w62).bind fun M67 => (gR M67 a0 6 0).bind fun w69 => (nwO M67 0 [.null, .null, .null]).bind (un2 fun w71 M72 => (X0_init M72 w71).bind fun M75 => (sR M75 2 0 w69 (6 : Int32) w71).bind fun M76 => (gR M76 a0 6 0).bind fun w78 => (nwO M76 0 [.null, .null, .null]).bind (un2 fun w80 M81 => (X0_init M81 w80).bind fun M84 => (sR M84 2 0 w78 (7 : Int32) w80).bind fun M85 => (gR M85 a0 6 0).bind fun w87 => (nwO M85 0 [.null, .null, .null]).bind (un2 fun w89 M90 => (X0_init M90 w89).bind fun M93 => (sR M93 2 0 w87 (8 : Int32) w89).bind fun M94 => (gR M94 a0 6 0).bind fun w96 => (nwO M94 0 [.null, .null, .null]).bind (un2 fun w98 M99 => (X0_init M99 w98).bind fun M102 => (sR M102 2 0 w96 (9 : Int32) w98).bind fun M103 => (gR M103 a0 6 1).bind fun w105 => (nwO M103 4 [.int 0, .int 0, .int 0, .int 0]).bind (un2 fun w107 M108 => (X4_init M108 w107).bind fun M111 => (sR M111 3 4 w105 (0 : Int32) w107).bind fun M112 => (gR M112 a0 6 1).bind fun w114 => (nwO M112 4 [.int 0, .int 0, .int 0, .int 0]).bind (un2 fun w116 M117 => (X4_init M117 w116).bind fun M120 => (sR M120 3 4 w114 (1 : Int32) w116).bind fun M121 => (gR M121 a0 6 1).bind fun w123 => (nwO M121 4 [.int 0, .int 0, .int 0, .int 0]).bind (un2 fun w125 M126 => (X4_init M126 w125).bind fun M129 => (sR M129 3 4 w123 (2 : Int32) w125).bind fun M130 => (gR M130 a0 6 1).bind fun w132 => (nwO M130 4 [.int 0, .int 0, .int 0, .int 0]).bind (un2 fun w134 M135 => (X4_init M135 w134).bind fun M138 => (sR M138 3 4 w132 (3 : Int32) w134).bind fun M139 => (gR M139 a0 6 1).bind fun w141 => (nwO M139 4 [.int 0, .int 0, .int 0, .int 0]).bind (un2 fun w143 M144 => (X4_init M144 w143).bind fun M147 => (sR M147 3 4 w141 (4 : Int32) w143).bind fun M148 => (gR M148 a0 6 1).bind fun w150 => (nwO M148 4 [.int 0, .int 0, .int 0, .int 0]).bind (un2 fun w152 M153 => (X4_init M153 w152).bind fun M156 => (sR M156 3 4 w150 (5 : Int32) w152).bind fun M157 => (gR M157 a0 6 1).bind fun w159 => (nwO M157 4 [.int 0, .int 0, .int 0, .int 0]).bind (un2 fun w161 M162 => (X4_init M162 w161).bind fun M165 => (sR M165 3 4 w159 (6 : Int32) w161).bind fun M166 => (gR M166 a0 6 1).bind fun w168 => (nwO M166 4 [.int 0, .int 0, .int 0, .int 0]).bind (un2 fun w170 M171 => (X4_init M171 w170).bind fun M174 => (sR M174 3 4 w168 (7 : Int32) w170).bind fun M175 => (gR M175 a0 6 1).bind fun w177 => (nwO M175 4 [.int 0, .int 0, .int 0, .int 0]).bind (un2 fun w179 M180 => (X4_init M180 w179).bind fun M183 => (sR M183 3 4 w177 (8 : Int32) w179).bind fun M184 => (gR M184 a0 6 1).bind fun w186 => (nwO M184 4 [.int 0, .int 0, .int 0, .int 0]).bind (un2 fun w188 M189 => (X4_init M189 w188).bind fun M192 => (sR M192 3 4 w186 (9 : Int32) w188).bind fun M193 => some M193))))))))))))))))))))))
theorem X6_init_w {X : Cx} (G : Gd X yX6_init cX6_init wsX6_init 2 none rX6_init) (hN : (xT X).name = "<init>") {M : Wo} {a0 : Nat} {o : Wo} (hd : X6_init M a0 = some o) (hQ : Qv X o 72 280) : Pt X 0 0 0 M [(0, .ref a0)] [] := by
  unfold X6_init at hd
  obtain ⟨_, _, hd⟩ := bnd hd
  refine pt_aload_n G 0 dX6_init_0 rfl rfl ?_
  refine pt_obj G m_X6_init_1 m_X6_init_2 m_X6_init_3 (Nat.le_of_ble_eq_true rfl) (Nat.le_of_ble_eq_true rfl) dX6_init_1 ?_
  refine pt_aload_n G 0 dX6_init_4 rfl rfl ?_
  refine pt_bipush G (10 : Int32) dX6_init_5 bi_10 ?_
  obtain ⟨⟨w1, M2⟩, h3, hd⟩ := bnd hd
  replace hd := un2_e hd
  refine pt_anewE G (kd := 2) (N := 10) (C := RX0) rfl m_X6_init_4 G.k.2.2.1.1 (by decide) (by decide) (by decide) (by decide) (by decide) h3 dX6_init_7 ?_
  obtain ⟨M4, h5, hd⟩ := bnd hd
  refine pt_putF G hN (ci := 6) (j := 0) rfl (by decide) u_X6_init_X6 m_X6_init_5 tyX6 tyX6_ok nmX6 rfl rfl rfl rfl h5 dX6_init_10 ?_
  refine pt_aload_n G 0 dX6_init_13 rfl rfl ?_
  refine pt_bipush G (10 : Int32) dX6_init_14 bi_10 ?_
  obtain ⟨⟨w6, M7⟩, h8, hd⟩ := bnd hd
  replace hd := un2_e hd
  refine pt_anewE G (kd := 3) (N := 10) (C := RX4) rfl m_X6_init_6 G.k.2.2.1.2.1 (by decide) (by decide) (by decide) (by decide) (by decide) h8 dX6_init_16 ?_
  obtain ⟨M9, h10, hd⟩ := bnd hd
  refine pt_putF G hN (ci := 6) (j := 1) rfl (by decide) u_X6_init_X6 m_X6_init_7 tyX6 tyX6_ok nmX6 rfl rfl rfl rfl h10 dX6_init_19 ?_
  refine pt_aload_n G 0 dX6_init_22 rfl rfl ?_
  refine pt_iconst G (0 : Int32) dX6_init_23 ci_0 ?_
  obtain ⟨M11, h12, hd⟩ := bnd hd
  refine pt_put G (ci := 6) (j := 2) rfl (by decide) u_X6_init_X6 m_X6_init_8 tyX6 tyX6_ok nmX6 rfl rfl rfl h12 dX6_init_24 ?_
  refine pt_aload_n G 0 dX6_init_27 rfl rfl ?_
  refine pt_bipush G (20 : Int32) dX6_init_28 bi_20 ?_
  obtain ⟨M13, h14, hd⟩ := bnd hd
  refine pt_put G (ci := 6) (j := 3) rfl (by decide) u_X6_init_X6 m_X6_init_9 tyX6 tyX6_ok nmX6 rfl rfl rfl h14 dX6_init_30 ?_
  refine pt_iconst G (0 : Int32) dX6_init_33 ci_0 ?_
  refine pt_istore_n G [(1, .int (0 : Int32)), (0, .ref a0)] dX6_init_34 rfl (by decide) rfl ?_
  refine pt_iload_n G 0 dX6_init_35 rfl rfl ?_
  refine pt_bipush G (10 : Int32) dX6_init_36 bi_10 ?_
  refine pt_icmp_ge G 60 dX6_init_38 (by decide) (fun c9 => absurd c9 (by decide)) (fun _ => ?_)
  refine pt_aload_n G 1 dX6_init_41 rfl rfl ?_
  obtain ⟨w15, h16, hd⟩ := bnd hd
  refine pt_get G (ci := 6) (j := 0) rfl (by decide) u_X6_init_X6 m_X6_init_5 (gR_o h16) dX6_init_42 ?_
  refine pt_iload_n G 0 dX6_init_45 rfl rfl ?_
  obtain ⟨⟨w17, M18⟩, h19, hd⟩ := bnd hd
  replace hd := un2_e hd
  refine pt_newE G (ci := 0) [.null, .null, .null] rfl u_X6_init_X0 tyX0 tyX0_ok m_X6_init_4 m_X6_init_10 m_X6_init_11 (by decide) (by decide) (by decide) h19 dX6_init_46 ?_
  refine pt_dup G dX6_init_49 rfl ?_
  obtain ⟨M21, h20, hd⟩ := bnd hd
  refine X0_init_vn G gX6_init_X0_init_n30 m_X6_init_11 G.k.2.1.1 m_X6_init_14 ⟨(Nat.le_of_ble_eq_true rfl), (Nat.le_of_ble_eq_true rfl)⟩ h20 dX6_init_50 (Nat.le_of_ble_eq_true rfl) ⟨(Nat.le_of_ble_eq_true rfl), (Nat.le_of_ble_eq_true rfl)⟩ ?_
  obtain ⟨M22, h23, hd⟩ := bnd hd
  refine pt_aast G (kd := 2) (ci := 0) (r := (RX0, TX0, 3)) rfl rfl h23 dX6_init_53 ?_
  refine pt_iinc G 0 (1 : Int32) [(1, .int (1 : Int32)), (0, .ref a0)] dX6_init_54 rfl (by decide) (by decide) rfl ?_
  refine pt_goto G 35 dX6_init_57 (by decide) ?_
  refine pt_iload_n G 0 dX6_init_35 rfl rfl ?_
  refine pt_bipush G (10 : Int32) dX6_init_36 bi_10 ?_
  refine pt_icmp_ge G 60 dX6_init_38 (by decide) (fun c9 => absurd c9 (by decide)) (fun _ => ?_)
  refine pt_aload_n G 1 dX6_init_41 rfl rfl ?_
  obtain ⟨w24, h25, hd⟩ := bnd hd
  refine pt_get G (ci := 6) (j := 0) rfl (by decide) u_X6_init_X6 m_X6_init_5 (gR_o h25) dX6_init_42 ?_
  refine pt_iload_n G 0 dX6_init_45 rfl rfl ?_
  obtain ⟨⟨w26, M27⟩, h28, hd⟩ := bnd hd
  replace hd := un2_e hd
  refine pt_newE G (ci := 0) [.null, .null, .null] rfl u_X6_init_X0 tyX0 tyX0_ok m_X6_init_4 m_X6_init_10 m_X6_init_11 (by decide) (by decide) (by decide) h28 dX6_init_46 ?_
  refine pt_dup G dX6_init_49 rfl ?_
  obtain ⟨M30, h29, hd⟩ := bnd hd
  refine X0_init_vn G gX6_init_X0_init_n30 m_X6_init_11 G.k.2.1.1 m_X6_init_14 ⟨(Nat.le_of_ble_eq_true rfl), (Nat.le_of_ble_eq_true rfl)⟩ h29 dX6_init_50 (Nat.le_of_ble_eq_true rfl) ⟨(Nat.le_of_ble_eq_true rfl), (Nat.le_of_ble_eq_true rfl)⟩ ?_
  obtain ⟨M31, h32, hd⟩ := bnd hd
  refine pt_aast G (kd := 2) (ci := 0) (r := (RX0, TX0, 3)) rfl rfl h32 dX6_init_53 ?_
  refine pt_iinc G 0 (2 : Int32) [(1, .int (2 : Int32)), (0, .ref a0)] dX6_init_54 rfl (by decide) (by decide) rfl ?_
  refine pt_goto G 35 dX6_init_57 (by decide) ?_
  refine pt_iload_n G 0 dX6_init_35 rfl rfl ?_
  refine pt_bipush G (10 : Int32) dX6_init_36 bi_10 ?_
  refine pt_icmp_ge G 60 dX6_init_38 (by decide) (fun c9 => absurd c9 (by decide)) (fun _ => ?_)
  refine pt_aload_n G 1 dX6_init_41 rfl rfl ?_
  obtain ⟨w33, h34, hd⟩ := bnd hd
  refine pt_get G (ci := 6) (j := 0) rfl (by decide) u_X6_init_X6 m_X6_init_5 (gR_o h34) dX6_init_42 ?_
  refine pt_iload_n G 0 dX6_init_45 rfl rfl ?_
  obtain ⟨⟨w35, M36⟩, h37, hd⟩ := bnd hd
  replace hd := un2_e hd
  refine pt_newE G (ci := 0) [.null, .null, .null] rfl u_X6_init_X0 tyX0 tyX0_ok m_X6_init_4 m_X6_init_10 m_X6_init_11 (by decide) (by decide) (by decide) h37 dX6_init_46 ?_
  refine pt_dup G dX6_init_49 rfl ?_
  obtain ⟨M39, h38, hd⟩ := bnd hd
  refine X0_init_vn G gX6_init_X0_init_n30 m_X6_init_11 G.k.2.1.1 m_X6_init_14 ⟨(Nat.le_of_ble_eq_true rfl), (Nat.le_of_ble_eq_true rfl)⟩ h38 dX6_init_50 (Nat.le_of_ble_eq_true rfl) ⟨(Nat.le_of_ble_eq_true rfl), (Nat.le_of_ble_eq_true rfl)⟩ ?_
  obtain ⟨M40, h41, hd⟩ := bnd hd
  refine pt_aast G (kd := 2) (ci := 0) (r := (RX0, TX0, 3)) rfl rfl h41 dX6_init_53 ?_
  refine pt_iinc G 0 (3 : Int32) [(1, .int (3 : Int32)), (0, .ref a0)] dX6_init_54 rfl (by decide) (by decide) rfl ?_
  refine pt_goto G 35 dX6_init_57 (by decide) ?_
  refine pt_iload_n G 0 dX6_init_35 rfl rfl ?_
  refine pt_bipush G (10 : Int32) dX6_init_36 bi_10 ?_
  refine pt_icmp_ge G 60 dX6_init_38 (by decide) (fun c9 => absurd c9 (by decide)) (fun _ => ?_)
  refine pt_aload_n G 1 dX6_init_41 rfl rfl ?_
  obtain ⟨w42, h43, hd⟩ := bnd hd
  refine pt_get G (ci := 6) (j := 0) rfl (by decide) u_X6_init_X6 m_X6_init_5 (gR_o h43) dX6_init_42 ?_
  refine pt_iload_n G 0 dX6_init_45 rfl rfl ?_
  obtain ⟨⟨w44, M45⟩, h46, hd⟩ := bnd hd
  replace hd := un2_e hd
  refine pt_newE G (ci := 0) [.null, .null, .null] rfl u_X6_init_X0 tyX0 tyX0_ok m_X6_init_4 m_X6_init_10 m_X6_init_11 (by decide) (by decide) (by decide) h46 dX6_init_46 ?_
  refine pt_dup G dX6_init_49 rfl ?_
  obtain ⟨M48, h47, hd⟩ := bnd hd
  refine X0_init_vn G gX6_init_X0_init_n30 m_X6_init_11 G.k.2.1.1 m_X6_init_14 ⟨(Nat.le_of_ble_eq_true rfl), (Nat.le_of_ble_eq_true rfl)⟩ h47 dX6_init_50 (Nat.le_of_ble_eq_true rfl) ⟨(Nat.le_of_ble_eq_true rfl), (Nat.le_of_ble_eq_true rfl)⟩ ?_
  obtain ⟨M49, h50, hd⟩ := bnd hd
  refine pt_aast G (kd := 2) (ci := 0) (r := (RX0, TX0, 3)) rfl rfl h50 dX6_init_53 ?_
  refine pt_iinc G 0 (4 : Int32) [(1, .int (4 : Int32)), (0, .ref a0)] dX6_init_54 rfl (by decide) (by decide) rfl ?_
  refine pt_goto G 35 dX6_init_57 (by decide) ?_
  refine pt_iload_n G 0 dX6_init_35 rfl rfl ?_
  refine pt_bipush G (10 : Int32) dX6_init_36 bi_10 ?_
  refine pt_icmp_ge G 60 dX6_init_38 (by decide) (fun c9 => absurd c9 (by decide)) (fun _ => ?_)
  refine pt_aload_n G 1 dX6_init_41 rfl rfl ?_
  obtain ⟨w51, h52, hd⟩ := bnd hd
  refine pt_get G (ci := 6) (j := 0) rfl (by decide) u_X6_init_X6 m_X6_init_5 (gR_o h52) dX6_init_42 ?_
  refine pt_iload_n G 0 dX6_init_45 rfl rfl ?_
  obtain ⟨⟨w53, M54⟩, h55, hd⟩ := bnd hd
  replace hd := un2_e hd
  refine pt_newE G (ci := 0) [.null, .null, .null] rfl u_X6_init_X0 tyX0 tyX0_ok m_X6_init_4 m_X6_init_10 m_X6_init_11 (by decide) (by decide) (by decide) h55 dX6_init_46 ?_
  refine pt_dup G dX6_init_49 rfl ?_
  obtain ⟨M57, h56, hd⟩ := bnd hd
  refine X0_init_vn G gX6_init_X0_init_n30 m_X6_init_11 G.k.2.1.1 m_X6_init_14 ⟨(Nat.le_of_ble_eq_true rfl), (Nat.le_of_ble_eq_true rfl)⟩ h56 dX6_init_50 (Nat.le_of_ble_eq_true rfl) ⟨(Nat.le_of_ble_eq_true rfl), (Nat.le_of_ble_eq_true rfl)⟩ ?_
  obtain ⟨M58, h59, hd⟩ := bnd hd
  refine pt_aast G (kd := 2) (ci := 0) (r := (RX0, TX0, 3)) rfl rfl h59 dX6_init_53 ?_
  refine pt_iinc G 0 (5 : Int32) [(1, .int (5 : Int32)), (0, .ref a0)] dX6_init_54 rfl (by decide) (by decide) rfl ?_
  refine pt_goto G 35 dX6_init_57 (by decide) ?_
  refine pt_iload_n G 0 dX6_init_35 rfl rfl ?_
  refine pt_bipush G (10 : Int32) dX6_init_36 bi_10 ?_
  refine pt_icmp_ge G 60 dX6_init_38 (by decide) (fun c9 => absurd c9 (by decide)) (fun _ => ?_)
  refine pt_aload_n G 1 dX6_init_41 rfl rfl ?_
  obtain ⟨w60, h61, hd⟩ := bnd hd
  refine pt_get G (ci := 6) (j := 0) rfl (by decide) u_X6_init_X6 m_X6_init_5 (gR_o h61) dX6_init_42 ?_
  refine pt_iload_n G 0 dX6_init_45 rfl rfl ?_
  obtain ⟨⟨w62, M63⟩, h64, hd⟩ := bnd hd
  replace hd := un2_e hd
  refine pt_newE G (ci := 0) [.null, .null, .null] rfl u_X6_init_X0 tyX0 tyX0_ok m_X6_init_4 m_X6_init_10 m_X6_init_11 (by decide) (by decide) (by decide) h64 dX6_init_46 ?_
  refine pt_dup G dX6_init_49 rfl ?_
  obtain ⟨M66, h65, hd⟩ := bnd hd
  refine X0_init_vn G gX6_init_X0_init_n30 m_X6_init_11 G.k.2.1.1 m_X6_init_14 ⟨(Nat.le_of_ble_eq_true rfl), (Nat.le_of_ble_eq_true rfl)⟩ h65 dX6_init_50 (Nat.le_of_ble_eq_true rfl) ⟨(Nat.le_of_ble_eq_true rfl), (Nat.le_of_ble_eq_true rfl)⟩ ?_
  obtain ⟨M67, h68, hd⟩ := bnd hd
  refine pt_aast G (kd := 2) (ci := 0) (r := (RX0, TX0, 3)) rfl rfl h68 dX6_init_53 ?_
  refine pt_iinc G 0 (6 : Int32) [(1, .int (6 : Int32)), (0, .ref a0)] dX6_init_54 rfl (by decide) (by decide) rfl ?_
  refine pt_goto G 35 dX6_init_57 (by decide) ?_
  refine pt_iload_n G 0 dX6_init_35 rfl rfl ?_
  refine pt_bipush G (10 : Int32) dX6_init_36 bi_10 ?_
  refine pt_icmp_ge G 60 dX6_init_38 (by decide) (fun c9 => absurd c9 (by decide)) (fun _ => ?_)
  refine pt_aload_n G 1 dX6_init_41 rfl rfl ?_
  obtain ⟨w69, h70, hd⟩ := bnd hd
  refine pt_get G (ci := 6) (j := 0) rfl (by decide) u_X6_init_X6 m_X6_init_5 (gR_o h70) dX6_init_42 ?_
  refine pt_iload_n G 0 dX6_init_45 rfl rfl ?_
  obtain ⟨⟨w71, M72⟩, h73, hd⟩ := bnd hd
  replace hd := un2_e hd
  refine pt_newE G (ci := 0) [.null, .null, .null] rfl u_X6_init_X0 tyX0 tyX0_ok m_X6_init_4 m_X6_init_10 m_X6_init_11 (by decide) (by decide) (by decide) h73 dX6_init_46 ?_
  refine pt_dup G dX6_init_49 rfl ?_
  obtain ⟨M75, h74, hd⟩ := bnd hd
  refine X0_init_vn G gX6_init_X0_init_n30 m_X6_init_11 G.k.2.1.1 m_X6_init_14 ⟨(Nat.le_of_ble_eq_true rfl), (Nat.le_of_ble_eq_true rfl)⟩ h74 dX6_init_50 (Nat.le_of_ble_eq_true rfl) ⟨(Nat.le_of_ble_eq_true rfl), (Nat.le_of_ble_eq_true rfl)⟩ ?_
  obtain ⟨M76, h77, hd⟩ := bnd hd
  refine pt_aast G (kd := 2) (ci := 0) (r := (RX0, TX0, 3)) rfl rfl h77 dX6_init_53 ?_
  refine pt_iinc G 0 (7 : Int32) [(1, .int (7 : Int32)), (0, .ref a0)] dX6_init_54 rfl (by decide) (by decide) rfl ?_
  refine pt_goto G 35 dX6_init_57 (by decide) ?_
  refine pt_iload_n G 0 dX6_init_35 rfl rfl ?_
  refine pt_bipush G (10 : Int32) dX6_init_36 bi_10 ?_
  refine pt_icmp_ge G 60 dX6_init_38 (by decide) (fun c9 => absurd c9 (by decide)) (fun _ => ?_)
  refine pt_aload_n G 1 dX6_init_41 rfl rfl ?_
  obtain ⟨w78, h79, hd⟩ := bnd hd
  refine pt_get G (ci := 6) (j := 0) rfl (by decide) u_X6_init_X6 m_X6_init_5 (gR_o h79) dX6_init_42 ?_
  refine pt_iload_n G 0 dX6_init_45 rfl rfl ?_
  obtain ⟨⟨w80, M81⟩, h82, hd⟩ := bnd hd
  replace hd := un2_e hd
  refine pt_newE G (ci := 0) [.null, .null, .null] rfl u_X6_init_X0 tyX0 tyX0_ok m_X6_init_4 m_X6_init_10 m_X6_init_11 (by decide) (by decide) (by decide) h82 dX6_init_46 ?_
  refine pt_dup G dX6_init_49 rfl ?_
  obtain ⟨M84, h83, hd⟩ := bnd hd
  refine X0_init_vn G gX6_init_X0_init_n30 m_X6_init_11 G.k.2.1.1 m_X6_init_14 ⟨(Nat.le_of_ble_eq_true rfl), (Nat.le_of_ble_eq_true rfl)⟩ h83 dX6_init_50 (Nat.le_of_ble_eq_true rfl) ⟨(Nat.le_of_ble_eq_true rfl), (Nat.le_of_ble_eq_true rfl)⟩ ?_
  obtain ⟨M85, h86, hd⟩ := bnd hd
  refine pt_aast G (kd := 2) (ci := 0) (r := (RX0, TX0, 3)) rfl rfl h86 dX6_init_53 ?_
  refine pt_iinc G 0 (8 : Int32) [(1, .int (8 : Int32)), (0, .ref a0)] dX6_init_54 rfl (by decide) (by decide) rfl ?_
  refine pt_goto G 35 dX6_init_57 (by decide) ?_
  refine pt_iload_n G 0 dX6_init_35 rfl rfl ?_
  refine pt_bipush G (10 : Int32) dX6_init_36 bi_10 ?_
  refine pt_icmp_ge G 60 dX6_init_38 (by decide) (fun c9 => absurd c9 (by decide)) (fun _ => ?_)
  refine pt_aload_n G 1 dX6_init_41 rfl rfl ?_
  obtain ⟨w87, h88, hd⟩ := bnd hd
  refine pt_get G (ci := 6) (j := 0) rfl (by decide) u_X6_init_X6 m_X6_init_5 (gR_o h88) dX6_init_42 ?_
  refine pt_iload_n G 0 dX6_init_45 rfl rfl ?_
  obtain ⟨⟨w89, M90⟩, h91, hd⟩ := bnd hd
  replace hd := un2_e hd
  refine pt_newE G (ci := 0) [.null, .null, .null] rfl u_X6_init_X0 tyX0 tyX0_ok m_X6_init_4 m_X6_init_10 m_X6_init_11 (by decide) (by decide) (by decide) h91 dX6_init_46 ?_
  refine pt_dup G dX6_init_49 rfl ?_
  obtain ⟨M93, h92, hd⟩ := bnd hd
  refine X0_init_vn G gX6_init_X0_init_n30 m_X6_init_11 G.k.2.1.1 m_X6_init_14 ⟨(Nat.le_of_ble_eq_true rfl), (Nat.le_of_ble_eq_true rfl)⟩ h92 dX6_init_50 (Nat.le_of_ble_eq_true rfl) ⟨(Nat.le_of_ble_eq_true rfl), (Nat.le_of_ble_eq_true rfl)⟩ ?_
  obtain ⟨M94, h95, hd⟩ := bnd hd
  refine pt_aast G (kd := 2) (ci := 0) (r := (RX0, TX0, 3)) rfl rfl h95 dX6_init_53 ?_
  refine pt_iinc G 0 (9 : Int32) [(1, .int (9 : Int32)), (0, .ref a0)] dX6_init_54 rfl (by decide) (by decide) rfl ?_
  refine pt_goto G 35 dX6_init_57 (by decide) ?_
  refine pt_iload_n G 0 dX6_init_35 rfl rfl ?_
  refine pt_bipush G (10 : Int32) dX6_init_36 bi_10 ?_
  refine pt_icmp_ge G 60 dX6_init_38 (by decide) (fun c9 => absurd c9 (by decide)) (fun _ => ?_)
  refine pt_aload_n G 1 dX6_init_41 rfl rfl ?_
  obtain ⟨w96, h97, hd⟩ := bnd hd
  refine pt_get G (ci := 6) (j := 0) rfl (by decide) u_X6_init_X6 m_X6_init_5 (gR_o h97) dX6_init_42 ?_
  refine pt_iload_n G 0 dX6_init_45 rfl rfl ?_
  obtain ⟨⟨w98, M99⟩, h100, hd⟩ := bnd hd
  replace hd := un2_e hd
  refine pt_newE G (ci := 0) [.null, .null, .null] rfl u_X6_init_X0 tyX0 tyX0_ok m_X6_init_4 m_X6_init_10 m_X6_init_11 (by decide) (by decide) (by decide) h100 dX6_init_46 ?_
  refine pt_dup G dX6_init_49 rfl ?_
  obtain ⟨M102, h101, hd⟩ := bnd hd
  refine X0_init_vn G gX6_init_X0_init_n30 m_X6_init_11 G.k.2.1.1 m_X6_init_14 ⟨(Nat.le_of_ble_eq_true rfl), (Nat.le_of_ble_eq_true rfl)⟩ h101 dX6_init_50 (Nat.le_of_ble_eq_true rfl) ⟨(Nat.le_of_ble_eq_true rfl), (Nat.le_of_ble_eq_true rfl)⟩ ?_
  obtain ⟨M103, h104, hd⟩ := bnd hd
  refine pt_aast G (kd := 2) (ci := 0) (r := (RX0, TX0, 3)) rfl rfl h104 dX6_init_53 ?_
  refine pt_iinc G 0 (10 : Int32) [(1, .int (10 : Int32)), (0, .ref a0)] dX6_init_54 rfl (by decide) (by decide) rfl ?_
  refine pt_goto G 35 dX6_init_57 (by decide) ?_
  refine pt_iload_n G 0 dX6_init_35 rfl rfl ?_
  refine pt_bipush G (10 : Int32) dX6_init_36 bi_10 ?_
  refine pt_icmp_ge G 60 dX6_init_38 (by decide) (fun _ => ?_) (fun c9 => absurd c9 (by decide))
  refine pt_iconst G (0 : Int32) dX6_init_60 ci_0 ?_
  refine pt_istore_n G [(1, .int (0 : Int32)), (0, .ref a0)] dX6_init_61 rfl (by decide) rfl ?_
  refine pt_iload_n G 0 dX6_init_62 rfl rfl ?_
  refine pt_bipush G (10 : Int32) dX6_init_63 bi_10 ?_
  refine pt_icmp_ge G 87 dX6_init_65 (by decide) (fun c9 => absurd c9 (by decide)) (fun _ => ?_)
  refine pt_aload_n G 1 dX6_init_68 rfl rfl ?_
  obtain ⟨w105, h106, hd⟩ := bnd hd
  refine pt_get G (ci := 6) (j := 1) rfl (by decide) u_X6_init_X6 m_X6_init_7 (gR_o h106) dX6_init_69 ?_
  refine pt_iload_n G 0 dX6_init_72 rfl rfl ?_
  obtain ⟨⟨w107, M108⟩, h109, hd⟩ := bnd hd
  replace hd := un2_e hd
  refine pt_newE G (ci := 4) [.int 0, .int 0, .int 0, .int 0] rfl u_X6_init_X4 tyX4 tyX4_ok m_X6_init_6 m_X6_init_12 m_X6_init_13 (by decide) (by decide) (by decide) h109 dX6_init_73 ?_
  refine pt_dup G dX6_init_76 rfl ?_
  obtain ⟨M111, h110, hd⟩ := bnd hd
  refine X4_init_vn G gX6_init_X4_init_n31 m_X6_init_13 G.k.2.1.2.2.1 m_X6_init_29 ⟨(Nat.le_of_ble_eq_true rfl), (Nat.le_of_ble_eq_true rfl)⟩ h110 dX6_init_77 (Nat.le_of_ble_eq_true rfl) ⟨(Nat.le_of_ble_eq_true rfl), (Nat.le_of_ble_eq_true rfl)⟩ ?_
  obtain ⟨M112, h113, hd⟩ := bnd hd
  refine pt_aast G (kd := 3) (ci := 4) (r := (RX4, TX4, 4)) rfl rfl h113 dX6_init_80 ?_
  refine pt_iinc G 0 (1 : Int32) [(1, .int (1 : Int32)), (0, .ref a0)] dX6_init_81 rfl (by decide) (by decide) rfl ?_
  refine pt_goto G 62 dX6_init_84 (by decide) ?_
  refine pt_iload_n G 0 dX6_init_62 rfl rfl ?_
  refine pt_bipush G (10 : Int32) dX6_init_63 bi_10 ?_
  refine pt_icmp_ge G 87 dX6_init_65 (by decide) (fun c9 => absurd c9 (by decide)) (fun _ => ?_)
  refine pt_aload_n G 1 dX6_init_68 rfl rfl ?_
  obtain ⟨w114, h115, hd⟩ := bnd hd
  refine pt_get G (ci := 6) (j := 1) rfl (by decide) u_X6_init_X6 m_X6_init_7 (gR_o h115) dX6_init_69 ?_
  refine pt_iload_n G 0 dX6_init_72 rfl rfl ?_
  obtain ⟨⟨w116, M117⟩, h118, hd⟩ := bnd hd
  replace hd := un2_e hd
  refine pt_newE G (ci := 4) [.int 0, .int 0, .int 0, .int 0] rfl u_X6_init_X4 tyX4 tyX4_ok m_X6_init_6 m_X6_init_12 m_X6_init_13 (by decide) (by decide) (by decide) h118 dX6_init_73 ?_
  refine pt_dup G dX6_init_76 rfl ?_
  obtain ⟨M120, h119, hd⟩ := bnd hd
  refine X4_init_vn G gX6_init_X4_init_n31 m_X6_init_13 G.k.2.1.2.2.1 m_X6_init_29 ⟨(Nat.le_of_ble_eq_true rfl), (Nat.le_of_ble_eq_true rfl)⟩ h119 dX6_init_77 (Nat.le_of_ble_eq_true rfl) ⟨(Nat.le_of_ble_eq_true rfl), (Nat.le_of_ble_eq_true rfl)⟩ ?_
  obtain ⟨M121, h122, hd⟩ := bnd hd
  refine pt_aast G (kd := 3) (ci := 4) (r := (RX4, TX4, 4)) rfl rfl h122 dX6_init_80 ?_
  refine pt_iinc G 0 (2 : Int32) [(1, .int (2 : Int32)), (0, .ref a0)] dX6_init_81 rfl (by decide) (by decide) rfl ?_
  refine pt_goto G 62 dX6_init_84 (by decide) ?_
  refine pt_iload_n G 0 dX6_init_62 rfl rfl ?_
  refine pt_bipush G (10 : Int32) dX6_init_63 bi_10 ?_
  refine pt_icmp_ge G 87 dX6_init_65 (by decide) (fun c9 => absurd c9 (by decide)) (fun _ => ?_)
  refine pt_aload_n G 1 dX6_init_68 rfl rfl ?_
  obtain ⟨w123, h124, hd⟩ := bnd hd
  refine pt_get G (ci := 6) (j := 1) rfl (by decide) u_X6_init_X6 m_X6_init_7 (gR_o h124) dX6_init_69 ?_
  refine pt_iload_n G 0 dX6_init_72 rfl rfl ?_
  obtain ⟨⟨w125, M126⟩, h127, hd⟩ := bnd hd
  replace hd := un2_e hd
  refine pt_newE G (ci := 4) [.int 0, .int 0, .int 0, .int 0] rfl u_X6_init_X4 tyX4 tyX4_ok m_X6_init_6 m_X6_init_12 m_X6_init_13 (by decide) (by decide) (by decide) h127 dX6_init_73 ?_
  refine pt_dup G dX6_init_76 rfl ?_
  obtain ⟨M129, h128, hd⟩ := bnd hd
  refine X4_init_vn G gX6_init_X4_init_n31 m_X6_init_13 G.k.2.1.2.2.1 m_X6_init_29 ⟨(Nat.le_of_ble_eq_true rfl), (Nat.le_of_ble_eq_true rfl)⟩ h128 dX6_init_77 (Nat.le_of_ble_eq_true rfl) ⟨(Nat.le_of_ble_eq_true rfl), (Nat.le_of_ble_eq_true rfl)⟩ ?_
  obtain ⟨M130, h131, hd⟩ := bnd hd
  refine pt_aast G (kd := 3) (ci := 4) (r := (RX4, TX4, 4)) rfl rfl h131 dX6_init_80 ?_
  refine pt_iinc G 0 (3 : Int32) [(1, .int (3 : Int32)), (0, .ref a0)] dX6_init_81 rfl (by decide) (by decide) rfl ?_
  refine pt_goto G 62 dX6_init_84 (by decide) ?_
  refine pt_iload_n G 0 dX6_init_62 rfl rfl ?_
  refine pt_bipush G (10 : Int32) dX6_init_63 bi_10 ?_
  refine pt_icmp_ge G 87 dX6_init_65 (by decide) (fun c9 => absurd c9 (by decide)) (fun _ => ?_)
  refine pt_aload_n G 1 dX6_init_68 rfl rfl ?_
  obtain ⟨w132, h133, hd⟩ := bnd hd
  refine pt_get G (ci := 6) (j := 1) rfl (by decide) u_X6_init_X6 m_X6_init_7 (gR_o h133) dX6_init_69 ?_
  refine pt_iload_n G 0 dX6_init_72 rfl rfl ?_
  obtain ⟨⟨w134, M135⟩, h136, hd⟩ := bnd hd
  replace hd := un2_e hd
  refine pt_newE G (ci := 4) [.int 0, .int 0, .int 0, .int 0] rfl u_X6_init_X4 tyX4 tyX4_ok m_X6_init_6 m_X6_init_12 m_X6_init_13 (by decide) (by decide) (by decide) h136 dX6_init_73 ?_
  refine pt_dup G dX6_init_76 rfl ?_
  obtain ⟨M138, h137, hd⟩ := bnd hd
  refine X4_init_vn G gX6_init_X4_init_n31 m_X6_init_13 G.k.2.1.2.2.1 m_X6_init_29 ⟨(Nat.le_of_ble_eq_true rfl), (Nat.le_of_ble_eq_true rfl)⟩ h137 dX6_init_77 (Nat.le_of_ble_eq_true rfl) ⟨(Nat.le_of_ble_eq_true rfl), (Nat.le_of_ble_eq_true rfl)⟩ ?_
  obtain ⟨M139, h140, hd⟩ := bnd hd
  refine pt_aast G (kd := 3) (ci := 4) (r := (RX4, TX4, 4)) rfl rfl h140 dX6_init_80 ?_
  refine pt_iinc G 0 (4 : Int32) [(1, .int (4 : Int32)), (0, .ref a0)] dX6_init_81 rfl (by decide) (by decide) rfl ?_
  refine pt_goto G 62 dX6_init_84 (by decide) ?_
  refine pt_iload_n G 0 dX6_init_62 rfl rfl ?_
  refine pt_bipush G (10 : Int32) dX6_init_63 bi_10 ?_
  refine pt_icmp_ge G 87 dX6_init_65 (by decide) (fun c9 => absurd c9 (by decide)) (fun _ => ?_)
  refine pt_aload_n G 1 dX6_init_68 rfl rfl ?_
  obtain ⟨w141, h142, hd⟩ := bnd hd
  refine pt_get G (ci := 6) (j := 1) rfl (by decide) u_X6_init_X6 m_X6_init_7 (gR_o h142) dX6_init_69 ?_
  refine pt_iload_n G 0 dX6_init_72 rfl rfl ?_
  obtain ⟨⟨w143, M144⟩, h145, hd⟩ := bnd hd
  replace hd := un2_e hd
  refine pt_newE G (ci := 4) [.int 0, .int 0, .int 0, .int 0] rfl u_X6_init_X4 tyX4 tyX4_ok m_X6_init_6 m_X6_init_12 m_X6_init_13 (by decide) (by decide) (by decide) h145 dX6_init_73 ?_
  refine pt_dup G dX6_init_76 rfl ?_
  obtain ⟨M147, h146, hd⟩ := bnd hd
  refine X4_init_vn G gX6_init_X4_init_n31 m_X6_init_13 G.k.2.1.2.2.1 m_X6_init_29 ⟨(Nat.le_of_ble_eq_true rfl), (Nat.le_of_ble_eq_true rfl)⟩ h146 dX6_init_77 (Nat.le_of_ble_eq_true rfl) ⟨(Nat.le_of_ble_eq_true rfl), (Nat.le_of_ble_eq_true rfl)⟩ ?_
  obtain ⟨M148, h149, hd⟩ := bnd hd
  refine pt_aast G (kd := 3) (ci := 4) (r := (RX4, TX4, 4)) rfl rfl h149 dX6_init_80 ?_
  refine pt_iinc G 0 (5 : Int32) [(1, .int (5 : Int32)), (0, .ref a0)] dX6_init_81 rfl (by decide) (by decide) rfl ?_
  refine pt_goto G 62 dX6_init_84 (by decide) ?_
  refine pt_iload_n G 0 dX6_init_62 rfl rfl ?_
  refine pt_bipush G (10 : Int32) dX6_init_63 bi_10 ?_
  refine pt_icmp_ge G 87 dX6_init_65 (by decide) (fun c9 => absurd c9 (by decide)) (fun _ => ?_)
  refine pt_aload_n G 1 dX6_init_68 rfl rfl ?_
  obtain ⟨w150, h151, hd⟩ := bnd hd
  refine pt_get G (ci := 6) (j := 1) rfl (by decide) u_X6_init_X6 m_X6_init_7 (gR_o h151) dX6_init_69 ?_
  refine pt_iload_n G 0 dX6_init_72 rfl rfl ?_
  obtain ⟨⟨w152, M153⟩, h154, hd⟩ := bnd hd
  replace hd := un2_e hd
  refine pt_newE G (ci := 4) [.int 0, .int 0, .int 0, .int 0] rfl u_X6_init_X4 tyX4 tyX4_ok m_X6_init_6 m_X6_init_12 m_X6_init_13 (by decide) (by decide) (by decide) h154 dX6_init_73 ?_
  refine pt_dup G dX6_init_76 rfl ?_
  obtain ⟨M156, h155, hd⟩ := bnd hd
  refine X4_init_vn G gX6_init_X4_init_n31 m_X6_init_13 G.k.2.1.2.2.1 m_X6_init_29 ⟨(Nat.le_of_ble_eq_true rfl), (Nat.le_of_ble_eq_true rfl)⟩ h155 dX6_init_77 (Nat.le_of_ble_eq_true rfl) ⟨(Nat.le_of_ble_eq_true rfl), (Nat.le_of_ble_eq_true rfl)⟩ ?_
  obtain ⟨M157, h158, hd⟩ := bnd hd
  refine pt_aast G (kd := 3) (ci := 4) (r := (RX4, TX4, 4)) rfl rfl h158 dX6_init_80 ?_
  refine pt_iinc G 0 (6 : Int32) [(1, .int (6 : Int32)), (0, .ref a0)] dX6_init_81 rfl (by decide) (by decide) rfl ?_
  refine pt_goto G 62 dX6_init_84 (by decide) ?_
  refine pt_iload_n G 0 dX6_init_62 rfl rfl ?_
  refine pt_bipush G (10 : Int32) dX6_init_63 bi_10 ?_
  refine pt_icmp_ge G 87 dX6_init_65 (by decide) (fun c9 => absurd c9 (by decide)) (fun _ => ?_)
  refine pt_aload_n G 1 dX6_init_68 rfl rfl ?_
  obtain ⟨w159, h160, hd⟩ := bnd hd
  refine pt_get G (ci := 6) (j := 1) rfl (by decide) u_X6_init_X6 m_X6_init_7 (gR_o h160) dX6_init_69 ?_
  refine pt_iload_n G 0 dX6_init_72 rfl rfl ?_
  obtain ⟨⟨w161, M162⟩, h163, hd⟩ := bnd hd
  replace hd := un2_e hd
  refine pt_newE G (ci := 4) [.int 0, .int 0, .int 0, .int 0] rfl u_X6_init_X4 tyX4 tyX4_ok m_X6_init_6 m_X6_init_12 m_X6_init_13 (by decide) (by decide) (by decide) h163 dX6_init_73 ?_
  refine pt_dup G dX6_init_76 rfl ?_
  obtain ⟨M165, h164, hd⟩ := bnd hd
  refine X4_init_vn G gX6_init_X4_init_n31 m_X6_init_13 G.k.2.1.2.2.1 m_X6_init_29 ⟨(Nat.le_of_ble_eq_true rfl), (Nat.le_of_ble_eq_true rfl)⟩ h164 dX6_init_77 (Nat.le_of_ble_eq_true rfl) ⟨(Nat.le_of_ble_eq_true rfl), (Nat.le_of_ble_eq_true rfl)⟩ ?_
  obtain ⟨M166, h167, hd⟩ := bnd hd
  refine pt_aast G (kd := 3) (ci := 4) (r := (RX4, TX4, 4)) rfl rfl h167 dX6_init_80 ?_
  refine pt_iinc G 0 (7 : Int32) [(1, .int (7 : Int32)), (0, .ref a0)] dX6_init_81 rfl (by decide) (by decide) rfl ?_
  refine pt_goto G 62 dX6_init_84 (by decide) ?_
  refine pt_iload_n G 0 dX6_init_62 rfl rfl ?_
  refine pt_bipush G (10 : Int32) dX6_init_63 bi_10 ?_
  refine pt_icmp_ge G 87 dX6_init_65 (by decide) (fun c9 => absurd c9 (by decide)) (fun _ => ?_)
  refine pt_aload_n G 1 dX6_init_68 rfl rfl ?_
  obtain ⟨w168, h169, hd⟩ := bnd hd
  refine pt_get G (ci := 6) (j := 1) rfl (by decide) u_X6_init_X6 m_X6_init_7 (gR_o h169) dX6_init_69 ?_
  refine pt_iload_n G 0 dX6_init_72 rfl rfl ?_
  obtain ⟨⟨w170, M171⟩, h172, hd⟩ := bnd hd
  replace hd := un2_e hd
  refine pt_newE G (ci := 4) [.int 0, .int 0, .int 0, .int 0] rfl u_X6_init_X4 tyX4 tyX4_ok m_X6_init_6 m_X6_init_12 m_X6_init_13 (by decide) (by decide) (by decide) h172 dX6_init_73 ?_
  refine pt_dup G dX6_init_76 rfl ?_
  obtain ⟨M174, h173, hd⟩ := bnd hd
  refine X4_init_vn G gX6_init_X4_init_n31 m_X6_init_13 G.k.2.1.2.2.1 m_X6_init_29 ⟨(Nat.le_of_ble_eq_true rfl), (Nat.le_of_ble_eq_true rfl)⟩ h173 dX6_init_77 (Nat.le_of_ble_eq_true rfl) ⟨(Nat.le_of_ble_eq_true rfl), (Nat.le_of_ble_eq_true rfl)⟩ ?_
  obtain ⟨M175, h176, hd⟩ := bnd hd
  refine pt_aast G (kd := 3) (ci := 4) (r := (RX4, TX4, 4)) rfl rfl h176 dX6_init_80 ?_
  refine pt_iinc G 0 (8 : Int32) [(1, .int (8 : Int32)), (0, .ref a0)] dX6_init_81 rfl (by decide) (by decide) rfl ?_
  refine pt_goto G 62 dX6_init_84 (by decide) ?_
  refine pt_iload_n G 0 dX6_init_62 rfl rfl ?_
  refine pt_bipush G (10 : Int32) dX6_init_63 bi_10 ?_
  refine pt_icmp_ge G 87 dX6_init_65 (by decide) (fun c9 => absurd c9 (by decide)) (fun _ => ?_)
  refine pt_aload_n G 1 dX6_init_68 rfl rfl ?_
  obtain ⟨w177, h178, hd⟩ := bnd hd
  refine pt_get G (ci := 6) (j := 1) rfl (by decide) u_X6_init_X6 m_X6_init_7 (gR_o h178) dX6_init_69 ?_
  refine pt_iload_n G 0 dX6_init_72 rfl rfl ?_
  obtain ⟨⟨w179, M180⟩, h181, hd⟩ := bnd hd
  replace hd := un2_e hd
  refine pt_newE G (ci := 4) [.int 0, .int 0, .int 0, .int 0] rfl u_X6_init_X4 tyX4 tyX4_ok m_X6_init_6 m_X6_init_12 m_X6_init_13 (by decide) (by decide) (by decide) h181 dX6_init_73 ?_
  refine pt_dup G dX6_init_76 rfl ?_
  obtain ⟨M183, h182, hd⟩ := bnd hd
  refine X4_init_vn G gX6_init_X4_init_n31 m_X6_init_13 G.k.2.1.2.2.1 m_X6_init_29 ⟨(Nat.le_of_ble_eq_true rfl), (Nat.le_of_ble_eq_true rfl)⟩ h182 dX6_init_77 (Nat.le_of_ble_eq_true rfl) ⟨(Nat.le_of_ble_eq_true rfl), (Nat.le_of_ble_eq_true rfl)⟩ ?_
  obtain ⟨M184, h185, hd⟩ := bnd hd
  refine pt_aast G (kd := 3) (ci := 4) (r := (RX4, TX4, 4)) rfl rfl h185 dX6_init_80 ?_
  refine pt_iinc G 0 (9 : Int32) [(1, .int (9 : Int32)), (0, .ref a0)] dX6_init_81 rfl (by decide) (by decide) rfl ?_
  refine pt_goto G 62 dX6_init_84 (by decide) ?_
  refine pt_iload_n G 0 dX6_init_62 rfl rfl ?_
  refine pt_bipush G (10 : Int32) dX6_init_63 bi_10 ?_
  refine pt_icmp_ge G 87 dX6_init_65 (by decide) (fun c9 => absurd c9 (by decide)) (fun _ => ?_)
  refine pt_aload_n G 1 dX6_init_68 rfl rfl ?_
  obtain ⟨w186, h187, hd⟩ := bnd hd
  refine pt_get G (ci := 6) (j := 1) rfl (by decide) u_X6_init_X6 m_X6_init_7 (gR_o h187) dX6_init_69 ?_
  refine pt_iload_n G 0 dX6_init_72 rfl rfl ?_
  obtain ⟨⟨w188, M189⟩, h190, hd⟩ := bnd hd
  replace hd := un2_e hd
  refine pt_newE G (ci := 4) [.int 0, .int 0, .int 0, .int 0] rfl u_X6_init_X4 tyX4 tyX4_ok m_X6_init_6 m_X6_init_12 m_X6_init_13 (by decide) (by decide) (by decide) h190 dX6_init_73 ?_
  refine pt_dup G dX6_init_76 rfl ?_
  obtain ⟨M192, h191, hd⟩ := bnd hd
  refine X4_init_vn G gX6_init_X4_init_n31 m_X6_init_13 G.k.2.1.2.2.1 m_X6_init_29 ⟨(Nat.le_of_ble_eq_true rfl), (Nat.le_of_ble_eq_true rfl)⟩ h191 dX6_init_77 (Nat.le_of_ble_eq_true rfl) ⟨(Nat.le_of_ble_eq_true rfl), (Nat.le_of_ble_eq_true rfl)⟩ ?_
  obtain ⟨M193, h194, hd⟩ := bnd hd
  refine pt_aast G (kd := 3) (ci := 4) (r := (RX4, TX4, 4)) rfl rfl h194 dX6_init_80 ?_
  refine pt_iinc G 0 (10 : Int32) [(1, .int (10 : Int32)), (0, .ref a0)] dX6_init_81 rfl (by decide) (by decide) rfl ?_
  refine pt_goto G 62 dX6_init_84 (by decide) ?_
  refine pt_iload_n G 0 dX6_init_62 rfl rfl ?_
  refine pt_bipush G (10 : Int32) dX6_init_63 bi_10 ?_
  refine pt_icmp_ge G 87 dX6_init_65 (by decide) (fun _ => ?_) (fun c9 => absurd c9 (by decide))
  cases hd
  exact pt_vret G hQ dX6_init_87
theorem X6_init_c {l : Launch} {D : va_G} {dA : Nat → ClassId} {b : Nat} {M : Wo} {a0 : Nat} {M2 : Wo} (h : X6_init M a0 = some M2) : Met l yX6_init wsX6_init rX6_init (va_Pc [.ref a0] (Wd D dA b M)) (Ev D dA b M2) 72 280 (Ab b) := met_v (by decide) rfl (Nat.le_of_ble_eq_true rfl) (fun X G hN hQ => X6_init_w G hN h hQ)
theorem X6_init_vi {X : Cx} {y : MethodName} {cc : ByteArray} {Ts : List Cond} {nL : Nat} {ret : Option FieldType} {R : Room} (G : Gd X y cc Ts nL ret R) {index : Nat} (hg : GoodIn Ts wsX6_init) (hini : Cond.initialized yX6_init.cls ∈ Ts) (hl : Cond.methodLink y.cls index yX6_init ∈ Ts) (hi : Cond.instanceMethod yX6_init ∈ Ts) (hR : rX6_init.frames + 1 ≤ R.frames ∧ 8 + (2 + 11) + rX6_init.locals ≤ R.locals) {k n pc : Nat} {M : Wo} {lv : List (Nat × Value)} {st : List Value} {a0 : Nat} {M2 : Wo} (hv : X6_init M a0 = some M2) (hd : decode cc pc = .ok (.invokespecial index, 3)) (h8 : (st.map fun v => v.category).sum ≤ 8) (hf : k + 72 ≤ R.cells ∧ n + 280 ≤ R.slots) (kk : Pt X (k + 72) (n + 280) (pc + 3) M2 lv st) : Pt X k n pc M lv (.ref a0 :: st) := pt_cI (nA := 0) (As := []) G (X6_init_c hv) hg rfl rfl rfl hini hl hi rfl (by decide +kernel) hR rfl rfl h8 hd hf kk
theorem X6_init_vn {X : Cx} {y : MethodName} {cc : ByteArray} {Ts : List Cond} {nL : Nat} {ret : Option FieldType} {R : Room} (G : Gd X y cc Ts nL ret R) {index : Nat} (hg : GoodIn Ts wsX6_init) (hini : Cond.initialized yX6_init.cls ∈ Ts) (hl : va_Nw (.methodLinkNest y.cls index yX6_init "StageLines") (xS X)) (hi : Cond.instanceMethod yX6_init ∈ Ts) (hR : rX6_init.frames + 1 ≤ R.frames ∧ 8 + (2 + 11) + rX6_init.locals ≤ R.locals) {k n pc : Nat} {M : Wo} {lv : List (Nat × Value)} {st : List Value} {a0 : Nat} {M2 : Wo} (hv : X6_init M a0 = some M2) (hd : decode cc pc = .ok (.invokespecial index, 3)) (h8 : (st.map fun v => v.category).sum ≤ 8) (hf : k + 72 ≤ R.cells ∧ n + 280 ≤ R.slots) (kk : Pt X (k + 72) (n + 280) (pc + 3) M2 lv st) : Pt X k n pc M lv (.ref a0 :: st) := pt_cN (nA := 0) (As := []) G (X6_init_c hv) hg rfl rfl rfl hini hl hi rfl (by decide +kernel) hR rfl rfl h8 hd hf kk
abbrev rX6_copyFrom : Room := { frames := 3, cells := 0, slots := 0, locals := 102 }
theorem m_X6_copyFrom_1 : Cond.fieldLink RX6 11 "StageLines$Stage" "bars" "[LStageLines$Bar;" ∈ wsX6_copyFrom := List.mem_of_getElem? (i := 1) rfl
theorem u_X6_copyFrom_X6 : ∀ w ∈ u_ws RX6 TX6 4, w ∈ wsX6_copyFrom := mem_r [34, 35, 36, 37] (by decide +kernel)
theorem m_X6_copyFrom_2 : Cond.fieldLink RX6 19 "StageLines$Stage" "moves" "[LStageLines$Move;" ∈ wsX6_copyFrom := List.mem_of_getElem? (i := 2) rfl
theorem m_X6_copyFrom_4 : Cond.fieldLink RX6 27 "StageLines$Stage" "sway" "I" ∈ wsX6_copyFrom := List.mem_of_getElem? (i := 4) rfl
theorem m_X6_copyFrom_3 : Cond.fieldLink RX6 23 "StageLines$Stage" "moveCount" "I" ∈ wsX6_copyFrom := List.mem_of_getElem? (i := 3) rfl
abbrev X6_copyFrom_P2 (X : Cx) (a0 : Nat) (a1 : Nat) : (Wo × Int32) → Prop := un2 (fun M x2 => Pt X 0 0 2 M [(0, .ref a0), (1, .ref a1), (2, .int x2)] [])
abbrev X6_copyFrom_Z2 (X : Cx) (a0 : Nat) (a1 : Nat) : Wo → Prop := (un1 (fun M => Pt X 0 0 29 M [(0, .ref a0), (1, .ref a1)] []))
def X6_copyFrom_b2 (a0 : Nat) (a1 : Nat) (M : Wo) (x2 : Int32) : Option ((Wo × Int32) ⊕ Wo) :=
  if (10 : Int32) ≤ x2 then (some (.inr M)) else ((gR M a0 6 0).bind fun w1 => (lR M 2 w1 x2).bind fun w3 => (gR M a1 6 0).bind fun w5 => (lR M 2 w5 x2).bind fun w7 => (X0_copyFrom M w3 w7).bind fun M10 => some (.inl (M10, (x2 + 1))))
theorem X6_copyFrom_b2_w {X : Cx} (G : Gd X yX6_copyFrom cX6_copyFrom wsX6_copyFrom 3 none rX6_copyFrom) {a0 : Nat} {a1 : Nat} {M : Wo} {x2 : Int32} {o : ((Wo × Int32) ⊕ Wo)} (hd : X6_copyFrom_b2 a0 a1 M x2 = some o) (hc : ∀ s9, o = .inl s9 → X6_copyFrom_P2 X a0 a1 s9) (he : ∀ e9, o = .inr e9 → X6_copyFrom_Z2 X a0 a1 e9) : Pt X 0 0 2 M [(0, .ref a0), (1, .ref a1), (2, .int x2)] [] := by
  unfold X6_copyFrom_b2 at hd
  refine pt_iload_n G 2 dX6_copyFrom_2 rfl rfl ?_
  refine pt_bipush G (10 : Int32) dX6_copyFrom_3 bi_10 ?_
  refine pt_icmp_ge G 29 dX6_copyFrom_5 (by decide) (fun c11 => ?_) (fun c11 => ?_)
  · replace hd := ifp c11 hd
    exact pt_sub [0, 1] rfl (he M (Option.some.inj hd).symm)
  · replace hd := ifn c11 hd
    refine pt_aload_n G 0 dX6_copyFrom_8 rfl rfl ?_
    obtain ⟨w1, h2, hd⟩ := bnd hd
    refine pt_get G (ci := 6) (j := 0) rfl (by decide) u_X6_copyFrom_X6 m_X6_copyFrom_1 (gR_o h2) dX6_copyFrom_9 ?_
    refine pt_iload_n G 2 dX6_copyFrom_12 rfl rfl ?_
    obtain ⟨w3, h4, hd⟩ := bnd hd
    refine pt_aald G (kd := 2) rfl rfl h4 dX6_copyFrom_13 ?_
    refine pt_aload_n G 1 dX6_copyFrom_14 rfl rfl ?_
    obtain ⟨w5, h6, hd⟩ := bnd hd
    refine pt_get G (ci := 6) (j := 0) rfl (by decide) u_X6_copyFrom_X6 m_X6_copyFrom_1 (gR_o h6) dX6_copyFrom_15 ?_
    refine pt_iload_n G 2 dX6_copyFrom_18 rfl rfl ?_
    obtain ⟨w7, h8, hd⟩ := bnd hd
    refine pt_aald G (kd := 2) rfl rfl h8 dX6_copyFrom_19 ?_
    obtain ⟨M10, h9, hd⟩ := bnd hd
    refine X0_copyFrom_v G gX6_copyFrom_X0_copyFrom ⟨(Nat.le_of_ble_eq_true rfl), (Nat.le_of_ble_eq_true rfl)⟩ h9 dX6_copyFrom_20 (Nat.le_of_ble_eq_true rfl) ⟨(Nat.le_of_ble_eq_true rfl), (Nat.le_of_ble_eq_true rfl)⟩ ?_
    refine pt_iinc G 2 (x2 + 1) [(2, .int (x2 + 1)), (0, .ref a0), (1, .ref a1)] dX6_copyFrom_23 rfl (inc_1 _) (by decide) rfl ?_
    refine pt_goto G 2 dX6_copyFrom_26 (by decide) ?_
    exact pt_sub [1, 2, 0] rfl (hc (M10, (x2 + 1)) (Option.some.inj hd).symm)
theorem X6_copyFrom_w2_w {X : Cx} (G : Gd X yX6_copyFrom cX6_copyFrom wsX6_copyFrom 3 none rX6_copyFrom) {a0 : Nat} {a1 : Nat} (n9 : Nat) (s9 : (Wo × Int32)) (e9 : Wo) (hw : wloop (un2 (X6_copyFrom_b2 a0 a1)) n9 s9 = some e9) (hz : X6_copyFrom_Z2 X a0 a1 e9) : X6_copyFrom_P2 X a0 a1 s9 := by
  refine wl_ind (P := X6_copyFrom_P2 X a0 a1) (Z := X6_copyFrom_Z2 X a0 a1) ?_ n9 s9 e9 hw hz
  intro s9 o9 hd hc he
  obtain ⟨M, x2⟩ := s9
  exact X6_copyFrom_b2_w G hd hc he
abbrev X6_copyFrom_P31 (X : Cx) (a0 : Nat) (a1 : Nat) : (Wo × Int32) → Prop := un2 (fun M x2 => Pt X 0 0 31 M [(0, .ref a0), (1, .ref a1), (2, .int x2)] [])
abbrev X6_copyFrom_Z31 (X : Cx) (a0 : Nat) (a1 : Nat) : Wo → Prop := (un1 (fun M => Pt X 0 0 58 M [(0, .ref a0), (1, .ref a1)] []))
def X6_copyFrom_b31 (a0 : Nat) (a1 : Nat) (M : Wo) (x2 : Int32) : Option ((Wo × Int32) ⊕ Wo) :=
  if (10 : Int32) ≤ x2 then (some (.inr M)) else ((gR M a0 6 1).bind fun w13 => (lR M 3 w13 x2).bind fun w15 => (gR M a1 6 1).bind fun w17 => (lR M 3 w17 x2).bind fun w19 => (X4_copyFrom M w15 w19).bind fun M22 => some (.inl (M22, (x2 + 1))))
theorem X6_copyFrom_b31_w {X : Cx} (G : Gd X yX6_copyFrom cX6_copyFrom wsX6_copyFrom 3 none rX6_copyFrom) {a0 : Nat} {a1 : Nat} {M : Wo} {x2 : Int32} {o : ((Wo × Int32) ⊕ Wo)} (hd : X6_copyFrom_b31 a0 a1 M x2 = some o) (hc : ∀ s9, o = .inl s9 → X6_copyFrom_P31 X a0 a1 s9) (he : ∀ e9, o = .inr e9 → X6_copyFrom_Z31 X a0 a1 e9) : Pt X 0 0 31 M [(0, .ref a0), (1, .ref a1), (2, .int x2)] [] := by
  unfold X6_copyFrom_b31 at hd
  refine pt_iload_n G 2 dX6_copyFrom_31 rfl rfl ?_
  refine pt_bipush G (10 : Int32) dX6_copyFrom_32 bi_10 ?_
  refine pt_icmp_ge G 58 dX6_copyFrom_34 (by decide) (fun c23 => ?_) (fun c23 => ?_)
  · replace hd := ifp c23 hd
    exact pt_sub [0, 1] rfl (he M (Option.some.inj hd).symm)
  · replace hd := ifn c23 hd
    refine pt_aload_n G 0 dX6_copyFrom_37 rfl rfl ?_
    obtain ⟨w13, h14, hd⟩ := bnd hd
    refine pt_get G (ci := 6) (j := 1) rfl (by decide) u_X6_copyFrom_X6 m_X6_copyFrom_2 (gR_o h14) dX6_copyFrom_38 ?_
    refine pt_iload_n G 2 dX6_copyFrom_41 rfl rfl ?_
    obtain ⟨w15, h16, hd⟩ := bnd hd
    refine pt_aald G (kd := 3) rfl rfl h16 dX6_copyFrom_42 ?_
    refine pt_aload_n G 1 dX6_copyFrom_43 rfl rfl ?_
    obtain ⟨w17, h18, hd⟩ := bnd hd
    refine pt_get G (ci := 6) (j := 1) rfl (by decide) u_X6_copyFrom_X6 m_X6_copyFrom_2 (gR_o h18) dX6_copyFrom_44 ?_
    refine pt_iload_n G 2 dX6_copyFrom_47 rfl rfl ?_
    obtain ⟨w19, h20, hd⟩ := bnd hd
    refine pt_aald G (kd := 3) rfl rfl h20 dX6_copyFrom_48 ?_
    obtain ⟨M22, h21, hd⟩ := bnd hd
    refine X4_copyFrom_v G gX6_copyFrom_X4_copyFrom ⟨(Nat.le_of_ble_eq_true rfl), (Nat.le_of_ble_eq_true rfl)⟩ h21 dX6_copyFrom_49 (Nat.le_of_ble_eq_true rfl) ⟨(Nat.le_of_ble_eq_true rfl), (Nat.le_of_ble_eq_true rfl)⟩ ?_
    refine pt_iinc G 2 (x2 + 1) [(2, .int (x2 + 1)), (0, .ref a0), (1, .ref a1)] dX6_copyFrom_52 rfl (inc_1 _) (by decide) rfl ?_
    refine pt_goto G 31 dX6_copyFrom_55 (by decide) ?_
    exact pt_sub [1, 2, 0] rfl (hc (M22, (x2 + 1)) (Option.some.inj hd).symm)
theorem X6_copyFrom_w31_w {X : Cx} (G : Gd X yX6_copyFrom cX6_copyFrom wsX6_copyFrom 3 none rX6_copyFrom) {a0 : Nat} {a1 : Nat} (n9 : Nat) (s9 : (Wo × Int32)) (e9 : Wo) (hw : wloop (un2 (X6_copyFrom_b31 a0 a1)) n9 s9 = some e9) (hz : X6_copyFrom_Z31 X a0 a1 e9) : X6_copyFrom_P31 X a0 a1 s9 := by
  refine wl_ind (P := X6_copyFrom_P31 X a0 a1) (Z := X6_copyFrom_Z31 X a0 a1) ?_ n9 s9 e9 hw hz
  intro s9 o9 hd hc he
  obtain ⟨M, x2⟩ := s9
  exact X6_copyFrom_b31_w G hd hc he
def X6_copyFrom (M : Wo) (a0 : Nat) (a1 : Nat) : Option Wo :=
  (ckO M a0 6).bind fun _ => (wloop (un2 (X6_copyFrom_b2 a0 a1)) FU (M, (0 : Int32))).bind fun M12 => (wloop (un2 (X6_copyFrom_b31 a0 a1)) FU (M12, (0 : Int32))).bind fun M24 => (gI M24 a1 6 2).bind fun v25 => (pV M24 a0 6 2 (.int v25)).bind fun M27 => (gI M27 a1 6 3).bind fun v29 => (pV M27 a0 6 3 (.int v29)).bind fun M31 => some M31
theorem X6_copyFrom_w {X : Cx} (G : Gd X yX6_copyFrom cX6_copyFrom wsX6_copyFrom 3 none rX6_copyFrom) {M : Wo} {a0 : Nat} {a1 : Nat} {o : Wo} (hd : X6_copyFrom M a0 a1 = some o) (hQ : Qv X o 0 0) : Pt X 0 0 0 M [(0, .ref a0), (1, .ref a1)] [] := by
  unfold X6_copyFrom at hd
  obtain ⟨_, _, hd⟩ := bnd hd
  refine pt_iconst G (0 : Int32) dX6_copyFrom_0 ci_0 ?_
  refine pt_istore_n G [(2, .int (0 : Int32)), (0, .ref a0), (1, .ref a1)] dX6_copyFrom_1 rfl (by decide) rfl ?_
  obtain ⟨M12, hw34, hd⟩ := bnd hd
  refine pt_sub [1, 2, 0] rfl (X6_copyFrom_w2_w G _ _ _ hw34 ?_)
  show Pt X 0 0 _ _ _ []
  refine pt_iconst G (0 : Int32) dX6_copyFrom_29 ci_0 ?_
  refine pt_istore_n G [(2, .int (0 : Int32)), (0, .ref a0), (1, .ref a1)] dX6_copyFrom_30 rfl (by decide) rfl ?_
  obtain ⟨M24, hw33, hd⟩ := bnd hd
  refine pt_sub [1, 2, 0] rfl (X6_copyFrom_w31_w G _ _ _ hw33 ?_)
  show Pt X 0 0 _ _ _ []
  refine pt_aload_n G 0 dX6_copyFrom_58 rfl rfl ?_
  refine pt_aload_n G 1 dX6_copyFrom_59 rfl rfl ?_
  obtain ⟨v25, h26, hd⟩ := bnd hd
  refine pt_get G (ci := 6) (j := 2) rfl (by decide) u_X6_copyFrom_X6 m_X6_copyFrom_3 (gI_o h26) dX6_copyFrom_60 ?_
  obtain ⟨M27, h28, hd⟩ := bnd hd
  refine pt_put G (ci := 6) (j := 2) rfl (by decide) u_X6_copyFrom_X6 m_X6_copyFrom_3 tyX6 tyX6_ok nmX6 rfl rfl rfl h28 dX6_copyFrom_63 ?_
  refine pt_aload_n G 0 dX6_copyFrom_66 rfl rfl ?_
  refine pt_aload_n G 1 dX6_copyFrom_67 rfl rfl ?_
  obtain ⟨v29, h30, hd⟩ := bnd hd
  refine pt_get G (ci := 6) (j := 3) rfl (by decide) u_X6_copyFrom_X6 m_X6_copyFrom_4 (gI_o h30) dX6_copyFrom_68 ?_
  obtain ⟨M31, h32, hd⟩ := bnd hd
  refine pt_put G (ci := 6) (j := 3) rfl (by decide) u_X6_copyFrom_X6 m_X6_copyFrom_4 tyX6 tyX6_ok nmX6 rfl rfl rfl h32 dX6_copyFrom_71 ?_
  cases hd
  exact pt_vret G hQ dX6_copyFrom_74
theorem X6_copyFrom_c {l : Launch} {D : va_G} {dA : Nat → ClassId} {b : Nat} {M : Wo} {a0 : Nat} {a1 : Nat} {M2 : Wo} (h : X6_copyFrom M a0 a1 = some M2) : Met l yX6_copyFrom wsX6_copyFrom rX6_copyFrom (va_Pc [.ref a0, .ref a1] (Wd D dA b M)) (Ev D dA b M2) 0 0 (Ab b) := met_v (by decide) rfl (Nat.le_of_ble_eq_true rfl) (fun X G hN hQ => X6_copyFrom_w G h hQ)
theorem X6_copyFrom_v {X : Cx} {y : MethodName} {cc : ByteArray} {Ts : List Cond} {nL : Nat} {ret : Option FieldType} {R : Room} (G : Gd X y cc Ts nL ret R) {index : Nat} (hg : GoodIn Ts (wsV y.cls index RX6 yX6_copyFrom wsX6_copyFrom)) (hR : rX6_copyFrom.frames + 1 ≤ R.frames ∧ 8 + (3 + 11) + rX6_copyFrom.locals ≤ R.locals) {k n pc : Nat} {M : Wo} {lv : List (Nat × Value)} {st : List Value} {a0 : Nat} {a1 : Nat} {M2 : Wo} (hv : X6_copyFrom M a0 a1 = some M2) (hd : decode cc pc = .ok (.invokevirtual index, 3)) (h8 : (st.map fun v => v.category).sum ≤ 8) (hf : k ≤ R.cells ∧ n ≤ R.slots) (kk : Pt X k n (pc + 3) M2 lv st) : Pt X k n pc M lv (.ref a1 :: .ref a0 :: st) := pt_cVv (ci := 6) (nA := 1) (As := [.ref a1]) G (X6_copyFrom_c hv) hg rfl rfl rfl (by decide +kernel) hR rfl (rcv hv) rfl rfl h8 hd hf kk
abbrev rX6_addMove : Room := { frames := 0, cells := 0, slots := 0, locals := 0 }
theorem m_X6_addMove_2 : Cond.fieldLink RX6 23 "StageLines$Stage" "moveCount" "I" ∈ wsX6_addMove := List.mem_of_getElem? (i := 2) rfl
theorem u_X6_addMove_X6 : ∀ w ∈ u_ws RX6 TX6 4, w ∈ wsX6_addMove := mem_r [7, 8, 9, 10] (by decide +kernel)
theorem m_X6_addMove_6 : Cond.fieldLink RX6 48 "StageLines$Move" "pace" "I" ∈ wsX6_addMove := List.mem_of_getElem? (i := 6) rfl
theorem u_X6_addMove_X4 : ∀ w ∈ u_ws RX4 TX4 4, w ∈ wsX6_addMove := mem_r [11, 12, 13, 14] (by decide +kernel)
theorem m_X6_addMove_5 : Cond.fieldLink RX6 45 "StageLines$Move" "target" "I" ∈ wsX6_addMove := List.mem_of_getElem? (i := 5) rfl
theorem m_X6_addMove_4 : Cond.fieldLink RX6 42 "StageLines$Move" "begin" "I" ∈ wsX6_addMove := List.mem_of_getElem? (i := 4) rfl
theorem m_X6_addMove_3 : Cond.fieldLink RX6 39 "StageLines$Move" "bar" "I" ∈ wsX6_addMove := List.mem_of_getElem? (i := 3) rfl
theorem m_X6_addMove_1 : Cond.fieldLink RX6 19 "StageLines$Stage" "moves" "[LStageLines$Move;" ∈ wsX6_addMove := List.mem_of_getElem? (i := 1) rfl
def X6_addMove (M : Wo) (a0 : Nat) (x1 : Int32) (x2 : Int32) (x3 : Int32) (x4 : Int32) : Option (Int32 × Wo) :=
  (ckO M a0 6).bind fun _ => (gR M a0 6 1).bind fun w1 => (gI M a0 6 2).bind fun v3 => (lR M 3 w1 v3).bind fun w5 => (pV M w5 4 0 (.int x1)).bind fun M7 => (pV M7 w5 4 1 (.int x2)).bind fun M9 => (pV M9 w5 4 2 (.int x3)).bind fun M11 => (pV M11 w5 4 3 (.int x4)).bind fun M13 => (gI M13 a0 6 2).bind fun v15 => (pV M13 a0 6 2 (.int (v15 + (1 : Int32)))).bind fun M17 => (gI M17 a0 6 2).bind fun v19 => some ((v19 - (1 : Int32)), M17)
theorem X6_addMove_w {X : Cx} (G : Gd X yX6_addMove cX6_addMove wsX6_addMove 6 (some .int) rX6_addMove) {M : Wo} {a0 : Nat} {x1 : Int32} {x2 : Int32} {x3 : Int32} {x4 : Int32} {o : (Int32 × Wo)} (hd : X6_addMove M a0 x1 x2 x3 x4 = some o) (hQ : Qi X o.1 o.2 0 0) : Pt X 0 0 0 M [(0, .ref a0), (1, .int x1), (2, .int x2), (3, .int x3), (4, .int x4)] [] := by
  unfold X6_addMove at hd
  obtain ⟨_, _, hd⟩ := bnd hd
  refine pt_aload_n G 0 dX6_addMove_0 rfl rfl ?_
  obtain ⟨w1, h2, hd⟩ := bnd hd
  refine pt_get G (ci := 6) (j := 1) rfl (by decide) u_X6_addMove_X6 m_X6_addMove_1 (gR_o h2) dX6_addMove_1 ?_
  refine pt_aload_n G 0 dX6_addMove_4 rfl rfl ?_
  obtain ⟨v3, h4, hd⟩ := bnd hd
  refine pt_get G (ci := 6) (j := 2) rfl (by decide) u_X6_addMove_X6 m_X6_addMove_2 (gI_o h4) dX6_addMove_5 ?_
  obtain ⟨w5, h6, hd⟩ := bnd hd
  refine pt_aald G (kd := 3) rfl rfl h6 dX6_addMove_8 ?_
  refine pt_astore G [(5, .ref w5), (0, .ref a0), (1, .int x1), (2, .int x2), (3, .int x3), (4, .int x4)] dX6_addMove_9 (by decide) rfl ?_
  refine pt_aload G 0 dX6_addMove_11 rfl ?_
  refine pt_iload_n G 2 dX6_addMove_13 rfl rfl ?_
  obtain ⟨M7, h8, hd⟩ := bnd hd
  refine pt_put G (ci := 4) (j := 0) rfl (by decide) u_X6_addMove_X4 m_X6_addMove_3 tyX4 tyX4_ok nmX4 rfl rfl rfl h8 dX6_addMove_14 ?_
  refine pt_aload G 0 dX6_addMove_17 rfl ?_
  refine pt_iload_n G 3 dX6_addMove_19 rfl rfl ?_
  obtain ⟨M9, h10, hd⟩ := bnd hd
  refine pt_put G (ci := 4) (j := 1) rfl (by decide) u_X6_addMove_X4 m_X6_addMove_4 tyX4 tyX4_ok nmX4 rfl rfl rfl h10 dX6_addMove_20 ?_
  refine pt_aload G 0 dX6_addMove_23 rfl ?_
  refine pt_iload_n G 4 dX6_addMove_25 rfl rfl ?_
  obtain ⟨M11, h12, hd⟩ := bnd hd
  refine pt_put G (ci := 4) (j := 2) rfl (by decide) u_X6_addMove_X4 m_X6_addMove_5 tyX4 tyX4_ok nmX4 rfl rfl rfl h12 dX6_addMove_26 ?_
  refine pt_aload G 0 dX6_addMove_29 rfl ?_
  refine pt_iload G 5 dX6_addMove_31 rfl ?_
  obtain ⟨M13, h14, hd⟩ := bnd hd
  refine pt_put G (ci := 4) (j := 3) rfl (by decide) u_X6_addMove_X4 m_X6_addMove_6 tyX4 tyX4_ok nmX4 rfl rfl rfl h14 dX6_addMove_33 ?_
  refine pt_aload_n G 1 dX6_addMove_36 rfl rfl ?_
  refine pt_dup G dX6_addMove_37 rfl ?_
  obtain ⟨v15, h16, hd⟩ := bnd hd
  refine pt_get G (ci := 6) (j := 2) rfl (by decide) u_X6_addMove_X6 m_X6_addMove_2 (gI_o h16) dX6_addMove_38 ?_
  refine pt_iconst G (1 : Int32) dX6_addMove_41 ci_1 ?_
  refine pt_iadd G dX6_addMove_42 ?_
  obtain ⟨M17, h18, hd⟩ := bnd hd
  refine pt_put G (ci := 6) (j := 2) rfl (by decide) u_X6_addMove_X6 m_X6_addMove_2 tyX6 tyX6_ok nmX6 rfl rfl rfl h18 dX6_addMove_43 ?_
  refine pt_aload_n G 1 dX6_addMove_46 rfl rfl ?_
  obtain ⟨v19, h20, hd⟩ := bnd hd
  refine pt_get G (ci := 6) (j := 2) rfl (by decide) u_X6_addMove_X6 m_X6_addMove_2 (gI_o h20) dX6_addMove_47 ?_
  refine pt_iconst G (1 : Int32) dX6_addMove_50 ci_1 ?_
  refine pt_isub G dX6_addMove_51 ?_
  cases hd
  exact pt_iret G hQ dX6_addMove_52
theorem X6_addMove_c {l : Launch} {D : va_G} {dA : Nat → ClassId} {b : Nat} {M : Wo} {a0 : Nat} {x1 : Int32} {x2 : Int32} {x3 : Int32} {x4 : Int32} {r : Int32} {M2 : Wo} (h : X6_addMove M a0 x1 x2 x3 x4 = some (r, M2)) : Met l yX6_addMove wsX6_addMove rX6_addMove (va_Pc [.ref a0, .int x1, .int x2, .int x3, .int x4] (Wd D dA b M)) (Ei D dA b r M2) 0 0 (Ab b) := met_i (by decide) rfl (Nat.le_of_ble_eq_true rfl) (fun X G hN hQ => X6_addMove_w G h hQ)
theorem X6_addMove_v {X : Cx} {y : MethodName} {cc : ByteArray} {Ts : List Cond} {nL : Nat} {ret : Option FieldType} {R : Room} (G : Gd X y cc Ts nL ret R) {index : Nat} (hg : GoodIn Ts (wsV y.cls index RX6 yX6_addMove wsX6_addMove)) (hR : rX6_addMove.frames + 1 ≤ R.frames ∧ 8 + (6 + 11) + rX6_addMove.locals ≤ R.locals) {k n pc : Nat} {M : Wo} {lv : List (Nat × Value)} {st : List Value} {a0 : Nat} {x1 : Int32} {x2 : Int32} {x3 : Int32} {x4 : Int32} {r : Int32} {M2 : Wo} (hv : X6_addMove M a0 x1 x2 x3 x4 = some (r, M2)) (hd : decode cc pc = .ok (.invokevirtual index, 3)) (h8 : (st.map fun v => v.category).sum ≤ 8) (hf : k ≤ R.cells ∧ n ≤ R.slots) (kk : Pt X k n (pc + 3) M2 lv (.int r :: st)) : Pt X k n pc M lv (.int x4 :: .int x3 :: .int x2 :: .int x1 :: .ref a0 :: st) := pt_cVi (ci := 6) (nA := 4) (As := [.int x1, .int x2, .int x3, .int x4]) G (X6_addMove_c hv) hg rfl rfl rfl (by decide +kernel) hR rfl (rcv hv) rfl rfl h8 hd hf kk
abbrev rX6_removeMove : Room := { frames := 1, cells := 0, slots := 0, locals := 21 }
theorem m_X6_removeMove_2 : Cond.fieldLink RX6 19 "StageLines$Stage" "moves" "[LStageLines$Move;" ∈ wsX6_removeMove := List.mem_of_getElem? (i := 2) rfl
theorem u_X6_removeMove_X6 : ∀ w ∈ u_ws RX6 TX6 4, w ∈ wsX6_removeMove := mem_r [12, 13, 14, 15] (by decide +kernel)
theorem m_X6_removeMove_1 : Cond.fieldLink RX6 23 "StageLines$Stage" "moveCount" "I" ∈ wsX6_removeMove := List.mem_of_getElem? (i := 1) rfl
abbrev X6_removeMove_P4 (X : Cx) (a0 : Nat) : (Wo × Int32) → Prop := un2 (fun M x2 => Pt X 0 0 4 M [(0, .ref a0), (2, .int x2)] [])
abbrev X6_removeMove_Z4 (X : Cx) (a0 : Nat) : Wo → Prop := (un1 (fun M => Pt X 0 0 35 M [(0, .ref a0)] []))
def X6_removeMove_b4 (a0 : Nat) (M : Wo) (x2 : Int32) : Option ((Wo × Int32) ⊕ Wo) :=
  (gI M a0 6 2).bind fun v1 => if v1 ≤ x2 then (some (.inr M)) else ((gR M a0 6 1).bind fun w3 => (lR M 3 w3 (x2 - (1 : Int32))).bind fun w5 => (gR M a0 6 1).bind fun w7 => (lR M 3 w7 x2).bind fun w9 => (X4_copyFrom M w5 w9).bind fun M12 => some (.inl (M12, (x2 + 1))))
theorem X6_removeMove_b4_w {X : Cx} (G : Gd X yX6_removeMove cX6_removeMove wsX6_removeMove 3 none rX6_removeMove) {a0 : Nat} {M : Wo} {x2 : Int32} {o : ((Wo × Int32) ⊕ Wo)} (hd : X6_removeMove_b4 a0 M x2 = some o) (hc : ∀ s9, o = .inl s9 → X6_removeMove_P4 X a0 s9) (he : ∀ e9, o = .inr e9 → X6_removeMove_Z4 X a0 e9) : Pt X 0 0 4 M [(0, .ref a0), (2, .int x2)] [] := by
  unfold X6_removeMove_b4 at hd
  refine pt_iload_n G 1 dX6_removeMove_4 rfl rfl ?_
  refine pt_aload_n G 0 dX6_removeMove_5 rfl rfl ?_
  obtain ⟨v1, h2, hd⟩ := bnd hd
  refine pt_get G (ci := 6) (j := 2) rfl (by decide) u_X6_removeMove_X6 m_X6_removeMove_1 (gI_o h2) dX6_removeMove_6 ?_
  refine pt_icmp_ge G 35 dX6_removeMove_9 (by decide) (fun c13 => ?_) (fun c13 => ?_)
  · replace hd := ifp c13 hd
    exact pt_sub [0] rfl (he M (Option.some.inj hd).symm)
  · replace hd := ifn c13 hd
    refine pt_aload_n G 0 dX6_removeMove_12 rfl rfl ?_
    obtain ⟨w3, h4, hd⟩ := bnd hd
    refine pt_get G (ci := 6) (j := 1) rfl (by decide) u_X6_removeMove_X6 m_X6_removeMove_2 (gR_o h4) dX6_removeMove_13 ?_
    refine pt_iload_n G 1 dX6_removeMove_16 rfl rfl ?_
    refine pt_iconst G (1 : Int32) dX6_removeMove_17 ci_1 ?_
    refine pt_isub G dX6_removeMove_18 ?_
    obtain ⟨w5, h6, hd⟩ := bnd hd
    refine pt_aald G (kd := 3) rfl rfl h6 dX6_removeMove_19 ?_
    refine pt_aload_n G 0 dX6_removeMove_20 rfl rfl ?_
    obtain ⟨w7, h8, hd⟩ := bnd hd
    refine pt_get G (ci := 6) (j := 1) rfl (by decide) u_X6_removeMove_X6 m_X6_removeMove_2 (gR_o h8) dX6_removeMove_21 ?_
    refine pt_iload_n G 1 dX6_removeMove_24 rfl rfl ?_
    obtain ⟨w9, h10, hd⟩ := bnd hd
    refine pt_aald G (kd := 3) rfl rfl h10 dX6_removeMove_25 ?_
    obtain ⟨M12, h11, hd⟩ := bnd hd
    refine X4_copyFrom_v G gX6_removeMove_X4_copyFrom ⟨(Nat.le_of_ble_eq_true rfl), (Nat.le_of_ble_eq_true rfl)⟩ h11 dX6_removeMove_26 (Nat.le_of_ble_eq_true rfl) ⟨(Nat.le_of_ble_eq_true rfl), (Nat.le_of_ble_eq_true rfl)⟩ ?_
    refine pt_iinc G 1 (x2 + 1) [(2, .int (x2 + 1)), (0, .ref a0)] dX6_removeMove_29 rfl (inc_1 _) (by decide) rfl ?_
    refine pt_goto G 4 dX6_removeMove_32 (by decide) ?_
    exact pt_sub [1, 0] rfl (hc (M12, (x2 + 1)) (Option.some.inj hd).symm)
theorem X6_removeMove_w4_w {X : Cx} (G : Gd X yX6_removeMove cX6_removeMove wsX6_removeMove 3 none rX6_removeMove) {a0 : Nat} (n9 : Nat) (s9 : (Wo × Int32)) (e9 : Wo) (hw : wloop (un2 (X6_removeMove_b4 a0)) n9 s9 = some e9) (hz : X6_removeMove_Z4 X a0 e9) : X6_removeMove_P4 X a0 s9 := by
  refine wl_ind (P := X6_removeMove_P4 X a0) (Z := X6_removeMove_Z4 X a0) ?_ n9 s9 e9 hw hz
  intro s9 o9 hd hc he
  obtain ⟨M, x2⟩ := s9
  exact X6_removeMove_b4_w G hd hc he
def X6_removeMove (M : Wo) (a0 : Nat) (x1 : Int32) : Option Wo :=
  (ckO M a0 6).bind fun _ => (wloop (un2 (X6_removeMove_b4 a0)) FU (M, (x1 + (1 : Int32)))).bind fun M14 => (gI M14 a0 6 2).bind fun v15 => (pV M14 a0 6 2 (.int (v15 - (1 : Int32)))).bind fun M17 => some M17
theorem X6_removeMove_w {X : Cx} (G : Gd X yX6_removeMove cX6_removeMove wsX6_removeMove 3 none rX6_removeMove) {M : Wo} {a0 : Nat} {x1 : Int32} {o : Wo} (hd : X6_removeMove M a0 x1 = some o) (hQ : Qv X o 0 0) : Pt X 0 0 0 M [(0, .ref a0), (1, .int x1)] [] := by
  unfold X6_removeMove at hd
  obtain ⟨_, _, hd⟩ := bnd hd
  refine pt_iload_n G 1 dX6_removeMove_0 rfl rfl ?_
  refine pt_iconst G (1 : Int32) dX6_removeMove_1 ci_1 ?_
  refine pt_iadd G dX6_removeMove_2 ?_
  refine pt_istore_n G [(2, .int (x1 + (1 : Int32))), (0, .ref a0), (1, .int x1)] dX6_removeMove_3 rfl (by decide) rfl ?_
  obtain ⟨M14, hw19, hd⟩ := bnd hd
  refine pt_sub [1, 0] rfl (X6_removeMove_w4_w G _ _ _ hw19 ?_)
  show Pt X 0 0 _ _ _ []
  refine pt_aload_n G 0 dX6_removeMove_35 rfl rfl ?_
  refine pt_dup G dX6_removeMove_36 rfl ?_
  obtain ⟨v15, h16, hd⟩ := bnd hd
  refine pt_get G (ci := 6) (j := 2) rfl (by decide) u_X6_removeMove_X6 m_X6_removeMove_1 (gI_o h16) dX6_removeMove_37 ?_
  refine pt_iconst G (1 : Int32) dX6_removeMove_40 ci_1 ?_
  refine pt_isub G dX6_removeMove_41 ?_
  obtain ⟨M17, h18, hd⟩ := bnd hd
  refine pt_put G (ci := 6) (j := 2) rfl (by decide) u_X6_removeMove_X6 m_X6_removeMove_1 tyX6 tyX6_ok nmX6 rfl rfl rfl h18 dX6_removeMove_42 ?_
  cases hd
  exact pt_vret G hQ dX6_removeMove_45
theorem X6_removeMove_c {l : Launch} {D : va_G} {dA : Nat → ClassId} {b : Nat} {M : Wo} {a0 : Nat} {x1 : Int32} {M2 : Wo} (h : X6_removeMove M a0 x1 = some M2) : Met l yX6_removeMove wsX6_removeMove rX6_removeMove (va_Pc [.ref a0, .int x1] (Wd D dA b M)) (Ev D dA b M2) 0 0 (Ab b) := met_v (by decide) rfl (Nat.le_of_ble_eq_true rfl) (fun X G hN hQ => X6_removeMove_w G h hQ)
theorem X6_removeMove_v {X : Cx} {y : MethodName} {cc : ByteArray} {Ts : List Cond} {nL : Nat} {ret : Option FieldType} {R : Room} (G : Gd X y cc Ts nL ret R) {index : Nat} (hg : GoodIn Ts (wsV y.cls index RX6 yX6_removeMove wsX6_removeMove)) (hR : rX6_removeMove.frames + 1 ≤ R.frames ∧ 8 + (3 + 11) + rX6_removeMove.locals ≤ R.locals) {k n pc : Nat} {M : Wo} {lv : List (Nat × Value)} {st : List Value} {a0 : Nat} {x1 : Int32} {M2 : Wo} (hv : X6_removeMove M a0 x1 = some M2) (hd : decode cc pc = .ok (.invokevirtual index, 3)) (h8 : (st.map fun v => v.category).sum ≤ 8) (hf : k ≤ R.cells ∧ n ≤ R.slots) (kk : Pt X k n (pc + 3) M2 lv st) : Pt X k n pc M lv (.int x1 :: .ref a0 :: st) := pt_cVv (ci := 6) (nA := 1) (As := [.int x1]) G (X6_removeMove_c hv) hg rfl rfl rfl (by decide +kernel) hR rfl (rcv hv) rfl rfl h8 hd hf kk
abbrev rX6_movesOf : Room := { frames := 0, cells := 0, slots := 0, locals := 0 }
theorem m_X6_movesOf_3 : Cond.fieldLink RX6 39 "StageLines$Move" "bar" "I" ∈ wsX6_movesOf := List.mem_of_getElem? (i := 3) rfl
theorem u_X6_movesOf_X4 : ∀ w ∈ u_ws RX4 TX4 4, w ∈ wsX6_movesOf := mem_r [8, 9, 10, 11] (by decide +kernel)
theorem m_X6_movesOf_2 : Cond.fieldLink RX6 19 "StageLines$Stage" "moves" "[LStageLines$Move;" ∈ wsX6_movesOf := List.mem_of_getElem? (i := 2) rfl
theorem u_X6_movesOf_X6 : ∀ w ∈ u_ws RX6 TX6 4, w ∈ wsX6_movesOf := mem_r [4, 5, 6, 7] (by decide +kernel)
theorem m_X6_movesOf_1 : Cond.fieldLink RX6 23 "StageLines$Stage" "moveCount" "I" ∈ wsX6_movesOf := List.mem_of_getElem? (i := 1) rfl
abbrev X6_movesOf_P4 (X : Cx) (M : Wo) (a0 : Nat) (x1 : Int32) : (Int32 × Int32) → Prop := un2 (fun x2 x3 => Pt X 0 0 4 M [(0, .ref a0), (1, .int x1), (2, .int x2), (3, .int x3)] [])
abbrev X6_movesOf_Z4 (X : Cx) (M : Wo) (a0 : Nat) (x1 : Int32) : Int32 → Prop := (un1 (fun x2 => Pt X 0 0 34 M [(2, .int x2)] []))
def X6_movesOf_b4 (M : Wo) (a0 : Nat) (x1 : Int32) (x2 : Int32) (x3 : Int32) : Option ((Int32 × Int32) ⊕ Int32) :=
  (gI M a0 6 2).bind fun v1 => if v1 ≤ x3 then (some (.inr x2)) else ((gR M a0 6 1).bind fun w3 => (lR M 3 w3 x3).bind fun w5 => (gI M w5 4 0).bind fun v7 => if v7 = x1 then (some (.inl ((x2 + 1), (x3 + 1)))) else (some (.inl (x2, (x3 + 1)))))
theorem X6_movesOf_b4_w {X : Cx} (G : Gd X yX6_movesOf cX6_movesOf wsX6_movesOf 4 (some .int) rX6_movesOf) {M : Wo} {a0 : Nat} {x1 : Int32} {x2 : Int32} {x3 : Int32} {o : ((Int32 × Int32) ⊕ Int32)} (hd : X6_movesOf_b4 M a0 x1 x2 x3 = some o) (hc : ∀ s9, o = .inl s9 → X6_movesOf_P4 X M a0 x1 s9) (he : ∀ e9, o = .inr e9 → X6_movesOf_Z4 X M a0 x1 e9) : Pt X 0 0 4 M [(0, .ref a0), (1, .int x1), (2, .int x2), (3, .int x3)] [] := by
  unfold X6_movesOf_b4 at hd
  refine pt_iload_n G 3 dX6_movesOf_4 rfl rfl ?_
  refine pt_aload_n G 0 dX6_movesOf_5 rfl rfl ?_
  obtain ⟨v1, h2, hd⟩ := bnd hd
  refine pt_get G (ci := 6) (j := 2) rfl (by decide) u_X6_movesOf_X6 m_X6_movesOf_1 (gI_o h2) dX6_movesOf_6 ?_
  refine pt_icmp_ge G 34 dX6_movesOf_9 (by decide) (fun c10 => ?_) (fun c10 => ?_)
  · replace hd := ifp c10 hd
    exact pt_sub [2] rfl (he x2 (Option.some.inj hd).symm)
  · replace hd := ifn c10 hd
    refine pt_aload_n G 0 dX6_movesOf_12 rfl rfl ?_
    obtain ⟨w3, h4, hd⟩ := bnd hd
    refine pt_get G (ci := 6) (j := 1) rfl (by decide) u_X6_movesOf_X6 m_X6_movesOf_2 (gR_o h4) dX6_movesOf_13 ?_
    refine pt_iload_n G 3 dX6_movesOf_16 rfl rfl ?_
    obtain ⟨w5, h6, hd⟩ := bnd hd
    refine pt_aald G (kd := 3) rfl rfl h6 dX6_movesOf_17 ?_
    obtain ⟨v7, h8, hd⟩ := bnd hd
    refine pt_get G (ci := 4) (j := 0) rfl (by decide) u_X6_movesOf_X4 m_X6_movesOf_3 (gI_o h8) dX6_movesOf_18 ?_
    refine pt_iload_n G 1 dX6_movesOf_21 rfl rfl ?_
    refine pt_icmp_ne G 28 dX6_movesOf_22 (by decide) (fun c9 => ?_) (fun c9 => ?_)
    · replace hd := ifn c9 hd
      refine pt_iinc G 3 (x3 + 1) [(3, .int (x3 + 1)), (0, .ref a0), (1, .int x1), (2, .int x2)] dX6_movesOf_28 rfl (inc_1 _) (by decide) rfl ?_
      refine pt_goto G 4 dX6_movesOf_31 (by decide) ?_
      exact pt_sub [1, 2, 3, 0] rfl (hc (x2, (x3 + 1)) (Option.some.inj hd).symm)
    · replace hd := ifp c9 hd
      refine pt_iinc G 2 (x2 + 1) [(2, .int (x2 + 1)), (0, .ref a0), (1, .int x1), (3, .int x3)] dX6_movesOf_25 rfl (inc_1 _) (by decide) rfl ?_
      refine pt_iinc G 3 (x3 + 1) [(3, .int (x3 + 1)), (2, .int (x2 + 1)), (0, .ref a0), (1, .int x1)] dX6_movesOf_28 rfl (inc_1 _) (by decide) rfl ?_
      refine pt_goto G 4 dX6_movesOf_31 (by decide) ?_
      exact pt_sub [2, 3, 1, 0] rfl (hc ((x2 + 1), (x3 + 1)) (Option.some.inj hd).symm)
theorem X6_movesOf_w4_w {X : Cx} (G : Gd X yX6_movesOf cX6_movesOf wsX6_movesOf 4 (some .int) rX6_movesOf) {M : Wo} {a0 : Nat} {x1 : Int32} (n9 : Nat) (s9 : (Int32 × Int32)) (e9 : Int32) (hw : wloop (un2 (X6_movesOf_b4 M a0 x1)) n9 s9 = some e9) (hz : X6_movesOf_Z4 X M a0 x1 e9) : X6_movesOf_P4 X M a0 x1 s9 := by
  refine wl_ind (P := X6_movesOf_P4 X M a0 x1) (Z := X6_movesOf_Z4 X M a0 x1) ?_ n9 s9 e9 hw hz
  intro s9 o9 hd hc he
  obtain ⟨x2, x3⟩ := s9
  exact X6_movesOf_b4_w G hd hc he
def X6_movesOf (M : Wo) (a0 : Nat) (x1 : Int32) : Option Int32 :=
  (ckO M a0 6).bind fun _ => (wloop (un2 (X6_movesOf_b4 M a0 x1)) FU ((0 : Int32), (0 : Int32))).bind fun v11 => some v11
theorem X6_movesOf_w {X : Cx} (G : Gd X yX6_movesOf cX6_movesOf wsX6_movesOf 4 (some .int) rX6_movesOf) {M : Wo} {a0 : Nat} {x1 : Int32} {o : Int32} (hd : X6_movesOf M a0 x1 = some o) (hQ : Qi X o M 0 0) : Pt X 0 0 0 M [(0, .ref a0), (1, .int x1)] [] := by
  unfold X6_movesOf at hd
  obtain ⟨_, _, hd⟩ := bnd hd
  refine pt_iconst G (0 : Int32) dX6_movesOf_0 ci_0 ?_
  refine pt_istore_n G [(2, .int (0 : Int32)), (0, .ref a0), (1, .int x1)] dX6_movesOf_1 rfl (by decide) rfl ?_
  refine pt_iconst G (0 : Int32) dX6_movesOf_2 ci_0 ?_
  refine pt_istore_n G [(3, .int (0 : Int32)), (2, .int (0 : Int32)), (0, .ref a0), (1, .int x1)] dX6_movesOf_3 rfl (by decide) rfl ?_
  obtain ⟨v11, hw12, hd⟩ := bnd hd
  refine pt_sub [2, 3, 1, 0] rfl (X6_movesOf_w4_w G _ _ _ hw12 ?_)
  show Pt X 0 0 _ _ _ []
  refine pt_iload_n G 0 dX6_movesOf_34 rfl rfl ?_
  cases hd
  exact pt_iret G hQ dX6_movesOf_35
theorem X6_movesOf_c {l : Launch} {D : va_G} {dA : Nat → ClassId} {b : Nat} {M : Wo} {a0 : Nat} {x1 : Int32} {r : Int32} (h : X6_movesOf M a0 x1 = some r) : Met l yX6_movesOf wsX6_movesOf rX6_movesOf (va_Pc [.ref a0, .int x1] (Wd D dA b M)) (Ei D dA b r M) 0 0 (Ab b) := met_i (by decide) rfl (Nat.le_of_ble_eq_true rfl) (fun X G hN hQ => X6_movesOf_w G h hQ)
theorem X6_movesOf_v {X : Cx} {y : MethodName} {cc : ByteArray} {Ts : List Cond} {nL : Nat} {ret : Option FieldType} {R : Room} (G : Gd X y cc Ts nL ret R) {index : Nat} (hg : GoodIn Ts (wsV y.cls index RX6 yX6_movesOf wsX6_movesOf)) (hR : rX6_movesOf.frames + 1 ≤ R.frames ∧ 8 + (4 + 11) + rX6_movesOf.locals ≤ R.locals) {k n pc : Nat} {M : Wo} {lv : List (Nat × Value)} {st : List Value} {a0 : Nat} {x1 : Int32} {r : Int32} (hv : X6_movesOf M a0 x1 = some r) (hd : decode cc pc = .ok (.invokevirtual index, 3)) (h8 : (st.map fun v => v.category).sum ≤ 8) (hf : k ≤ R.cells ∧ n ≤ R.slots) (kk : Pt X k n (pc + 3) M lv (.int r :: st)) : Pt X k n pc M lv (.int x1 :: .ref a0 :: st) := pt_cVi (ci := 6) (nA := 1) (As := [.int x1]) G (X6_movesOf_c hv) hg rfl rfl rfl (by decide +kernel) hR rfl (rcv hv) rfl rfl h8 hd hf kk
abbrev rX6_moveAt : Room := { frames := 1, cells := 0, slots := 0, locals := 25 }
theorem m_X6_moveAt_2 : Cond.fieldLink RX6 42 "StageLines$Move" "begin" "I" ∈ wsX6_moveAt := List.mem_of_getElem? (i := 2) rfl
theorem u_X6_moveAt_X4 : ∀ w ∈ u_ws RX4 TX4 4, w ∈ wsX6_moveAt := mem_r [14, 15, 16, 17] (by decide +kernel)
theorem m_X6_moveAt_1 : Cond.fieldLink RX6 19 "StageLines$Stage" "moves" "[LStageLines$Move;" ∈ wsX6_moveAt := List.mem_of_getElem? (i := 1) rfl
theorem u_X6_moveAt_X6 : ∀ w ∈ u_ws RX6 TX6 4, w ∈ wsX6_moveAt := mem_r [10, 11, 12, 13] (by decide +kernel)
def X6_moveAt (M : Wo) (a0 : Nat) (x1 : Int32) (x2 : Int32) : Option Int32 :=
  (ckO M a0 6).bind fun _ => (X6_firstMoveFrom M a0 x1 x2).bind fun v2 => if v2 < 0 then (some (-1 : Int32)) else ((gR M a0 6 1).bind fun w3 => (lR M 3 w3 v2).bind fun w5 => (gI M w5 4 1).bind fun v7 => if v7 = x2 then (some v2) else (some (-1 : Int32)))
theorem X6_moveAt_w {X : Cx} (G : Gd X yX6_moveAt cX6_moveAt wsX6_moveAt 4 (some .int) rX6_moveAt) {M : Wo} {a0 : Nat} {x1 : Int32} {x2 : Int32} {o : Int32} (hd : X6_moveAt M a0 x1 x2 = some o) (hQ : Qi X o M 0 0) : Pt X 0 0 0 M [(0, .ref a0), (1, .int x1), (2, .int x2)] [] := by
  unfold X6_moveAt at hd
  obtain ⟨_, _, hd⟩ := bnd hd
  refine pt_aload_n G 0 dX6_moveAt_0 rfl rfl ?_
  refine pt_iload_n G 1 dX6_moveAt_1 rfl rfl ?_
  refine pt_iload_n G 2 dX6_moveAt_2 rfl rfl ?_
  obtain ⟨v2, h1, hd⟩ := bnd hd
  refine X6_firstMoveFrom_v G gX6_moveAt_X6_firstMoveFrom ⟨(Nat.le_of_ble_eq_true rfl), (Nat.le_of_ble_eq_true rfl)⟩ h1 dX6_moveAt_3 (Nat.le_of_ble_eq_true rfl) ⟨(Nat.le_of_ble_eq_true rfl), (Nat.le_of_ble_eq_true rfl)⟩ ?_
  refine pt_istore_n G [(3, .int v2), (0, .ref a0), (1, .int x1), (2, .int x2)] dX6_moveAt_6 rfl (by decide) rfl ?_
  refine pt_iload_n G 0 dX6_moveAt_7 rfl rfl ?_
  refine pt_if_lt G 28 dX6_moveAt_8 (by decide) (fun c10 => ?_) (fun c10 => ?_)
  · replace hd := ifp c10 hd
    refine pt_iconst G (-1 : Int32) dX6_moveAt_28 ci_m1 ?_
    cases hd
    exact pt_iret G hQ dX6_moveAt_29
  · replace hd := ifn c10 hd
    refine pt_aload_n G 1 dX6_moveAt_11 rfl rfl ?_
    obtain ⟨w3, h4, hd⟩ := bnd hd
    refine pt_get G (ci := 6) (j := 1) rfl (by decide) u_X6_moveAt_X6 m_X6_moveAt_1 (gR_o h4) dX6_moveAt_12 ?_
    refine pt_iload_n G 0 dX6_moveAt_15 rfl rfl ?_
    obtain ⟨w5, h6, hd⟩ := bnd hd
    refine pt_aald G (kd := 3) rfl rfl h6 dX6_moveAt_16 ?_
    obtain ⟨v7, h8, hd⟩ := bnd hd
    refine pt_get G (ci := 4) (j := 1) rfl (by decide) u_X6_moveAt_X4 m_X6_moveAt_2 (gI_o h8) dX6_moveAt_17 ?_
    refine pt_iload_n G 3 dX6_moveAt_20 rfl rfl ?_
    refine pt_icmp_ne G 28 dX6_moveAt_21 (by decide) (fun c9 => ?_) (fun c9 => ?_)
    · replace hd := ifn c9 hd
      refine pt_iconst G (-1 : Int32) dX6_moveAt_28 ci_m1 ?_
      cases hd
      exact pt_iret G hQ dX6_moveAt_29
    · replace hd := ifp c9 hd
      refine pt_iload_n G 0 dX6_moveAt_24 rfl rfl ?_
      refine pt_goto G 29 dX6_moveAt_25 (by decide) ?_
      cases hd
      exact pt_iret G hQ dX6_moveAt_29
theorem X6_moveAt_c {l : Launch} {D : va_G} {dA : Nat → ClassId} {b : Nat} {M : Wo} {a0 : Nat} {x1 : Int32} {x2 : Int32} {r : Int32} (h : X6_moveAt M a0 x1 x2 = some r) : Met l yX6_moveAt wsX6_moveAt rX6_moveAt (va_Pc [.ref a0, .int x1, .int x2] (Wd D dA b M)) (Ei D dA b r M) 0 0 (Ab b) := met_i (by decide) rfl (Nat.le_of_ble_eq_true rfl) (fun X G hN hQ => X6_moveAt_w G h hQ)
theorem X6_moveAt_v {X : Cx} {y : MethodName} {cc : ByteArray} {Ts : List Cond} {nL : Nat} {ret : Option FieldType} {R : Room} (G : Gd X y cc Ts nL ret R) {index : Nat} (hg : GoodIn Ts (wsV y.cls index RX6 yX6_moveAt wsX6_moveAt)) (hR : rX6_moveAt.frames + 1 ≤ R.frames ∧ 8 + (4 + 11) + rX6_moveAt.locals ≤ R.locals) {k n pc : Nat} {M : Wo} {lv : List (Nat × Value)} {st : List Value} {a0 : Nat} {x1 : Int32} {x2 : Int32} {r : Int32} (hv : X6_moveAt M a0 x1 x2 = some r) (hd : decode cc pc = .ok (.invokevirtual index, 3)) (h8 : (st.map fun v => v.category).sum ≤ 8) (hf : k ≤ R.cells ∧ n ≤ R.slots) (kk : Pt X k n (pc + 3) M lv (.int r :: st)) : Pt X k n pc M lv (.int x2 :: .int x1 :: .ref a0 :: st) := pt_cVi (ci := 6) (nA := 2) (As := [.int x1, .int x2]) G (X6_moveAt_c hv) hg rfl rfl rfl (by decide +kernel) hR rfl (rcv hv) rfl rfl h8 hd hf kk
abbrev rX6_evenBars : Room := { frames := 2, cells := 0, slots := 0, locals := 81 }
theorem m_X6_evenBars_2 : Cond.fieldLink RX6 27 "StageLines$Stage" "sway" "I" ∈ wsX6_evenBars := List.mem_of_getElem? (i := 2) rfl
theorem u_X6_evenBars_X6 : ∀ w ∈ u_ws RX6 TX6 4, w ∈ wsX6_evenBars := mem_r [21, 22, 23, 24] (by decide +kernel)
theorem m_X6_evenBars_1 : Cond.fieldLink RX6 11 "StageLines$Stage" "bars" "[LStageLines$Bar;" ∈ wsX6_evenBars := List.mem_of_getElem? (i := 1) rfl
abbrev X6_evenBars_P4 (X : Cx) (M : Wo) (a0 : Nat) : (Int32 × Int32) → Prop := un2 (fun x1 x2 => Pt X 0 0 4 M [(0, .ref a0), (1, .int x1), (2, .int x2)] [])
abbrev X6_evenBars_Z4 (X : Cx) (M : Wo) (a0 : Nat) : Int32 → Prop := (un1 (fun x1 => Pt X 0 0 35 M [(1, .int x1)] []))
def X6_evenBars_b4 (M : Wo) (a0 : Nat) (x1 : Int32) (x2 : Int32) : Option ((Int32 × Int32) ⊕ Int32) :=
  if (10 : Int32) ≤ x2 then (some (.inr x1)) else ((gR M a0 6 0).bind fun w1 => (lR M 2 w1 x2).bind fun w3 => (gI M a0 6 3).bind fun v5 => (X0_isEven M w3 v5).bind fun v8 => if v8 = 0 then (some (.inl (x1, (x2 + 1)))) else (some (.inl ((x1 + 1), (x2 + 1)))))
theorem X6_evenBars_b4_w {X : Cx} (G : Gd X yX6_evenBars cX6_evenBars wsX6_evenBars 3 (some .int) rX6_evenBars) {M : Wo} {a0 : Nat} {x1 : Int32} {x2 : Int32} {o : ((Int32 × Int32) ⊕ Int32)} (hd : X6_evenBars_b4 M a0 x1 x2 = some o) (hc : ∀ s9, o = .inl s9 → X6_evenBars_P4 X M a0 s9) (he : ∀ e9, o = .inr e9 → X6_evenBars_Z4 X M a0 e9) : Pt X 0 0 4 M [(0, .ref a0), (1, .int x1), (2, .int x2)] [] := by
  unfold X6_evenBars_b4 at hd
  refine pt_iload_n G 2 dX6_evenBars_4 rfl rfl ?_
  refine pt_bipush G (10 : Int32) dX6_evenBars_5 bi_10 ?_
  refine pt_icmp_ge G 35 dX6_evenBars_7 (by decide) (fun c10 => ?_) (fun c10 => ?_)
  · replace hd := ifp c10 hd
    exact pt_sub [1] rfl (he x1 (Option.some.inj hd).symm)
  · replace hd := ifn c10 hd
    refine pt_aload_n G 0 dX6_evenBars_10 rfl rfl ?_
    obtain ⟨w1, h2, hd⟩ := bnd hd
    refine pt_get G (ci := 6) (j := 0) rfl (by decide) u_X6_evenBars_X6 m_X6_evenBars_1 (gR_o h2) dX6_evenBars_11 ?_
    refine pt_iload_n G 2 dX6_evenBars_14 rfl rfl ?_
    obtain ⟨w3, h4, hd⟩ := bnd hd
    refine pt_aald G (kd := 2) rfl rfl h4 dX6_evenBars_15 ?_
    refine pt_aload_n G 0 dX6_evenBars_16 rfl rfl ?_
    obtain ⟨v5, h6, hd⟩ := bnd hd
    refine pt_get G (ci := 6) (j := 3) rfl (by decide) u_X6_evenBars_X6 m_X6_evenBars_2 (gI_o h6) dX6_evenBars_17 ?_
    obtain ⟨v8, h7, hd⟩ := bnd hd
    refine X0_isEven_v G gX6_evenBars_X0_isEven ⟨(Nat.le_of_ble_eq_true rfl), (Nat.le_of_ble_eq_true rfl)⟩ h7 dX6_evenBars_20 (Nat.le_of_ble_eq_true rfl) ⟨(Nat.le_of_ble_eq_true rfl), (Nat.le_of_ble_eq_true rfl)⟩ ?_
    refine pt_if_eq G 29 dX6_evenBars_23 (by decide) (fun c9 => ?_) (fun c9 => ?_)
    · replace hd := ifp c9 hd
      refine pt_iinc G 2 (x2 + 1) [(2, .int (x2 + 1)), (0, .ref a0), (1, .int x1)] dX6_evenBars_29 rfl (inc_1 _) (by decide) rfl ?_
      refine pt_goto G 4 dX6_evenBars_32 (by decide) ?_
      exact pt_sub [1, 2, 0] rfl (hc (x1, (x2 + 1)) (Option.some.inj hd).symm)
    · replace hd := ifn c9 hd
      refine pt_iinc G 1 (x1 + 1) [(1, .int (x1 + 1)), (0, .ref a0), (2, .int x2)] dX6_evenBars_26 rfl (inc_1 _) (by decide) rfl ?_
      refine pt_iinc G 2 (x2 + 1) [(2, .int (x2 + 1)), (1, .int (x1 + 1)), (0, .ref a0)] dX6_evenBars_29 rfl (inc_1 _) (by decide) rfl ?_
      refine pt_goto G 4 dX6_evenBars_32 (by decide) ?_
      exact pt_sub [2, 1, 0] rfl (hc ((x1 + 1), (x2 + 1)) (Option.some.inj hd).symm)
theorem X6_evenBars_w4_w {X : Cx} (G : Gd X yX6_evenBars cX6_evenBars wsX6_evenBars 3 (some .int) rX6_evenBars) {M : Wo} {a0 : Nat} (n9 : Nat) (s9 : (Int32 × Int32)) (e9 : Int32) (hw : wloop (un2 (X6_evenBars_b4 M a0)) n9 s9 = some e9) (hz : X6_evenBars_Z4 X M a0 e9) : X6_evenBars_P4 X M a0 s9 := by
  refine wl_ind (P := X6_evenBars_P4 X M a0) (Z := X6_evenBars_Z4 X M a0) ?_ n9 s9 e9 hw hz
  intro s9 o9 hd hc he
  obtain ⟨x1, x2⟩ := s9
  exact X6_evenBars_b4_w G hd hc he
def X6_evenBars (M : Wo) (a0 : Nat) : Option Int32 :=
  (ckO M a0 6).bind fun _ => (wloop (un2 (X6_evenBars_b4 M a0)) FU ((0 : Int32), (0 : Int32))).bind fun v11 => some v11
theorem X6_evenBars_w {X : Cx} (G : Gd X yX6_evenBars cX6_evenBars wsX6_evenBars 3 (some .int) rX6_evenBars) {M : Wo} {a0 : Nat} {o : Int32} (hd : X6_evenBars M a0 = some o) (hQ : Qi X o M 0 0) : Pt X 0 0 0 M [(0, .ref a0)] [] := by
  unfold X6_evenBars at hd
  obtain ⟨_, _, hd⟩ := bnd hd
  refine pt_iconst G (0 : Int32) dX6_evenBars_0 ci_0 ?_
  refine pt_istore_n G [(1, .int (0 : Int32)), (0, .ref a0)] dX6_evenBars_1 rfl (by decide) rfl ?_
  refine pt_iconst G (0 : Int32) dX6_evenBars_2 ci_0 ?_
  refine pt_istore_n G [(2, .int (0 : Int32)), (1, .int (0 : Int32)), (0, .ref a0)] dX6_evenBars_3 rfl (by decide) rfl ?_
  obtain ⟨v11, hw12, hd⟩ := bnd hd
  refine pt_sub [2, 1, 0] rfl (X6_evenBars_w4_w G _ _ _ hw12 ?_)
  show Pt X 0 0 _ _ _ []
  refine pt_iload_n G 0 dX6_evenBars_35 rfl rfl ?_
  cases hd
  exact pt_iret G hQ dX6_evenBars_36
theorem X6_evenBars_c {l : Launch} {D : va_G} {dA : Nat → ClassId} {b : Nat} {M : Wo} {a0 : Nat} {r : Int32} (h : X6_evenBars M a0 = some r) : Met l yX6_evenBars wsX6_evenBars rX6_evenBars (va_Pc [.ref a0] (Wd D dA b M)) (Ei D dA b r M) 0 0 (Ab b) := met_i (by decide) rfl (Nat.le_of_ble_eq_true rfl) (fun X G hN hQ => X6_evenBars_w G h hQ)
theorem X6_evenBars_v {X : Cx} {y : MethodName} {cc : ByteArray} {Ts : List Cond} {nL : Nat} {ret : Option FieldType} {R : Room} (G : Gd X y cc Ts nL ret R) {index : Nat} (hg : GoodIn Ts (wsV y.cls index RX6 yX6_evenBars wsX6_evenBars)) (hR : rX6_evenBars.frames + 1 ≤ R.frames ∧ 8 + (3 + 11) + rX6_evenBars.locals ≤ R.locals) {k n pc : Nat} {M : Wo} {lv : List (Nat × Value)} {st : List Value} {a0 : Nat} {r : Int32} (hv : X6_evenBars M a0 = some r) (hd : decode cc pc = .ok (.invokevirtual index, 3)) (h8 : (st.map fun v => v.category).sum ≤ 8) (hf : k ≤ R.cells ∧ n ≤ R.slots) (kk : Pt X k n (pc + 3) M lv (.int r :: st)) : Pt X k n pc M lv (.ref a0 :: st) := pt_cVi (ci := 6) (nA := 0) (As := []) G (X6_evenBars_c hv) hg rfl rfl rfl (by decide +kernel) hR rfl (rcv hv) rfl rfl h8 hd hf kk
abbrev rX6_nearPairs : Room := { frames := 2, cells := 0, slots := 0, locals := 82 }
abbrev X6_nearPairs_P4 (X : Cx) (M : Wo) (a0 : Nat) : (Int32 × Int32) → Prop := un2 (fun x1 x2 => Pt X 0 0 4 M [(0, .ref a0), (1, .int x1), (2, .int x2)] [])
abbrev X6_nearPairs_Z4 (X : Cx) (M : Wo) (a0 : Nat) : Int32 → Prop := (un1 (fun x1 => Pt X 0 0 44 M [(1, .int x1)] []))
abbrev X6_nearPairs_P14 (X : Cx) (M : Wo) (a0 : Nat) (x2 : Int32) : (Int32 × Int32) → Prop := un2 (fun x1 x3 => Pt X 0 0 14 M [(0, .ref a0), (1, .int x1), (2, .int x2), (3, .int x3)] [])
abbrev X6_nearPairs_Z14 (X : Cx) (M : Wo) (a0 : Nat) (x2 : Int32) : Int32 → Prop := (un1 (fun x1 => Pt X 0 0 38 M [(0, .ref a0), (1, .int x1), (2, .int x2)] []))
def X6_nearPairs_b14 (M : Wo) (a0 : Nat) (x2 : Int32) (x1 : Int32) (x3 : Int32) : Option ((Int32 × Int32) ⊕ Int32) :=
  if (10 : Int32) ≤ x3 then (some (.inr x1)) else ((X6_areNear M a0 x2 x3).bind fun v2 => if v2 = 0 then (some (.inl (x1, (x3 + 1)))) else (some (.inl ((x1 + 1), (x3 + 1)))))
theorem X6_nearPairs_b14_w {X : Cx} (G : Gd X yX6_nearPairs cX6_nearPairs wsX6_nearPairs 4 (some .int) rX6_nearPairs) {M : Wo} {a0 : Nat} {x2 : Int32} {x1 : Int32} {x3 : Int32} {o : ((Int32 × Int32) ⊕ Int32)} (hd : X6_nearPairs_b14 M a0 x2 x1 x3 = some o) (hc : ∀ s9, o = .inl s9 → X6_nearPairs_P14 X M a0 x2 s9) (he : ∀ e9, o = .inr e9 → X6_nearPairs_Z14 X M a0 x2 e9) : Pt X 0 0 14 M [(0, .ref a0), (1, .int x1), (2, .int x2), (3, .int x3)] [] := by
  unfold X6_nearPairs_b14 at hd
  refine pt_iload_n G 3 dX6_nearPairs_14 rfl rfl ?_
  refine pt_bipush G (10 : Int32) dX6_nearPairs_15 bi_10 ?_
  refine pt_icmp_ge G 38 dX6_nearPairs_17 (by decide) (fun c4 => ?_) (fun c4 => ?_)
  · replace hd := ifp c4 hd
    exact pt_sub [0, 1, 2] rfl (he x1 (Option.some.inj hd).symm)
  · replace hd := ifn c4 hd
    refine pt_aload_n G 0 dX6_nearPairs_20 rfl rfl ?_
    refine pt_iload_n G 2 dX6_nearPairs_21 rfl rfl ?_
    refine pt_iload_n G 3 dX6_nearPairs_22 rfl rfl ?_
    obtain ⟨v2, h1, hd⟩ := bnd hd
    refine X6_areNear_v G gX6_nearPairs_X6_areNear ⟨(Nat.le_of_ble_eq_true rfl), (Nat.le_of_ble_eq_true rfl)⟩ h1 dX6_nearPairs_23 (Nat.le_of_ble_eq_true rfl) ⟨(Nat.le_of_ble_eq_true rfl), (Nat.le_of_ble_eq_true rfl)⟩ ?_
    refine pt_if_eq G 32 dX6_nearPairs_26 (by decide) (fun c3 => ?_) (fun c3 => ?_)
    · replace hd := ifp c3 hd
      refine pt_iinc G 3 (x3 + 1) [(3, .int (x3 + 1)), (0, .ref a0), (1, .int x1), (2, .int x2)] dX6_nearPairs_32 rfl (inc_1 _) (by decide) rfl ?_
      refine pt_goto G 14 dX6_nearPairs_35 (by decide) ?_
      exact pt_sub [1, 2, 3, 0] rfl (hc (x1, (x3 + 1)) (Option.some.inj hd).symm)
    · replace hd := ifn c3 hd
      refine pt_iinc G 1 (x1 + 1) [(1, .int (x1 + 1)), (0, .ref a0), (2, .int x2), (3, .int x3)] dX6_nearPairs_29 rfl (inc_1 _) (by decide) rfl ?_
      refine pt_iinc G 3 (x3 + 1) [(3, .int (x3 + 1)), (1, .int (x1 + 1)), (0, .ref a0), (2, .int x2)] dX6_nearPairs_32 rfl (inc_1 _) (by decide) rfl ?_
      refine pt_goto G 14 dX6_nearPairs_35 (by decide) ?_
      exact pt_sub [2, 1, 3, 0] rfl (hc ((x1 + 1), (x3 + 1)) (Option.some.inj hd).symm)
theorem X6_nearPairs_w14_w {X : Cx} (G : Gd X yX6_nearPairs cX6_nearPairs wsX6_nearPairs 4 (some .int) rX6_nearPairs) {M : Wo} {a0 : Nat} {x2 : Int32} (n9 : Nat) (s9 : (Int32 × Int32)) (e9 : Int32) (hw : wloop (un2 (X6_nearPairs_b14 M a0 x2)) n9 s9 = some e9) (hz : X6_nearPairs_Z14 X M a0 x2 e9) : X6_nearPairs_P14 X M a0 x2 s9 := by
  refine wl_ind (P := X6_nearPairs_P14 X M a0 x2) (Z := X6_nearPairs_Z14 X M a0 x2) ?_ n9 s9 e9 hw hz
  intro s9 o9 hd hc he
  obtain ⟨x1, x3⟩ := s9
  exact X6_nearPairs_b14_w G hd hc he
def X6_nearPairs_b4 (M : Wo) (a0 : Nat) (x1 : Int32) (x2 : Int32) : Option ((Int32 × Int32) ⊕ Int32) :=
  if (10 : Int32) ≤ x2 then (some (.inr x1)) else ((wloop (un2 (X6_nearPairs_b14 M a0 x2)) FU (x1, (x2 + (1 : Int32)))).bind fun v5 => some (.inl (v5, (x2 + 1))))
theorem X6_nearPairs_b4_w {X : Cx} (G : Gd X yX6_nearPairs cX6_nearPairs wsX6_nearPairs 4 (some .int) rX6_nearPairs) {M : Wo} {a0 : Nat} {x1 : Int32} {x2 : Int32} {o : ((Int32 × Int32) ⊕ Int32)} (hd : X6_nearPairs_b4 M a0 x1 x2 = some o) (hc : ∀ s9, o = .inl s9 → X6_nearPairs_P4 X M a0 s9) (he : ∀ e9, o = .inr e9 → X6_nearPairs_Z4 X M a0 e9) : Pt X 0 0 4 M [(0, .ref a0), (1, .int x1), (2, .int x2)] [] := by
  unfold X6_nearPairs_b4 at hd
  refine pt_iload_n G 2 dX6_nearPairs_4 rfl rfl ?_
  refine pt_bipush G (10 : Int32) dX6_nearPairs_5 bi_10 ?_
  refine pt_icmp_ge G 44 dX6_nearPairs_7 (by decide) (fun c7 => ?_) (fun c7 => ?_)
  · replace hd := ifp c7 hd
    exact pt_sub [1] rfl (he x1 (Option.some.inj hd).symm)
  · replace hd := ifn c7 hd
    refine pt_iload_n G 2 dX6_nearPairs_10 rfl rfl ?_
    refine pt_iconst G (1 : Int32) dX6_nearPairs_11 ci_1 ?_
    refine pt_iadd G dX6_nearPairs_12 ?_
    refine pt_istore_n G [(3, .int (x2 + (1 : Int32))), (0, .ref a0), (1, .int x1), (2, .int x2)] dX6_nearPairs_13 rfl (by decide) rfl ?_
    obtain ⟨v5, hw6, hd⟩ := bnd hd
    refine pt_sub [1, 2, 3, 0] rfl (X6_nearPairs_w14_w G _ _ _ hw6 ?_)
    show Pt X 0 0 _ _ _ []
    refine pt_iinc G 2 (x2 + 1) [(2, .int (x2 + 1)), (0, .ref a0), (1, .int v5)] dX6_nearPairs_38 rfl (inc_1 _) (by decide) rfl ?_
    refine pt_goto G 4 dX6_nearPairs_41 (by decide) ?_
    exact pt_sub [1, 2, 0] rfl (hc (v5, (x2 + 1)) (Option.some.inj hd).symm)
theorem X6_nearPairs_w4_w {X : Cx} (G : Gd X yX6_nearPairs cX6_nearPairs wsX6_nearPairs 4 (some .int) rX6_nearPairs) {M : Wo} {a0 : Nat} (n9 : Nat) (s9 : (Int32 × Int32)) (e9 : Int32) (hw : wloop (un2 (X6_nearPairs_b4 M a0)) n9 s9 = some e9) (hz : X6_nearPairs_Z4 X M a0 e9) : X6_nearPairs_P4 X M a0 s9 := by
  refine wl_ind (P := X6_nearPairs_P4 X M a0) (Z := X6_nearPairs_Z4 X M a0) ?_ n9 s9 e9 hw hz
  intro s9 o9 hd hc he
  obtain ⟨x1, x2⟩ := s9
  exact X6_nearPairs_b4_w G hd hc he
def X6_nearPairs (M : Wo) (a0 : Nat) : Option Int32 :=
  (ckO M a0 6).bind fun _ => (wloop (un2 (X6_nearPairs_b4 M a0)) FU ((0 : Int32), (0 : Int32))).bind fun v8 => some v8
theorem X6_nearPairs_w {X : Cx} (G : Gd X yX6_nearPairs cX6_nearPairs wsX6_nearPairs 4 (some .int) rX6_nearPairs) {M : Wo} {a0 : Nat} {o : Int32} (hd : X6_nearPairs M a0 = some o) (hQ : Qi X o M 0 0) : Pt X 0 0 0 M [(0, .ref a0)] [] := by
  unfold X6_nearPairs at hd
  obtain ⟨_, _, hd⟩ := bnd hd
  refine pt_iconst G (0 : Int32) dX6_nearPairs_0 ci_0 ?_
  refine pt_istore_n G [(1, .int (0 : Int32)), (0, .ref a0)] dX6_nearPairs_1 rfl (by decide) rfl ?_
  refine pt_iconst G (0 : Int32) dX6_nearPairs_2 ci_0 ?_
  refine pt_istore_n G [(2, .int (0 : Int32)), (1, .int (0 : Int32)), (0, .ref a0)] dX6_nearPairs_3 rfl (by decide) rfl ?_
  obtain ⟨v8, hw9, hd⟩ := bnd hd
  refine pt_sub [2, 1, 0] rfl (X6_nearPairs_w4_w G _ _ _ hw9 ?_)
  show Pt X 0 0 _ _ _ []
  refine pt_iload_n G 0 dX6_nearPairs_44 rfl rfl ?_
  cases hd
  exact pt_iret G hQ dX6_nearPairs_45
theorem X6_nearPairs_c {l : Launch} {D : va_G} {dA : Nat → ClassId} {b : Nat} {M : Wo} {a0 : Nat} {r : Int32} (h : X6_nearPairs M a0 = some r) : Met l yX6_nearPairs wsX6_nearPairs rX6_nearPairs (va_Pc [.ref a0] (Wd D dA b M)) (Ei D dA b r M) 0 0 (Ab b) := met_i (by decide) rfl (Nat.le_of_ble_eq_true rfl) (fun X G hN hQ => X6_nearPairs_w G h hQ)
theorem X6_nearPairs_v {X : Cx} {y : MethodName} {cc : ByteArray} {Ts : List Cond} {nL : Nat} {ret : Option FieldType} {R : Room} (G : Gd X y cc Ts nL ret R) {index : Nat} (hg : GoodIn Ts (wsV y.cls index RX6 yX6_nearPairs wsX6_nearPairs)) (hR : rX6_nearPairs.frames + 1 ≤ R.frames ∧ 8 + (4 + 11) + rX6_nearPairs.locals ≤ R.locals) {k n pc : Nat} {M : Wo} {lv : List (Nat × Value)} {st : List Value} {a0 : Nat} {r : Int32} (hv : X6_nearPairs M a0 = some r) (hd : decode cc pc = .ok (.invokevirtual index, 3)) (h8 : (st.map fun v => v.category).sum ≤ 8) (hf : k ≤ R.cells ∧ n ≤ R.slots) (kk : Pt X k n (pc + 3) M lv (.int r :: st)) : Pt X k n pc M lv (.ref a0 :: st) := pt_cVi (ci := 6) (nA := 0) (As := []) G (X6_nearPairs_c hv) hg rfl rfl rfl (by decide +kernel) hR rfl (rcv hv) rfl rfl h8 hd hf kk
