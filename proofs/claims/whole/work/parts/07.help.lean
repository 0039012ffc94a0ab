def un1 {A1 : Type} {δ : Sort _} (f : A1 → δ) : A1 → δ := f
def un2 {A1 A2 : Type} {δ : Sort _} (f : A1 → A2 → δ) : (A1 × A2) → δ := fun s => f s.1 s.2
theorem un2_e {A1 A2 γ : Type} {f : A1 → A2 → γ} {x1 : A1} {x2 : A2} {o : γ} (h : un2 f (x1, x2) = o) : f x1 x2 = o := h
def un3 {A1 A2 A3 : Type} {δ : Sort _} (f : A1 → A2 → A3 → δ) : (A1 × A2 × A3) → δ := fun s => f s.1 s.2.1 s.2.2
theorem un3_e {A1 A2 A3 γ : Type} {f : A1 → A2 → A3 → γ} {x1 : A1} {x2 : A2} {x3 : A3} {o : γ} (h : un3 f (x1, x2, x3) = o) : f x1 x2 x3 = o := h
def un4 {A1 A2 A3 A4 : Type} {δ : Sort _} (f : A1 → A2 → A3 → A4 → δ) : (A1 × A2 × A3 × A4) → δ := fun s => f s.1 s.2.1 s.2.2.1 s.2.2.2
theorem un4_e {A1 A2 A3 A4 γ : Type} {f : A1 → A2 → A3 → A4 → γ} {x1 : A1} {x2 : A2} {x3 : A3} {x4 : A4} {o : γ} (h : un4 f (x1, x2, x3, x4) = o) : f x1 x2 x3 x4 = o := h
def un5 {A1 A2 A3 A4 A5 : Type} {δ : Sort _} (f : A1 → A2 → A3 → A4 → A5 → δ) : (A1 × A2 × A3 × A4 × A5) → δ := fun s => f s.1 s.2.1 s.2.2.1 s.2.2.2.1 s.2.2.2.2
theorem un5_e {A1 A2 A3 A4 A5 γ : Type} {f : A1 → A2 → A3 → A4 → A5 → γ} {x1 : A1} {x2 : A2} {x3 : A3} {x4 : A4} {x5 : A5} {o : γ} (h : un5 f (x1, x2, x3, x4, x5) = o) : f x1 x2 x3 x4 x5 = o := h
def un6 {A1 A2 A3 A4 A5 A6 : Type} {δ : Sort _} (f : A1 → A2 → A3 → A4 → A5 → A6 → δ) : (A1 × A2 × A3 × A4 × A5 × A6) → δ := fun s => f s.1 s.2.1 s.2.2.1 s.2.2.2.1 s.2.2.2.2.1 s.2.2.2.2.2
theorem un6_e {A1 A2 A3 A4 A5 A6 γ : Type} {f : A1 → A2 → A3 → A4 → A5 → A6 → γ} {x1 : A1} {x2 : A2} {x3 : A3} {x4 : A4} {x5 : A5} {x6 : A6} {o : γ} (h : un6 f (x1, x2, x3, x4, x5, x6) = o) : f x1 x2 x3 x4 x5 x6 = o := h
def un7 {A1 A2 A3 A4 A5 A6 A7 : Type} {δ : Sort _} (f : A1 → A2 → A3 → A4 → A5 → A6 → A7 → δ) : (A1 × A2 × A3 × A4 × A5 × A6 × A7) → δ := fun s => f s.1 s.2.1 s.2.2.1 s.2.2.2.1 s.2.2.2.2.1 s.2.2.2.2.2.1 s.2.2.2.2.2.2
theorem un7_e {A1 A2 A3 A4 A5 A6 A7 γ : Type} {f : A1 → A2 → A3 → A4 → A5 → A6 → A7 → γ} {x1 : A1} {x2 : A2} {x3 : A3} {x4 : A4} {x5 : A5} {x6 : A6} {x7 : A7} {o : γ} (h : un7 f (x1, x2, x3, x4, x5, x6, x7) = o) : f x1 x2 x3 x4 x5 x6 x7 = o := h
def sOf {A B : Type} {γ : Sort _} (f : A → γ) (g : B → γ) : A ⊕ B → γ := fun e => match e with
  | .inl a => f a
  | .inr b => g b
theorem sO_1 {A B γ : Type} {f : A → γ} {g : B → γ} {a : A} {o : γ} (h : sOf f g (.inl a) = o) : f a = o := h
theorem sO_2 {A B γ : Type} {f : A → γ} {g : B → γ} {b : B} {o : γ} (h : sOf f g (.inr b) = o) : g b = o := h
def nwO (M : Wo) (ci : Nat) (fs : List Value) : Option (Nat × Wo) := some (M.1, wn M (.inr (.inr (ci, fs))))
def nwA (M : Wo) (kd N : Nat) : Option (Nat × Wo) := some (M.1, wn M (.inl (kd, N, fun _ => 0)))
def nwR (M : Wo) (kd N : Nat) : Option (Nat × Wo) := some (M.1, wn M (.inr (.inl (kd, N, fun _ => none))))
def nwM (M : Wo) (N K : Nat) : Option (Nat × Wo) := some (M.1, wm M N K)
theorem bi_m6 : (Int8.ofInt (-6)).toInt32 = (-6 : Int32) := by decide
theorem bi_m5 : (Int8.ofInt (-5)).toInt32 = (-5 : Int32) := by decide
theorem bi_m4 : (Int8.ofInt (-4)).toInt32 = (-4 : Int32) := by decide
theorem bi_m3 : (Int8.ofInt (-3)).toInt32 = (-3 : Int32) := by decide
theorem bi_m2 : (Int8.ofInt (-2)).toInt32 = (-2 : Int32) := by decide
theorem bi_6 : (Int8.ofInt (6)).toInt32 = (6 : Int32) := by decide
theorem bi_9 : (Int8.ofInt (9)).toInt32 = (9 : Int32) := by decide
theorem bi_10 : (Int8.ofInt (10)).toInt32 = (10 : Int32) := by decide
theorem bi_12 : (Int8.ofInt (12)).toInt32 = (12 : Int32) := by decide
theorem bi_15 : (Int8.ofInt (15)).toInt32 = (15 : Int32) := by decide
theorem bi_20 : (Int8.ofInt (20)).toInt32 = (20 : Int32) := by decide
theorem bi_25 : (Int8.ofInt (25)).toInt32 = (25 : Int32) := by decide
theorem bi_30 : (Int8.ofInt (30)).toInt32 = (30 : Int32) := by decide
theorem bi_31 : (Int8.ofInt (31)).toInt32 = (31 : Int32) := by decide
theorem bi_40 : (Int8.ofInt (40)).toInt32 = (40 : Int32) := by decide
theorem bi_50 : (Int8.ofInt (50)).toInt32 = (50 : Int32) := by decide
theorem bi_60 : (Int8.ofInt (60)).toInt32 = (60 : Int32) := by decide
theorem bi_64 : (Int8.ofInt (64)).toInt32 = (64 : Int32) := by decide
theorem bi_100 : (Int8.ofInt (100)).toInt32 = (100 : Int32) := by decide
theorem ci_m1 : Int32.ofInt (-1) = (-1 : Int32) := by decide
theorem ci_0 : Int32.ofInt (0) = (0 : Int32) := by decide
theorem ci_1 : Int32.ofInt (1) = (1 : Int32) := by decide
theorem ci_2 : Int32.ofInt (2) = (2 : Int32) := by decide
theorem ci_3 : Int32.ofInt (3) = (3 : Int32) := by decide
theorem ci_4 : Int32.ofInt (4) = (4 : Int32) := by decide
theorem ci_5 : Int32.ofInt (5) = (5 : Int32) := by decide
theorem inc_m1 (x : Int32) : x + Int32.ofInt (-1) = x + (-1 : Int32) := rfl
theorem inc_1 (x : Int32) : x + Int32.ofInt (1) = x + 1 := rfl
theorem inc_5 (x : Int32) : x + Int32.ofInt (5) = x + 5 := rfl
theorem inc_10 (x : Int32) : x + Int32.ofInt (10) = x + 10 := rfl
theorem si_m200 : (Int16.ofInt (-200)).toInt32 = (-200 : Int32) := by decide
theorem si_170 : (Int16.ofInt (170)).toInt32 = (170 : Int32) := by decide
theorem si_171 : (Int16.ofInt (171)).toInt32 = (171 : Int32) := by decide
theorem si_181 : (Int16.ofInt (181)).toInt32 = (181 : Int32) := by decide
theorem si_191 : (Int16.ofInt (191)).toInt32 = (191 : Int32) := by decide
theorem si_200 : (Int16.ofInt (200)).toInt32 = (200 : Int32) := by decide
theorem si_201 : (Int16.ofInt (201)).toInt32 = (201 : Int32) := by decide
theorem si_211 : (Int16.ofInt (211)).toInt32 = (211 : Int32) := by decide
theorem si_212 : (Int16.ofInt (212)).toInt32 = (212 : Int32) := by decide
theorem si_300 : (Int16.ofInt (300)).toInt32 = (300 : Int32) := by decide
theorem si_301 : (Int16.ofInt (301)).toInt32 = (301 : Int32) := by decide
theorem si_424 : (Int16.ofInt (424)).toInt32 = (424 : Int32) := by decide
theorem si_1024 : (Int16.ofInt (1024)).toInt32 = (1024 : Int32) := by decide
theorem si_3010 : (Int16.ofInt (3010)).toInt32 = (3010 : Int32) := by decide
theorem si_4096 : (Int16.ofInt (4096)).toInt32 = (4096 : Int32) := by decide
section GH
variable {X : Cx} {y : MethodName} {cc : ByteArray} {Ts : List Cond} {nL : Nat} {ret : Option FieldType} {R : Room} {k n pc a : Nat} {M M2 : Wo} {lv : List (Nat × Value)} {st : List Value}
theorem pt_newE (G : Gd X y cc Ts nL ret R) {ci index N : Nat} {C : String} {T : u_T} (fs : List Value) (hc : vwCl[ci]? = some (C, T, N)) (hin : ∀ w ∈ u_ws C T N, w ∈ Ts) (ty0 : Nat → FieldType) (hty : ∀ k, k < N → parseFieldDescriptor (T k).2.2.1 = some (ty0 k)) (h1 : Cond.classLink y.cls index C ∈ Ts) (h2 : Cond.instantiable C N ∈ Ts) (h3 : Cond.initialized C ∈ Ts) (hfs : ∀ j, j < N → defaultValue (ty0 j) = vp_V fs j) (hr1 : k + 1 ≤ R.cells) (hr2 : n + N ≤ R.slots) (hv : nwO M ci fs = some (a, M2)) (hd : decode cc pc = .ok (.new index, 3)) (kk : Pt X (k + 1) (n + N) (pc + 3) M2 lv (.ref a :: st)) : Pt X k n pc M lv st := by
  cases hv
  exact pt_new G fs hc hin ty0 hty h1 h2 h3 hfs hr1 hr2 hd kk
theorem pt_newaE (G : Gd X y cc Ts nL ret R) {kd N : Nat} {v : Int32} {atype : ArrayType} (ht : (aTs (xA X))[kd]? = some ((xA X) kd, newarray.typeOf atype)) (hra : ∀ c, va_RA (xS X) c (newarray.typeOf atype) = ((xS X).vm.findClass ("[" ++ (newarray.typeOf atype).toString) = some c)) (hw : Cond.arrayClass (newarray.typeOf atype) ∈ Ts) (hdf : defaultValue (newarray.typeOf atype) = .int 0) (hv : ¬ v < 0) (hN : v.toNatClampNeg = N) (hbytes : N * componentBytes (newarray.typeOf atype) ≤ 536870912) (hr1 : k + 1 ≤ R.cells) (hr2 : n + N ≤ R.slots) (hz : nwA M kd N = some (a, M2)) (hd : decode cc pc = .ok (.newarray atype, 2)) (kk : Pt X (k + 1) (n + N) (pc + 2) M2 lv (.ref a :: st)) : Pt X k n pc M lv (.int v :: st) := by
  cases hz
  exact pt_newa G ht hra hw hdf hv hN hbytes hr1 hr2 hd kk
theorem pt_anewE (G : Gd X y cc Ts nL ret R) {kd N index : Nat} {v : Int32} {C : String} (ht : (aTs (xA X))[kd]? = some ((xA X) kd, .object C)) (hw : Cond.classLink y.cls index C ∈ Ts) (hao : va_AO C (xS X)) (hv : ¬ v < 0) (hN : v.toNatClampNeg = N) (hbytes : N * 4 ≤ 536870912) (hr1 : k + 1 ≤ R.cells) (hr2 : n + N ≤ R.slots) (hz : nwR M kd N = some (a, M2)) (hd : decode cc pc = .ok (.anewarray index, 3)) (kk : Pt X (k + 1) (n + N) (pc + 3) M2 lv (.ref a :: st)) : Pt X k n pc M lv (.int v :: st) := by
  cases hz
  exact pt_anew G ht hw hao hv hN hbytes hr1 hr2 hd kk
theorem pt_mnaE (G : Gd X y cc Ts nL ret R) {N K index : Nat} {v w : Int32} (hw : Cond.classLink y.cls index "[[I" ∈ Ts) (hac : Cond.arrayClass .int ∈ Ts) (hv : ¬ v < 0) (hw0 : ¬ w < 0) (hN : v.toNatClampNeg = N) (hK : w.toNatClampNeg = K) (hb1 : N * 4 ≤ 536870912) (hb2 : K * componentBytes .int ≤ 536870912) (hb3 : K ≤ 536870912) (hr1 : k + (1 + N) ≤ R.cells) (hr2 : n + (N + N * K) ≤ R.slots) (hz : nwM M N K = some (a, M2)) (hd : decode cc pc = .ok (.multianewarray index 2, 4)) (kk : Pt X (k + 1 + N) (n + N + N * K) (pc + 4) M2 lv (.ref a :: st)) : Pt X k n pc M lv (.int w :: .int v :: st) := by
  cases hz
  exact pt_mna G hw hac hv hw0 hN hK hb1 hb2 hb3 hr1 hr2 hd kk
end GH
