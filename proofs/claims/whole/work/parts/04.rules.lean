/-! WHAT HOLDS OF A STATE BESIDE ITS WORLD -/
def Kn (U : State) : Prop :=
  va_Nw (.methodLinkNest "StageLines$Stage" 30 yX0_init "StageLines") U ∧ va_Nw (.methodLinkNest "StageLines$Bar" 17 yX5_init "StageLines") U ∧ va_Nw (.methodLinkNest "StageLines$Stage" 31 yX4_init "StageLines") U ∧
  va_Nw (.methodLinkNest "StageLines" 26 yX3_init "StageLines") U ∧ va_Nw (.methodLinkNest "StageLines" 33 yX2_init "StageLines") U ∧ va_Nw (.methodLinkNest "StageLines" 40 yX1_init "StageLines") U
def Ka (U : State) : Prop := va_AO "StageLines$Bar" U ∧ va_AO "StageLines$Move" U ∧ va_AO "StageLines$Stage" U ∧ (Cond.arrayOver (.array .int)).before #[] U = true
def Kz (b : Nat) (U : State) (H : Heap) : Prop := ∃ t : Nat, va_Z "StageLines" "GREATEST_SETTING" "[I" (.ref t) (Ab b) U H ∧ va_T .int t 4 (fun j => .int (gsF j)) (Ab b) U H
def Kx (D : va_G) (dA : Nat → ClassId) (b : Nat) (U : State) : Prop := va_K D vwCl (aTs dA) U ∧ Kn U ∧ Ka U ∧ Kz b U U.heap
def Wd (D : va_G) (dA : Nat → ClassId) (b : Nat) (M : Wo) (U : State) : Prop := Hp D dA b M U.heap ∧ Kx D dA b U
theorem Kn.to {s U : State} (hW : s.WarmedH U.vm) (h : Kn s) : Kn U := by
  obtain ⟨h1, h2, h3, h4, h5, h6⟩ := h
  exact ⟨h1.warmM hW, h2.warmM hW, h3.warmM hW, h4.warmM hW, h5.warmM hW, h6.warmM hW⟩
theorem Kn.same {s U : State} (hv : s.vm = U.vm) (h : Kn s) : Kn U := by
  obtain ⟨h1, h2, h3, h4, h5, h6⟩ := h
  exact ⟨h1.same rfl hv, h2.same rfl hv, h3.same rfl hv, h4.same rfl hv, h5.same rfl hv, h6.same rfl hv⟩
theorem Ka.to {s U : State} (hv : s.vm.Alike U.vm) (h : Ka s) : Ka U := by
  obtain ⟨h1, h2, h3, h4⟩ := h
  exact ⟨h1.moved hv, h2.moved hv, h3.moved hv, arrayOver_alikeB hv h4⟩
theorem Kz.to {b : Nat} {s U : State} {H H1 : Heap} (hv : s.vm.Alike U.vm) (hk : ∀ q : Nat, q < H.size → ¬ Ab b q → H1[q]? = H[q]?) (h : Kz b s H) : Kz b U H1 := by
  obtain ⟨t, h1, h2⟩ := h
  exact ⟨t, (h1.kept hk).moved hv, (h2.kept hk).moved hv⟩
theorem Kx.to {D : va_G} {dA : Nat → ClassId} {b : Nat} {s U : State} (hW : s.WarmedH U.vm) (hk : ∀ q : Nat, q < s.heap.size → ¬ Ab b q → U.heap[q]? = s.heap[q]?) (h : Kx D dA b s) : Kx D dA b U := by
  obtain ⟨h1, h2, h3, h4⟩ := h
  exact ⟨h1.moved hW.alike, h2.to hW, h3.to hW.alike, h4.to hW.alike hk⟩
theorem Wd.call {D : va_G} {dA : Nat → ClassId} {b : Nat} {M : Wo} {U : State} {g : JFrame} {mk : MethodId} {a : Array Value} (h : Wd D dA b M U) : Wd D dA b M (U.calling g mk a) := by
  obtain ⟨h0, h1, h2, h3, h4⟩ := h
  exact ⟨h0, va_K.moved (u := U) (U := U.calling g mk a) (Vm.Alike.refl U.vm) h1, h2.same rfl, Ka.to (s := U) (U := U.calling g mk a) (Vm.Alike.refl U.vm) h3, Kz.to (s := U) (U := U.calling g mk a) (Vm.Alike.refl U.vm) (fun _ _ _ => rfl) h4⟩
/-! THE PLACE OF A WALK -/
abbrev Cx : Type := (Program × Launch × Env × Room × State × MethodId × Array Value × List Frame × Method × Code) × (va_G × (Nat → ClassId) × Nat) × Nat × (State → Prop)
abbrev xP (X : Cx) : Program := X.1.1
abbrev xL (X : Cx) : Launch := X.1.2.1
abbrev xE (X : Cx) : Env := X.1.2.2.1
abbrev xR (X : Cx) : Room := X.1.2.2.2.1
abbrev xS (X : Cx) : State := X.1.2.2.2.2.1
abbrev xM (X : Cx) : MethodId := X.1.2.2.2.2.2.1
abbrev xG (X : Cx) : Array Value := X.1.2.2.2.2.2.2.1
abbrev xW (X : Cx) : List Frame := X.1.2.2.2.2.2.2.2.1
abbrev xT (X : Cx) : Method := X.1.2.2.2.2.2.2.2.2.1
abbrev xC (X : Cx) : Code := X.1.2.2.2.2.2.2.2.2.2
abbrev xD (X : Cx) : va_G := X.2.1.1
abbrev xA (X : Cx) : Nat → ClassId := X.2.1.2.1
abbrev xB (X : Cx) : Nat := X.2.1.2.2
abbrev xN (X : Cx) : Nat := X.2.2.1
abbrev xQ (X : Cx) : State → Prop := X.2.2.2
abbrev Ww (X : Cx) (H : Heap) (locs : List Loc) (k n : Nat) (g : JFrame) : Prop := W (xP X) (xL X) (xE X) (xR X) (xS X) (xM X) (xG X) (xW X) (xT X) (xC X) H locs k n (xQ X) g
def Pt (X : Cx) (k n pc : Nat) (M : Wo) (lv : List (Nat × Value)) (st : List Value) : Prop :=
  ∀ (H : Heap) (locs : List Loc) (ls : Array Slot), Hp (xD X) (xA X) (xB X) M H → va_S (Ab (xB X)) (xS X).heap H locs → lv_has ls (xN X) lv → Ww X H locs k n (F0 (xM X) pc ls st)
def Gd (X : Cx) (y : MethodName) (cc : ByteArray) (Ts : List Cond) (nL : Nat) (ret : Option FieldType) (R : Room) : Prop :=
  (xP X).tables.exec = Jvm.exec ∧ (xC X).code = cc ∧ (xC X).maxLocals = nL ∧ xN X = nL ∧ (xS X).vm.findClass y.cls = some (xM X).cls ∧ (∀ w ∈ Ts, w.before (xG X) (xS X) = true) ∧ Kx (xD X) (xA X) (xB X) (xS X) ∧ (xT X).locks = false ∧ xR X = R ∧ (xT X).sig.returnType = ret ∧ xB X ≤ (xS X).heap.size
section GD
variable {X : Cx} {y : MethodName} {cc : ByteArray} {Ts : List Cond} {nL : Nat} {ret : Option FieldType} {R : Room}
theorem Gd.x (G : Gd X y cc Ts nL ret R) : (xP X).tables.exec = Jvm.exec := G.1
theorem Gd.b (G : Gd X y cc Ts nL ret R) : (xC X).code = cc := G.2.1
theorem Gd.m (G : Gd X y cc Ts nL ret R) : (xC X).maxLocals = nL := G.2.2.1
theorem Gd.n (G : Gd X y cc Ts nL ret R) : xN X = nL := G.2.2.2.1
theorem Gd.o (G : Gd X y cc Ts nL ret R) : (xS X).vm.findClass y.cls = some (xM X).cls := G.2.2.2.2.1
theorem Gd.w (G : Gd X y cc Ts nL ret R) : ∀ w ∈ Ts, w.before (xG X) (xS X) = true := G.2.2.2.2.2.1
theorem Gd.k (G : Gd X y cc Ts nL ret R) : Kx (xD X) (xA X) (xB X) (xS X) := G.2.2.2.2.2.2.1
theorem Gd.l (G : Gd X y cc Ts nL ret R) : (xT X).locks = false := G.2.2.2.2.2.2.2.1
theorem Gd.r (G : Gd X y cc Ts nL ret R) : xR X = R := G.2.2.2.2.2.2.2.2.1
theorem Gd.t (G : Gd X y cc Ts nL ret R) : (xT X).sig.returnType = ret := G.2.2.2.2.2.2.2.2.2.1
theorem Gd.z (G : Gd X y cc Ts nL ret R) : xB X ≤ (xS X).heap.size := G.2.2.2.2.2.2.2.2.2.2
/-! ROWS, an instruction each -/
variable {k n pc : Nat} {M M' : Wo} {lv lv' : List (Nat × Value)} {st : List Value}
theorem pt_sub (is : List Nat) (hl : lv_pick lv is = lv') (kk : Pt X k n pc M lv' st) : Pt X k n pc M lv st := fun H locs ls hH hS hh => kk H locs ls hH hS (lv_sub hh is hl)
theorem pt_iconst (G : Gd X y cc Ts nL ret R) {i : Int} (v : Int32) (hd : decode cc pc = .ok (.iconst i, 1)) (hv : Int32.ofInt i = v) (kk : Pt X k n (pc + 1) M lv (.int v :: st)) : Pt X k n pc M lv st := fun H locs ls hH hS hh => lv_iconst G.x G.b hd hv (kk H locs ls hH hS hh)
theorem pt_bipush (G : Gd X y cc Ts nL ret R) {i : Int} (v : Int32) (hd : decode cc pc = .ok (.bipush i, 2)) (hv : (Int8.ofInt i).toInt32 = v) (kk : Pt X k n (pc + 2) M lv (.int v :: st)) : Pt X k n pc M lv st := fun H locs ls hH hS hh => lv_bipush G.x G.b hd hv (kk H locs ls hH hS hh)
theorem pt_sipush (G : Gd X y cc Ts nL ret R) {i : Int} (v : Int32) (hd : decode cc pc = .ok (.sipush i, 3)) (hv : (Int16.ofInt i).toInt32 = v) (kk : Pt X k n (pc + 3) M lv (.int v :: st)) : Pt X k n pc M lv st := fun H locs ls hH hS hh => lv_sipush G.x G.b hd hv (kk H locs ls hH hS hh)
theorem pt_iload_n (G : Gd X y cc Ts nL ret R) {j : Fin 4} {i : Nat} {x : Int32} (q : Nat) (hd : decode cc pc = .ok (.iload_n j, 1)) (hi : (j : Nat) = i) (hq : lv[q]? = some (i, .int x)) (kk : Pt X k n (pc + 1) M lv (.int x :: st)) : Pt X k n pc M lv st := fun H locs ls hH hS hh => lv_iload_n G.x G.b hd hi (lv_at hh q hq) (kk H locs ls hH hS hh)
theorem pt_iload (G : Gd X y cc Ts nL ret R) {i : Nat} {x : Int32} (q : Nat) (hd : decode cc pc = .ok (.iload i, 2)) (hq : lv[q]? = some (i, .int x)) (kk : Pt X k n (pc + 2) M lv (.int x :: st)) : Pt X k n pc M lv st := fun H locs ls hH hS hh => lv_iload G.x G.b hd (lv_at hh q hq) (kk H locs ls hH hS hh)
theorem pt_aload_n (G : Gd X y cc Ts nL ret R) {j : Fin 4} {i : Nat} {x : Nat} (q : Nat) (hd : decode cc pc = .ok (.aload_n j, 1)) (hi : (j : Nat) = i) (hq : lv[q]? = some (i, .ref x)) (kk : Pt X k n (pc + 1) M lv (.ref x :: st)) : Pt X k n pc M lv st := fun H locs ls hH hS hh => lv_aload_n G.x G.b hd hi (lv_at hh q hq) (kk H locs ls hH hS hh)
theorem pt_aload (G : Gd X y cc Ts nL ret R) {i : Nat} {x : Nat} (q : Nat) (hd : decode cc pc = .ok (.aload i, 2)) (hq : lv[q]? = some (i, .ref x)) (kk : Pt X k n (pc + 2) M lv (.ref x :: st)) : Pt X k n pc M lv st := fun H locs ls hH hS hh => lv_aload G.x G.b hd (lv_at hh q hq) (kk H locs ls hH hS hh)
theorem pt_istore_n (G : Gd X y cc Ts nL ret R) {j : Fin 4} {i : Nat} {x : Int32} (lv' : List (Nat × Value)) (hd : decode cc pc = .ok (.istore_n j, 1)) (hi : (j : Nat) = i) (hn : i < nL) (hl : (i, Value.int x) :: lv.filter (fun q => !(q.1 == i) && !(q.1 + 1 == i && q.2.category == 2)) = lv') (kk : Pt X k n (pc + 1) M lv' st) : Pt X k n pc M lv (.int x :: st) := fun H locs ls hH hS hh => lv_istore_n G.x G.b hd hi hh (by rw [G.n]; exact hn) hl (fun ls hh => kk H locs ls hH hS hh)
theorem pt_istore (G : Gd X y cc Ts nL ret R) {i : Nat} {x : Int32} (lv' : List (Nat × Value)) (hd : decode cc pc = .ok (.istore i, 2)) (hn : i < nL) (hl : (i, Value.int x) :: lv.filter (fun q => !(q.1 == i) && !(q.1 + 1 == i && q.2.category == 2)) = lv') (kk : Pt X k n (pc + 2) M lv' st) : Pt X k n pc M lv (.int x :: st) := fun H locs ls hH hS hh => lv_istore G.x G.b hd hh (by rw [G.n]; exact hn) hl (fun ls hh => kk H locs ls hH hS hh)
theorem pt_astore_n (G : Gd X y cc Ts nL ret R) {j : Fin 4} {i : Nat} {x : Nat} (lv' : List (Nat × Value)) (hd : decode cc pc = .ok (.astore_n j, 1)) (hi : (j : Nat) = i) (hn : i < nL) (hl : (i, Value.ref x) :: lv.filter (fun q => !(q.1 == i) && !(q.1 + 1 == i && q.2.category == 2)) = lv') (kk : Pt X k n (pc + 1) M lv' st) : Pt X k n pc M lv (.ref x :: st) := fun H locs ls hH hS hh => lv_astore_n G.x G.b hd hi hh (by rw [G.n]; exact hn) hl (fun ls hh => kk H locs ls hH hS hh)
theorem pt_astore (G : Gd X y cc Ts nL ret R) {i : Nat} {x : Nat} (lv' : List (Nat × Value)) (hd : decode cc pc = .ok (.astore i, 2)) (hn : i < nL) (hl : (i, Value.ref x) :: lv.filter (fun q => !(q.1 == i) && !(q.1 + 1 == i && q.2.category == 2)) = lv') (kk : Pt X k n (pc + 2) M lv' st) : Pt X k n pc M lv (.ref x :: st) := fun H locs ls hH hS hh => lv_astore G.x G.b hd hh (by rw [G.n]; exact hn) hl (fun ls hh => kk H locs ls hH hS hh)
theorem pt_iinc (G : Gd X y cc Ts nL ret R) {i : Nat} {c : Int} {x : Int32} (q : Nat) (v : Int32) (lv' : List (Nat × Value)) (hd : decode cc pc = .ok (.iinc i c, 3)) (hq : lv[q]? = some (i, .int x)) (hv : x + Int32.ofInt c = v) (hn : i < nL) (hl : (i, Value.int v) :: lv.filter (fun q => !(q.1 == i) && !(q.1 + 1 == i && q.2.category == 2)) = lv') (kk : Pt X k n (pc + 3) M lv' st) : Pt X k n pc M lv st := fun H locs ls hH hS hh => lv_iinc G.x G.b hd hh hq hv (by rw [G.n]; exact hn) hl (fun ls hh => kk H locs ls hH hS hh)
theorem pt_iadd (G : Gd X y cc Ts nL ret R) {a b : Int32} (hd : decode cc pc = .ok (.iadd, 1)) (kk : Pt X k n (pc + 1) M lv (.int (a + b) :: st)) : Pt X k n pc M lv (.int b :: .int a :: st) := fun H locs ls hH hS hh => lv_iadd G.x G.b hd (kk H locs ls hH hS hh)
theorem pt_isub (G : Gd X y cc Ts nL ret R) {a b : Int32} (hd : decode cc pc = .ok (.isub, 1)) (kk : Pt X k n (pc + 1) M lv (.int (a - b) :: st)) : Pt X k n pc M lv (.int b :: .int a :: st) := fun H locs ls hH hS hh => lv_isub G.x G.b hd (kk H locs ls hH hS hh)
theorem pt_imul (G : Gd X y cc Ts nL ret R) {a b : Int32} (hd : decode cc pc = .ok (.imul, 1)) (kk : Pt X k n (pc + 1) M lv (.int (a * b) :: st)) : Pt X k n pc M lv (.int b :: .int a :: st) := fun H locs ls hH hS hh => lv_imul G.x G.b hd (kk H locs ls hH hS hh)
theorem pt_iand (G : Gd X y cc Ts nL ret R) {a b : Int32} (hd : decode cc pc = .ok (.iand, 1)) (kk : Pt X k n (pc + 1) M lv (.int (a &&& b) :: st)) : Pt X k n pc M lv (.int b :: .int a :: st) := fun H locs ls hH hS hh => lv_iand G.x G.b hd (kk H locs ls hH hS hh)
theorem pt_ior (G : Gd X y cc Ts nL ret R) {a b : Int32} (hd : decode cc pc = .ok (.ior, 1)) (kk : Pt X k n (pc + 1) M lv (.int (a ||| b) :: st)) : Pt X k n pc M lv (.int b :: .int a :: st) := fun H locs ls hH hS hh => lv_ior G.x G.b hd (kk H locs ls hH hS hh)
theorem pt_ixor (G : Gd X y cc Ts nL ret R) {a b : Int32} (hd : decode cc pc = .ok (.ixor, 1)) (kk : Pt X k n (pc + 1) M lv (.int (a ^^^ b) :: st)) : Pt X k n pc M lv (.int b :: .int a :: st) := fun H locs ls hH hS hh => lv_ixor G.x G.b hd (kk H locs ls hH hS hh)
theorem pt_ishl (G : Gd X y cc Ts nL ret R) {a b : Int32} (hd : decode cc pc = .ok (.ishl, 1)) (kk : Pt X k n (pc + 1) M lv (.int (a <<< (b &&& 31)) :: st)) : Pt X k n pc M lv (.int b :: .int a :: st) := fun H locs ls hH hS hh => lv_ishl G.x G.b hd (kk H locs ls hH hS hh)
theorem pt_ishr (G : Gd X y cc Ts nL ret R) {a b : Int32} (hd : decode cc pc = .ok (.ishr, 1)) (kk : Pt X k n (pc + 1) M lv (.int (a >>> (b &&& 31)) :: st)) : Pt X k n pc M lv (.int b :: .int a :: st) := fun H locs ls hH hS hh => lv_ishr G.x G.b hd (kk H locs ls hH hS hh)
theorem pt_ineg (G : Gd X y cc Ts nL ret R) {a : Int32} (hd : decode cc pc = .ok (.ineg, 1)) (kk : Pt X k n (pc + 1) M lv (.int (-a) :: st)) : Pt X k n pc M lv (.int a :: st) := fun H locs ls hH hS hh => lv_ineg G.x G.b hd (kk H locs ls hH hS hh)
theorem pt_dup (G : Gd X y cc Ts nL ret R) {a : Value} (hd : decode cc pc = .ok (.dup, 1)) (ha : a.category = 1) (kk : Pt X k n (pc + 1) M lv (a :: a :: st)) : Pt X k n pc M lv (a :: st) := fun H locs ls hH hS hh => lv_dup G.x G.b hd ha (kk H locs ls hH hS hh)
theorem pt_dup2 (G : Gd X y cc Ts nL ret R) {a b : Value} (hd : decode cc pc = .ok (.dup2, 1)) (ha : a.category = 1) (hb : b.category = 1) (kk : Pt X k n (pc + 1) M lv (b :: a :: b :: a :: st)) : Pt X k n pc M lv (b :: a :: st) := fun H locs ls hH hS hh => lv_dup2_11 G.x G.b hd hb ha (kk H locs ls hH hS hh)
theorem pt_goto (G : Gd X y cc Ts nL ret R) (t : Nat) {off : Int} (hd : decode cc pc = .ok (.goto off, 3)) (ht : (pc : Int) + off = (t : Int)) (kk : Pt X k n t M lv st) : Pt X k n pc M lv st := fun H locs ls hH hS hh => lv_goto G.x G.b hd ht (kk H locs ls hH hS hh)
theorem pt_if_eq (G : Gd X y cc Ts nL ret R) {x : Int32} {off : Int} (t : Nat) (hd : decode cc pc = .ok (.ifCond .eq off, 3)) (ht : (pc : Int) + off = (t : Int)) (kt : x = 0 → Pt X k n t M lv st) (kf : ¬ x = 0 → Pt X k n (pc + 3) M lv st) : Pt X k n pc M lv (.int x :: st) := fun H locs ls hH hS hh => lv_if_eq G.x G.b hd ht (fun h => kt h H locs ls hH hS hh) (fun h => kf h H locs ls hH hS hh)
theorem pt_icmp_eq {y0 : MethodName} (G : Gd X y0 cc Ts nL ret R) {x y : Int32} {off : Int} (t : Nat) (hd : decode cc pc = .ok (.if_icmp .eq off, 3)) (ht : (pc : Int) + off = (t : Int)) (kt : x = y → Pt X k n t M lv st) (kf : ¬ x = y → Pt X k n (pc + 3) M lv st) : Pt X k n pc M lv (.int y :: .int x :: st) := fun H locs ls hH hS hh => lv_icmp_eq G.x G.b hd ht (fun h => kt h H locs ls hH hS hh) (fun h => kf h H locs ls hH hS hh)
theorem pt_if_ne (G : Gd X y cc Ts nL ret R) {x : Int32} {off : Int} (t : Nat) (hd : decode cc pc = .ok (.ifCond .ne off, 3)) (ht : (pc : Int) + off = (t : Int)) (kt : ¬ x = 0 → Pt X k n t M lv st) (kf : x = 0 → Pt X k n (pc + 3) M lv st) : Pt X k n pc M lv (.int x :: st) := fun H locs ls hH hS hh => lv_if_ne G.x G.b hd ht (fun h => kt h H locs ls hH hS hh) (fun h => kf h H locs ls hH hS hh)
theorem pt_icmp_ne {y0 : MethodName} (G : Gd X y0 cc Ts nL ret R) {x y : Int32} {off : Int} (t : Nat) (hd : decode cc pc = .ok (.if_icmp .ne off, 3)) (ht : (pc : Int) + off = (t : Int)) (kt : ¬ x = y → Pt X k n t M lv st) (kf : x = y → Pt X k n (pc + 3) M lv st) : Pt X k n pc M lv (.int y :: .int x :: st) := fun H locs ls hH hS hh => lv_icmp_ne G.x G.b hd ht (fun h => kt h H locs ls hH hS hh) (fun h => kf h H locs ls hH hS hh)
theorem pt_if_lt (G : Gd X y cc Ts nL ret R) {x : Int32} {off : Int} (t : Nat) (hd : decode cc pc = .ok (.ifCond .lt off, 3)) (ht : (pc : Int) + off = (t : Int)) (kt : x < 0 → Pt X k n t M lv st) (kf : ¬ x < 0 → Pt X k n (pc + 3) M lv st) : Pt X k n pc M lv (.int x :: st) := fun H locs ls hH hS hh => lv_if_lt G.x G.b hd ht (fun h => kt h H locs ls hH hS hh) (fun h => kf h H locs ls hH hS hh)
theorem pt_icmp_lt {y0 : MethodName} (G : Gd X y0 cc Ts nL ret R) {x y : Int32} {off : Int} (t : Nat) (hd : decode cc pc = .ok (.if_icmp .lt off, 3)) (ht : (pc : Int) + off = (t : Int)) (kt : x < y → Pt X k n t M lv st) (kf : ¬ x < y → Pt X k n (pc + 3) M lv st) : Pt X k n pc M lv (.int y :: .int x :: st) := fun H locs ls hH hS hh => lv_icmp_lt G.x G.b hd ht (fun h => kt h H locs ls hH hS hh) (fun h => kf h H locs ls hH hS hh)
theorem pt_if_ge (G : Gd X y cc Ts nL ret R) {x : Int32} {off : Int} (t : Nat) (hd : decode cc pc = .ok (.ifCond .ge off, 3)) (ht : (pc : Int) + off = (t : Int)) (kt : 0 ≤ x → Pt X k n t M lv st) (kf : ¬ 0 ≤ x → Pt X k n (pc + 3) M lv st) : Pt X k n pc M lv (.int x :: st) := fun H locs ls hH hS hh => lv_if_ge G.x G.b hd ht (fun h => kt h H locs ls hH hS hh) (fun h => kf h H locs ls hH hS hh)
theorem pt_icmp_ge {y0 : MethodName} (G : Gd X y0 cc Ts nL ret R) {x y : Int32} {off : Int} (t : Nat) (hd : decode cc pc = .ok (.if_icmp .ge off, 3)) (ht : (pc : Int) + off = (t : Int)) (kt : y ≤ x → Pt X k n t M lv st) (kf : ¬ y ≤ x → Pt X k n (pc + 3) M lv st) : Pt X k n pc M lv (.int y :: .int x :: st) := fun H locs ls hH hS hh => lv_icmp_ge G.x G.b hd ht (fun h => kt h H locs ls hH hS hh) (fun h => kf h H locs ls hH hS hh)
theorem pt_if_gt (G : Gd X y cc Ts nL ret R) {x : Int32} {off : Int} (t : Nat) (hd : decode cc pc = .ok (.ifCond .gt off, 3)) (ht : (pc : Int) + off = (t : Int)) (kt : 0 < x → Pt X k n t M lv st) (kf : ¬ 0 < x → Pt X k n (pc + 3) M lv st) : Pt X k n pc M lv (.int x :: st) := fun H locs ls hH hS hh => lv_if_gt G.x G.b hd ht (fun h => kt h H locs ls hH hS hh) (fun h => kf h H locs ls hH hS hh)
theorem pt_icmp_gt {y0 : MethodName} (G : Gd X y0 cc Ts nL ret R) {x y : Int32} {off : Int} (t : Nat) (hd : decode cc pc = .ok (.if_icmp .gt off, 3)) (ht : (pc : Int) + off = (t : Int)) (kt : y < x → Pt X k n t M lv st) (kf : ¬ y < x → Pt X k n (pc + 3) M lv st) : Pt X k n pc M lv (.int y :: .int x :: st) := fun H locs ls hH hS hh => lv_icmp_gt G.x G.b hd ht (fun h => kt h H locs ls hH hS hh) (fun h => kf h H locs ls hH hS hh)
theorem pt_if_le (G : Gd X y cc Ts nL ret R) {x : Int32} {off : Int} (t : Nat) (hd : decode cc pc = .ok (.ifCond .le off, 3)) (ht : (pc : Int) + off = (t : Int)) (kt : x ≤ 0 → Pt X k n t M lv st) (kf : ¬ x ≤ 0 → Pt X k n (pc + 3) M lv st) : Pt X k n pc M lv (.int x :: st) := fun H locs ls hH hS hh => lv_if_le G.x G.b hd ht (fun h => kt h H locs ls hH hS hh) (fun h => kf h H locs ls hH hS hh)
theorem pt_icmp_le {y0 : MethodName} (G : Gd X y0 cc Ts nL ret R) {x y : Int32} {off : Int} (t : Nat) (hd : decode cc pc = .ok (.if_icmp .le off, 3)) (ht : (pc : Int) + off = (t : Int)) (kt : x ≤ y → Pt X k n t M lv st) (kf : ¬ x ≤ y → Pt X k n (pc + 3) M lv st) : Pt X k n pc M lv (.int y :: .int x :: st) := fun H locs ls hH hS hh => lv_icmp_le G.x G.b hd ht (fun h => kt h H locs ls hH hS hh) (fun h => kf h H locs ls hH hS hh)
theorem pt_tsIn (G : Gd X y cc Ts nL ret R) {dflt lo hi : Int} {offs : Array Int} {len : Nat} {x : Int32} {off : Int} (t : Nat) (hd : decode cc pc = .ok (.tableswitch dflt lo hi offs, len)) (h1 : ¬ x.toInt < lo) (h2 : ¬ hi < x.toInt) (ho : offs[(x.toInt - lo).toNat]? = some off) (ht : (pc : Int) + off = (t : Int)) (kk : Pt X k n t M lv st) : Pt X k n pc M lv (.int x :: st) := fun H locs ls hH hS hh => lv_tableIn G.x G.b hd h1 h2 ho ht (kk H locs ls hH hS hh)
theorem pt_tsOut (G : Gd X y cc Ts nL ret R) {dflt lo hi : Int} {offs : Array Int} {len : Nat} {x : Int32} (t : Nat) (hd : decode cc pc = .ok (.tableswitch dflt lo hi offs, len)) (h : x.toInt < lo ∨ hi < x.toInt) (ht : (pc : Int) + dflt = (t : Int)) (kk : Pt X k n t M lv st) : Pt X k n pc M lv (.int x :: st) := fun H locs ls hH hS hh => lv_tableOut G.x G.b hd h ht (kk H locs ls hH hS hh)
/-! fields and arrays -/
theorem gV_o {a ci j : Nat} {v : Value} (h : gV M a ci j = some v) : ∃ fs : List Value, M.2 a = some (.inr (.inr (ci, fs))) ∧ fs[j]? = some v := by
  unfold gV at h
  split at h
  · rename_i o ho
    split at h
    · rename_i hc
      obtain ⟨c, fs⟩ := o
      subst hc
      exact ⟨fs, ho, h⟩
    · cases h
  · cases h
theorem gI_o {a ci j : Nat} {v : Int32} (h : gI M a ci j = some v) : gV M a ci j = some (.int v) := by
  unfold gI at h
  split at h
  · rename_i x hx
    cases h
    exact hx
  · cases h
theorem gR_o {a ci j : Nat} {v : Nat} (h : gR M a ci j = some v) : gV M a ci j = some (.ref v) := by
  unfold gR at h
  split at h
  · rename_i x hx
    cases h
    exact hx
  · cases h
theorem pV_o {a ci j : Nat} {v : Value} (h : pV M a ci j v = some M') : ∃ fs : List Value, M.2 a = some (.inr (.inr (ci, fs))) ∧ j < fs.length ∧ M' = wu M a (.inr (.inr (ci, fs.set j v))) := by
  unfold pV at h
  split at h
  · rename_i o ho
    split at h
    · rename_i hc
      obtain ⟨c, fs⟩ := o
      obtain ⟨hc, hl⟩ := hc
      subst hc
      cases h
      exact ⟨fs, ho, hl, rfl⟩
    · cases h
  · cases h
theorem vin_of {i : Int32} {m : Nat} (h1 : 0 ≤ i) (h2 : i.toNatClampNeg < m) : vp_in i m := by
  intro h
  rcases h with h | h
  · exact absurd h (Int32.not_lt.mpr h1)
  · omega
theorem lA_o {kd a : Nat} {i v : Int32} (h : lA M kd a i = some v) : ∃ (m : Nat) (f : Nat → Int32), M.2 a = some (.inl (kd, m, f)) ∧ vp_in i m ∧ v = f i.toNatClampNeg := by
  unfold lA at h
  split at h
  · rename_i q hq
    obtain ⟨c, m, f⟩ := q
    split at h
    · rename_i hc
      obtain ⟨hc, h1, h2⟩ := hc
      dsimp only at hc h2 h
      subst hc
      cases h
      exact ⟨m, f, hq, vin_of h1 h2, rfl⟩
    · cases h
  · cases h
theorem sA_o {a : Nat} {i v : Int32} (h : sA M a i v = some M') : ∃ (m : Nat) (f : Nat → Int32), M.2 a = some (.inl (0, m, f)) ∧ vp_in i m ∧ M' = wu M a (.inl (0, m, va_up f i.toNatClampNeg v)) := by
  unfold sA at h
  split at h
  · rename_i q hq
    obtain ⟨c, m, f⟩ := q
    split at h
    · rename_i hc
      obtain ⟨hc, h1, h2⟩ := hc
      dsimp only at hc h2 h
      subst hc
      cases h
      exact ⟨m, f, hq, vin_of h1 h2, rfl⟩
    · cases h
  · cases h
theorem sZ_o {a : Nat} {i v : Int32} (h : sZ M a i v = some M') : ∃ (m : Nat) (f : Nat → Int32), M.2 a = some (.inl (1, m, f)) ∧ vp_in i m ∧ M' = wu M a (.inl (1, m, va_up f i.toNatClampNeg (vp_nar .boolean v))) := by
  unfold sZ at h
  split at h
  · rename_i q hq
    obtain ⟨c, m, f⟩ := q
    split at h
    · rename_i hc
      obtain ⟨hc, h1, h2⟩ := hc
      dsimp only at hc h2 h
      subst hc
      cases h
      exact ⟨m, f, hq, vin_of h1 h2, rfl⟩
    · cases h
  · cases h
theorem lR_o {kd a : Nat} {i : Int32} {v : Nat} (h : lR M kd a i = some v) : ∃ (m : Nat) (f : Nat → Option Nat), M.2 a = some (.inr (.inl (kd, m, f))) ∧ vp_in i m ∧ f i.toNatClampNeg = some v := by
  unfold lR at h
  split at h
  · rename_i q hq
    obtain ⟨c, m, f⟩ := q
    split at h
    · rename_i hc
      obtain ⟨hc, h1, h2⟩ := hc
      dsimp only at hc h2 h
      subst hc
      exact ⟨m, f, hq, vin_of h1 h2, h⟩
    · cases h
  · cases h
theorem sR_o {kd ci a v : Nat} {i : Int32} (h : sR M kd ci a i v = some M') : ∃ (m : Nat) (f : Nat → Option Nat) (fs : List Value), M.2 a = some (.inr (.inl (kd, m, f))) ∧ M.2 v = some (.inr (.inr (ci, fs))) ∧ vp_in i m ∧ M' = wu M a (.inr (.inl (kd, m, va_up f i.toNatClampNeg (some v)))) := by
  unfold sR at h
  split at h
  · rename_i q o hq ho
    obtain ⟨c, m, f⟩ := q
    obtain ⟨c2, fs⟩ := o
    split at h
    · rename_i hc
      obtain ⟨hc0, hc, h1, h2⟩ := hc
      dsimp only at hc0 hc h2 h
      subst hc
      subst hc0
      cases h
      exact ⟨m, f, fs, hq, ho, vin_of h1 h2, rfl⟩
    · cases h
  · cases h
theorem aL_o {a : Nat} {v : Int32} (h : aL M a = some v) : ∃ (m : Nat) (f : Nat → Int32), M.2 a = some (.inl (0, m, f)) ∧ v = Int32.ofNat m := by
  unfold aL at h
  split at h
  · rename_i q hq
    obtain ⟨c, m, f⟩ := q
    split at h
    · rename_i hc
      dsimp only at hc h
      subst hc
      cases h
      exact ⟨m, f, hq, rfl⟩
    · cases h
  · cases h
theorem ckO_o {a ci : Nat} {u : Unit} (h : ckO M a ci = some u) : ∃ fs : List Value, M.2 a = some (.inr (.inr (ci, fs))) := by
  unfold ckO at h
  split at h
  · rename_i o ho
    obtain ⟨c, fs⟩ := o
    split at h
    · rename_i hc
      dsimp only at hc
      subst hc
      exact ⟨fs, ho⟩
    · cases h
  · cases h
theorem rcv {β : Type} {a ci : Nat} {f : Unit → Option β} {o : β} (h : (ckO M a ci).bind f = some o) : ∃ fs : List Value, M.2 a = some (.inr (.inr (ci, fs))) := by
  obtain ⟨u, hu, -⟩ := bnd h
  exact ckO_o hu
theorem pt_get (G : Gd X y cc Ts nL ret R) {a ci j index N : Nat} {C : String} {T : u_T} {v : Value} (hc : vwCl[ci]? = some (C, T, N)) (hj : j < N) (hin : ∀ w ∈ u_ws C T N, w ∈ Ts) (hl : Cond.fieldLink y.cls index (T j).1 (T j).2.1 (T j).2.2.1 ∈ Ts) (hv : gV M a ci j = some v) (hd : decode cc pc = .ok (.getfield index, 3)) (kk : Pt X k n (pc + 3) M lv (v :: st)) : Pt X k n pc M lv (.ref a :: st) := by
  intro H locs ls hH hS hh
  obtain ⟨fs, h1, h2⟩ := gV_o hv
  exact va_get (ws := [(a, .inr (ci, fs))]) G.x G.b G.w hin G.o G.k.1 (hH.one h1) 0 rfl hc j hj (G.w _ hl) (fun _ h => h) h2 hd (kk H locs ls hH hS hh)
theorem pt_put (G : Gd X y cc Ts nL ret R) {a ci j index N : Nat} {C : String} {T : u_T} {v : Value} (hc : vwCl[ci]? = some (C, T, N)) (hj : j < N) (hin : ∀ w ∈ u_ws C T N, w ∈ Ts) (hl : Cond.fieldLink y.cls index (T j).1 (T j).2.1 (T j).2.2.1 ∈ Ts) (ty0 : Nat → FieldType) (hty : ∀ k, k < N → parseFieldDescriptor (T k).2.2.1 = some (ty0 k)) (hnm : ∀ a, a < N → ∀ b, b < N → a ≠ b → (T a).2.1 ≠ (T b).2.1) (hfin : (T j).2.2.2 = false) (hn : narrow (ty0 j) v = v) (hfit : fits (ty0 j) v = true) (hv : pV M a ci j v = some M') (hd : decode cc pc = .ok (.putfield index, 3)) (kk : Pt X k n (pc + 3) M' lv st) : Pt X k n pc M lv (v :: .ref a :: st) := by
  intro H locs ls hH hS hh
  obtain ⟨fs, h1, h2, rfl⟩ := pV_o hv
  have hap := va_apart (own := y.cls) G.w hin ty0 hty hnm G.k.1 hc
  obtain ⟨hba, r, hr1, cell, q1, q2, q3, q4⟩ := hH.2.2 a _ h1
  have hr : r = (C, T, N) := Option.some.inj (hr1.symm.trans hc)
  subst hr
  obtain ⟨hS2, hfc, kC, hkC, hkind⟩ := G.k.1.1 ci _ hc
  obtain ⟨cf, kf, fi, f, hi, hsl⟩ := hS2 j hj
  have hlay := G.w _ (hin _ (u_in_lay hj))
  unfold u_lay at hlay
  rw [if_neg (by rw [hfin]; decide)] at hlay
  have hst := (u_facts hfc hkC (u_lays G.w hin hj) hi).1
  have h6 := u_store hfc hkC hkind hlay hi (hty j hj) hn hfit
  refine W.putK G.x G.b (f := f) ⟨G.o, G.w _ hl, ⟨_, _, _, hi⟩, hst⟩ (by rw [q2]; exact h6) q1 q3 (by rw [hsl]; exact k2_hasslot (q4 j hj)) rfl rfl hd fun H' e1 e2 e3 => ?_
  rw [hsl] at e1 ⊢
  exact kk H' _ ls (hH.upd hba e2 e3 ⟨_, hc, t_OB.to (V := updV (vp_V fs) j v) ⟨_, e1, q2, q3, t_set q4 hap hj v⟩ (fun i _ => vp_updV_set h2 v i)⟩) (hS.put e2 e3 hba) hh
theorem pt_putF (G : Gd X y cc Ts nL ret R) (hin2 : (xT X).name = "<init>") {a ci j index N : Nat} {C : String} {T : u_T} {v : Value} (hc : vwCl[ci]? = some (C, T, N)) (hj : j < N) (hin : ∀ w ∈ u_ws C T N, w ∈ Ts) (hl : Cond.fieldLink y.cls index (T j).1 (T j).2.1 (T j).2.2.1 ∈ Ts) (ty0 : Nat → FieldType) (hty : ∀ k, k < N → parseFieldDescriptor (T k).2.2.1 = some (ty0 k)) (hnm : ∀ a, a < N → ∀ b, b < N → a ≠ b → (T a).2.1 ≠ (T b).2.1) (hfin : (T j).2.2.2 = true) (hdecl : (T j).1 = y.cls) (hn : narrow (ty0 j) v = v) (hfit : fits (ty0 j) v = true) (hv : pV M a ci j v = some M') (hd : decode cc pc = .ok (.putfield index, 3)) (kk : Pt X k n (pc + 3) M' lv st) : Pt X k n pc M lv (v :: .ref a :: st) := by
  intro H locs ls hH hS hh
  obtain ⟨fs, h1, h2, rfl⟩ := pV_o hv
  have hap := va_apart (own := y.cls) G.w hin ty0 hty hnm G.k.1 hc
  obtain ⟨hba, r, hr1, cell, q1, q2, q3, q4⟩ := hH.2.2 a _ h1
  have hr : r = (C, T, N) := Option.some.inj (hr1.symm.trans hc)
  subst hr
  obtain ⟨hS2, hfc, kC, hkC, hkind⟩ := G.k.1.1 ci _ hc
  obtain ⟨cf, kf, fi, f, hi, hsl⟩ := hS2 j hj
  have hlay := G.w _ (hin _ (u_in_lay hj))
  unfold u_lay at hlay
  rw [if_pos hfin] at hlay
  have hst := (u_facts hfc hkC (u_lays G.w hin hj) hi).1
  have hcf : (xM X).cls = cf := by
    obtain ⟨_, _, c', _, _, _, -, -, hf', -, -, -, hown2, -⟩ := Cond.laysFinal_spec hlay
    have e1 : c' = cf := by have := hi.symm.trans hf'; simp at this; exact this.1.symm
    rw [hdecl] at hown2
    rw [← e1]; exact Option.some.inj (G.o.symm.trans hown2)
  have h6 := u_fits hfc hkC hkind (Or.inr hlay) hi (hty j hj) hn hfit
  refine W.putFinK G.x G.b G.o (G.w _ hl) hi hst hcf hin2 (by rw [q2]; exact h6) q1 q3 (by rw [hsl]; exact k2_hasslot (q4 j hj)) rfl rfl hd fun H' e1 e2 e3 => ?_
  rw [hsl] at e1 ⊢
  exact kk H' _ ls (hH.upd hba e2 e3 ⟨_, hc, t_OB.to (V := updV (vp_V fs) j v) ⟨_, e1, q2, q3, t_set q4 hap hj v⟩ (fun i _ => vp_updV_set h2 v i)⟩) (hS.put e2 e3 hba) hh
theorem pt_iald (G : Gd X y cc Ts nL ret R) {a : Nat} {i v : Int32} (hv : lA M 0 a i = some v) (hd : decode cc pc = .ok (.iaload, 1)) (kk : Pt X k n (pc + 1) M lv (.int v :: st)) : Pt X k n pc M lv (.int i :: .ref a :: st) := by
  intro H locs ls hH hS hh
  obtain ⟨m, f, h1, h2, rfl⟩ := lA_o hv
  exact va_iald (ws := [(a, .inl ((xA X) 0, m, .inl f))]) G.x G.b G.k.1 (hH.one h1) 0 0 rfl rfl h2 hd (kk H locs ls hH hS hh)
theorem pt_zald (G : Gd X y cc Ts nL ret R) {a : Nat} {i v : Int32} (hv : lA M 1 a i = some v) (hd : decode cc pc = .ok (.baload, 1)) (kk : Pt X k n (pc + 1) M lv (.int v :: st)) : Pt X k n pc M lv (.int i :: .ref a :: st) := by
  intro H locs ls hH hS hh
  obtain ⟨m, f, h1, h2, rfl⟩ := lA_o hv
  exact va_zald (ws := [(a, .inl ((xA X) 1, m, .inl f))]) G.x G.b G.k.1 (hH.one h1) 0 1 rfl rfl h2 hd (kk H locs ls hH hS hh)
theorem pt_iast (G : Gd X y cc Ts nL ret R) {a : Nat} {i v : Int32} (hv : sA M a i v = some M') (hd : decode cc pc = .ok (.iastore, 1)) (kk : Pt X k n (pc + 1) M' lv st) : Pt X k n pc M lv (.int v :: .int i :: .ref a :: st) := by
  intro H locs ls hH hS hh
  obtain ⟨m, f, h1, h2, rfl⟩ := sA_o hv
  have hat := hH.2.2 a _ h1
  refine W.iast G.x G.b hat.2 ((G.k.1.2 0 _ rfl).1 m (fun j => .int (f j))) (fun q => by cases q) (by show ¬ (i < 0 ∨ (arrV _ _ _).slots.size ≤ _); rw [arrV_size]; exact h2) rfl rfl hd fun H1 e z oq => ?_
  refine kk H1 _ ls (hH.upd hat.1 z oq ?_) (hS.put z oq hat.1) hh
  show H1[a]? = some (arrV ((xA X) 0) m (fun j => .int (va_up f i.toNatClampNeg v j)))
  rw [e]
  show some ((arrV ((xA X) 0) m (fun j => .int (f j))).setSlot _ _) = _
  rw [arrV_store]
  congr 2
  funext q
  by_cases hq : q = i.toNatClampNeg
  · subst hq
    simp [updV, va_up]
  · simp [updV, va_up, hq]
theorem nar_z (x : Int32) : narrow .boolean (.int x) = .int (vp_nar .boolean x) := rfl
theorem pt_zast (G : Gd X y cc Ts nL ret R) {a : Nat} {i v : Int32} (hv : sZ M a i v = some M') (hd : decode cc pc = .ok (.bastore, 1)) (kk : Pt X k n (pc + 1) M' lv st) : Pt X k n pc M lv (.int v :: .int i :: .ref a :: st) := by
  intro H locs ls hH hS hh
  obtain ⟨m, f, h1, h2, rfl⟩ := sZ_o hv
  have hat := hH.2.2 a _ h1
  refine W.zast G.x G.b hat.2 ((G.k.1.2 1 _ rfl).1 m (fun j => .int (f j))) (fun q => by cases q) (by show ¬ (i < 0 ∨ (arrV _ _ _).slots.size ≤ _); rw [arrV_size]; exact h2) rfl rfl hd fun H1 e z oq => ?_
  refine kk H1 _ ls (hH.upd hat.1 z oq ?_) (hS.put z oq hat.1) hh
  show H1[a]? = some (arrV ((xA X) 1) m (fun j => .int (va_up f i.toNatClampNeg (vp_nar .boolean v) j)))
  rw [e, nar_z]
  show some ((arrV ((xA X) 1) m (fun j => .int (f j))).setSlot _ _) = _
  rw [arrV_store]
  congr 2
  funext q
  by_cases hq : q = i.toNatClampNeg
  · subst hq
    simp [updV, va_up]
  · simp [updV, va_up, hq]
theorem pt_aald (G : Gd X y cc Ts nL ret R) {a kd v : Nat} {i : Int32} {ty : FieldType} (ht : (aTs (xA X))[kd]? = some ((xA X) kd, ty)) (hr : ty.isReference = true) (hv : lR M kd a i = some v) (hd : decode cc pc = .ok (.aaload, 1)) (kk : Pt X k n (pc + 1) M lv (.ref v :: st)) : Pt X k n pc M lv (.int i :: .ref a :: st) := by
  intro H locs ls hH hS hh
  obtain ⟨m, f, h1, h2, h3⟩ := lR_o hv
  have hat := hH.2.2 a _ h1
  have hlt : i.toNatClampNeg < m := Nat.not_le.mp fun q => h2 (Or.inr q)
  refine W.aald (v := .ref v) (ty := ty) G.x G.b hat.2 ((G.k.1.2 kd _ ht).1 m (fun j => va_rf (f j))) hr (fun q => by cases q) (by show ¬ (i < 0 ∨ (arrV _ _ _).slots.size ≤ _); rw [arrV_size]; exact h2) (by show (arrV _ _ _).slots[_]? = _; rw [arrV_read _ _ hlt]; show some (va_rf (f i.toNatClampNeg)) = _; rw [h3]; rfl) rfl rfl hd (kk H locs ls hH hS hh)
theorem pt_aast (G : Gd X y cc Ts nL ret R) {a kd ci v : Nat} {i : Int32} {r : vw_C} (ht : (aTs (xA X))[kd]? = some ((xA X) kd, .object r.1)) (hc : vwCl[ci]? = some r) (hv : sR M kd ci a i v = some M') (hd : decode cc pc = .ok (.aastore, 1)) (kk : Pt X k n (pc + 1) M' lv st) : Pt X k n pc M lv (.ref v :: .int i :: .ref a :: st) := by
  intro H locs ls hH hS hh
  obtain ⟨m, f, fs, h1, h0, h2, rfl⟩ := sR_o hv
  have hat := hH.2.2 a _ h1
  have hlt : i.toNatClampNeg < m := Nat.not_le.mp fun q => h2 (Or.inr q)
  have hi0 : ¬ i < 0 := fun q => h2 (Or.inl q)
  obtain ⟨-, r', hr', cellV, g1, g2, g3, -⟩ := hH.2.2 v _ h0
  have hcls := (G.k.1.1 ci r hc).2
  obtain ⟨kA, comp, k1, k2, k3, -⟩ := (G.k.1.2 kd _ ht).2
  have hcomp : comp = (xD X).1 ci := Option.some.inj (k3.symm.trans hcls.1)
  subst hcomp
  obtain ⟨kC, hkC, -⟩ := hcls.2
  refine W.aast G.x G.b hat.2 (fun q h => by cases h) (fun h => by cases h) k1 k2 rfl hkC ⟨hi0, by show _ < (arrV _ _ _).slots.size; rw [arrV_size]; exact hlt⟩ g1 (fun q h => by rw [g3] at h; cases h) (by rw [g2]; exact hkC) (by rw [g2]; exact va_assign hcls) rfl rfl hd fun H1 e z oq => ?_
  refine kk H1 _ ls (hH.upd hat.1 z oq ?_) (hS.put z oq hat.1) hh
  show H1[a]? = some (arrV ((xA X) kd) m (fun j => va_rf (va_up f i.toNatClampNeg (some v) j)))
  rw [e]
  show some ((arrV ((xA X) kd) m (fun j => va_rf (f j))).setSlot _ _) = _
  rw [arrV_store]
  congr 2
  funext q
  by_cases hq : q = i.toNatClampNeg
  · subst hq
    simp [updV, va_up, va_rf]
  · simp [updV, va_up, hq]
theorem pt_alen (G : Gd X y cc Ts nL ret R) {a : Nat} {v : Int32} (hv : aL M a = some v) (hd : decode cc pc = .ok (.arraylength, 1)) (kk : Pt X k n (pc + 1) M lv (.int v :: st)) : Pt X k n pc M lv (.ref a :: st) := by
  intro H locs ls hH hS hh
  obtain ⟨m, f, h1, rfl⟩ := aL_o hv
  exact va_alen (ws := [(a, .inl ((xA X) 0, m, .inl f))]) G.x G.b G.k.1 (hH.one h1) 0 0 rfl (ty := .int) rfl rfl hd (kk H locs ls hH hS hh)
end GD
