section GE
variable {X : Cx} {y : MethodName} {cc : ByteArray} {Ts : List Cond} {nL : Nat} {ret : Option FieldType} {R : Room} {k n pc : Nat} {M M' : Wo} {lv lv' : List (Nat × Value)} {st : List Value}
/-- the static row: its address is below the world's -/
theorem pt_gst (G : Gd X y cc Ts nL ret R) {index : Nat} (hl : Cond.fieldLink y.cls index "StageLines" "GREATEST_SETTING" "[I" ∈ Ts) (hd : decode cc pc = .ok (.getstatic index, 3)) (kk : ∀ t : Nat, va_T .int t 4 (fun j => .int (gsF j)) (Ab (xB X)) (xS X) (xS X).heap → Pt X k n (pc + 3) M lv (.ref t :: st)) : Pt X k n pc M lv st := by
  intro H locs ls hH hS hh
  obtain ⟨t, h1, h2⟩ := G.k.2.2.2
  exact va_gets G.x G.b h1 hS G.o (G.w _ hl) (fun _ h => h) hd (kk t h2 H locs ls hH hS hh)
theorem pt_iaS (G : Gd X y cc Ts nL ret R) {t : Nat} {i v : Int32} (hT : va_T .int t 4 (fun j => .int (gsF j)) (Ab (xB X)) (xS X) (xS X).heap) (hv : ldS i = some v) (hd : decode cc pc = .ok (.iaload, 1)) (kk : Pt X k n (pc + 1) M lv (.int v :: st)) : Pt X k n pc M lv (.int i :: .ref t :: st) := by
  intro H locs ls hH hS hh
  obtain ⟨cell, h1, h2, h3, h4, h5, h6, h7⟩ := hT
  unfold ldS at hv
  split at hv
  · rename_i hc
    cases hv
    have hlt := (Array.getElem?_eq_some_iff.mp h1).1
    refine W.iald (v := .int (gsF i.toNatClampNeg)) G.x G.b (by rw [hS.2.1 t hlt h7]; exact h1) h2 h3 ?_ (h6 _ hc.2) rfl rfl hd (kk H locs ls hH hS hh)
    intro h
    rcases h with h | h
    · exact absurd h (Int32.not_lt.mpr hc.1)
    · omega
  · cases hv
/-! making -/
theorem pt_new (G : Gd X y cc Ts nL ret R) {ci index N : Nat} {C : String} {T : u_T} (fs : List Value) (hc : vwCl[ci]? = some (C, T, N)) (hin : ∀ w ∈ u_ws C T N, w ∈ Ts) (ty0 : Nat → FieldType) (hty : ∀ k, k < N → parseFieldDescriptor (T k).2.2.1 = some (ty0 k)) (h1 : Cond.classLink y.cls index C ∈ Ts) (h2 : Cond.instantiable C N ∈ Ts) (h3 : Cond.initialized C ∈ Ts) (hfs : ∀ j, j < N → defaultValue (ty0 j) = vp_V fs j) (hr1 : k + 1 ≤ R.cells) (hr2 : n + N ≤ R.slots) (hd : decode cc pc = .ok (.new index, 3)) (kk : Pt X (k + 1) (n + N) (pc + 3) (wn M (.inr (.inr (ci, fs)))) lv (.ref M.1 :: st)) : Pt X k n pc M lv st := by
  intro H locs ls hH hS hh
  obtain ⟨hS2, hfc, -⟩ := G.k.1.1 ci _ hc
  refine W.newc G.x G.b G.o (G.w _ h1) (G.w _ h2) (G.w _ h3) rfl hd (by rw [G.r]; exact hr1) (by rw [G.r]; exact hr2) fun cC kC f1 f2 f3 f4 => ?_
  have ec : cC = (xD X).1 ci := Option.some.inj (f1.symm.trans hfc)
  subst ec
  have hKn := G.k.1.1 ci _ hc
  generalize hH1 : H.push ({ cls := (xD X).1 ci, slots := kC.instanceTypes.map defaultValue, vm := .none } : Cell) = H1
  have z1 : H1.size = H.size + 1 := by rw [← hH1, Array.size_push]
  have e1 : H1[H.size]? = some (blank ((xD X).1 ci) kC) := by rw [← hH1, Array.getElem?_push_size]; rfl
  have o1 : ∀ q : Nat, q < H.size → H1[q]? = H[q]? := fun q hq => by rw [← hH1, Array.getElem?_push, if_neg (Nat.ne_of_lt hq)]
  show Ww X H1 locs (k + 1) (n + N) (F0 (xM X) (pc + 3) ls (.ref H.size :: st))
  rw [hH.1] at e1 ⊢
  refine kk H1 locs ls (hH.new z1 o1 ⟨_, hc, (u_born ty0 G.w hin hKn f2 e1 hty).to hfs⟩) ?_ hh
  exact ⟨Nat.le_trans hS.1 (by omega), fun q g1 g2 => (o1 q (Nat.lt_of_lt_of_le g1 hS.1)).trans (hS.2.1 q g1 g2), hS.2.2⟩
theorem pt_newa (G : Gd X y cc Ts nL ret R) {kd N : Nat} {v : Int32} {atype : ArrayType} (ht : (aTs (xA X))[kd]? = some ((xA X) kd, newarray.typeOf atype)) (hra : ∀ c, va_RA (xS X) c (newarray.typeOf atype) = ((xS X).vm.findClass ("[" ++ (newarray.typeOf atype).toString) = some c)) (hw : Cond.arrayClass (newarray.typeOf atype) ∈ Ts) (hdf : defaultValue (newarray.typeOf atype) = .int 0) (hv : ¬ v < 0) (hN : v.toNatClampNeg = N) (hbytes : N * componentBytes (newarray.typeOf atype) ≤ 536870912) (hr1 : k + 1 ≤ R.cells) (hr2 : n + N ≤ R.slots) (hd : decode cc pc = .ok (.newarray atype, 2)) (kk : Pt X (k + 1) (n + N) (pc + 2) (wn M (.inl (kd, N, fun _ => 0))) lv (.ref M.1 :: st)) : Pt X k n pc M lv (.int v :: st) := by
  intro H locs ls hH hS hh
  refine va_newaK G.x G.b (G.w _ hw) rfl hd rfl hv hN hbytes (by rw [G.r]; exact hr1) (by rw [G.r]; exact hr2) hH.1 fun H' cA e1 e2 e3 e4 e5 => ?_
  have h0 := (G.k.1.2 kd _ ht).2
  rw [hra] at h0
  have ec : cA = (xA X) kd := Option.some.inj (e5.symm.trans h0)
  subst ec
  rw [hdf] at e1
  rw [← hH.1] at e2 e3
  exact kk H' locs ls (hH.new e2 e3 e1) ⟨Nat.le_trans hS.1 (by omega), fun q g1 g2 => (e3 q (Nat.lt_of_lt_of_le g1 hS.1)).trans (hS.2.1 q g1 g2), hS.2.2⟩ hh
theorem pt_anew (G : Gd X y cc Ts nL ret R) {kd N index : Nat} {v : Int32} {C : String} (ht : (aTs (xA X))[kd]? = some ((xA X) kd, .object C)) (hw : Cond.classLink y.cls index C ∈ Ts) (hao : va_AO C (xS X)) (hv : ¬ v < 0) (hN : v.toNatClampNeg = N) (hbytes : N * 4 ≤ 536870912) (hr1 : k + 1 ≤ R.cells) (hr2 : n + N ≤ R.slots) (hd : decode cc pc = .ok (.anewarray index, 3)) (kk : Pt X (k + 1) (n + N) (pc + 3) (wn M (.inr (.inl (kd, N, fun _ => none)))) lv (.ref M.1 :: st)) : Pt X k n pc M lv (.int v :: st) := by
  intro H locs ls hH hS hh
  subst hN
  refine W.anew G.x G.b G.o (G.w _ hw) (va_AO.use hao) rfl hd rfl hv hbytes (by rw [G.r]; exact hr1) (by rw [G.r]; exact hr2) fun cA kA comp f1 f2 f3 f4 => ?_
  obtain ⟨kA2, comp2, g1, g2, g3, g4⟩ := (G.k.1.2 kd _ ht).2
  have ec : cA = (xA X) kd := Option.some.inj (f1.symm.trans g4)
  subst ec
  generalize hH1 : H.push ({ cls := (xA X) kd, slots := Array.replicate v.toNatClampNeg .null, vm := .none } : Cell) = H1
  have z1 : H1.size = H.size + 1 := by rw [← hH1, Array.size_push]
  have e1 : H1[H.size]? = some (arrV ((xA X) kd) v.toNatClampNeg (fun _ => .null)) := by rw [← hH1, Array.getElem?_push_size, ← arrV_new]
  have o1 : ∀ q : Nat, q < H.size → H1[q]? = H[q]? := fun q hq => by rw [← hH1, Array.getElem?_push, if_neg (Nat.ne_of_lt hq)]
  show Ww X H1 locs (k + 1) (n + v.toNatClampNeg) (F0 (xM X) (pc + 3) ls (.ref H.size :: st))
  rw [hH.1] at e1 ⊢
  exact kk H1 locs ls (hH.new z1 o1 e1) ⟨Nat.le_trans hS.1 (by omega), fun q g1 g2 => (o1 q (Nat.lt_of_lt_of_le g1 hS.1)).trans (hS.2.1 q g1 g2), hS.2.2⟩ hh
/-- int[N][K]: the outer row, then the inner ones -/
def wm (M : Wo) (N K : Nat) : Wo := (M.1 + 1 + N, fun a => if a = M.1 then some (.inr (.inl (5, N, fun i => if i < N then some (M.1 + 1 + i) else none))) else if M.1 < a ∧ a < M.1 + 1 + N then some (.inl (0, K, fun _ => 0)) else M.2 a)
theorem Hp.multi {D : va_G} {dA : Nat → ClassId} {b : Nat} {M : Wo} {H H1 : Heap} (h : Hp D dA b M H) {N K : Nat} (hz : H1.size = H.size + 1 + N) (ho : ∀ q : Nat, q < H.size → H1[q]? = H[q]?) (he : va_at D vwCl (M.1, toE dA (.inr (.inl (5, N, fun i => if i < N then some (M.1 + 1 + i) else none)))) H1) (hi : ∀ i, i < N → va_at D vwCl (M.1 + 1 + i, toE dA (.inl (0, K, fun _ => 0))) H1) : Hp D dA b (wm M N K) H1 := by
  refine ⟨by rw [hz, h.1]; rfl, by show b ≤ M.1 + 1 + N; exact Nat.le_trans h.2.1 (by omega), fun a' c' h' => ?_⟩
  have hb := h.2.1
  by_cases e : a' = M.1
  · subst e
    simp only [wm, if_true] at h'
    cases h'
    exact ⟨h.2.1, he⟩
  · by_cases e2 : M.1 < a' ∧ a' < M.1 + 1 + N
    · simp only [wm, if_neg e, if_pos e2] at h'
      cases h'
      have hq := hi (a' - (M.1 + 1)) (by omega)
      rw [show M.1 + 1 + (a' - (M.1 + 1)) = a' by omega] at hq
      exact ⟨by omega, hq⟩
    · simp only [wm, if_neg e, if_neg e2] at h'
      exact ⟨(h.2.2 a' c' h').1, (h.2.2 a' c' h').2.kept (ho a' (by rw [h.1]; exact h.lt h'))⟩
theorem pt_mna (G : Gd X y cc Ts nL ret R) {N K index : Nat} {v w : Int32} (hw : Cond.classLink y.cls index "[[I" ∈ Ts) (hac : Cond.arrayClass .int ∈ Ts) (hv : ¬ v < 0) (hw0 : ¬ w < 0) (hN : v.toNatClampNeg = N) (hK : w.toNatClampNeg = K) (hb1 : N * 4 ≤ 536870912) (hb2 : K * componentBytes .int ≤ 536870912) (hb3 : K ≤ 536870912) (hr1 : k + (1 + N) ≤ R.cells) (hr2 : n + (N + N * K) ≤ R.slots) (hd : decode cc pc = .ok (.multianewarray index 2, 4)) (kk : Pt X (k + 1 + N) (n + N + N * K) (pc + 4) (wm M N K) lv (.ref M.1 :: st)) : Pt X k n pc M lv (.int w :: .int v :: st) := by
  intro H locs ls hH hS hh
  subst hN
  subst hK
  intro T hT Xs
  obtain ⟨vm₁, cA, comp, -, fA, fC, hO, -, X', step⟩ := Xs.multianewarray2F (ty := .int) G.x G.o (G.w _ hw) G.k.2.2.1.2.2.2 (G.w _ hac) (g := F0 (xM X) pc ls (.int w :: .int v :: st)) rfl (by rw [G.b]; exact hd) rfl hv hw0 hb1 hb2 hb3 rfl rfl (by rw [G.r]; exact hr1) (by rw [G.r]; exact hr2)
  have h5 : (xS X).vm.findClass ("[" ++ (FieldType.array .int).toString) = some ((xA X) 5) := (G.k.1.2 5 _ rfl).2
  have h0 : (xS X).vm.findClass ("[" ++ (FieldType.int).toString) = some ((xA X) 0) := (G.k.1.2 0 _ rfl).2
  have ec : cA = (xA X) 5 := Option.some.inj (fA.symm.trans h5)
  subst ec
  have ec0 : comp = (xA X) 0 := Option.some.inj (fC.symm.trans h0)
  subst ec0
  generalize hF : Jvm.Free.Multi.fill (T.setVm vm₁) ((xA X) 5) ((xA X) 0) v.toNatClampNeg w.toNatClampNeg (defaultValue .int) v.toNatClampNeg = F at X' step
  have hTh : (T.setVm vm₁).heap = H := hT
  obtain ⟨f1, f2, -, -⟩ := Jvm.Free.Multi.fill_facts (T.setVm vm₁) ((xA X) 5) ((xA X) 0) v.toNatClampNeg w.toNatClampNeg (defaultValue .int) v.toNatClampNeg
  rw [hF, hTh] at f1 f2
  have hold : ∀ q : Nat, q < H.size → F.heap[q]? = H[q]? := fun q hq => by
    have := Jvm.Free.Multi.fill_old (T.setVm vm₁) ((xA X) 5) ((xA X) 0) v.toNatClampNeg w.toNatClampNeg (defaultValue .int) (a := q) (by rw [hTh]; exact hq) v.toNatClampNeg
    rw [hF, hTh] at this
    exact this
  have hrow : ∀ j : Nat, j < v.toNatClampNeg → F.heap[H.size + 1 + j]? = some (arrV ((xA X) 0) w.toNatClampNeg (fun _ => .int 0)) := fun j hj => by
    have := Jvm.Free.Multi.fill_inner (T.setVm vm₁) ((xA X) 5) ((xA X) 0) v.toNatClampNeg w.toNatClampNeg (defaultValue .int) v.toNatClampNeg j hj
    rw [hF, hTh] at this
    rw [this, ← arrV_new]
    rfl
  rw [vr_outer] at f2
  rw [hH.1] at f2 hrow
  obtain ⟨t, a1, b1⟩ := kk F.heap locs ls (hH.multi f1 hold f2 hrow) ⟨Nat.le_trans hS.1 (by omega), fun q g1 g2 => (hold q (Nat.lt_of_lt_of_le g1 hS.1)).trans (hS.2.1 q g1 g2), hS.2.2⟩ hh F rfl X'
  refine ⟨t, step t ?_, b1⟩
  have hTs : T.heap.size = M.1 := by rw [hT]; exact hH.1
  rw [hTs]
  exact a1
theorem cpI_o {a0 a : Nat} {sp dp m : Int32} (h : cpI M a0 sp a dp m = some M') : ∃ (n0 n1 : Nat) (f g : Nat → Int32), M.2 a0 = some (.inl (0, n0, f)) ∧ M.2 a = some (.inl (0, n1, g)) ∧ ¬ sp < 0 ∧ ¬ dp < 0 ∧ ¬ m < 0 ∧ sp.toNatClampNeg + m.toNatClampNeg ≤ n0 ∧ dp.toNatClampNeg + m.toNatClampNeg ≤ n1 ∧ M' = wu M a (.inl (0, n1, va_cpy f g sp.toNatClampNeg dp.toNatClampNeg m.toNatClampNeg)) := by
  unfold cpI at h
  split at h
  · rename_i q0 q h0 h1
    obtain ⟨c0, n0, f⟩ := q0
    obtain ⟨c1, n1, g⟩ := q
    split at h
    · rename_i hc
      obtain ⟨e0, e1, hs, hd, hm, hl0, hl1⟩ := hc
      dsimp only at e0 e1 hl0 hl1 h
      subst e0
      subst e1
      cases h
      exact ⟨n0, n1, f, g, h0, h1, Int32.not_lt.mpr hs, Int32.not_lt.mpr hd, Int32.not_lt.mpr hm, hl0, hl1, rfl⟩
    · cases h
  · cases h
theorem pt_copy (G : Gd X y cc Ts nL ret R) {a0 a index : Nat} {sp dp m : Int32} (w1 : Cond.methodLink y.cls index arraycopyName ∈ Ts) (w2 : Cond.native arraycopyName ∈ Ts) (w3 : Cond.static arraycopyName ∈ Ts) (w4 : Cond.initialized "java/lang/System" ∈ Ts) (hr1 : 1 ≤ R.frames) (hr2 : (st.map fun v => v.category).sum + (nativeFrameWords "java/lang/System" "arraycopy" 5 + 11) ≤ R.locals) (hv : cpI M a0 sp a dp m = some M') (hd : decode cc pc = .ok (.invokestatic index, 3)) (kk : Pt X k n (pc + 3) M' lv st) : Pt X k n pc M lv (.int m :: .int dp :: .ref a :: .int sp :: .ref a0 :: st) := by
  intro H locs ls hH hS hh
  obtain ⟨n0, n1, f, g, hc0, hc1, h1, h2, h3, h4, h5, rfl⟩ := cpI_o hv
  have hat0 := hH.2.2 a0 _ hc0
  have hat := hH.2.2 a _ hc1
  have nn : ∀ z : Int32, ¬ z < 0 → z.toInt = (z.toNatClampNeg : Int) := by
    intro z hz
    have hz0 : (0 : Int) ≤ z.toInt := by
      have := Int32.not_lt.mp hz
      simpa using Int32.le_iff_toInt_le.mp this
    show z.toInt = ((z.toInt.toNat : Nat) : Int)
    omega
  intro T hT Xs
  have e0 : H[a0]? = some (vp_cell ((xA X) 0) (n0, .inl f)) := hat0.2
  have e1 : H[a]? = some (vp_cell ((xA X) 0) (n1, .inl g)) := hat.2
  obtain ⟨-, k0, hk0, cm0, hkk0⟩ := (G.k.1.2 0 _ rfl).1 n0 (fun j => .int (f j))
  obtain ⟨-, k1, hk1, cm1, hkk1⟩ := (G.k.1.2 0 _ rfl).1 n1 (fun j => .int (g j))
  obtain ⟨vm', X', step⟩ := Xs.arraycopy G.x G.o (G.w _ w1) (G.w _ w2) (G.w _ w3) (G.w _ w4) (src := a0) (dst := a) (cs := vp_cell ((xA X) 0) (n0, .inl f)) (cd := vp_cell ((xA X) 0) (n1, .inl g)) (srcPos := sp) (destPos := dp) (n := m) (by rw [hT]; exact e0) (by rw [hT]; exact e1)
    (fun _ h => by cases h) (fun _ h => by cases h) (fun h => by cases h) (fun h => by cases h) hk0 hk1 hkk0 hkk1 (by simp [show refKind .int = false from rfl]) h1 h2 h3
    (by rw [nn sp h1, nn m h3]; show ¬ _ > ((arrV ((xA X) 0) n0 (fun j => .int (f j))).slots.size : Int); rw [arrV_size]; omega)
    (by rw [nn dp h2, nn m h3]; show ¬ _ > ((arrV ((xA X) 0) n1 (fun j => .int (g j))).slots.size : Int); rw [arrV_size]; omega)
    (fun vm₁ _ i hi => by
      have e : (vp_cell ((xA X) 0) (n0, .inl f)).slots.getD (sp.toNatClampNeg + i) .null = .int (f (sp.toNatClampNeg + i)) := by
        show (arrV ((xA X) 0) n0 (fun j => .int (f j))).slots.getD _ _ = _
        rw [Array.getD_eq_getD_getElem?, arrV_read _ _ (by omega)]
        rfl
      refine ⟨?_, ?_⟩
      · rw [e]
        rfl
      · rw [e]
        exact trivial)
    (g := F0 (xM X) pc ls (.int m :: .int dp :: .ref a :: .int sp :: .ref a0 :: st)) rfl (by rw [G.m, ← G.n]; exact hh.1) (rest := st) rfl (by rw [G.b]; exact hd) (by rw [G.r]; exact hr1) (by rw [G.r]; show 2 * 0 + _ + _ ≤ _; omega)
  have ec : copied (vp_cell ((xA X) 0) (n0, .inl f)) (vp_cell ((xA X) 0) (n1, .inl g)) sp dp m = vp_cell ((xA X) 0) (n1, .inl (va_cpy f g sp.toNatClampNeg dp.toNatClampNeg m.toNatClampNeg)) := va_copied (fun z => .int z) ((xA X) 0) ((xA X) 0) f g h4
  rw [ec] at X' step
  have hl : a < H.size := (Array.getElem?_eq_some_iff.mp e1).1
  have hheap : ((T.setVm vm').setCell a (vp_cell ((xA X) 0) (n1, .inl (va_cpy f g sp.toNatClampNeg dp.toNatClampNeg m.toNatClampNeg)))).heap = H.setIfInBounds a (vp_cell ((xA X) 0) (n1, .inl (va_cpy f g sp.toNatClampNeg dp.toNatClampNeg m.toNatClampNeg))) := by rw [← hT]; rfl
  have oq : ∀ q : Nat, q ≠ a → (H.setIfInBounds a (vp_cell ((xA X) 0) (n1, .inl (va_cpy f g sp.toNatClampNeg dp.toNatClampNeg m.toNatClampNeg))))[q]? = H[q]? := fun q hq => by simp [Array.getElem?_setIfInBounds, Ne.symm hq]
  obtain ⟨t, a1, b1⟩ := kk _ _ ls (hH.upd hat.1 (by simp) oq (show (H.setIfInBounds a _)[a]? = some _ by simp [Array.getElem?_setIfInBounds, hl])) ⟨by simp; exact hS.1, fun q g1 g2 => by
      rw [oq q (fun e => g2 (by rw [e]; exact hat.1))]
      exact hS.2.1 q g1 g2, fun q hq => by
      rcases List.mem_append.mp hq with h | h
      · exact hS.2.2 q h
      · obtain ⟨z, -, hz⟩ := List.mem_map.mp h
        rw [← hz]
        exact hat.1⟩ hh _ hheap X'
  exact ⟨t, step t a1, b1⟩
/-! Math -/
theorem pt_mabs (G : Gd X y cc Ts nL ret R) {index : Nat} {a : Int32} (w1 : Cond.methodLink y.cls index Lib.Math.abs.name ∈ Ts) (w2 : Cond.static Lib.Math.abs.name ∈ Ts) (w3 : Cond.initialized "java/lang/Math" ∈ Ts) (w4 : Cond.code Lib.Math.abs.name Lib.Math.abs.code 1 (some .int) ∈ Ts) (hr1 : 1 ≤ R.frames) (hr2 : (st.map fun v => v.category).sum + 13 ≤ R.locals) (hr3 : k ≤ R.cells ∧ n ≤ R.slots) (hd : decode cc pc = .ok (.invokestatic index, 3)) (kk : Pt X k n (pc + 3) M lv (.int (iAbs a) :: st)) : Pt X k n pc M lv (.int a :: st) := fun H locs ls hH hS hh =>
  va_mabs G.x G.b (by rw [G.m, ← G.n]; exact hh.1.symm) G.o (G.w _ w1) (G.w _ w2) (G.w _ w3) (G.w _ w4) (by rw [G.r]; exact hr1) (by rw [G.r]; exact hr2) (by rw [G.r]; exact hr3.1) (by rw [G.r]; exact hr3.2) hd (kk H locs ls hH hS hh)
theorem pt_mmax (G : Gd X y cc Ts nL ret R) {index : Nat} {a b : Int32} (w1 : Cond.methodLink y.cls index Lib.Math.max.name ∈ Ts) (w2 : Cond.static Lib.Math.max.name ∈ Ts) (w3 : Cond.initialized "java/lang/Math" ∈ Ts) (w4 : Cond.code Lib.Math.max.name Lib.Math.max.code 2 (some .int) ∈ Ts) (hr1 : 1 ≤ R.frames) (hr2 : (st.map fun v => v.category).sum + 13 ≤ R.locals) (hr3 : k ≤ R.cells ∧ n ≤ R.slots) (hd : decode cc pc = .ok (.invokestatic index, 3)) (kk : Pt X k n (pc + 3) M lv (.int (iMax a b) :: st)) : Pt X k n pc M lv (.int b :: .int a :: st) := fun H locs ls hH hS hh =>
  va_mmax G.x G.b (by rw [G.m, ← G.n]; exact hh.1.symm) G.o (G.w _ w1) (G.w _ w2) (G.w _ w3) (G.w _ w4) (by rw [G.r]; exact hr1) (by rw [G.r]; exact hr2) (by rw [G.r]; exact hr3.1) (by rw [G.r]; exact hr3.2) hd (kk H locs ls hH hS hh)
theorem pt_mmin (G : Gd X y cc Ts nL ret R) {index : Nat} {a b : Int32} (w1 : Cond.methodLink y.cls index Lib.Math.min.name ∈ Ts) (w2 : Cond.static Lib.Math.min.name ∈ Ts) (w3 : Cond.initialized "java/lang/Math" ∈ Ts) (w4 : Cond.code Lib.Math.min.name Lib.Math.min.code 2 (some .int) ∈ Ts) (hr1 : 1 ≤ R.frames) (hr2 : (st.map fun v => v.category).sum + 13 ≤ R.locals) (hr3 : k ≤ R.cells ∧ n ≤ R.slots) (hd : decode cc pc = .ok (.invokestatic index, 3)) (kk : Pt X k n (pc + 3) M lv (.int (iMin a b) :: st)) : Pt X k n pc M lv (.int b :: .int a :: st) := fun H locs ls hH hS hh =>
  va_mmin G.x G.b (by rw [G.m, ← G.n]; exact hh.1.symm) G.o (G.w _ w1) (G.w _ w2) (G.w _ w3) (G.w _ w4) (by rw [G.r]; exact hr1) (by rw [G.r]; exact hr2) (by rw [G.r]; exact hr3.1) (by rw [G.r]; exact hr3.2) hd (kk H locs ls hH hS hh)
theorem pt_obj (G : Gd X y cc Ts nL ret R) {index a : Nat} (w1 : Cond.methodLink y.cls index objectInit ∈ Ts) (w2 : Cond.instanceMethod objectInit ∈ Ts) (w3 : Cond.code objectInit ⟨#[0xb1]⟩ 1 none ∈ Ts) (hr1 : 1 ≤ R.frames) (hr2 : (st.map fun v => v.category).sum + 12 ≤ R.locals) (hd : decode cc pc = .ok (.invokespecial index, 3)) (kk : Pt X k n (pc + 3) M lv st) : Pt X k n pc M lv (.ref a :: st) := fun H locs ls hH hS hh =>
  W.objInit G.x G.b G.o (G.w _ w1) (G.w _ w2) (G.w _ w3) rfl (by rw [G.m, ← G.n]; exact hh.1) rfl hd (by rw [G.r]; exact hr1) (by rw [G.r]; show 2 * 0 + _ + 12 ≤ _; omega) (kk H locs ls hH hS hh)
end GE
