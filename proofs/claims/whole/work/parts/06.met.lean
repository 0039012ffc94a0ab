section GF
variable {X : Cx} {y : MethodName} {cc : ByteArray} {Ts : List Cond} {nL : Nat} {ret : Option FieldType} {R : Room} {k n pc : Nat} {M M' : Wo} {lv lv' : List (Nat × Value)} {st : List Value}
/-! what a contract's end says -/
abbrev Ei (D : va_G) (dA : Nat → ClassId) (b : Nat) (r : Int32) (M' : Wo) : Array Value → State → Outcome → State → Prop := va_Qi (fun (r' : Int32) (_ : Unit) => r' = r) (fun _ t => Wd D dA b M' t) (Ab b)
abbrev Ev (D : va_G) (dA : Nat → ClassId) (b : Nat) (M' : Wo) : Array Value → State → Outcome → State → Prop := va_Qv (fun (_ : Unit) => True) (fun _ t => Wd D dA b M' t) (Ab b)
abbrev Er (D : va_G) (dA : Nat → ClassId) (b : Nat) (r : Nat) (M' : Wo) : Array Value → State → Outcome → State → Prop := va_Qr (fun (_ : Unit) => True) (fun _ a t => a = r ∧ Wd D dA b M' t) (Ab b)
def Qi (X : Cx) (r : Int32) (M' : Wo) (k n : Nat) : Prop := xQ X = MQ (xW X) (Ei (xD X) (xA X) (xB X) r M') (xG X) (xS X) k n (Ab (xB X))
def Qv (X : Cx) (M' : Wo) (k n : Nat) : Prop := xQ X = MQ (xW X) (Ev (xD X) (xA X) (xB X) M') (xG X) (xS X) k n (Ab (xB X))
def Qr (X : Cx) (r : Nat) (M' : Wo) (k n : Nat) : Prop := xQ X = MQ (xW X) (Er (xD X) (xA X) (xB X) r M') (xG X) (xS X) k n (Ab (xB X))
theorem Gd.end (G : Gd X y cc Ts nL ret R) {H : Heap} {locs : List Loc} (hH : Hp (xD X) (xA X) (xB X) M H) (hS : va_S (Ab (xB X)) (xS X).heap H locs) {t : State} (ht : t.heap = H) (hW : (xS X).WarmedH t.vm) : Wd (xD X) (xA X) (xB X) M t := ⟨by rw [ht]; exact hH, G.k.to hW (fun q h1 h2 => by rw [ht]; exact hS.2.1 q h1 h2)⟩
theorem pt_iret (G : Gd X y cc Ts nL (some .int) R) {v : Int32} (hQ : Qi X v M k n) (hd : decode cc pc = .ok (.ireturn, 1)) : Pt X k n pc M lv [.int v] := by
  intro H locs ls hH hS hh
  have hQ' : xQ X = _ := hQ
  show W _ _ _ _ _ _ _ _ _ _ _ _ _ _ (xQ X) _
  rw [hQ']
  exact W.iret G.x G.b G.t (fun t ht hW => ⟨⟨v, (), rfl, rfl, G.end hH hS ht hW⟩, hS.F ht⟩) hS.2.2 hd G.l
theorem ckB_o {v : Int32} {u : Unit} (h : ckB v = some u) : v = 0 ∨ v = 1 := by
  unfold ckB at h
  split at h
  · assumption
  · cases h
theorem pt_zret (G : Gd X y cc Ts nL (some .boolean) R) {v : Int32} (hv : v = 0 ∨ v = 1) (hQ : Qi X v M k n) (hd : decode cc pc = .ok (.ireturn, 1)) : Pt X k n pc M lv [.int v] := by
  intro H locs ls hH hS hh
  have hQ' : xQ X = _ := hQ
  show W _ _ _ _ _ _ _ _ _ _ _ _ _ _ (xQ X) _
  rw [hQ']
  exact W.zret G.x G.b G.t (by rcases hv with rfl | rfl <;> rfl) (fun t ht hW => ⟨⟨v, (), rfl, rfl, G.end hH hS ht hW⟩, hS.F ht⟩) hS.2.2 hd G.l
theorem pt_vret (G : Gd X y cc Ts nL none R) (hQ : Qv X M k n) (hd : decode cc pc = .ok (.return_, 1)) : Pt X k n pc M lv [] := by
  intro H locs ls hH hS hh
  have hQ' : xQ X = _ := hQ
  show W _ _ _ _ _ _ _ _ _ _ _ _ _ _ (xQ X) _
  rw [hQ']
  exact W.vret G.x G.b G.t (fun t ht hW => ⟨⟨(), rfl, trivial, G.end hH hS ht hW⟩, hS.F ht⟩) hS.2.2 hd G.l
theorem pt_aret {C : String} (G : Gd X y cc Ts nL (some (.object C)) R) {v : Nat} (hQ : Qr X v M k n) (hd : decode cc pc = .ok (.areturn, 1)) : Pt X k n pc M lv [.ref v] := by
  intro H locs ls hH hS hh
  have hQ' : xQ X = _ := hQ
  show W _ _ _ _ _ _ _ _ _ _ _ _ _ _ (xQ X) _
  rw [hQ']
  exact W.aret G.x G.b G.t (Or.inl ⟨C, rfl⟩) (Or.inr ⟨v, rfl⟩) (fun t ht hW => ⟨⟨(), v, rfl, trivial, rfl, G.end hH hS ht hW⟩, hS.F ht⟩) hS.2.2 hd G.l
end GF
theorem met_i {l : Launch} {y : MethodName} {ws ws' : List Cond} {rm : Room} {cc : ByteArray} {maxL : Nat} {ret : Option FieldType} {D : va_G} {dA : Nat → ClassId} {b : Nat} {M M' : Wo} {av : List Value} {r : Int32} {mc ms : Nat} (hy : plainName y.cls = true) (hw : ws = Cond.code y cc maxL ret :: ws') (hav : (lg_sl av).length ≤ maxL) (body : ∀ X : Cx, Gd X y cc ws maxL ret rm → (xT X).name = y.name → Qi X r M' mc ms → Pt X 0 0 0 M (lv_args 0 av) []) : Met l y ws rm (va_Pc av (Wd D dA b M)) (Ei D dA b r M') mc ms (Ab b) := by
  refine Met.ofW (cc := cc) (maxL := maxL) (ret := ret) hy hw ?_
  intro p e s m args below meth c s₁ B hml hv
  obtain ⟨rfl, hH, hK⟩ := hv
  have key := body ((p, l, e, (headSpec ws rm).room, s, m, av.toArray, below, meth, c), (D, dA, b), maxL, MQ below (Ei D dA b r M') av.toArray s mc ms (Ab b)) ⟨B.exec, B.bytes, hml, rfl, findClass_of_methodNamed B.named, atoms_spec (ws := ws) B.pre, hK, B.notSynchronized, rfl, B.returns, by show b ≤ s.heap.size; rw [hH.1]; exact hH.2.1⟩ (name_of_methodNamed B.named B.method).1 rfl s.heap [] _ hH va_S.rf (lv_entry av (n := maxL) hav)
  rw [lg_entry_eq]
  exact key
theorem met_v {l : Launch} {y : MethodName} {ws ws' : List Cond} {rm : Room} {cc : ByteArray} {maxL : Nat} {ret : Option FieldType} {D : va_G} {dA : Nat → ClassId} {b : Nat} {M M' : Wo} {av : List Value} {mc ms : Nat} (hy : plainName y.cls = true) (hw : ws = Cond.code y cc maxL ret :: ws') (hav : (lg_sl av).length ≤ maxL) (body : ∀ X : Cx, Gd X y cc ws maxL ret rm → (xT X).name = y.name → Qv X M' mc ms → Pt X 0 0 0 M (lv_args 0 av) []) : Met l y ws rm (va_Pc av (Wd D dA b M)) (Ev D dA b M') mc ms (Ab b) := by
  refine Met.ofW (cc := cc) (maxL := maxL) (ret := ret) hy hw ?_
  intro p e s m args below meth c s₁ B hml hv
  obtain ⟨rfl, hH, hK⟩ := hv
  have key := body ((p, l, e, (headSpec ws rm).room, s, m, av.toArray, below, meth, c), (D, dA, b), maxL, MQ below (Ev D dA b M') av.toArray s mc ms (Ab b)) ⟨B.exec, B.bytes, hml, rfl, findClass_of_methodNamed B.named, atoms_spec (ws := ws) B.pre, hK, B.notSynchronized, rfl, B.returns, by show b ≤ s.heap.size; rw [hH.1]; exact hH.2.1⟩ (name_of_methodNamed B.named B.method).1 rfl s.heap [] _ hH va_S.rf (lv_entry av (n := maxL) hav)
  rw [lg_entry_eq]
  exact key
theorem met_r {l : Launch} {y : MethodName} {ws ws' : List Cond} {rm : Room} {cc : ByteArray} {maxL : Nat} {ret : Option FieldType} {D : va_G} {dA : Nat → ClassId} {b : Nat} {M M' : Wo} {av : List Value} {r : Nat} {mc ms : Nat} (hy : plainName y.cls = true) (hw : ws = Cond.code y cc maxL ret :: ws') (hav : (lg_sl av).length ≤ maxL) (body : ∀ X : Cx, Gd X y cc ws maxL ret rm → (xT X).name = y.name → Qr X r M' mc ms → Pt X 0 0 0 M (lv_args 0 av) []) : Met l y ws rm (va_Pc av (Wd D dA b M)) (Er D dA b r M') mc ms (Ab b) := by
  refine Met.ofW (cc := cc) (maxL := maxL) (ret := ret) hy hw ?_
  intro p e s m args below meth c s₁ B hml hv
  obtain ⟨rfl, hH, hK⟩ := hv
  have key := body ((p, l, e, (headSpec ws rm).room, s, m, av.toArray, below, meth, c), (D, dA, b), maxL, MQ below (Er D dA b r M') av.toArray s mc ms (Ab b)) ⟨B.exec, B.bytes, hml, rfl, findClass_of_methodNamed B.named, atoms_spec (ws := ws) B.pre, hK, B.notSynchronized, rfl, B.returns, by show b ≤ s.heap.size; rw [hH.1]; exact hH.2.1⟩ (name_of_methodNamed B.named B.method).1 rfl s.heap [] _ hH va_S.rf (lv_entry av (n := maxL) hav)
  rw [lg_entry_eq]
  exact key
section GC
variable {X : Cx} {y : MethodName} {cc : ByteArray} {Ts : List Cond} {nL : Nat} {ret : Option FieldType} {R : Room} {k n pc : Nat} {M M' : Wo} {lv lv' : List (Nat × Value)} {st stk : List Value}
variable {y' : MethodName} {ws' ws'' : List Cond} {rm' : Room} {by' : ByteArray} {mL mc ms nA index ci N : Nat} {rt : Option FieldType} {C : String} {T : u_T} {a : Nat} {As : List Value}
theorem pt_cVi (G : Gd X y cc Ts nL ret R) {r : Int32} (hM : Met (xL X) y' ws' rm' (va_Pc (.ref a :: As) (Wd (xD X) (xA X) (xB X) M)) (Ei (xD X) (xA X) (xB X) r M') mc ms (Ab (xB X))) (hg : GoodIn Ts (wsV y.cls index C y' ws')) (hw : ws' = Cond.code y' by' mL rt :: ws'') (hrc : rm'.cells = mc) (hrs : rm'.slots = ms) (hdsc : y'.cls = C ∧ y'.cls ≠ "java/lang/invoke/MethodHandle" ∧ y'.cls ≠ "java/lang/invoke/VarHandle" ∧ (parseMethodDescriptor y'.desc).map (fun d => d.parameters.length) = some nA) (hR : rm'.frames + 1 ≤ R.frames ∧ 8 + (mL + 11) + rm'.locals ≤ R.locals) (hc : vwCl[ci]? = some (C, T, N)) (ho : ∃ fs : List Value, M.2 a = some (.inr (.inr (ci, fs)))) (hn : As.length = nA) (hstk : stk = As.reverse ++ .ref a :: st) (hW8 : (st.map fun v => v.category).sum ≤ 8) (hd : decode cc pc = .ok (.invokevirtual index, 3)) (hf : k + mc ≤ R.cells ∧ n + ms ≤ R.slots) (kk : Pt X (k + mc) (n + ms) (pc + 3) M' lv (.int r :: st)) : Pt X k n pc M lv stk := by
  intro H locs ls hH hS hh
  obtain ⟨fs, ho⟩ := ho
  subst hstk
  refine va_calli (va_runV (As := As) (rest := st) ⟨G.x, G.b, G.m, G.o, G.w⟩ hM (cwV nA G.w hg hw hrc hrs hdsc (by rw [G.r]; exact hR)) ⟨fun _ U g mk q => ⟨q.1, q.2.call⟩, va_recv (q := (C, T, N)) G.k.1 (hH.one ho) hc (q0 := 0) rfl, fun U hU hW => ⟨rfl, G.end hH hS hU hW⟩⟩ rfl hn (hh.1.trans G.n) rfl (by show 2 * 0 + _ ≤ 8; omega) hd (by rw [G.r]; exact hf)) hS (fun _ _ h => h) (fun _ h => h) (fun r' u t H1 locs1 ht hvm hp hB hz hk hS1 => ?_)
  have hr : r' = r := hp
  subst hr
  exact kk H1 locs1 ls (by rw [← ht]; exact hB.1) hS1 hh
theorem pt_cSi (G : Gd X y cc Ts nL ret R) {r : Int32} (hM : Met (xL X) y' ws' rm' (va_Pc As (Wd (xD X) (xA X) (xB X) M)) (Ei (xD X) (xA X) (xB X) r M') mc ms (Ab (xB X))) (hg : GoodIn Ts (va_wsS y.cls index y' ws')) (hw : ws' = Cond.code y' by' mL rt :: ws'') (hrc : rm'.cells = mc) (hrs : rm'.slots = ms) (hdsc : y'.cls ≠ "java/lang/invoke/MethodHandle" ∧ y'.cls ≠ "java/lang/invoke/VarHandle" ∧ (parseMethodDescriptor y'.desc).map (fun d => d.parameters.length) = some nA) (hR : rm'.frames + 1 ≤ R.frames ∧ 8 + (mL + 11) + rm'.locals ≤ R.locals) (hn : As.length = nA) (hstk : stk = As.reverse ++ st) (hW8 : (st.map fun v => v.category).sum ≤ 8) (hd : decode cc pc = .ok (.invokestatic index, 3)) (hf : k + mc ≤ R.cells ∧ n + ms ≤ R.slots) (kk : Pt X (k + mc) (n + ms) (pc + 3) M' lv (.int r :: st)) : Pt X k n pc M lv stk := by
  intro H locs ls hH hS hh
  subst hstk
  refine va_calli (va_runS (As := As) (rest := st) ⟨G.x, G.b, G.m, G.o, G.w⟩ hM (va_cwS nA G.w hg hw hrc hrs hdsc (by rw [G.r]; exact hR)) ⟨fun _ U g mk q => ⟨q.1, q.2.call⟩, fun U hU hW => ⟨rfl, G.end hH hS hU hW⟩⟩ rfl hn (hh.1.trans G.n) rfl (by show 2 * 0 + _ ≤ 8; omega) hd (by rw [G.r]; exact hf)) hS (fun _ _ h => h) (fun _ h => h) (fun r' u t H1 locs1 ht hvm hp hB hz hk hS1 => ?_)
  have hr : r' = r := hp
  subst hr
  exact kk H1 locs1 ls (by rw [← ht]; exact hB.1) hS1 hh
theorem pt_cVv (G : Gd X y cc Ts nL ret R) (hM : Met (xL X) y' ws' rm' (va_Pc (.ref a :: As) (Wd (xD X) (xA X) (xB X) M)) (Ev (xD X) (xA X) (xB X) M') mc ms (Ab (xB X))) (hg : GoodIn Ts (wsV y.cls index C y' ws')) (hw : ws' = Cond.code y' by' mL rt :: ws'') (hrc : rm'.cells = mc) (hrs : rm'.slots = ms) (hdsc : y'.cls = C ∧ y'.cls ≠ "java/lang/invoke/MethodHandle" ∧ y'.cls ≠ "java/lang/invoke/VarHandle" ∧ (parseMethodDescriptor y'.desc).map (fun d => d.parameters.length) = some nA) (hR : rm'.frames + 1 ≤ R.frames ∧ 8 + (mL + 11) + rm'.locals ≤ R.locals) (hc : vwCl[ci]? = some (C, T, N)) (ho : ∃ fs : List Value, M.2 a = some (.inr (.inr (ci, fs)))) (hn : As.length = nA) (hstk : stk = As.reverse ++ .ref a :: st) (hW8 : (st.map fun v => v.category).sum ≤ 8) (hd : decode cc pc = .ok (.invokevirtual index, 3)) (hf : k + mc ≤ R.cells ∧ n + ms ≤ R.slots) (kk : Pt X (k + mc) (n + ms) (pc + 3) M' lv st) : Pt X k n pc M lv stk := by
  intro H locs ls hH hS hh
  obtain ⟨fs, ho⟩ := ho
  subst hstk
  refine va_callv (va_runV (As := As) (rest := st) ⟨G.x, G.b, G.m, G.o, G.w⟩ hM (cwV nA G.w hg hw hrc hrs hdsc (by rw [G.r]; exact hR)) ⟨fun _ U g mk q => ⟨q.1, q.2.call⟩, va_recv (q := (C, T, N)) G.k.1 (hH.one ho) hc (q0 := 0) rfl, fun U hU hW => ⟨rfl, G.end hH hS hU hW⟩⟩ rfl hn (hh.1.trans G.n) rfl (by show 2 * 0 + _ ≤ 8; omega) hd (by rw [G.r]; exact hf)) hS (fun _ _ h => h) (fun _ h => h) (fun u t H1 locs1 ht hvm hp hB hz hk hS1 => ?_)
  exact kk H1 locs1 ls (by rw [← ht]; exact hB.1) hS1 hh
theorem pt_cSv (G : Gd X y cc Ts nL ret R) (hM : Met (xL X) y' ws' rm' (va_Pc As (Wd (xD X) (xA X) (xB X) M)) (Ev (xD X) (xA X) (xB X) M') mc ms (Ab (xB X))) (hg : GoodIn Ts (va_wsS y.cls index y' ws')) (hw : ws' = Cond.code y' by' mL rt :: ws'') (hrc : rm'.cells = mc) (hrs : rm'.slots = ms) (hdsc : y'.cls ≠ "java/lang/invoke/MethodHandle" ∧ y'.cls ≠ "java/lang/invoke/VarHandle" ∧ (parseMethodDescriptor y'.desc).map (fun d => d.parameters.length) = some nA) (hR : rm'.frames + 1 ≤ R.frames ∧ 8 + (mL + 11) + rm'.locals ≤ R.locals) (hn : As.length = nA) (hstk : stk = As.reverse ++ st) (hW8 : (st.map fun v => v.category).sum ≤ 8) (hd : decode cc pc = .ok (.invokestatic index, 3)) (hf : k + mc ≤ R.cells ∧ n + ms ≤ R.slots) (kk : Pt X (k + mc) (n + ms) (pc + 3) M' lv st) : Pt X k n pc M lv stk := by
  intro H locs ls hH hS hh
  subst hstk
  refine va_callv (va_runS (As := As) (rest := st) ⟨G.x, G.b, G.m, G.o, G.w⟩ hM (va_cwS nA G.w hg hw hrc hrs hdsc (by rw [G.r]; exact hR)) ⟨fun _ U g mk q => ⟨q.1, q.2.call⟩, fun U hU hW => ⟨rfl, G.end hH hS hU hW⟩⟩ rfl hn (hh.1.trans G.n) rfl (by show 2 * 0 + _ ≤ 8; omega) hd (by rw [G.r]; exact hf)) hS (fun _ _ h => h) (fun _ h => h) (fun u t H1 locs1 ht hvm hp hB hz hk hS1 => ?_)
  exact kk H1 locs1 ls (by rw [← ht]; exact hB.1) hS1 hh
theorem pt_cVr (G : Gd X y cc Ts nL ret R) {r : Nat} (hM : Met (xL X) y' ws' rm' (va_Pc (.ref a :: As) (Wd (xD X) (xA X) (xB X) M)) (Er (xD X) (xA X) (xB X) r M') mc ms (Ab (xB X))) (hg : GoodIn Ts (wsV y.cls index C y' ws')) (hw : ws' = Cond.code y' by' mL rt :: ws'') (hrc : rm'.cells = mc) (hrs : rm'.slots = ms) (hdsc : y'.cls = C ∧ y'.cls ≠ "java/lang/invoke/MethodHandle" ∧ y'.cls ≠ "java/lang/invoke/VarHandle" ∧ (parseMethodDescriptor y'.desc).map (fun d => d.parameters.length) = some nA) (hR : rm'.frames + 1 ≤ R.frames ∧ 8 + (mL + 11) + rm'.locals ≤ R.locals) (hc : vwCl[ci]? = some (C, T, N)) (ho : ∃ fs : List Value, M.2 a = some (.inr (.inr (ci, fs)))) (hn : As.length = nA) (hstk : stk = As.reverse ++ .ref a :: st) (hW8 : (st.map fun v => v.category).sum ≤ 8) (hd : decode cc pc = .ok (.invokevirtual index, 3)) (hf : k + mc ≤ R.cells ∧ n + ms ≤ R.slots) (kk : Pt X (k + mc) (n + ms) (pc + 3) M' lv (.ref r :: st)) : Pt X k n pc M lv stk := by
  intro H locs ls hH hS hh
  obtain ⟨fs, ho⟩ := ho
  subst hstk
  refine va_callr (va_runV (As := As) (rest := st) ⟨G.x, G.b, G.m, G.o, G.w⟩ hM (cwV nA G.w hg hw hrc hrs hdsc (by rw [G.r]; exact hR)) ⟨fun _ U g mk q => ⟨q.1, q.2.call⟩, va_recv (q := (C, T, N)) G.k.1 (hH.one ho) hc (q0 := 0) rfl, fun U hU hW => ⟨rfl, G.end hH hS hU hW⟩⟩ rfl hn (hh.1.trans G.n) rfl (by show 2 * 0 + _ ≤ 8; omega) hd (by rw [G.r]; exact hf)) hS (fun _ _ h => h) (fun _ h => h) (fun u ra t H1 locs1 ht hvm hp hB hz hk hS1 => ?_)
  have hr : ra = r := hB.1
  subst hr
  exact kk H1 locs1 ls (by rw [← ht]; exact hB.2.1) hS1 hh
theorem pt_cSr (G : Gd X y cc Ts nL ret R) {r : Nat} (hM : Met (xL X) y' ws' rm' (va_Pc As (Wd (xD X) (xA X) (xB X) M)) (Er (xD X) (xA X) (xB X) r M') mc ms (Ab (xB X))) (hg : GoodIn Ts (va_wsS y.cls index y' ws')) (hw : ws' = Cond.code y' by' mL rt :: ws'') (hrc : rm'.cells = mc) (hrs : rm'.slots = ms) (hdsc : y'.cls ≠ "java/lang/invoke/MethodHandle" ∧ y'.cls ≠ "java/lang/invoke/VarHandle" ∧ (parseMethodDescriptor y'.desc).map (fun d => d.parameters.length) = some nA) (hR : rm'.frames + 1 ≤ R.frames ∧ 8 + (mL + 11) + rm'.locals ≤ R.locals) (hn : As.length = nA) (hstk : stk = As.reverse ++ st) (hW8 : (st.map fun v => v.category).sum ≤ 8) (hd : decode cc pc = .ok (.invokestatic index, 3)) (hf : k + mc ≤ R.cells ∧ n + ms ≤ R.slots) (kk : Pt X (k + mc) (n + ms) (pc + 3) M' lv (.ref r :: st)) : Pt X k n pc M lv stk := by
  intro H locs ls hH hS hh
  subst hstk
  refine va_callr (va_runS (As := As) (rest := st) ⟨G.x, G.b, G.m, G.o, G.w⟩ hM (va_cwS nA G.w hg hw hrc hrs hdsc (by rw [G.r]; exact hR)) ⟨fun _ U g mk q => ⟨q.1, q.2.call⟩, fun U hU hW => ⟨rfl, G.end hH hS hU hW⟩⟩ rfl hn (hh.1.trans G.n) rfl (by show 2 * 0 + _ ≤ 8; omega) hd (by rw [G.r]; exact hf)) hS (fun _ _ h => h) (fun _ h => h) (fun u ra t H1 locs1 ht hvm hp hB hz hk hS1 => ?_)
  have hr : ra = r := hB.1
  subst hr
  exact kk H1 locs1 ls (by rw [← ht]; exact hB.2.1) hS1 hh
theorem pt_cI (G : Gd X y cc Ts nL ret R) (hM : Met (xL X) y' ws' rm' (va_Pc (.ref a :: As) (Wd (xD X) (xA X) (xB X) M)) (Ev (xD X) (xA X) (xB X) M') mc ms (Ab (xB X))) (hg : GoodIn Ts ws') (hw : ws' = Cond.code y' by' mL none :: ws'') (hrc : rm'.cells = mc) (hrs : rm'.slots = ms) (hini : Cond.initialized y'.cls ∈ Ts) (hl : Cond.methodLink y.cls index y' ∈ Ts) (hi : Cond.instanceMethod y' ∈ Ts) (hnm : y'.name = "<init>") (hdsc : y'.cls ≠ "java/lang/invoke/MethodHandle" ∧ y'.cls ≠ "java/lang/invoke/VarHandle" ∧ (parseMethodDescriptor y'.desc).map (fun d => d.parameters.length) = some nA) (hR : rm'.frames + 1 ≤ R.frames ∧ 8 + (mL + 11) + rm'.locals ≤ R.locals) (hn : As.length = nA) (hstk : stk = As.reverse ++ .ref a :: st) (hW8 : (st.map fun v => v.category).sum ≤ 8) (hd : decode cc pc = .ok (.invokespecial index, 3)) (hf : k + mc ≤ R.cells ∧ n + ms ≤ R.slots) (kk : Pt X (k + mc) (n + ms) (pc + 3) M' lv st) : Pt X k n pc M lv stk := by
  intro H locs ls hH hS hh
  subst hstk
  refine va_callv (va_runI (As := As) (rest := st) ⟨G.x, G.b, G.m, G.o, G.w⟩ hM (cwI nA G.w hg hw hrc hrs (G.w _ hini) (G.w _ hl) (G.w _ hi) hnm hdsc (by rw [G.r]; exact hR)) ⟨fun _ U g mk q => ⟨q.1, q.2.call⟩, fun U hU hW => ⟨rfl, G.end hH hS hU hW⟩⟩ rfl hn (hh.1.trans G.n) rfl (by show 2 * 0 + _ ≤ 8; omega) hd (by rw [G.r]; exact hf)) hS (fun _ _ h => h) (fun _ h => h) (fun u t H1 locs1 ht hvm hp hB hz hk hS1 => ?_)
  exact kk H1 locs1 ls (by rw [← ht]; exact hB.1) hS1 hh
theorem pt_cN (G : Gd X y cc Ts nL ret R) (hM : Met (xL X) y' ws' rm' (va_Pc (.ref a :: As) (Wd (xD X) (xA X) (xB X) M)) (Ev (xD X) (xA X) (xB X) M') mc ms (Ab (xB X))) (hg : GoodIn Ts ws') (hw : ws' = Cond.code y' by' mL none :: ws'') (hrc : rm'.cells = mc) (hrs : rm'.slots = ms) (hini : Cond.initialized y'.cls ∈ Ts) (hl : va_Nw (.methodLinkNest y.cls index y' "StageLines") (xS X)) (hi : Cond.instanceMethod y' ∈ Ts) (hnm : y'.name = "<init>") (hdsc : y'.cls ≠ "java/lang/invoke/MethodHandle" ∧ y'.cls ≠ "java/lang/invoke/VarHandle" ∧ (parseMethodDescriptor y'.desc).map (fun d => d.parameters.length) = some nA) (hR : rm'.frames + 1 ≤ R.frames ∧ 8 + (mL + 11) + rm'.locals ≤ R.locals) (hn : As.length = nA) (hstk : stk = As.reverse ++ .ref a :: st) (hW8 : (st.map fun v => v.category).sum ≤ 8) (hd : decode cc pc = .ok (.invokespecial index, 3)) (hf : k + mc ≤ R.cells ∧ n + ms ≤ R.slots) (kk : Pt X (k + mc) (n + ms) (pc + 3) M' lv st) : Pt X k n pc M lv stk := by
  intro H locs ls hH hS hh
  subst hstk
  refine va_callv (va_runIN (As := As) (rest := st) ⟨G.x, G.b, G.m, G.o, G.w⟩ hM ⟨va_cnB nA G.w hg hw hrc hrs hl (G.w _ hini) hdsc (by rw [G.r]; exact hR), hnm, G.w _ hi⟩ ⟨fun _ U g mk q => ⟨q.1, q.2.call⟩, fun U hU hW => ⟨rfl, G.end hH hS hU hW⟩⟩ rfl hn (hh.1.trans G.n) rfl (by show 2 * 0 + _ ≤ 8; omega) hd (by rw [G.r]; exact hf)) hS (fun _ _ h => h) (fun _ h => h) (fun u t H1 locs1 ht hvm hp hB hz hk hS1 => ?_)
  exact kk H1 locs1 ls (by rw [← ht]; exact hB.1) hS1 hh
end GC
