/-! ===== own rows: contracts over worlds whose addresses stay ===== -/
def tyL (ca : Nat → ClassId) : List (ClassId × FieldType) := [(ca 0, .int), (ca 1, .long), (ca 2, .byte), (ca 3, .boolean)]
def wU (y : MethodName) (b : ByteArray) (n : Nat) (r : Option FieldType) : List Cond := .code y b n r :: gw
def PW (D : va_G) (ca : Nat → ClassId) (ws : va_W) : State → Prop := fun U => va_P D vwCl ws U.heap ∧ va_K D vwCl (tyL ca) U
/-- it answers v, and the heap is the same -/
def QR (v : Option Value) : Array Value → State → Outcome → State → Prop := fun _ st o t => o = .returned v ∧ t.heap = st.heap
/-- it answers v, the world is ws -/
def QM (D : va_G) (v : Option Value) (ws : va_W) (A : Nat → Prop) : Array Value → State → Outcome → State → Prop := fun _ st o t => o = .returned v ∧ va_P D vwCl ws t.heap ∧ va_D A ws ∧ va_F A st t
def CR (l : Launch) (y : MethodName) (b : ByteArray) (n : Nat) (r : Option FieldType) (rm : Room) (av : List Value) (D : va_G) (ca : Nat → ClassId) (ws : va_W) (v : Option Value) : Prop :=
  Met l y (wU y b n r) rm (va_Pc av (PW D ca ws)) (QR v) 0 0 (fun _ => False)
def CM (l : Launch) (y : MethodName) (b : ByteArray) (n : Nat) (r : Option FieldType) (rm : Room) (av : List Value) (D : va_G) (ca : Nat → ClassId) (A : Nat → Prop) (ws : va_W) (v : Option Value) (ws' : va_W) : Prop :=
  Met l y (wU y b n r) rm (va_Pc av (PW D ca ws)) (QM D v ws' A) 0 0 A
/-- the world of a method under way -/
def Wd (D : va_G) (A : Nat → Prop) (H0 : Heap) (ws : va_W) (H : Heap) (locs : List Loc) : Prop := va_P D vwCl ws H ∧ va_D A ws ∧ va_S A H0 H locs
theorem PW_blind {av : List Value} {D : va_G} {ca : Nat → ClassId} {ws : va_W} : FrameBlind (va_Pc av (PW D ca ws)) := fun a U g mk q => ⟨q.1, q.2.1, va_K.moved (u := U) (U := U.calling g mk a) (Vm.Alike.refl U.vm) q.2.2⟩
theorem u_htg {y : MethodName} {b : ByteArray} {n : Nat} {r : Option FieldType} {args : Array Value} {s : State} (h : (allAtoms (wU y b n r)).before args s = true) : ∀ w ∈ gw, w.before args s = true :=
  fun w hw => atoms_spec (ws := wU y b n r) h w (List.mem_cons_of_mem _ hw)
theorem gw_word {w : Cond} (h : w ∈ gw) : goodWord w = true := (List.mem_filter.mp h).2
section U1
variable {p : Program} {l : Launch} {e : Env} {R : Room} {s : State} {m : MethodId} {args : Array Value} {below : List Frame} {meth : Method} {c : Code} {H : Heap} {locs : List Loc} {cells slots : Nat} {Q : State → Prop}
variable {y : MethodName} {b cc : ByteArray} {n nL k index : Nat} {r : Option FieldType} {rm : Room} {av : List Value} {D : va_G} {ca : Nat → ClassId} {A : Nat → Prop} {ws ws' : va_W} {v : Option Value} {own C : String} {pc : Nat} {ls : Array Slot} {rest : List Value} {H0 : Heap}
theorem u_cb {rc rs : Nat} (htg : ∀ w ∈ gw, w.before args s = true) (hcode : Cond.code y b n r ∈ gw) (hlink : Cond.methodLink own index y ∈ gw) (hini : Cond.initialized y.cls ∈ gw)
    (hd : y.cls ≠ "java/lang/invoke/MethodHandle" ∧ y.cls ≠ "java/lang/invoke/VarHandle" ∧ (parseMethodDescriptor y.desc).map (fun d => d.parameters.length) = some k) (hR : rm.frames + 1 ≤ R.frames ∧ 8 + (n + 11) + rm.locals ≤ R.locals) (hrc : rm.cells = rc) (hrs : rm.slots = rs) :
    CallB R s args own index y b n r (wU y b n r) rm rc rs k := by
  have hw : ∀ w ∈ wU y b n r, w ∈ gw := fun w h => (List.mem_cons.mp h).elim (fun q => by rw [q]; exact hcode) id
  refine ⟨hrc, hrs, hR.1, hR.2, fun w h a' U hW => word_at hW (good_of_word (gw_word (hw w h))) (htg w (hw w h)), List.mem_cons_self, htg _ hcode, htg _ hini, ⟨hd.1, hd.2.1⟩, fun sig h => ?_, htg _ hlink⟩
  have h2 := hd.2.2
  rw [h] at h2
  exact (Option.some.inj h2).symm
/-- a method's body: it reads alone -/
theorem CR_of (hy : plainName y.cls = true) (hn : (lg_sl av).length ≤ n)
    (body : ∀ (p : Program) (e : Env) (s : State) (m : MethodId) (args : Array Value) (below : List Frame) (meth : Method) (c : Code) (ls : Array Slot) (Q : State → Prop),
      p.tables.exec = Jvm.exec → c.code = b → c.maxLocals = n → s.vm.findClass y.cls = some m.cls → (∀ w ∈ gw, w.before args s = true) → va_P D vwCl ws s.heap → va_K D vwCl (tyL ca) s → lv_has ls n (lv_args 0 av) →
      (∀ g : JFrame, W p l e rm s m args below meth c s.heap [] 0 0 (MQ below (QR v) args s 0 0 (fun _ => False)) g → W p l e rm s m args below meth c s.heap [] 0 0 Q g) → meth.sig.returnType = r → meth.locks = false →
      W p l e rm s m args below meth c s.heap [] 0 0 Q (F0 m 0 ls [])) : CR l y b n r rm av D ca ws v := by
  refine Met.ofW (cc := b) (maxL := n) (ret := r) hy rfl ?_
  intro p e s m args below meth c s₁ B hml hv
  obtain ⟨rfl, hP, hK⟩ := hv
  rw [lg_entry_eq]
  exact body p e s m _ below meth c _ _ B.exec B.bytes hml (findClass_of_methodNamed B.named) (u_htg B.pre) hP hK (lv_entry av hn) (fun _ h => h) B.returns B.notSynchronized
/-- a method's body: it reads alone (of a class that has entries) -/
theorem CR_ofF (hy : plainFor y = true) (hn : (lg_sl av).length ≤ n)
    (body : ∀ (p : Program) (e : Env) (s : State) (m : MethodId) (args : Array Value) (below : List Frame) (meth : Method) (c : Code) (ls : Array Slot) (Q : State → Prop),
      p.tables.exec = Jvm.exec → c.code = b → c.maxLocals = n → s.vm.findClass y.cls = some m.cls → (∀ w ∈ gw, w.before args s = true) → va_P D vwCl ws s.heap → va_K D vwCl (tyL ca) s → lv_has ls n (lv_args 0 av) →
      (∀ g : JFrame, W p l e rm s m args below meth c s.heap [] 0 0 (MQ below (QR v) args s 0 0 (fun _ => False)) g → W p l e rm s m args below meth c s.heap [] 0 0 Q g) → meth.sig.returnType = r → meth.locks = false →
      W p l e rm s m args below meth c s.heap [] 0 0 Q (F0 m 0 ls [])) : CR l y b n r rm av D ca ws v := by
  refine va_MetF (cc := b) (maxL := n) (ret := r) hy rfl ?_
  intro p e s m args below meth c s₁ B hml hv
  obtain ⟨rfl, hP, hK⟩ := hv
  rw [lg_entry_eq]
  exact body p e s m _ below meth c _ _ B.exec B.bytes hml (findClass_of_methodNamed B.named) (u_htg B.pre) hP hK (lv_entry av hn) (fun _ h => h) B.returns B.notSynchronized
/-- a method's body: it may write -/
theorem CM_of (hy : plainName y.cls = true) (hn : (lg_sl av).length ≤ n) (hD : va_D A ws)
    (body : ∀ (p : Program) (e : Env) (s : State) (m : MethodId) (args : Array Value) (below : List Frame) (meth : Method) (c : Code) (ls : Array Slot) (Q : State → Prop),
      p.tables.exec = Jvm.exec → c.code = b → c.maxLocals = n → s.vm.findClass y.cls = some m.cls → (∀ w ∈ gw, w.before args s = true) → Wd D A s.heap ws s.heap [] → va_K D vwCl (tyL ca) s → lv_has ls n (lv_args 0 av) →
      (∀ (H : Heap) (locs : List Loc) (g : JFrame), W p l e rm s m args below meth c H locs 0 0 (MQ below (QM D v ws' A) args s 0 0 A) g → W p l e rm s m args below meth c H locs 0 0 Q g) → meth.sig.returnType = r → meth.locks = false →
      W p l e rm s m args below meth c s.heap [] 0 0 Q (F0 m 0 ls [])) : CM l y b n r rm av D ca A ws v ws' := by
  refine Met.ofW (cc := b) (maxL := n) (ret := r) hy rfl ?_
  intro p e s m args below meth c s₁ B hml hv
  obtain ⟨rfl, hP, hK⟩ := hv
  rw [lg_entry_eq]
  exact body p e s m _ below meth c _ _ B.exec B.bytes hml (findClass_of_methodNamed B.named) (u_htg B.pre) ⟨hP, hD, va_S.rf⟩ hK (lv_entry av hn) (fun _ _ _ h => h) B.returns B.notSynchronized
-- returns
theorem ret_i {x : Int32} (hQ : ∀ g : JFrame, W p l e R s m args below meth c s.heap [] 0 0 (MQ below (QR v) args s 0 0 (fun _ => False)) g → W p l e R s m args below meth c s.heap [] 0 0 Q g)
    (hx : p.tables.exec = Jvm.exec) (hb : c.code = cc) (hr : meth.sig.returnType = some .int) (hk : meth.locks = false) (hd : decode cc pc = .ok (.ireturn, 1)) (hv : v = some (.int x)) : W p l e R s m args below meth c s.heap [] 0 0 Q (F0 m pc ls [.int x]) :=
  hQ _ (W.iret hx hb hr (fun t ht _ => ⟨by rw [hv], ht⟩) (fun q h => by cases h) hd hk)
theorem ret_z {x : Int32} (hQ : ∀ g : JFrame, W p l e R s m args below meth c s.heap [] 0 0 (MQ below (QR v) args s 0 0 (fun _ => False)) g → W p l e R s m args below meth c s.heap [] 0 0 Q g)
    (hx : p.tables.exec = Jvm.exec) (hb : c.code = cc) (hr : meth.sig.returnType = some .boolean) (hk : meth.locks = false) (hd : decode cc pc = .ok (.ireturn, 1)) (hv : v = some (.int x)) (hn : narrow .boolean (.int x) = .int x) : W p l e R s m args below meth c s.heap [] 0 0 Q (F0 m pc ls [.int x]) :=
  hQ _ (W.zret hx hb hr hn (fun t ht _ => ⟨by rw [hv], ht⟩) (fun q h => by cases h) hd hk)
theorem ret_v (hQ : ∀ g : JFrame, W p l e R s m args below meth c s.heap [] 0 0 (MQ below (QR v) args s 0 0 (fun _ => False)) g → W p l e R s m args below meth c s.heap [] 0 0 Q g)
    (hx : p.tables.exec = Jvm.exec) (hb : c.code = cc) (hr : meth.sig.returnType = none) (hk : meth.locks = false) (hd : decode cc pc = .ok (.return_, 1)) (hv : v = none) : W p l e R s m args below meth c s.heap [] 0 0 Q (F0 m pc ls []) :=
  hQ _ (W.vret hx hb hr (fun t ht _ => ⟨by rw [hv], ht⟩) (fun q h => by cases h) hd hk)
theorem retm_i {x : Int32} (hQ : ∀ (H : Heap) (locs : List Loc) (g : JFrame), W p l e R s m args below meth c H locs 0 0 (MQ below (QM D v ws' A) args s 0 0 A) g → W p l e R s m args below meth c H locs 0 0 Q g)
    (hx : p.tables.exec = Jvm.exec) (hb : c.code = cc) (hr : meth.sig.returnType = some .int) (hk : meth.locks = false) (hd : decode cc pc = .ok (.ireturn, 1)) (hv : v = some (.int x)) (hw : Wd D A s.heap ws' H locs) : W p l e R s m args below meth c H locs 0 0 Q (F0 m pc ls [.int x]) :=
  hQ _ _ _ (W.iret hx hb hr (fun t ht _ => ⟨by rw [hv], by rw [ht]; exact hw.1, hw.2.1, hw.2.2.F ht⟩) hw.2.2.2.2 hd hk)
theorem retm_z {x : Int32} (hQ : ∀ (H : Heap) (locs : List Loc) (g : JFrame), W p l e R s m args below meth c H locs 0 0 (MQ below (QM D v ws' A) args s 0 0 A) g → W p l e R s m args below meth c H locs 0 0 Q g)
    (hx : p.tables.exec = Jvm.exec) (hb : c.code = cc) (hr : meth.sig.returnType = some .boolean) (hk : meth.locks = false) (hd : decode cc pc = .ok (.ireturn, 1)) (hv : v = some (.int x)) (hw : Wd D A s.heap ws' H locs) (hn : narrow .boolean (.int x) = .int x) : W p l e R s m args below meth c H locs 0 0 Q (F0 m pc ls [.int x]) :=
  hQ _ _ _ (W.zret hx hb hr hn (fun t ht _ => ⟨by rw [hv], by rw [ht]; exact hw.1, hw.2.1, hw.2.2.F ht⟩) hw.2.2.2.2 hd hk)
theorem retm_v (hQ : ∀ (H : Heap) (locs : List Loc) (g : JFrame), W p l e R s m args below meth c H locs 0 0 (MQ below (QM D v ws' A) args s 0 0 A) g → W p l e R s m args below meth c H locs 0 0 Q g)
    (hx : p.tables.exec = Jvm.exec) (hb : c.code = cc) (hr : meth.sig.returnType = none) (hk : meth.locks = false) (hd : decode cc pc = .ok (.return_, 1)) (hv : v = none) (hw : Wd D A s.heap ws' H locs) : W p l e R s m args below meth c H locs 0 0 Q (F0 m pc ls []) :=
  hQ _ _ _ (W.vret hx hb hr (fun t ht _ => ⟨by rw [hv], by rw [ht]; exact hw.1, hw.2.1, hw.2.2.F ht⟩) hw.2.2.2.2 hd hk)
-- calls
abbrev Fx (p : Program) (m : MethodId) (c : Code) (cc : ByteArray) (nL : Nat) (s : State) (args : Array Value) (own : String) : Prop := CallFix p m c cc nL s args gw own
theorem k_stop {st0 : List Value} {a : Array Value} (hr : va_Run p l e R s m args below meth c H locs cells slots 0 0 (F0 m pc ls st0) rest (QR v a) (fun _ => False))
    (kk : W p l e R s m args below meth c H locs cells slots Q (F0 m (pc + 3) ls (v.toList ++ rest))) : W p l e R s m args below meth c H locs cells slots Q (F0 m pc ls st0) := by
  intro T hT X
  obtain ⟨v', st₀, t, T', L, h0, X', hL, e1, -, ⟨hv, hh⟩, st⟩ := hr T hT X
  cases hv
  obtain ⟨t2, a1, b1⟩ := kk T' (by rw [e1, hh, h0]) (Stand.forget X' (fun q h => (hL q h).elim))
  exact ⟨t2, st t2 a1, b1⟩
theorem k_stopM {st0 : List Value} {a : Array Value} (hr : va_Run p l e R s m args below meth c H locs cells slots 0 0 (F0 m pc ls st0) rest (QM D v ws' A a) A) (hS : va_S A H0 H locs)
    (kk : ∀ (H1 : Heap) (locs1 : List Loc), Wd D A H0 ws' H1 locs1 → W p l e R s m args below meth c H1 locs1 cells slots Q (F0 m (pc + 3) ls (v.toList ++ rest))) : W p l e R s m args below meth c H locs cells slots Q (F0 m pc ls st0) := by
  intro T hT X
  obtain ⟨v', st₀, t, T', L, h0, X', hL, e1, e2, ⟨hv, hP, hD, hz, hk⟩, st⟩ := hr T hT X
  cases hv
  rw [h0] at hz hk
  obtain ⟨t2, a1, b1⟩ := kk T'.heap (locs ++ L) ⟨by rw [e1]; exact hP, hD, Nat.le_trans hS.1 (by rw [e1]; exact hz), fun q h1 h2 => by rw [e1, hk q (Nat.lt_of_lt_of_le h1 hS.1) h2]; exact hS.2.1 q h1 h2, fun q hq => by
      rcases List.mem_append.mp hq with h | h
      · exact hS.2.2 q h
      · exact hL q h⟩ T' rfl X'
  exact ⟨t2, st t2 a1, b1⟩
/-- a static call that reads alone; one that writes; an instance's -/
theorem k_SR (S : Fx p m c cc nL s args own) (hM : CR l y b n r rm av D ca ws v) (hcode : Cond.code y b n r ∈ gw) (hlink : Cond.methodLink own index y ∈ gw) (hini : Cond.initialized y.cls ∈ gw) (hst : Cond.static y ∈ gw)
    (hd : y.cls ≠ "java/lang/invoke/MethodHandle" ∧ y.cls ≠ "java/lang/invoke/VarHandle" ∧ (parseMethodDescriptor y.desc).map (fun d => d.parameters.length) = some av.length) (hR : rm.frames + 1 ≤ R.frames ∧ 8 + (n + 11) + rm.locals ≤ R.locals) (hrc : rm.cells = 0) (hrs : rm.slots = 0)
    (hK : va_K D vwCl (tyL ca) s) (hP : va_P D vwCl ws H) {st0 : List Value} (hl : ls.size = nL) (hs : st0 = av.reverse ++ rest) (hW : (rest.map fun v => v.category).sum ≤ 8) (hdg : decode cc pc = .ok (.invokestatic index, 3)) (hf : cells ≤ R.cells ∧ slots ≤ R.slots) {st1 : List Value} (hs1 : v.toList ++ rest = st1)
    (kk : W p l e R s m args below meth c H locs cells slots Q (F0 m (pc + 3) ls st1)) : W p l e R s m args below meth c H locs cells slots Q (F0 m pc ls st0) :=
  k_stop (va_runS (As := av) (rest := rest) (g := F0 m pc ls st0) S hM ⟨u_cb S.2.2.2.2 hcode hlink hini hd hR hrc hrs, S.2.2.2.2 _ hst⟩ ⟨PW_blind, fun U hU hW9 => ⟨rfl, by rw [hU]; exact hP, va_K.moved hW9.alike hK⟩⟩ rfl rfl hl hs (lv_room hW) hdg hf) (by rw [hs1]; exact kk)
theorem k_SM (S : Fx p m c cc nL s args own) (hM : CM l y b n r rm av D ca A ws v ws') (hcode : Cond.code y b n r ∈ gw) (hlink : Cond.methodLink own index y ∈ gw) (hini : Cond.initialized y.cls ∈ gw) (hst : Cond.static y ∈ gw)
    (hd : y.cls ≠ "java/lang/invoke/MethodHandle" ∧ y.cls ≠ "java/lang/invoke/VarHandle" ∧ (parseMethodDescriptor y.desc).map (fun d => d.parameters.length) = some av.length) (hR : rm.frames + 1 ≤ R.frames ∧ 8 + (n + 11) + rm.locals ≤ R.locals) (hrc : rm.cells = 0) (hrs : rm.slots = 0)
    (hK : va_K D vwCl (tyL ca) s) (hw : Wd D A H0 ws H locs) {st0 : List Value} (hl : ls.size = nL) (hs : st0 = av.reverse ++ rest) (hW : (rest.map fun v => v.category).sum ≤ 8) (hdg : decode cc pc = .ok (.invokestatic index, 3)) (hf : cells ≤ R.cells ∧ slots ≤ R.slots) {st1 : List Value} (hs1 : v.toList ++ rest = st1)
    (kk : ∀ (H1 : Heap) (locs1 : List Loc), Wd D A H0 ws' H1 locs1 → W p l e R s m args below meth c H1 locs1 cells slots Q (F0 m (pc + 3) ls st1)) : W p l e R s m args below meth c H locs cells slots Q (F0 m pc ls st0) :=
  k_stopM (va_runS (As := av) (rest := rest) (g := F0 m pc ls st0) S hM ⟨u_cb S.2.2.2.2 hcode hlink hini hd hR hrc hrs, S.2.2.2.2 _ hst⟩ ⟨PW_blind, fun U hU hW9 => ⟨rfl, by rw [hU]; exact hw.1, va_K.moved hW9.alike hK⟩⟩ rfl rfl hl hs (lv_room hW) hdg hf) hw.2.2 (by rw [hs1]; exact kk)
theorem k_recv {ci q0 a : Nat} {fs : List Value} {T : u_T} {N : Nat} (hK : va_K D vwCl (tyL ca) s) (hP : va_P D vwCl ws H) (he : ws[q0]? = some (a, .inr (ci, fs))) (hc : vwCl[ci]? = some (C, T, N)) : ∃ cellB : Cell, H[a]? = some cellB ∧ cellB.vm.isStatics = false ∧ s.vm.findClass C = some cellB.cls :=
  by have h := va_recv hK hP hc he; exact h
theorem k_VR {q0 ci a : Nat} {fs : List Value} {T : u_T} {N : Nat} (S : Fx p m c cc nL s args own) (hM : CR l y b n r rm (.ref a :: av) D ca ws v) (hcode : Cond.code y b n r ∈ gw) (hlink : Cond.methodLink own index y ∈ gw) (hini : Cond.initialized y.cls ∈ gw) (hin : Cond.instanceMethod y ∈ gw) (hse : Cond.selects y.cls y y ∈ gw)
    (hd : y.cls ≠ "java/lang/invoke/MethodHandle" ∧ y.cls ≠ "java/lang/invoke/VarHandle" ∧ (parseMethodDescriptor y.desc).map (fun d => d.parameters.length) = some av.length) (hR : rm.frames + 1 ≤ R.frames ∧ 8 + (n + 11) + rm.locals ≤ R.locals) (hrc : rm.cells = 0) (hrs : rm.slots = 0)
    (hK : va_K D vwCl (tyL ca) s) (hP : va_P D vwCl ws H) (he : ws[q0]? = some (a, .inr (ci, fs))) (hc : vwCl[ci]? = some (y.cls, T, N)) {st0 : List Value} (hl : ls.size = nL) (hs : st0 = av.reverse ++ .ref a :: rest) (hW : (rest.map fun v => v.category).sum ≤ 8) (hdg : decode cc pc = .ok (.invokevirtual index, 3)) (hf : cells ≤ R.cells ∧ slots ≤ R.slots) {st1 : List Value} (hs1 : v.toList ++ rest = st1)
    (kk : W p l e R s m args below meth c H locs cells slots Q (F0 m (pc + 3) ls st1)) : W p l e R s m args below meth c H locs cells slots Q (F0 m pc ls st0) :=
  k_stop (va_runV (As := av) (rest := rest) (b := a) (g := F0 m pc ls st0) S hM ⟨u_cb S.2.2.2.2 hcode hlink hini hd hR hrc hrs, S.2.2.2.2 _ hin, S.2.2.2.2 _ hse⟩ ⟨PW_blind, k_recv hK hP he hc, fun U hU hW9 => ⟨rfl, by rw [hU]; exact hP, va_K.moved hW9.alike hK⟩⟩ rfl rfl hl hs (lv_room hW) hdg hf) (by rw [hs1]; exact kk)
theorem k_VM {q0 ci a : Nat} {fs : List Value} {T : u_T} {N : Nat} (S : Fx p m c cc nL s args own) (hM : CM l y b n r rm (.ref a :: av) D ca A ws v ws') (hcode : Cond.code y b n r ∈ gw) (hlink : Cond.methodLink own index y ∈ gw) (hini : Cond.initialized y.cls ∈ gw) (hin : Cond.instanceMethod y ∈ gw) (hse : Cond.selects y.cls y y ∈ gw)
    (hd : y.cls ≠ "java/lang/invoke/MethodHandle" ∧ y.cls ≠ "java/lang/invoke/VarHandle" ∧ (parseMethodDescriptor y.desc).map (fun d => d.parameters.length) = some av.length) (hR : rm.frames + 1 ≤ R.frames ∧ 8 + (n + 11) + rm.locals ≤ R.locals) (hrc : rm.cells = 0) (hrs : rm.slots = 0)
    (hK : va_K D vwCl (tyL ca) s) (hw : Wd D A H0 ws H locs) (he : ws[q0]? = some (a, .inr (ci, fs))) (hc : vwCl[ci]? = some (y.cls, T, N)) {st0 : List Value} (hl : ls.size = nL) (hs : st0 = av.reverse ++ .ref a :: rest) (hW : (rest.map fun v => v.category).sum ≤ 8) (hdg : decode cc pc = .ok (.invokevirtual index, 3)) (hf : cells ≤ R.cells ∧ slots ≤ R.slots) {st1 : List Value} (hs1 : v.toList ++ rest = st1)
    (kk : ∀ (H1 : Heap) (locs1 : List Loc), Wd D A H0 ws' H1 locs1 → W p l e R s m args below meth c H1 locs1 cells slots Q (F0 m (pc + 3) ls st1)) : W p l e R s m args below meth c H locs cells slots Q (F0 m pc ls st0) :=
  k_stopM (va_runV (As := av) (rest := rest) (b := a) (g := F0 m pc ls st0) S hM ⟨u_cb S.2.2.2.2 hcode hlink hini hd hR hrc hrs, S.2.2.2.2 _ hin, S.2.2.2.2 _ hse⟩ ⟨PW_blind, k_recv hK hw.1 he hc, fun U hU hW9 => ⟨rfl, by rw [hU]; exact hw.1, va_K.moved hW9.alike hK⟩⟩ rfl rfl hl hs (lv_room hW) hdg hf) hw.2.2 (by rw [hs1]; exact kk)
theorem P_nil : va_P D vwCl [] H := fun k q h => by simp at h
-- fields and arrays
theorem r_get {C : String} {T : u_T} {N ci : Nat} (hx : p.tables.exec = Jvm.exec) (hb : c.code = cc) (htg : ∀ w ∈ gw, w.before args s = true) (hin : ∀ w ∈ u_ws C T N, w ∈ gw) (hown : s.vm.findClass own = some m.cls) (hK : va_K D vwCl (tyL ca) s) (hP : va_P D vwCl ws H) (q0 : Nat) {a : Nat} {fs : List Value} (he : ws[q0]? = some (a, .inr (ci, fs))) (hc : vwCl[ci]? = some (C, T, N)) (k : Nat) (hk : k < N)
    (hlink : Cond.fieldLink own index (T k).1 (T k).2.1 (T k).2.2.1 ∈ gw) {v : Value} (hv : fs[k]? = some v) (hdg : decode cc pc = .ok (.getfield index, 3))
    (kk : W p l e R s m args below meth c H locs cells slots Q (F0 m (pc + 3) ls (v :: rest))) : W p l e R s m args below meth c H locs cells slots Q (F0 m pc ls (.ref a :: rest)) :=
  va_get hx hb htg hin hown hK hP q0 he hc k hk (htg _ hlink) (fun _ h => h) hv hdg kk
theorem r_put {C : String} {T : u_T} {N ci : Nat} (hx : p.tables.exec = Jvm.exec) (hb : c.code = cc) (htg : ∀ w ∈ gw, w.before args s = true) (hin : ∀ w ∈ u_ws C T N, w ∈ gw) (ty0 : Nat → FieldType) (hty : ∀ k, k < N → parseFieldDescriptor (T k).2.2.1 = some (ty0 k)) (hnm : ∀ a, a < N → ∀ b, b < N → a ≠ b → (T a).2.1 ≠ (T b).2.1) (hown : s.vm.findClass own = some m.cls) (hK : va_K D vwCl (tyL ca) s) (hw : Wd D A H0 ws H locs) (q0 : Nat) {a : Nat} {fs : List Value} (he : ws[q0]? = some (a, .inr (ci, fs))) (hc : vwCl[ci]? = some (C, T, N)) (k : Nat) (hk : k < N)
    (hlink : Cond.fieldLink own index (T k).1 (T k).2.1 (T k).2.2.1 ∈ gw) (hfin : (T k).2.2.2 = false) {v : Value} (hn : narrow (ty0 k) v = v) (hfit : fits (ty0 k) v = true) (hl : k < fs.length) (hdg : decode cc pc = .ok (.putfield index, 3)) (heq : ws.set q0 (a, .inr (ci, fs.set k v)) = ws')
    (kk : ∀ (H1 : Heap) (locs1 : List Loc), Wd D A H0 ws' H1 locs1 → W p l e R s m args below meth c H1 locs1 cells slots Q (F0 m (pc + 3) ls rest)) : W p l e R s m args below meth c H locs cells slots Q (F0 m pc ls (v :: .ref a :: rest)) := by
  subst heq
  exact va_put hx hb htg hin ty0 hty hnm hown hK hw.1 hw.2.1 hw.2.2 q0 he hc k hk (htg _ hlink) (fun _ h => h) hfin (hty k hk) hn hfit hl hdg (fun H1 locs1 h1 h2 h3 => kk H1 locs1 ⟨h1, h2, h3⟩)
theorem r_iast {cA : ClassId} {nn : Nat} {f : Nat → Int32} {i x : Int32} {ws'' : (Nat → Int32) → va_W} (hx : p.tables.exec = Jvm.exec) (hb : c.code = cc) (hK : va_K D vwCl (tyL ca) s) (hw : Wd D A H0 ws H locs) (q0 : Nat) {a : Nat} (ha : ws[q0]? = some (a, .inl (cA, nn, .inl f))) (ht : (tyL ca)[0]? = some (cA, .int)) (hin : vp_in i nn) (hdg : decode cc pc = .ok (.iastore, 1)) (heq : ∀ g, ws.set q0 (a, .inl (cA, nn, .inl g)) = ws'' g)
    (kk : ∀ (g : Nat → Int32) (H1 : Heap) (locs1 : List Loc), g = upd f i.toNatClampNeg x → Wd D A H0 (ws'' g) H1 locs1 → W p l e R s m args below meth c H1 locs1 cells slots Q (F0 m (pc + 1) ls rest)) : W p l e R s m args below meth c H locs cells slots Q (F0 m pc ls (.int x :: .int i :: .ref a :: rest)) :=
  va_iast hx hb hK hw.1 hw.2.1 hw.2.2 q0 0 ha ht hin hdg (fun H1 locs1 h1 h2 h3 => kk _ H1 locs1 rfl (by rw [← heq]; exact ⟨h1, h2, h3⟩))
theorem r_bast {cA : ClassId} {nn : Nat} {f : Nat → Int32} {i x : Int32} {ws'' : (Nat → Int32) → va_W} (hx : p.tables.exec = Jvm.exec) (hb : c.code = cc) (hK : va_K D vwCl (tyL ca) s) (hw : Wd D A H0 ws H locs) (q0 : Nat) {a : Nat} (ha : ws[q0]? = some (a, .inl (cA, nn, .inl f))) (ht : (tyL ca)[2]? = some (cA, .byte)) (hin : vp_in i nn) (hdg : decode cc pc = .ok (.bastore, 1)) (heq : ∀ g, ws.set q0 (a, .inl (cA, nn, .inl g)) = ws'' g)
    (kk : ∀ (g : Nat → Int32) (H1 : Heap) (locs1 : List Loc), g = upd f i.toNatClampNeg (vp_nar .byte x) → Wd D A H0 (ws'' g) H1 locs1 → W p l e R s m args below meth c H1 locs1 cells slots Q (F0 m (pc + 1) ls rest)) : W p l e R s m args below meth c H locs cells slots Q (F0 m pc ls (.int x :: .int i :: .ref a :: rest)) :=
  va_bast hx hb hK hw.1 hw.2.1 hw.2.2 q0 2 ha ht hin hdg (fun H1 locs1 h1 h2 h3 => kk _ H1 locs1 rfl (by rw [← heq]; exact ⟨h1, h2, h3⟩))
theorem r_zast {cA : ClassId} {nn : Nat} {f : Nat → Int32} {i x : Int32} {ws'' : (Nat → Int32) → va_W} (hx : p.tables.exec = Jvm.exec) (hb : c.code = cc) (hK : va_K D vwCl (tyL ca) s) (hw : Wd D A H0 ws H locs) (q0 : Nat) {a : Nat} (ha : ws[q0]? = some (a, .inl (cA, nn, .inl f))) (ht : (tyL ca)[3]? = some (cA, .boolean)) (hin : vp_in i nn) (hdg : decode cc pc = .ok (.bastore, 1)) (heq : ∀ g, ws.set q0 (a, .inl (cA, nn, .inl g)) = ws'' g)
    (kk : ∀ (g : Nat → Int32) (H1 : Heap) (locs1 : List Loc), g = upd f i.toNatClampNeg (vp_nar .boolean x) → Wd D A H0 (ws'' g) H1 locs1 → W p l e R s m args below meth c H1 locs1 cells slots Q (F0 m (pc + 1) ls rest)) : W p l e R s m args below meth c H locs cells slots Q (F0 m pc ls (.int x :: .int i :: .ref a :: rest)) :=
  va_zast hx hb hK hw.1 hw.2.1 hw.2.2 q0 3 ha ht hin hdg (fun H1 locs1 h1 h2 h3 => kk _ H1 locs1 rfl (by rw [← heq]; exact ⟨h1, h2, h3⟩))
theorem r_last {cA : ClassId} {nn : Nat} {f : Nat → Int64} {i : Int32} {x : Int64} {ws'' : (Nat → Int64) → va_W} (hx : p.tables.exec = Jvm.exec) (hb : c.code = cc) (hK : va_K D vwCl (tyL ca) s) (hw : Wd D A H0 ws H locs) (q0 : Nat) {a : Nat} (ha : ws[q0]? = some (a, .inl (cA, nn, .inr (.inl f)))) (ht : (tyL ca)[1]? = some (cA, .long)) (hin : vp_in i nn) (hdg : decode cc pc = .ok (.lastore, 1)) (heq : ∀ g, ws.set q0 (a, .inl (cA, nn, .inr (.inl g))) = ws'' g)
    (kk : ∀ (g : Nat → Int64) (H1 : Heap) (locs1 : List Loc), g = vp_updL f i.toNatClampNeg x → Wd D A H0 (ws'' g) H1 locs1 → W p l e R s m args below meth c H1 locs1 cells slots Q (F0 m (pc + 1) ls rest)) : W p l e R s m args below meth c H locs cells slots Q (F0 m pc ls (.long x :: .int i :: .ref a :: rest)) :=
  va_last hx hb hK hw.1 hw.2.1 hw.2.2 q0 1 ha ht hin hdg (fun H1 locs1 h1 h2 h3 => kk _ H1 locs1 rfl (by rw [← heq]; exact ⟨h1, h2, h3⟩))
end U1
theorem nar_z {x : Int32} (h : x = 0 ∨ x = 1) : narrow .boolean (.int x) = .int x := by rcases h with h | h <;> (subst h; rfl)
/-! ===== own words for the functions that the methods are ===== -/
/-- a value gets a name -/
def nm {α β : Type} (a : α) (k : α → β) : β := k a
theorem nm_at {α β : Type} {a x : α} {k : α → β} {r : β} (hx : x = a) (h : nm a k = r) : k x = r := by subst hx; exact h
def bnd {α β : Type} (o : Option α) (k : α → Option β) : Option β := match o with
  | none => none
  | some a => k a
theorem bnd_some {α β : Type} {o : Option α} {k : α → Option β} {r : β} (h : bnd o k = some r) : ∃ a, o = some a ∧ k a = some r := by
  cases o with
  | none => cases h
  | some a => exact ⟨a, rfl, h⟩
theorem bnd_eq {α β : Type} {o : Option α} {k : α → Option β} {a : α} (h : o = some a) : bnd o k = k a := by rw [h]; rfl
/-- an index is looked at -/
def chk {β : Type} (i : Int32) (n : Nat) (k : Option β) : Option β := if i < 0 ∨ n ≤ i.toNatClampNeg then none else k
theorem chk_some {β : Type} {i : Int32} {n : Nat} {k : Option β} {r : β} (h : chk i n k = some r) : vp_in i n ∧ k = some r := by
  unfold chk at h
  by_cases q : i < 0 ∨ n ≤ i.toNatClampNeg
  · rw [if_pos q] at h; cases h
  · rw [if_neg q] at h; exact ⟨q, h⟩
theorem chk_eq {β : Type} {i : Int32} {n : Nat} {k : Option β} (h : vp_in i n) : chk i n k = k := if_neg h
/-- a condition is looked at -/
def gd {β : Type} (b : Bool) (k : Option β) : Option β := match b with
  | true => k
  | false => none
theorem gd_some {β : Type} {b : Bool} {k : Option β} {r : β} (h : gd b k = some r) : b = true ∧ k = some r := by
  cases b with
  | true => exact ⟨rfl, h⟩
  | false => cases h
theorem gd_eq {β : Type} {b : Bool} {k : Option β} (h : b = true) : gd b k = k := by rw [h]; rfl
/-- a loop: a step goes on (inl) or ends it (inr) -/
def itr {σ ρ : Type} (f : σ → Option (σ ⊕ ρ)) : Nat → σ → Option ρ
  | 0, _ => none
  | n + 1, s => match f s with
    | none => none
    | some (.inl s') => itr f n s'
    | some (.inr r) => some r
theorem itr_s {σ ρ : Type} {f : σ → Option (σ ⊕ ρ)} {n : Nat} {s : σ} {r : ρ} (h : itr f (n + 1) s = some r) : ∃ o, f s = some o ∧ (∀ s', o = .inl s' → itr f n s' = some r) ∧ (∀ q, o = .inr q → q = r) := by
  unfold itr at h
  cases hf : f s with
  | none => rw [hf] at h; cases h
  | some o =>
    rw [hf] at h
    refine ⟨o, rfl, fun s' e => ?_, fun q e => ?_⟩
    · subst e; exact h
    · subst e; exact Option.some.inj h
theorem itr_mono {σ ρ : Type} {f : σ → Option (σ ⊕ ρ)} {n : Nat} : ∀ {s : σ} {r : ρ}, itr f n s = some r → ∀ k, itr f (n + k) s = some r := by
  induction n with
  | zero => intro s r h; cases h
  | succ n ih =>
    intro s r h k
    rw [show n + 1 + k = (n + k) + 1 by omega]
    unfold itr at h ⊢
    cases hf : f s with
    | none => rw [hf] at h; cases h
    | some o =>
      rw [hf] at h
      cases o with
      | inl s' => exact ih h k
      | inr q => exact h
theorem itr_det {σ ρ : Type} {f : σ → Option (σ ⊕ ρ)} {n m : Nat} {s : σ} {r q : ρ} (h : itr f n s = some r) (g : itr f m s = some q) : r = q := by
  have h1 := itr_mono h m
  have h2 := itr_mono g n
  rw [show m + n = n + m by omega] at h2
  exact Option.some.inj (h1.symm.trans h2)
noncomputable def lp {σ ρ : Type} (f : σ → Option (σ ⊕ ρ)) (s : σ) : Option ρ := @dite _ (∃ q : Nat × ρ, itr f q.1 s = some q.2) (Classical.propDecidable _) (fun h => some h.choose.2) (fun _ => none)
theorem lp_of {σ ρ : Type} {f : σ → Option (σ ⊕ ρ)} {n : Nat} {s : σ} {r : ρ} (h : itr f n s = some r) : lp f s = some r := by
  have e : ∃ q : Nat × ρ, itr f q.1 s = some q.2 := ⟨(n, r), h⟩
  unfold lp
  rw [dif_pos e]
  exact congrArg some (itr_det e.choose_spec h)
theorem lp_some {σ ρ : Type} {f : σ → Option (σ ⊕ ρ)} {s : σ} {r : ρ} (h : lp f s = some r) : ∃ n, itr f n s = some r := by
  unfold lp at h
  by_cases e : ∃ q : Nat × ρ, itr f q.1 s = some q.2
  · rw [dif_pos e] at h
    exact ⟨e.choose.1, by rw [e.choose_spec]; exact h⟩
  · rw [dif_neg e] at h
    cases h
theorem lp_exit {σ ρ : Type} {f : σ → Option (σ ⊕ ρ)} {s : σ} {r : ρ} (h : f s = some (.inr r)) : lp f s = some r := lp_of (n := 1) (by unfold itr; rw [h])
theorem lp_go {σ ρ : Type} {f : σ → Option (σ ⊕ ρ)} {s s' : σ} {r : ρ} (h : f s = some (.inl s')) (g : lp f s' = some r) : lp f s = some r := by
  obtain ⟨n, hn⟩ := lp_some g
  exact lp_of (n := n + 1) (by unfold itr; rw [h]; exact hn)
