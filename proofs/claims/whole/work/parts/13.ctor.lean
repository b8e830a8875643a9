/-! ===== own rows: constructors ===== -/
def NW (U : State) : Prop := va_Nw (.methodLinkNest "LampSheets" 9 yX5_init "LampSheets") U ∧ va_Nw (.methodLinkNest "LampSheets$State" 52 yX1_init "LampSheets") U ∧ va_Nw (.methodLinkNest "LampSheets" 46 yX6_init "LampSheets") U
theorem NW.warm {s U : State} (hW : s.WarmedH U.vm) (h : NW s) : NW U := ⟨va_Nw.warmM hW h.1, va_Nw.warmM hW h.2.1, va_Nw.warmM hW h.2.2⟩
def PN (D : va_G) (ca : Nat → ClassId) (ws : va_W) (A : Nat → Prop) : State → Prop := fun U => va_P D vwCl ws U.heap ∧ va_K D vwCl (tyL ca) U ∧ NW U ∧ ∀ q : Nat, U.heap.size ≤ q → A q
theorem PN_blind {av : List Value} {D : va_G} {ca : Nat → ClassId} {ws : va_W} {A : Nat → Prop} : FrameBlind (va_Pc av (PN D ca ws A)) := fun a U g mk q => ⟨q.1, q.2.1, va_K.moved (u := U) (U := U.calling g mk a) (Vm.Alike.refl U.vm) q.2.2.1, NW.warm (s := U) (U := U.calling g mk a) (State.WarmedH.refl U) q.2.2.2.1, q.2.2.2.2⟩
def QC (D : va_G) (A : Nat → Prop) (P : (Nat → Nat) → va_W) : Array Value → State → Outcome → State → Prop := fun _ st o t => o = .returned none ∧ ∃ q : Nat → Nat, va_P D vwCl (P q) t.heap ∧ va_D A (P q) ∧ va_F A st t
def CN (l : Launch) (y : MethodName) (b : ByteArray) (n : Nat) (rm : Room) (av : List Value) (D : va_G) (ca : Nat → ClassId) (A : Nat → Prop) (ws : va_W) (P : (Nat → Nat) → va_W) (mc ms : Nat) : Prop :=
  Met l y (wU y b n none) rm (va_Pc av (PN D ca ws A)) (QC D A P) mc ms A
section U5
variable {p : Program} {l : Launch} {e : Env} {R : Room} {s : State} {m : MethodId} {args : Array Value} {below : List Frame} {meth : Method} {c : Code} {H : Heap} {locs : List Loc} {cells slots : Nat} {Q : State → Prop}
variable {y : MethodName} {b cc : ByteArray} {n nL k index mc ms : Nat} {rm : Room} {av : List Value} {D : va_G} {ca : Nat → ClassId} {A : Nat → Prop} {ws ws' wc wr : va_W} {own C : String} {pc : Nat} {ls : Array Slot} {rest : List Value} {H0 : Heap} {P : (Nat → Nat) → va_W}
theorem CN_of (hy : plainName y.cls = true) (hyn : y.name = "<init>") (hn : (lg_sl av).length ≤ n) (hD : va_D A ws)
    (body : ∀ (p : Program) (e : Env) (s : State) (m : MethodId) (args : Array Value) (below : List Frame) (meth : Method) (c : Code) (ls : Array Slot) (Q : State → Prop),
      p.tables.exec = Jvm.exec → c.code = b → c.maxLocals = n → s.vm.findClass y.cls = some m.cls → (∀ w ∈ gw, w.before args s = true) → Wd D A s.heap ws s.heap [] → va_K D vwCl (tyL ca) s → NW s → (∀ q : Nat, s.heap.size ≤ q → A q) → lv_has ls n (lv_args 0 av) →
      (∀ (H : Heap) (locs : List Loc) (g : JFrame), W p l e rm s m args below meth c H locs mc ms (MQ below (QC D A P) args s mc ms A) g → W p l e rm s m args below meth c H locs mc ms Q g) → meth.sig.returnType = none → meth.locks = false → meth.name = "<init>" →
      W p l e rm s m args below meth c s.heap [] 0 0 Q (F0 m 0 ls [])) : CN l y b n rm av D ca A ws P mc ms := by
  refine Met.ofW (cc := b) (maxL := n) (ret := none) hy rfl ?_
  intro p e s m args below meth c s₁ B hml hv
  obtain ⟨rfl, hP, hK, hN, hA⟩ := hv
  rw [lg_entry_eq]
  exact body p e s m _ below meth c _ _ B.exec B.bytes hml (findClass_of_methodNamed B.named) (u_htg B.pre) ⟨hP, hD, va_S.rf⟩ hK hN hA (lv_entry av hn) (fun _ _ _ h => h) B.returns B.notSynchronized ((name_of_methodNamed B.named B.method).1.trans hyn)
theorem retn (q : Nat → Nat) (hQ : ∀ (H : Heap) (locs : List Loc) (g : JFrame), W p l e R s m args below meth c H locs mc ms (MQ below (QC D A P) args s mc ms A) g → W p l e R s m args below meth c H locs mc ms Q g)
    (hx : p.tables.exec = Jvm.exec) (hb : c.code = cc) (hr : meth.sig.returnType = none) (hk : meth.locks = false) (hd : decode cc pc = .ok (.return_, 1)) (hw : Wd D A s.heap (P q) H locs) : W p l e R s m args below meth c H locs mc ms Q (F0 m pc ls []) :=
  hQ _ _ _ (W.vret hx hb hr (fun t ht _ => ⟨rfl, q, by rw [ht]; exact hw.1, hw.2.1, hw.2.2.F ht⟩) hw.2.2.2.2 hd hk)
theorem r_obj (hx : p.tables.exec = Jvm.exec) (hb : c.code = cc) (hml : c.maxLocals = nL) (hsz : ls.size = nL) (hown : s.vm.findClass own = some m.cls) (htg : ∀ w ∈ gw, w.before args s = true) (hlink : Cond.methodLink own index objectInit ∈ gw) (hinst : Cond.instanceMethod objectInit ∈ gw) (hcode : Cond.code objectInit ⟨#[0xb1]⟩ 1 none ∈ gw) {a : Nat} (hd : decode cc pc = .ok (.invokespecial index, 3)) (hf : 1 ≤ R.frames) (hlo : (rest.map fun v => v.category).sum + 12 ≤ R.locals)
    (kk : W p l e R s m args below meth c H locs cells slots Q (F0 m (pc + 3) ls rest)) : W p l e R s m args below meth c H locs cells slots Q (F0 m pc ls (.ref a :: rest)) :=
  W.objInit hx hb hown (htg _ hlink) (htg _ hinst) (htg _ hcode) rfl (hsz.trans hml.symm) rfl hd hf (by simpa [JFrame.monitorRoom] using hlo) kk
theorem r_putF {C : String} {T : u_T} {N ci : Nat} (hx : p.tables.exec = Jvm.exec) (hb : c.code = cc) (htg : ∀ w ∈ gw, w.before args s = true) (hin : ∀ w ∈ u_ws C T N, w ∈ gw) (ty0 : Nat → FieldType) (hty : ∀ k, k < N → parseFieldDescriptor (T k).2.2.1 = some (ty0 k)) (hnm : ∀ a, a < N → ∀ b, b < N → a ≠ b → (T a).2.1 ≠ (T b).2.1) (hown : s.vm.findClass own = some m.cls) (hin2 : meth.name = "<init>") (hK : va_K D vwCl (tyL ca) s) (hw : Wd D A H0 ws H locs) (q0 : Nat) {a : Nat} {fs : List Value} (he : ws[q0]? = some (a, .inr (ci, fs))) (hc : vwCl[ci]? = some (C, T, N)) (k : Nat) (hk : k < N)
    (hlink : Cond.fieldLink own index (T k).1 (T k).2.1 (T k).2.2.1 ∈ gw) (hfin : (T k).2.2.2 = true) (hdecl : (T k).1 = own) {v : Value} (hn : narrow (ty0 k) v = v) (hfit : fits (ty0 k) v = true) (hl : k < fs.length) (hdg : decode cc pc = .ok (.putfield index, 3)) (heq : ws.set q0 (a, .inr (ci, fs.set k v)) = ws')
    (kk : ∀ (H1 : Heap) (locs1 : List Loc), Wd D A H0 ws' H1 locs1 → W p l e R s m args below meth c H1 locs1 cells slots Q (F0 m (pc + 3) ls rest)) : W p l e R s m args below meth c H locs cells slots Q (F0 m pc ls (v :: .ref a :: rest)) := by
  subst heq
  exact va_putF hx hb htg hin ty0 hty hnm hown hK hw.1 hw.2.1 hw.2.2 q0 he hc k hk (htg _ hlink) (fun _ h => h) hfin hin2 hdecl (hty k hk) hn hfit hl hdg (fun H1 locs1 h1 h2 h3 => kk H1 locs1 ⟨h1, h2, h3⟩)
theorem r_newa {atype : ArrayType} {ty : FieldType} {nn : Int32} {N' : Nat} {a0 : vp_A} (kk0 : Nat) (hx : p.tables.exec = Jvm.exec) (hb : c.code = cc) (htg : ∀ w ∈ gw, w.before args s = true) (harr : Cond.arrayClass ty ∈ gw) (hty : newarray.typeOf atype = ty) (ht : (tyL ca)[kk0]? = some (ca kk0, ty)) (hra : ∀ c : ClassId, va_RA s c ty = (s.vm.findClass ("[" ++ ty.toString) = some c)) (hK : va_K D vwCl (tyL ca) s) (hw : Wd D A H0 ws H locs) (hA : ∀ q, H0.size ≤ q → A q)
    (ha : ∀ cA : ClassId, vp_cell cA a0 = arrV cA N' (fun _ => defaultValue ty)) (hn : ¬ nn < 0) (hN : nn.toNatClampNeg = N') (hbytes : N' * componentBytes ty ≤ 536870912) (hcells : cells + 1 ≤ R.cells) (hslots : slots + N' ≤ R.slots) (hdg : decode cc pc = .ok (.newarray atype, 2))
    (kk : ∀ (q : Nat) (H1 : Heap), Wd D A H0 (ws ++ [(q, .inl (ca kk0, a0))]) H1 locs → W p l e R s m args below meth c H1 locs (cells + 1) (slots + N') Q (F0 m (pc + 2) ls (.ref q :: rest))) : W p l e R s m args below meth c H locs cells slots Q (F0 m pc ls (.int nn :: rest)) := by
  refine va_newa hx hb (by rw [hty]; exact htg _ harr) hty hK hw.1 hw.2.1 hw.2.2 hA ha hn hN hbytes hcells hslots hdg (fun q cA H1 hK1 hP1 hD1 hS1 => ?_)
  have e1 : s.vm.findClass ("[" ++ ty.toString) = some cA := by
    have := (hK1.2 (tyL ca).length (cA, ty) (by simp)).2
    rw [hra] at this
    exact this
  have e2 : s.vm.findClass ("[" ++ ty.toString) = some (ca kk0) := by
    have := (hK.2 kk0 _ ht).2
    rw [hra] at this
    exact this
  cases Option.some.inj (e1.symm.trans e2)
  exact kk q H1 ⟨hP1, hD1, hS1⟩
theorem r_new {C : String} {T : u_T} {N ci : Nat} (hx : p.tables.exec = Jvm.exec) (hb : c.code = cc) (htg : ∀ w ∈ gw, w.before args s = true) (hin : ∀ w ∈ u_ws C T N, w ∈ gw) (ty : Nat → FieldType) (hty : ∀ k, k < N → parseFieldDescriptor (T k).2.2.1 = some (ty k)) (hown : s.vm.findClass own = some m.cls) (hcl : Cond.classLink own index C ∈ gw) (hinst : Cond.instantiable C N ∈ gw) (hini : Cond.initialized C ∈ gw)
    (hK : va_K D vwCl (tyL ca) s) (hw : Wd D A H0 ws H locs) (hA : ∀ q, H0.size ≤ q → A q) (hc : vwCl[ci]? = some (C, T, N)) {fs : List Value} (hfs : ∀ j, j < N → defaultValue (ty j) = vp_V fs j) (hcells : cells + 1 ≤ R.cells) (hslots : slots + N ≤ R.slots) (hdg : decode cc pc = .ok (.new index, 3))
    (kk : ∀ (q : Nat) (H1 : Heap), Wd D A H0 (ws ++ [(q, .inr (ci, fs))]) H1 locs → W p l e R s m args below meth c H1 locs (cells + 1) (slots + N) Q (F0 m (pc + 3) ls (.ref q :: rest))) : W p l e R s m args below meth c H locs cells slots Q (F0 m pc ls rest) :=
  va_new hx hb htg hin ty hty hown (htg _ hcl) (htg _ hinst) (htg _ hini) hK hw.1 hw.2.1 hw.2.2 hA hc hfs hcells hslots hdg (fun q H1 h1 h2 h3 => kk q H1 ⟨h1, h2, h3⟩)
theorem k_Nstop {st0 : List Value} {a : Array Value} (hr : va_Run p l e R s m args below meth c H locs cells slots mc ms (F0 m pc ls st0) rest (QC D (va_A wc H.size) P a) (va_A wc H.size)) (hw : Wd D A H0 ws H locs) (hA : ∀ q, H0.size ≤ q → A q) (isC isR : List Nat) (hC : isC.map (fun i => ws[i]?) = wc.map some) (hR : isR.map (fun i => ws[i]?) = wr.map some) (hnd : va_nd isR = true) (hdis : ∀ i ∈ isR, i ∉ isC)
    (kk : ∀ (q : Nat → Nat) (H1 : Heap) (locs1 : List Loc), Wd D A H0 (wr ++ P q) H1 locs1 → W p l e R s m args below meth c H1 locs1 (cells + mc) (slots + ms) Q (F0 m (pc + 3) ls rest)) : W p l e R s m args below meth c H locs cells slots Q (F0 m pc ls st0) := by
  have hF := va_free (wc := wc) hw.2.1 hw.2.2 hA isC hC
  intro T hT X
  obtain ⟨v', st₀, t, T', L, h0, X', hL, e1, e2, ⟨hv, q, hP, hD, hz, hk⟩, st⟩ := hr T hT X
  cases hv
  rw [h0] at hz hk
  obtain ⟨hP2, hD2⟩ := va_join (wr := wr) hw.1 hw.2.1 isC isR hC hR hnd hdis hk hF hP hD
  have hS := hw.2.2
  obtain ⟨t2, a1, b1⟩ := kk q T'.heap (locs ++ L) ⟨by rw [e1]; exact hP2, hD2, Nat.le_trans hS.1 (by rw [e1]; exact hz), fun x h1 h2 => by rw [e1, hk x (Nat.lt_of_lt_of_le h1 hS.1) (fun z => h2 (hF x z))]; exact hS.2.1 x h1 h2, fun x hx => by
      rcases List.mem_append.mp hx with h | h
      · exact hS.2.2 x h
      · exact hF _ (hL x h)⟩ T' rfl X'
  exact ⟨t2, st t2 a1, b1⟩
theorem P_pick {is : List Nat} (hP : va_P D vwCl ws H) (hs : is.map (fun i => ws[i]?) = ws'.map some) : va_P D vwCl ws' H := by
  intro k q hq
  have h1 : (is.map (fun i => ws[i]?))[k]? = some (some q) := by rw [hs, List.getElem?_map, hq]; rfl
  rw [List.getElem?_map] at h1
  cases hi : is[k]? with
  | none => rw [hi] at h1; cases h1
  | some i => rw [hi] at h1; exact hP i q (Option.some.inj h1)
theorem k_pre {a : Nat} (hw : Wd D A H0 ws H locs) (isC : List Nat) (hC : isC.map (fun i => ws[i]?) = wc.map some) (hK : va_K D vwCl (tyL ca) s) (hN : NW s) : PreS s H (va_Pc (.ref a :: av) (PN D ca wc (va_A wc H.size))) (.ref a :: av) := by
  refine ⟨PN_blind, fun U hU hW9 => ⟨rfl, ?_, va_K.moved hW9.alike hK, hN.warm hW9, fun q h => Or.inr (by rw [← hU]; exact h)⟩⟩
  rw [hU]
  exact P_pick hw.1 hC
theorem k_N {a : Nat} (S : Fx p m c cc nL s args own) (isC isR : List Nat) (hC : isC.map (fun i => ws[i]?) = wc.map some) (hR : isR.map (fun i => ws[i]?) = wr.map some) (hndC : va_nd isC = true) (hnd : va_nd isR = true) (hdis : ∀ i ∈ isR, i ∉ isC)
    (hM : va_D (va_A wc H.size) wc → CN l y b n rm (.ref a :: av) D ca (va_A wc H.size) wc P mc ms) (hcode : Cond.code y b n none ∈ gw) (hlink : Cond.methodLink own index y ∈ gw) (hini : Cond.initialized y.cls ∈ gw) (hin : Cond.instanceMethod y ∈ gw) (hyn : y.name = "<init>")
    (hd : y.cls ≠ "java/lang/invoke/MethodHandle" ∧ y.cls ≠ "java/lang/invoke/VarHandle" ∧ (parseMethodDescriptor y.desc).map (fun d => d.parameters.length) = some av.length) (hRm : rm.frames + 1 ≤ R.frames ∧ 8 + (n + 11) + rm.locals ≤ R.locals) (hrc : rm.cells = mc) (hrs : rm.slots = ms)
    (hK : va_K D vwCl (tyL ca) s) (hN : NW s) (hw : Wd D A H0 ws H locs) (hA : ∀ q, H0.size ≤ q → A q) {st0 : List Value} (hl : ls.size = nL) (hs : st0 = av.reverse ++ .ref a :: rest) (hW : (rest.map fun v => v.category).sum ≤ 8) (hdg : decode cc pc = .ok (.invokespecial index, 3)) (hf : cells + mc ≤ R.cells ∧ slots + ms ≤ R.slots)
    (kk : ∀ (q : Nat → Nat) (H1 : Heap) (locs1 : List Loc), Wd D A H0 (wr ++ P q) H1 locs1 → W p l e R s m args below meth c H1 locs1 (cells + mc) (slots + ms) Q (F0 m (pc + 3) ls rest)) : W p l e R s m args below meth c H locs cells slots Q (F0 m pc ls st0) :=
  k_Nstop (va_runI (As := av) (rest := rest) (b := a) (g := F0 m pc ls st0) S (hM ((hw.2.1.sub isC hndC hC).self)) ⟨u_cb S.2.2.2.2 hcode hlink hini hd hRm hrc hrs, hyn, S.2.2.2.2 _ hin⟩ (k_pre hw isC hC hK hN) rfl rfl hl hs (lv_room hW) hdg hf) hw hA isC isR hC hR hnd hdis kk
theorem k_NN {a : Nat} {host : String} (S : Fx p m c cc nL s args own) (isC isR : List Nat) (hC : isC.map (fun i => ws[i]?) = wc.map some) (hR : isR.map (fun i => ws[i]?) = wr.map some) (hndC : va_nd isC = true) (hnd : va_nd isR = true) (hdis : ∀ i ∈ isR, i ∉ isC)
    (hM : va_D (va_A wc H.size) wc → CN l y b n rm (.ref a :: av) D ca (va_A wc H.size) wc P mc ms) (hcode : Cond.code y b n none ∈ gw) (hlink : va_Nw (.methodLinkNest own index y host) s) (hini : Cond.initialized y.cls ∈ gw) (hin : Cond.instanceMethod y ∈ gw) (hyn : y.name = "<init>")
    (hd : y.cls ≠ "java/lang/invoke/MethodHandle" ∧ y.cls ≠ "java/lang/invoke/VarHandle" ∧ (parseMethodDescriptor y.desc).map (fun d => d.parameters.length) = some av.length) (hRm : rm.frames + 1 ≤ R.frames ∧ 8 + (n + 11) + rm.locals ≤ R.locals) (hrc : rm.cells = mc) (hrs : rm.slots = ms)
    (hK : va_K D vwCl (tyL ca) s) (hN : NW s) (hw : Wd D A H0 ws H locs) (hA : ∀ q, H0.size ≤ q → A q) {st0 : List Value} (hl : ls.size = nL) (hs : st0 = av.reverse ++ .ref a :: rest) (hW : (rest.map fun v => v.category).sum ≤ 8) (hdg : decode cc pc = .ok (.invokespecial index, 3)) (hf : cells + mc ≤ R.cells ∧ slots + ms ≤ R.slots)
    (kk : ∀ (q : Nat → Nat) (H1 : Heap) (locs1 : List Loc), Wd D A H0 (wr ++ P q) H1 locs1 → W p l e R s m args below meth c H1 locs1 (cells + mc) (slots + ms) Q (F0 m (pc + 3) ls rest)) : W p l e R s m args below meth c H locs cells slots Q (F0 m pc ls st0) := by
  have hG : GoodIn gw (wU y b n none) := fun w h => by
    have : w ∈ gw := (List.mem_cons.mp h).elim (fun q => by rw [q]; exact hcode) id
    exact ⟨this, good_of_word (gw_word this)⟩
  exact k_Nstop (va_runIN (As := av) (rest := rest) (b := a) (g := F0 m pc ls st0) S (hM ((hw.2.1.sub isC hndC hC).self)) ⟨va_cnB av.length S.2.2.2.2 hG rfl hrc hrs hlink (S.2.2.2.2 _ hini) hd hRm, hyn, S.2.2.2.2 _ hin⟩ (k_pre hw isC hC hK hN) rfl rfl hl hs (lv_room hW) hdg hf) hw hA isC isR hC hR hnd hdis kk
theorem Wd.perm (hw : Wd D A H0 ws H locs) (is : List Nat) (hnd : va_nd is = true) (hs : is.map (fun i => ws[i]?) = ws'.map some) : Wd D A H0 ws' H locs := ⟨P_pick hw.1 hs, hw.2.1.sub is hnd hs, hw.2.2⟩
end U5
