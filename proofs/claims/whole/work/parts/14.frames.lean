/-! ===== own rows: calls on a part of the world, methods with handlers ===== -/
theorem SO.narrow {t : List Int32} {a v : Nat} {A B : Nat → Prop} {U : State} {H : Heap} (h : SO t a v A U H) (hAB : ∀ q, B q → A q) : SO t a v B U H := ⟨h.1.narrow hAB, h.2.1.narrow hAB, h.2.2.1.narrow hAB, h.2.2.2.narrow hAB⟩
theorem Sx.narrow {K : (Nat → Nat) × (Nat → Nat)} {A B : Nat → Prop} {U : State} {H : Heap} (h : Sx K A U H) (hAB : ∀ q, B q → A q) : Sx K B U H := by
  obtain ⟨h1, h2, h3, h4, h5, h6, h7, h8⟩ := h
  exact ⟨fun k hk => (h1 k hk).narrow hAB, va_Z.narrow h2 hAB, va_Zq.narrow h3 hAB, h4.narrow hAB, h5.narrow hAB, h6, h7, h8⟩
def wO (ca : Nat → ClassId) (oa : Nat) (o : Nat → Int64) : va_W := [(oa, .inl (ca 1, 1, .inr (.inl o)))]
def PXA (D : va_G) (ca : Nat → ClassId) (ws : va_W) (K : (Nat → Nat) × (Nat → Nat)) (A : Nat → Prop) : State → Prop := fun U => PX D ca ws K A U ∧ ∀ q : Nat, U.heap.size ≤ q → A q
theorem PXA_blind {av : List Value} {D : va_G} {ca : Nat → ClassId} {ws : va_W} {K : (Nat → Nat) × (Nat → Nat)} {A : Nat → Prop} : FrameBlind (va_Pc av (PXA D ca ws K A)) := fun a U g mk q => ⟨q.1, (PX_blind (av := av) (D := D) (ca := ca) (ws := ws) (K := K) (A := A) a U g mk ⟨q.1, q.2.1⟩).2, q.2.2⟩
def wH (y : MethodName) (b : ByteArray) (n : Nat) (r : Option FieldType) (hh : List (Nat × Nat × Nat × Nat)) : List Cond := .codeWith y b n r hh :: gw
/-- a method with handlers: it answers v, the world is ws', one cell of six slots may have come -/
def CH (l : Launch) (y : MethodName) (b : ByteArray) (n : Nat) (r : Option FieldType) (hh : List (Nat × Nat × Nat × Nat)) (rm : Room) (av : List Value) (D : va_G) (ca : Nat → ClassId) (K : (Nat → Nat) × (Nat → Nat)) (A : Nat → Prop) (ws : va_W) (v : Option Value) (ws' : va_W) : Prop :=
  Met l y (wH y b n r hh) rm (va_Pc av (PXA D ca ws K A)) (QM D v ws' A) 1 6 A
section U6
variable {p : Program} {l : Launch} {e : Env} {R : Room} {s : State} {m : MethodId} {args : Array Value} {below : List Frame} {meth : Method} {c : Code} {H : Heap} {locs : List Loc} {cells slots : Nat} {Q : State → Prop}
variable {y : MethodName} {b cc : ByteArray} {n nL k index mc ms : Nat} {r : Option FieldType} {hh : List (Nat × Nat × Nat × Nat)} {rm : Room} {av : List Value} {D : va_G} {ca : Nat → ClassId} {A : Nat → Prop} {ws ws' wc wr w1 : va_W} {v : Option Value} {own C E : String} {pc : Nat} {ls : Array Slot} {rest : List Value} {H0 : Heap} {K : (Nat → Nat) × (Nat → Nat)}
theorem CH_of (hy : plainName y.cls = true) (hn : (lg_sl av).length ≤ n) (hD : va_D A ws)
    (body : ∀ (p : Program) (e : Env) (s : State) (m : MethodId) (args : Array Value) (below : List Frame) (meth : Method) (c : Code) (ls : Array Slot) (Q : State → Prop),
      p.tables.exec = Jvm.exec → c.code = b → c.maxLocals = n → s.vm.findClass y.cls = some m.cls → (∀ w ∈ gw, w.before args s = true) → Wd D A s.heap ws s.heap [] → va_K D vwCl (tyL ca) s → Sx K A s s.heap → (∀ q : Nat, s.heap.size ≤ q → A q) → lv_has ls n (lv_args 0 av) →
      (∀ (H : Heap) (locs : List Loc) (g : JFrame), W p l e rm s m args below meth c H locs 1 6 (MQ below (QM D v ws' A) args s 1 6 A) g → W p l e rm s m args below meth c H locs 1 6 Q g) → meth.sig.returnType = r → meth.locks = false → c.exceptionTable.toList = tableOf hh →
      W p l e rm s m args below meth c s.heap [] 0 0 Q (F0 m 0 ls [])) : CH l y b n r hh rm av D ca K A ws v ws' := by
  refine va_MetW (cc := b) (maxL := n) (ret := r) (hh := hh) hy rfl ?_
  intro p e s m args below meth c s₁ B hml hv
  obtain ⟨rfl, ⟨hP, hK, hX⟩, hA⟩ := hv
  have hall := atoms_spec (ws := wH y b n r hh) B.pre
  have htab : c.exceptionTable.toList = tableOf hh := vx_table (x := y) B (hall _ List.mem_cons_self)
  rw [lg_entry_eq]
  exact body p e s m _ below meth c _ _ B.exec B.bytes hml (findClass_of_methodNamed B.named) (fun w hw => hall w (List.mem_cons_of_mem _ hw)) ⟨hP, hD, va_S.rf⟩ hK hX hA (lv_entry av hn) (fun _ _ _ h => h) B.returns B.notSynchronized htab
theorem reth {x : Int32} (hc : cells ≤ 1) (hs : slots ≤ 6) (hQ : ∀ (H : Heap) (locs : List Loc) (g : JFrame), W p l e R s m args below meth c H locs 1 6 (MQ below (QM D v ws' A) args s 1 6 A) g → W p l e R s m args below meth c H locs 1 6 Q g)
    (hx : p.tables.exec = Jvm.exec) (hb : c.code = cc) (hr : meth.sig.returnType = some .int) (hk : meth.locks = false) (hd : decode cc pc = .ok (.ireturn, 1)) (hv : v = some (.int x)) (hw : Wd D A s.heap ws' H locs) : W p l e R s m args below meth c H locs cells slots Q (F0 m pc ls [.int x]) :=
  W.widen (k := 1) (n := 6) hc hs (hQ _ _ _ (W.iret hx hb hr (fun t ht _ => ⟨by rw [hv], by rw [ht]; exact hw.1, hw.2.1, hw.2.2.F ht⟩) hw.2.2.2.2 hd hk))
/-- behind a call on a part of the world -/
theorem f_stop {st0 : List Value} {a : Array Value} (hr : va_Run p l e R s m args below meth c H locs cells slots mc ms (F0 m pc ls st0) rest (QM D v w1 (va_A wc H.size) a) (va_A wc H.size)) (hw : Wd D A H0 ws H locs) (hA : ∀ q, H0.size ≤ q → A q) (isC isR : List Nat) (hC : isC.map (fun i => ws[i]?) = wc.map some) (hR : isR.map (fun i => ws[i]?) = wr.map some) (hnd : va_nd isR = true) (hdis : ∀ i ∈ isR, i ∉ isC)
    (kk : ∀ (H1 : Heap) (locs1 : List Loc), Wd D A H0 (wr ++ w1) H1 locs1 → W p l e R s m args below meth c H1 locs1 (cells + mc) (slots + ms) Q (F0 m (pc + 3) ls (v.toList ++ rest))) : W p l e R s m args below meth c H locs cells slots Q (F0 m pc ls st0) := by
  have hF := va_free (wc := wc) hw.2.1 hw.2.2 hA isC hC
  intro T hT X
  obtain ⟨v', st₀, t, T', L, h0, X', hL, e1, e2, ⟨hv, hP, hD, hz, hk⟩, st⟩ := hr T hT X
  cases hv
  rw [h0] at hz hk
  obtain ⟨hP2, hD2⟩ := va_join (wr := wr) hw.1 hw.2.1 isC isR hC hR hnd hdis hk hF hP hD
  have hS := hw.2.2
  obtain ⟨t2, a1, b1⟩ := kk T'.heap (locs ++ L) ⟨by rw [e1]; exact hP2, hD2, Nat.le_trans hS.1 (by rw [e1]; exact hz), fun x h1 h2 => by rw [e1, hk x (Nat.lt_of_lt_of_le h1 hS.1) (fun z => h2 (hF x z))]; exact hS.2.1 x h1 h2, fun x hx => by
      rcases List.mem_append.mp hx with h | h
      · exact hS.2.2 x h
      · exact hF _ (hL x h)⟩ T' rfl X'
  exact ⟨t2, st t2 a1, b1⟩
theorem kf_VM {q0 ci a : Nat} {fs : List Value} {T : u_T} {N : Nat} (S : Fx p m c cc nL s args own) (isC isR : List Nat) (hC : isC.map (fun i => ws[i]?) = wc.map some) (hR : isR.map (fun i => ws[i]?) = wr.map some) (hndC : va_nd isC = true) (hnd : va_nd isR = true) (hdis : ∀ i ∈ isR, i ∉ isC)
    (hM : va_D (va_A wc H.size) wc → CM l y b n r rm (.ref a :: av) D ca (va_A wc H.size) wc v w1) (hcode : Cond.code y b n r ∈ gw) (hlink : Cond.methodLink own index y ∈ gw) (hini : Cond.initialized y.cls ∈ gw) (hin : Cond.instanceMethod y ∈ gw) (hse : Cond.selects y.cls y y ∈ gw)
    (hd : y.cls ≠ "java/lang/invoke/MethodHandle" ∧ y.cls ≠ "java/lang/invoke/VarHandle" ∧ (parseMethodDescriptor y.desc).map (fun d => d.parameters.length) = some av.length) (hRm : rm.frames + 1 ≤ R.frames ∧ 8 + (n + 11) + rm.locals ≤ R.locals) (hrc : rm.cells = 0) (hrs : rm.slots = 0)
    (hK : va_K D vwCl (tyL ca) s) (hw : Wd D A H0 ws H locs) (hA : ∀ q, H0.size ≤ q → A q) (he : wc[q0]? = some (a, .inr (ci, fs))) (hc : vwCl[ci]? = some (y.cls, T, N)) {st0 : List Value} (hl : ls.size = nL) (hs : st0 = av.reverse ++ .ref a :: rest) (hW : (rest.map fun v => v.category).sum ≤ 8) (hdg : decode cc pc = .ok (.invokevirtual index, 3)) (hf : cells ≤ R.cells ∧ slots ≤ R.slots) {st1 : List Value} (hs1 : v.toList ++ rest = st1)
    (kk : ∀ (H1 : Heap) (locs1 : List Loc), Wd D A H0 (wr ++ w1) H1 locs1 → W p l e R s m args below meth c H1 locs1 cells slots Q (F0 m (pc + 3) ls st1)) : W p l e R s m args below meth c H locs cells slots Q (F0 m pc ls st0) :=
  f_stop (mc := 0) (ms := 0) (va_runV (As := av) (rest := rest) (b := a) (g := F0 m pc ls st0) S (hM ((hw.2.1.sub isC hndC hC).self)) ⟨u_cb S.2.2.2.2 hcode hlink hini hd hRm hrc hrs, S.2.2.2.2 _ hin, S.2.2.2.2 _ hse⟩ ⟨PW_blind, k_recv hK (P_pick hw.1 hC) he hc, fun U hU hW9 => ⟨rfl, by rw [hU]; exact P_pick hw.1 hC, va_K.moved hW9.alike hK⟩⟩ rfl rfl hl hs (lv_room hW) hdg hf) hw hA isC isR hC hR hnd hdis (by rw [hs1]; exact kk)
theorem kf_VMx {q0 ci a : Nat} {fs : List Value} {T : u_T} {N : Nat} (S : Fx p m c cc nL s args own) (isC isR : List Nat) (hC : isC.map (fun i => ws[i]?) = wc.map some) (hR : isR.map (fun i => ws[i]?) = wr.map some) (hndC : va_nd isC = true) (hnd : va_nd isR = true) (hdis : ∀ i ∈ isR, i ∉ isC)
    (hM : va_D (va_A wc H.size) wc → CMx l y b n r rm (.ref a :: av) D ca K (va_A wc H.size) wc v w1) (hcode : Cond.code y b n r ∈ gw) (hlink : Cond.methodLink own index y ∈ gw) (hini : Cond.initialized y.cls ∈ gw) (hin : Cond.instanceMethod y ∈ gw) (hse : Cond.selects y.cls y y ∈ gw)
    (hd : y.cls ≠ "java/lang/invoke/MethodHandle" ∧ y.cls ≠ "java/lang/invoke/VarHandle" ∧ (parseMethodDescriptor y.desc).map (fun d => d.parameters.length) = some av.length) (hRm : rm.frames + 1 ≤ R.frames ∧ 8 + (n + 11) + rm.locals ≤ R.locals) (hrc : rm.cells = 0) (hrs : rm.slots = 0)
    (hK : va_K D vwCl (tyL ca) s) (hX : Sx K A s H) (hw : Wd D A H0 ws H locs) (hA : ∀ q, H0.size ≤ q → A q) (he : wc[q0]? = some (a, .inr (ci, fs))) (hc : vwCl[ci]? = some (y.cls, T, N)) {st0 : List Value} (hl : ls.size = nL) (hs : st0 = av.reverse ++ .ref a :: rest) (hW : (rest.map fun v => v.category).sum ≤ 8) (hdg : decode cc pc = .ok (.invokevirtual index, 3)) (hf : cells ≤ R.cells ∧ slots ≤ R.slots) {st1 : List Value} (hs1 : v.toList ++ rest = st1)
    (kk : ∀ (H1 : Heap) (locs1 : List Loc), Wd D A H0 (wr ++ w1) H1 locs1 → W p l e R s m args below meth c H1 locs1 cells slots Q (F0 m (pc + 3) ls st1)) : W p l e R s m args below meth c H locs cells slots Q (F0 m pc ls st0) :=
  f_stop (mc := 0) (ms := 0) (va_runV (As := av) (rest := rest) (b := a) (g := F0 m pc ls st0) S (hM ((hw.2.1.sub isC hndC hC).self)) ⟨u_cb S.2.2.2.2 hcode hlink hini hd hRm hrc hrs, S.2.2.2.2 _ hin, S.2.2.2.2 _ hse⟩ ⟨PX_blind, k_recv hK (P_pick hw.1 hC) he hc, fun U hU hW9 => ⟨rfl, by rw [hU]; exact P_pick hw.1 hC, va_K.moved hW9.alike hK, by rw [hU]; exact (hX.narrow (va_free (wc := wc) hw.2.1 hw.2.2 hA isC hC)).warm hW9⟩⟩ rfl rfl hl hs (lv_room hW) hdg hf) hw hA isC isR hC hR hnd hdis (by rw [hs1]; exact kk)
/-- a call on a part of the world that throws -/
theorem kf_VX {q0 ci a : Nat} {fs : List Value} {T : u_T} {N : Nat} (S : Fx p m c cc nL s args own) (isC isR : List Nat) (hC : isC.map (fun i => ws[i]?) = wc.map some) (hR : isR.map (fun i => ws[i]?) = wr.map some) (hndC : va_nd isC = true) (hnd : va_nd isR = true) (hdis : ∀ i ∈ isR, i ∉ isC)
    (hM : va_D (va_A wc H.size) wc → CX l y b n r rm (.ref a :: av) D ca K (va_A wc H.size) wc E w1) (hcode : Cond.code y b n r ∈ gw) (hlink : Cond.methodLink own index y ∈ gw) (hini : Cond.initialized y.cls ∈ gw) (hin : Cond.instanceMethod y ∈ gw) (hse : Cond.selects y.cls y y ∈ gw)
    (hd : y.cls ≠ "java/lang/invoke/MethodHandle" ∧ y.cls ≠ "java/lang/invoke/VarHandle" ∧ (parseMethodDescriptor y.desc).map (fun d => d.parameters.length) = some av.length) (hRm : rm.frames + 1 ≤ R.frames ∧ 8 + (n + 11) + rm.locals ≤ R.locals) (hrc : rm.cells = 1) (hrs : rm.slots = 6)
    (hK : va_K D vwCl (tyL ca) s) (hX : Sx K A s H) (hw : Wd D A H0 ws H locs) (hA : ∀ q, H0.size ≤ q → A q) (he : wc[q0]? = some (a, .inr (ci, fs))) (hc : vwCl[ci]? = some (y.cls, T, N)) {st0 : List Value} (hl : ls.size = nL) (hs : st0 = av.reverse ++ .ref a :: rest) (hW : (rest.map fun v => v.category).sum ≤ 8) (hdg : decode cc pc = .ok (.invokevirtual index, 3)) (hf : cells + 1 ≤ R.cells ∧ slots + 6 ≤ R.slots)
    (kk : ∀ (H1 : Heap) (locs1 : List Loc) (q : Addr) (ce : Cell), Wd D A H0 (wr ++ w1) H1 locs1 → H1[q]? = some ce → ce.vm = .none → s.vm.findClass E = some ce.cls → vx_W p l e R s m args below meth c H1 locs1 (cells + 1) (slots + 6) Q (F0 m pc ls rest) q) : W p l e R s m args below meth c H locs cells slots Q (F0 m pc ls st0) := by
  have hF := va_free (wc := wc) hw.2.1 hw.2.2 hA isC hC
  have hr := vx_runV (cells := cells) (slots := slots) (As := av) (rest := rest) (b := a) (g := F0 m pc ls st0) S (hM ((hw.2.1.sub isC hndC hC).self)) ⟨u_cb S.2.2.2.2 hcode hlink hini hd hRm hrc hrs, S.2.2.2.2 _ hin, S.2.2.2.2 _ hse⟩ ⟨PX_blind, k_recv hK (P_pick hw.1 hC) he hc, fun U hU hW9 => ⟨rfl, by rw [hU]; exact P_pick hw.1 hC, va_K.moved hW9.alike hK, by rw [hU]; exact (hX.narrow hF).warm hW9⟩⟩ rfl rfl hl hs (lv_room hW) hdg hf (locs := locs) (H := H) (e := e) (below := below) (meth := meth)
  intro T hT X
  rcases hr T hT X with ⟨v, st₀, t, T', L, h0, X', hL, e1, e2, hq, st⟩ | ⟨q, st₀, t, T', L, E2, ce, h0, X', hL, e1, e2, ⟨hE2, hP, hD, hFr⟩, hce, hcv, hcl, st⟩
  · exact absurd hq id
  · subst hE2
    obtain ⟨k1, k2, k3⟩ := vx_keep h0 e1 hw.2.2 (fun q _ h => hF q h) hF hL hFr
    obtain ⟨hP2, hD2⟩ := va_join (wr := wr) (H1 := T'.heap) hw.1 hw.2.1 isC isR hC hR hnd hdis k2 hF (by rw [e1]; exact hP) hD
    obtain ⟨t2, a1, b1⟩ := kk T'.heap (locs ++ L) q ce ⟨hP2, hD2, k3⟩ (by rw [e1]; exact hce) hcv hcl T' rfl X'
    exact ⟨t2, st.trans a1, b1⟩
/-- the law's call of a method with handlers, on a part of the world -/
theorem kf_SH (S : Fx p m c cc nL s args own) (isC isR : List Nat) (hC : isC.map (fun i => ws[i]?) = wc.map some) (hR : isR.map (fun i => ws[i]?) = wr.map some) (hndC : va_nd isC = true) (hnd : va_nd isR = true) (hdis : ∀ i ∈ isR, i ∉ isC)
    (hM : va_D (va_A wc H.size) wc → CH l y b n r hh rm av D ca K (va_A wc H.size) wc v w1) (hcode : Cond.codeWith y b n r hh ∈ gw) (hlink : Cond.methodLink own index y ∈ gw) (hini : Cond.initialized y.cls ∈ gw) (hst : Cond.static y ∈ gw)
    (hd : y.cls ≠ "java/lang/invoke/MethodHandle" ∧ y.cls ≠ "java/lang/invoke/VarHandle" ∧ (parseMethodDescriptor y.desc).map (fun d => d.parameters.length) = some av.length) (hRm : rm.frames + 1 ≤ R.frames ∧ 8 + (n + 11) + rm.locals ≤ R.locals) (hrc : rm.cells = 1) (hrs : rm.slots = 6)
    (hK : va_K D vwCl (tyL ca) s) (hX : Sx K A s H) (hw : Wd D A H0 ws H locs) (hA : ∀ q, H0.size ≤ q → A q) {st0 : List Value} (hl : ls.size = nL) (hs : st0 = av.reverse ++ rest) (hW : (rest.map fun v => v.category).sum ≤ 8) (hdg : decode cc pc = .ok (.invokestatic index, 3)) (hf : cells + 1 ≤ R.cells ∧ slots + 6 ≤ R.slots) {st1 : List Value} (hs1 : v.toList ++ rest = st1)
    (kk : ∀ (H1 : Heap) (locs1 : List Loc), Wd D A H0 (wr ++ w1) H1 locs1 → W p l e R s m args below meth c H1 locs1 (cells + 1) (slots + 6) Q (F0 m (pc + 3) ls st1)) : W p l e R s m args below meth c H locs cells slots Q (F0 m pc ls st0) := by
  have hF := va_free (wc := wc) hw.2.1 hw.2.2 hA isC hC
  have hall : ∀ w ∈ wH y b n r hh, w ∈ gw := fun w h => (List.mem_cons.mp h).elim (fun q => by rw [q]; exact hcode) id
  refine f_stop (mc := 1) (ms := 6) (vx_runSW (hh := hh) (As := av) (rest := rest) (g := F0 m pc ls st0) S (hM ((hw.2.1.sub isC hndC hC).self)) ⟨⟨hrc, hrs, hRm.1, hRm.2, fun w h a' U hW9 => word_at hW9 (good_of_word (gw_word (hall w h))) (S.2.2.2.2 w (hall w h)), List.mem_cons_self⟩, S.2.2.2.2 _ hcode, S.2.2.2.2 _ hini, ⟨hd.1, hd.2.1⟩, fun sig h => ?_, S.2.2.2.2 _ hlink, S.2.2.2.2 _ hst⟩ ⟨PXA_blind, fun U hU hW9 => ⟨rfl, ⟨by rw [hU]; exact P_pick hw.1 hC, va_K.moved hW9.alike hK, by rw [hU]; exact (hX.narrow hF).warm hW9⟩, fun q h => Or.inr (by rw [← hU]; exact h)⟩⟩ rfl rfl hl hs (lv_room hW) hdg hf) hw hA isC isR hC hR hnd hdis (by rw [hs1]; exact kk)
  have h2 := hd.2.2
  rw [h] at h2
  exact (Option.some.inj h2).symm
end U6
