/-! ===== own rows: copies of arrays, String constants, throws ===== -/
section U2
variable {p : Program} {l : Launch} {e : Env} {R : Room} {s : State} {m : MethodId} {args : Array Value} {below : List Frame} {meth : Method} {c : Code} {H : Heap} {locs : List Loc} {cells slots : Nat} {Q : State → Prop}
variable {y : MethodName} {b cc : ByteArray} {n nL k index : Nat} {r : Option FieldType} {rm : Room} {av : List Value} {D : va_G} {ca : Nat → ClassId} {A : Nat → Prop} {ws ws' : va_W} {v : Option Value} {own C : String} {pc : Nat} {ls : Array Slot} {rest : List Value} {H0 : Heap}
def cpOK (sp dp n : Int32) (n0 n1 : Nat) : Bool := decide (¬ sp < 0 ∧ ¬ dp < 0 ∧ ¬ n < 0 ∧ sp.toNatClampNeg + n.toNatClampNeg ≤ n0 ∧ dp.toNatClampNeg + n.toNatClampNeg ≤ n1)
theorem r_copyi {n0 n1 : Nat} {f g : Nat → Int32} {sp dp nn : Int32} {c0 c1 : ClassId} {a a0 : Nat} {ws'' : (Nat → Int32) → va_W} (hx : p.tables.exec = Jvm.exec) (hb : c.code = cc) (hml : c.maxLocals = nL) (hsz : ls.size = nL) (hown : s.vm.findClass own = some m.cls) (htg : ∀ w ∈ gw, w.before args s = true) (hlink : Cond.methodLink own index arraycopyName ∈ gw) (hnat : Cond.native arraycopyName ∈ gw) (hstat : Cond.static arraycopyName ∈ gw) (hini : Cond.initialized "java/lang/System" ∈ gw)
    (hK : va_K D vwCl (tyL ca) s) (hw : Wd D A H0 ws H locs) (q0 q1 : Nat) (ha0 : ws[q0]? = some (a0, .inl (c0, n0, .inl f))) (ha1 : ws[q1]? = some (a, .inl (c1, n1, .inl g))) (ht0 : (tyL ca)[0]? = some (c0, .int)) (ht1 : (tyL ca)[0]? = some (c1, .int))
    (hok : cpOK sp dp nn n0 n1 = true) (hframes : 1 ≤ R.frames) (hlocals : (rest.map fun v => v.category).sum + 18 ≤ R.locals) (hdg : decode cc pc = .ok (.invokestatic index, 3)) (heq : ∀ z, ws.set q1 (a, .inl (c1, n1, .inl z)) = ws'' z)
    (kk : ∀ (z : Nat → Int32) (H1 : Heap) (locs1 : List Loc), z = va_cpy f g sp.toNatClampNeg dp.toNatClampNeg nn.toNatClampNeg → Wd D A H0 (ws'' z) H1 locs1 → W p l e R s m args below meth c H1 locs1 cells slots Q (F0 m (pc + 3) ls rest)) : W p l e R s m args below meth c H locs cells slots Q (F0 m pc ls (.int nn :: .int dp :: .ref a :: .int sp :: .ref a0 :: rest)) := by
  obtain ⟨h1, h2, h3, h4, h5⟩ := of_decide_eq_true hok
  exact va_copyi hx hb (hml.trans hsz.symm) hown (htg _ hlink) (htg _ hnat) (htg _ hstat) (htg _ hini) hK hw.1 hw.2.1 hw.2.2 q0 q1 0 0 ha0 ha1 ht0 ht1 rfl h1 h2 h3 h4 h5 (fun _ _ => rfl) hframes hlocals hdg (fun H1 locs1 w1 w2 w3 => kk _ H1 locs1 rfl (by rw [← heq]; exact ⟨w1, w2, w3⟩))
theorem r_copyl {n0 n1 : Nat} {f g : Nat → Int64} {sp dp nn : Int32} {c0 c1 : ClassId} {a a0 : Nat} {ws'' : (Nat → Int64) → va_W} (hx : p.tables.exec = Jvm.exec) (hb : c.code = cc) (hml : c.maxLocals = nL) (hsz : ls.size = nL) (hown : s.vm.findClass own = some m.cls) (htg : ∀ w ∈ gw, w.before args s = true) (hlink : Cond.methodLink own index arraycopyName ∈ gw) (hnat : Cond.native arraycopyName ∈ gw) (hstat : Cond.static arraycopyName ∈ gw) (hini : Cond.initialized "java/lang/System" ∈ gw)
    (hK : va_K D vwCl (tyL ca) s) (hw : Wd D A H0 ws H locs) (q0 q1 : Nat) (ha0 : ws[q0]? = some (a0, .inl (c0, n0, .inr (.inl f)))) (ha1 : ws[q1]? = some (a, .inl (c1, n1, .inr (.inl g)))) (ht0 : (tyL ca)[1]? = some (c0, .long)) (ht1 : (tyL ca)[1]? = some (c1, .long))
    (hok : cpOK sp dp nn n0 n1 = true) (hframes : 1 ≤ R.frames) (hlocals : (rest.map fun v => v.category).sum + 18 ≤ R.locals) (hdg : decode cc pc = .ok (.invokestatic index, 3)) (heq : ∀ z, ws.set q1 (a, .inl (c1, n1, .inr (.inl z))) = ws'' z)
    (kk : ∀ (z : Nat → Int64) (H1 : Heap) (locs1 : List Loc), z = va_cpy f g sp.toNatClampNeg dp.toNatClampNeg nn.toNatClampNeg → Wd D A H0 (ws'' z) H1 locs1 → W p l e R s m args below meth c H1 locs1 cells slots Q (F0 m (pc + 3) ls rest)) : W p l e R s m args below meth c H locs cells slots Q (F0 m pc ls (.int nn :: .int dp :: .ref a :: .int sp :: .ref a0 :: rest)) := by
  obtain ⟨h1, h2, h3, h4, h5⟩ := of_decide_eq_true hok
  exact va_copyl hx hb (hml.trans hsz.symm) hown (htg _ hlink) (htg _ hnat) (htg _ hstat) (htg _ hini) hK hw.1 hw.2.1 hw.2.2 q0 q1 1 1 ha0 ha1 ht0 ht1 rfl h1 h2 h3 h4 h5 (fun _ _ => rfl) hframes hlocals hdg (fun H1 locs1 w1 w2 w3 => kk _ H1 locs1 rfl (by rw [← heq]; exact ⟨w1, w2, w3⟩))
end U2
/-- the texts that are compared: their bytes -/
def wbL : List (List Int32) := [[99, 117, 116], [112, 97, 115, 116, 101], [116, 117, 114, 110], [102, 108, 105, 112], [108, 105, 103, 104, 116], [104, 97, 108, 102], [100, 97, 114, 107], [97, 110, 121], [110, 101, 118, 101, 114], [119, 105, 116, 104], [97, 112, 97, 114, 116], [110, 101, 97, 114], [99, 117, 116], [112, 97, 115, 116, 101], [116, 117, 114, 110], [102, 108, 105, 112], [108, 105, 103, 104, 116], [104, 97, 108, 102], [100, 97, 114, 107], [97, 110, 121], [110, 101, 118, 101, 114], [119, 105, 116, 104], [97, 112, 97, 114, 116], [110, 101, 97, 114]]
def wb (k : Nat) : List Int32 := wbL.getD k []
/-- String constants: class, place in its pool, text, number -/
def sTab : List (String × Nat × String × Nat) := [("LampSheets$Tape", 82, "cut", 0), ("LampSheets$Tape", 84, "paste", 1), ("LampSheets$Tape", 86, "turn", 2), ("LampSheets$Tape", 88, "flip", 3), ("LampSheets$Tape", 90, "light", 4), ("LampSheets$Tape", 92, "half", 5), ("LampSheets$Tape", 94, "dark", 6), ("LampSheets$Tape", 96, "any", 7), ("LampSheets$Tape", 98, "never", 8), ("LampSheets$Tape", 100, "with", 9), ("LampSheets$Tape", 102, "apart", 10), ("LampSheets$Tape", 104, "near", 11), ("LampSheetsModel", 144, "cut", 12), ("LampSheetsModel", 146, "paste", 13), ("LampSheetsModel", 126, "turn", 14), ("LampSheetsModel", 139, "flip", 15), ("LampSheetsModel", 160, "light", 16), ("LampSheetsModel", 158, "half", 17), ("LampSheetsModel", 156, "dark", 18), ("LampSheetsModel", 162, "any", 19), ("LampSheetsModel", 164, "never", 20), ("LampSheetsModel", 166, "with", 21), ("LampSheetsModel", 168, "apart", 22), ("LampSheetsModel", 169, "near", 23), ("LampSheets", 72, "the mask is none", 24), ("LampSheets", 86, "there are 6 sheets", 25), ("LampSheets", 112, "some cell would be loose", 26), ("LampSheets", 126, "there are 6 scenes", 27), ("LampSheets", 135, "a number of the slot is none", 28), ("LampSheets", 140, "there are 4 slots", 29), ("LampSheets", 146, "the width is not 0 or 1", 30), ("LampSheets", 151, "the hands are not 1 or 2", 31), ("LampSheets", 183, "the shade is none", 32), ("LampSheets", 194, "nth is below NONE", 33), ("LampSheets", 256, "the cells are not 25 bits", 34), ("LampSheets", 261, "k is below NONE", 35), ("LampSheets", 284, "the sheet is in no slot", 36), ("LampSheets", 293, "the sheet cannot be cut anew", 37), ("LampSheets", 299, "there are 12 frames", 38), ("LampSheets", 317, "the times are not 1 to 50", 39), ("LampSheets", 328, "6 were seen", 40), ("LampSheets", 357, "the text is wrong", 41), ("LampSheets", 365, "no such sheet", 42), ("LampSheets", 368, "no such slot", 43), ("LampSheets", 370, "no such scene", 44), ("LampSheets", 372, "no such frame", 45), ("LampSheets", 374, "no such spot", 46), ("LampSheets", 376, "no such light or seat", 47)]
/-- words of a throw that the tables alone tell -/
def nbW : List Cond := [(Jvm.Cond.castable "java/lang/IllegalArgumentException" "java/lang/IllegalArgumentException"), (Jvm.Cond.declares ({ cls := "java/lang/RuntimeException", name := "<init>", desc := "()V" } : Jvm.MethodName)), (Jvm.Cond.declares ({ cls := "java/lang/RuntimeException", name := "<init>", desc := "(Ljava/lang/String;)V" } : Jvm.MethodName)), (Jvm.Cond.declares ({ cls := "java/lang/Exception", name := "<init>", desc := "()V" } : Jvm.MethodName)), (Jvm.Cond.declares ({ cls := "java/lang/Exception", name := "<init>", desc := "(Ljava/lang/String;)V" } : Jvm.MethodName)), (Jvm.Cond.declares ({ cls := "java/lang/Throwable", name := "<init>", desc := "()V" } : Jvm.MethodName)), (Jvm.Cond.declares ({ cls := "java/lang/Throwable", name := "<init>", desc := "(Ljava/lang/String;)V" } : Jvm.MethodName)), (Jvm.Cond.castable "java/lang/UnsupportedOperationException" "java/lang/UnsupportedOperationException"), (Jvm.Cond.castable "java/lang/IndexOutOfBoundsException" "java/lang/IndexOutOfBoundsException"), (Jvm.Cond.castable "java/lang/IllegalStateException" "java/lang/IllegalStateException")]
/-- exceptions that are no subclasses of each other -/
def ncW : List (String × String) := [("java/lang/IllegalArgumentException", "java/lang/IllegalStateException"), ("java/lang/IllegalArgumentException", "java/lang/IndexOutOfBoundsException"), ("java/lang/IllegalArgumentException", "java/lang/UnsupportedOperationException"), ("java/lang/IllegalStateException", "java/lang/IllegalArgumentException"), ("java/lang/IllegalStateException", "java/lang/IndexOutOfBoundsException"), ("java/lang/IllegalStateException", "java/lang/UnsupportedOperationException"), ("java/lang/IndexOutOfBoundsException", "java/lang/IllegalArgumentException"), ("java/lang/IndexOutOfBoundsException", "java/lang/IllegalStateException"), ("java/lang/IndexOutOfBoundsException", "java/lang/UnsupportedOperationException"), ("java/lang/UnsupportedOperationException", "java/lang/IllegalArgumentException"), ("java/lang/UnsupportedOperationException", "java/lang/IllegalStateException"), ("java/lang/UnsupportedOperationException", "java/lang/IndexOutOfBoundsException")]
def SO (t : List Int32) (a v : Nat) (A : Nat → Prop) (U : State) (H : Heap) : Prop :=
  va_O "java/lang/String" a A U H ∧ va_OF "java/lang/String" "coder" "B" (.int 0) a A U H ∧ va_OF "java/lang/String" "value" "[B" (.ref v) a A U H ∧ va_T .byte v t.length (fun j => .int (t.getD j 0)) A U H
/-- what nobody writes: String constants, the JDK's static fields, the tables' words of throws -/
def Sx (K : (Nat → Nat) × (Nat → Nat)) (A : Nat → Prop) (U : State) (H : Heap) : Prop :=
  (∀ k, k < 24 → SO (wb k) (K.1 k) (K.2 k) A U H) ∧ va_Z "java/lang/String" "COMPACT_STRINGS" "Z" (.int 1) A U H ∧ va_Zq "jdk/internal/util/Preconditions" "SIOOBE_FORMATTER" "Ljava/util/function/BiFunction;" A U H ∧ vx_Zq Bundle.tN "UNASSIGNED_STACK" Bundle.steD A U H ∧ vx_Zq Bundle.tN "SUPPRESSED_SENTINEL" Bundle.listD A U H ∧ (∀ q ∈ sTab, vk_R q.1 q.2.1 q.2.2.1 (K.1 q.2.2.2) U) ∧ (∀ w ∈ nbW, va_Nw w U) ∧ ∀ q ∈ ncW, va_Nc q.1 q.2 U
theorem SO.moved {t : List Int32} {a v : Nat} {A : Nat → Prop} {u U : State} {H : Heap} (hvm : u.vm.Alike U.vm) (h : SO t a v A u H) : SO t a v A U H := ⟨va_O.moved hvm h.1, va_OF.moved hvm h.2.1, va_OF.moved hvm h.2.2.1, va_T.moved hvm h.2.2.2⟩
theorem SO.kept {t : List Int32} {a v : Nat} {A : Nat → Prop} {U : State} {H H1 : Heap} (h : SO t a v A U H) (hq : ∀ a : Nat, a < H.size → ¬ A a → H1[a]? = H[a]?) : SO t a v A U H1 := ⟨h.1.kept hq, h.2.1.kept hq, h.2.2.1.kept hq, h.2.2.2.kept hq⟩
theorem nb_kind : ∀ w ∈ nbW, (∃ x, w = .declares x) ∨ ∃ C T, w = .castable C T := by
  intro w hw
  simp only [nbW, List.mem_cons, List.not_mem_nil, or_false] at hw
  rcases hw with h | h | h | h | h | h | h | h | h | h <;> subst h <;> first | exact Or.inl ⟨_, rfl⟩ | exact Or.inr ⟨_, _, rfl⟩
theorem Sx.warm {K : (Nat → Nat) × (Nat → Nat)} {A : Nat → Prop} {s U : State} {H : Heap} (hW : s.WarmedH U.vm) (h : Sx K A s H) : Sx K A U H := by
  obtain ⟨h1, h2, h3, h4, h5, h6, h7, h8⟩ := h
  refine ⟨fun k hk => (h1 k hk).moved hW.alike, va_Z.moved hW.alike h2, va_Zq.moved hW.alike h3, h4.moved hW.alike, h5.moved hW.alike, fun q hq => vk_R.warm hW (h6 q hq), fun w hw => ?_, fun q hq => va_Nc.moved hW.alike (h8 q hq)⟩
  rcases nb_kind w hw with ⟨x, rfl⟩ | ⟨C, T, rfl⟩
  · exact va_Nw.warmD hW (h7 _ hw)
  · exact va_Nw.warmC hW (h7 _ hw)
theorem Sx.kept {K : (Nat → Nat) × (Nat → Nat)} {A : Nat → Prop} {U : State} {H H1 : Heap} (h : Sx K A U H) (hq : ∀ a : Nat, a < H.size → ¬ A a → H1[a]? = H[a]?) : Sx K A U H1 := by
  obtain ⟨h1, h2, h3, h4, h5, h6, h7, h8⟩ := h
  exact ⟨fun k hk => (h1 k hk).kept hq, va_Z.kept h2 hq, va_Zq.kept h3 hq, h4.kept hq, h5.kept hq, h6, h7, h8⟩
def PX (D : va_G) (ca : Nat → ClassId) (ws : va_W) (K : (Nat → Nat) × (Nat → Nat)) (A : Nat → Prop) : State → Prop := fun U => va_P D vwCl ws U.heap ∧ va_K D vwCl (tyL ca) U ∧ Sx K A U U.heap
theorem PX_blind {av : List Value} {D : va_G} {ca : Nat → ClassId} {ws : va_W} {K : (Nat → Nat) × (Nat → Nat)} {A : Nat → Prop} : FrameBlind (va_Pc av (PX D ca ws K A)) := fun a U g mk q => ⟨q.1, q.2.1, va_K.moved (u := U) (U := U.calling g mk a) (Vm.Alike.refl U.vm) q.2.2.1, Sx.warm (s := U) (U := U.calling g mk a) (State.WarmedH.refl U) q.2.2.2⟩
def CRx (l : Launch) (y : MethodName) (b : ByteArray) (n : Nat) (r : Option FieldType) (rm : Room) (av : List Value) (D : va_G) (ca : Nat → ClassId) (K : (Nat → Nat) × (Nat → Nat)) (A : Nat → Prop) (ws : va_W) (v : Option Value) : Prop :=
  Met l y (wU y b n r) rm (va_Pc av (PX D ca ws K A)) (QR v) 0 0 (fun _ => False)
def CMx (l : Launch) (y : MethodName) (b : ByteArray) (n : Nat) (r : Option FieldType) (rm : Room) (av : List Value) (D : va_G) (ca : Nat → ClassId) (K : (Nat → Nat) × (Nat → Nat)) (A : Nat → Prop) (ws : va_W) (v : Option Value) (ws' : va_W) : Prop :=
  Met l y (wU y b n r) rm (va_Pc av (PX D ca ws K A)) (QM D v ws' A) 0 0 A
/-- it throws E, the world is ws' -/
def XT (D : va_G) (E : String) (ws' : va_W) (A : Nat → Prop) : String → State → State → Prop := fun E' st t => E' = E ∧ va_P D vwCl ws' t.heap ∧ va_D A ws' ∧ va_F A st t
def CX (l : Launch) (y : MethodName) (b : ByteArray) (n : Nat) (r : Option FieldType) (rm : Room) (av : List Value) (D : va_G) (ca : Nat → ClassId) (K : (Nat → Nat) × (Nat → Nat)) (A : Nat → Prop) (ws : va_W) (E : String) (ws' : va_W) : Prop :=
  vx_Met l y (wU y b n r) rm (va_Pc av (PX D ca ws K A)) (fun _ _ _ _ => False) (XT D E ws' A) 1 6 A
section U3
variable {p : Program} {l : Launch} {e : Env} {R : Room} {s : State} {m : MethodId} {args : Array Value} {below : List Frame} {meth : Method} {c : Code} {H : Heap} {locs : List Loc} {cells slots : Nat} {Q : State → Prop}
variable {y : MethodName} {b cc : ByteArray} {n nL k index : Nat} {r : Option FieldType} {rm : Room} {av : List Value} {D : va_G} {ca : Nat → ClassId} {A : Nat → Prop} {ws ws' ws1 : va_W} {v : Option Value} {own C E : String} {pc : Nat} {ls : Array Slot} {rest : List Value} {H0 : Heap} {K : (Nat → Nat) × (Nat → Nat)}
theorem CRx_of (hy : plainName y.cls = true) (hn : (lg_sl av).length ≤ n)
    (body : ∀ (p : Program) (e : Env) (s : State) (m : MethodId) (args : Array Value) (below : List Frame) (meth : Method) (c : Code) (ls : Array Slot) (Q : State → Prop),
      p.tables.exec = Jvm.exec → c.code = b → c.maxLocals = n → s.vm.findClass y.cls = some m.cls → (∀ w ∈ gw, w.before args s = true) → va_P D vwCl ws s.heap → va_K D vwCl (tyL ca) s → Sx K A s s.heap → lv_has ls n (lv_args 0 av) →
      (∀ g : JFrame, W p l e rm s m args below meth c s.heap [] 0 0 (MQ below (QR v) args s 0 0 (fun _ => False)) g → W p l e rm s m args below meth c s.heap [] 0 0 Q g) → meth.sig.returnType = r → meth.locks = false →
      W p l e rm s m args below meth c s.heap [] 0 0 Q (F0 m 0 ls [])) : CRx l y b n r rm av D ca K A ws v := by
  refine Met.ofW (cc := b) (maxL := n) (ret := r) hy rfl ?_
  intro p e s m args below meth c s₁ B hml hv
  obtain ⟨rfl, hP, hK, hX⟩ := hv
  rw [lg_entry_eq]
  exact body p e s m _ below meth c _ _ B.exec B.bytes hml (findClass_of_methodNamed B.named) (u_htg B.pre) hP hK hX (lv_entry av hn) (fun _ h => h) B.returns B.notSynchronized
theorem CMx_of (hy : plainName y.cls = true) (hn : (lg_sl av).length ≤ n) (hD : va_D A ws)
    (body : ∀ (p : Program) (e : Env) (s : State) (m : MethodId) (args : Array Value) (below : List Frame) (meth : Method) (c : Code) (ls : Array Slot) (Q : State → Prop),
      p.tables.exec = Jvm.exec → c.code = b → c.maxLocals = n → s.vm.findClass y.cls = some m.cls → (∀ w ∈ gw, w.before args s = true) → Wd D A s.heap ws s.heap [] → va_K D vwCl (tyL ca) s → Sx K A s s.heap → lv_has ls n (lv_args 0 av) →
      (∀ (H : Heap) (locs : List Loc) (g : JFrame), W p l e rm s m args below meth c H locs 0 0 (MQ below (QM D v ws' A) args s 0 0 A) g → W p l e rm s m args below meth c H locs 0 0 Q g) → meth.sig.returnType = r → meth.locks = false →
      W p l e rm s m args below meth c s.heap [] 0 0 Q (F0 m 0 ls [])) : CMx l y b n r rm av D ca K A ws v ws' := by
  refine Met.ofW (cc := b) (maxL := n) (ret := r) hy rfl ?_
  intro p e s m args below meth c s₁ B hml hv
  obtain ⟨rfl, hP, hK, hX⟩ := hv
  rw [lg_entry_eq]
  exact body p e s m _ below meth c _ _ B.exec B.bytes hml (findClass_of_methodNamed B.named) (u_htg B.pre) ⟨hP, hD, va_S.rf⟩ hK hX (lv_entry av hn) (fun _ _ _ h => h) B.returns B.notSynchronized
theorem CX_of (hy : plainName y.cls = true) (hn : (lg_sl av).length ≤ n) (hD : va_D A ws)
    (body : ∀ (p : Program) (e : Env) (s : State) (m : MethodId) (args : Array Value) (below : List Frame) (meth : Method) (c : Code) (ls : Array Slot) (Q : State → Prop),
      p.tables.exec = Jvm.exec → c.code = b → c.maxLocals = n → s.vm.findClass y.cls = some m.cls → (∀ w ∈ gw, w.before args s = true) → Wd D A s.heap ws s.heap [] → va_K D vwCl (tyL ca) s → Sx K A s s.heap → lv_has ls n (lv_args 0 av) →
      (∀ (H : Heap) (locs : List Loc) (g : JFrame), W p l e rm s m args below meth c H locs 0 0 (vx_MQ below (fun _ _ _ _ => False) (XT D E ws' A) args s 1 6 A) g → W p l e rm s m args below meth c H locs 0 0 Q g) →
      (∀ (H : Heap) (locs : List Loc) (cells slots : Nat) (g : JFrame) (q : Addr), vx_W p l e rm s m args below meth c H locs cells slots (vx_MQ below (fun _ _ _ _ => False) (XT D E ws' A) args s 1 6 A) g q → vx_W p l e rm s m args below meth c H locs cells slots Q g q) →
      meth.locks = false → (∀ x ∈ c.exceptionTable.toList, False) →
      W p l e rm s m args below meth c s.heap [] 0 0 Q (F0 m 0 ls [])) : CX l y b n r rm av D ca K A ws E ws' := by
  refine vx_ofW (cc := b) (maxL := n) (ret := r) hy rfl ?_
  intro p e s m args below meth c s₁ B hml ht hv
  obtain ⟨rfl, hP, hK, hX⟩ := hv
  rw [lg_entry_eq]
  exact body p e s m _ below meth c _ _ B.exec B.bytes hml (findClass_of_methodNamed B.named) (u_htg B.pre) ⟨hP, hD, va_S.rf⟩ hK hX (lv_entry av hn) (fun _ _ _ h => h) (fun _ _ _ _ _ _ h => h) B.notSynchronized ht
theorem k_SRx (S : Fx p m c cc nL s args own) (hM : CRx l y b n r rm av D ca K A ws v) (hcode : Cond.code y b n r ∈ gw) (hlink : Cond.methodLink own index y ∈ gw) (hini : Cond.initialized y.cls ∈ gw) (hst : Cond.static y ∈ gw)
    (hd : y.cls ≠ "java/lang/invoke/MethodHandle" ∧ y.cls ≠ "java/lang/invoke/VarHandle" ∧ (parseMethodDescriptor y.desc).map (fun d => d.parameters.length) = some av.length) (hR : rm.frames + 1 ≤ R.frames ∧ 8 + (n + 11) + rm.locals ≤ R.locals) (hrc : rm.cells = 0) (hrs : rm.slots = 0)
    (hK : va_K D vwCl (tyL ca) s) (hX : Sx K A s H) (hP : va_P D vwCl ws H) {st0 : List Value} (hl : ls.size = nL) (hs : st0 = av.reverse ++ rest) (hW : (rest.map fun v => v.category).sum ≤ 8) (hdg : decode cc pc = .ok (.invokestatic index, 3)) (hf : cells ≤ R.cells ∧ slots ≤ R.slots) {st1 : List Value} (hs1 : v.toList ++ rest = st1)
    (kk : W p l e R s m args below meth c H locs cells slots Q (F0 m (pc + 3) ls st1)) : W p l e R s m args below meth c H locs cells slots Q (F0 m pc ls st0) :=
  k_stop (va_runS (As := av) (rest := rest) (g := F0 m pc ls st0) S hM ⟨u_cb S.2.2.2.2 hcode hlink hini hd hR hrc hrs, S.2.2.2.2 _ hst⟩ ⟨PX_blind, fun U hU hW9 => ⟨rfl, by rw [hU]; exact hP, va_K.moved hW9.alike hK, by rw [hU]; exact hX.warm hW9⟩⟩ rfl rfl hl hs (lv_room hW) hdg hf) (by rw [hs1]; exact kk)
theorem k_VRx {q0 ci a : Nat} {fs : List Value} {T : u_T} {N : Nat} (S : Fx p m c cc nL s args own) (hM : CRx l y b n r rm (.ref a :: av) D ca K A ws v) (hcode : Cond.code y b n r ∈ gw) (hlink : Cond.methodLink own index y ∈ gw) (hini : Cond.initialized y.cls ∈ gw) (hin : Cond.instanceMethod y ∈ gw) (hse : Cond.selects y.cls y y ∈ gw)
    (hd : y.cls ≠ "java/lang/invoke/MethodHandle" ∧ y.cls ≠ "java/lang/invoke/VarHandle" ∧ (parseMethodDescriptor y.desc).map (fun d => d.parameters.length) = some av.length) (hR : rm.frames + 1 ≤ R.frames ∧ 8 + (n + 11) + rm.locals ≤ R.locals) (hrc : rm.cells = 0) (hrs : rm.slots = 0)
    (hK : va_K D vwCl (tyL ca) s) (hX : Sx K A s H) (hP : va_P D vwCl ws H) (he : ws[q0]? = some (a, .inr (ci, fs))) (hc : vwCl[ci]? = some (y.cls, T, N)) {st0 : List Value} (hl : ls.size = nL) (hs : st0 = av.reverse ++ .ref a :: rest) (hW : (rest.map fun v => v.category).sum ≤ 8) (hdg : decode cc pc = .ok (.invokevirtual index, 3)) (hf : cells ≤ R.cells ∧ slots ≤ R.slots) {st1 : List Value} (hs1 : v.toList ++ rest = st1)
    (kk : W p l e R s m args below meth c H locs cells slots Q (F0 m (pc + 3) ls st1)) : W p l e R s m args below meth c H locs cells slots Q (F0 m pc ls st0) :=
  k_stop (va_runV (As := av) (rest := rest) (b := a) (g := F0 m pc ls st0) S hM ⟨u_cb S.2.2.2.2 hcode hlink hini hd hR hrc hrs, S.2.2.2.2 _ hin, S.2.2.2.2 _ hse⟩ ⟨PX_blind, k_recv hK hP he hc, fun U hU hW9 => ⟨rfl, by rw [hU]; exact hP, va_K.moved hW9.alike hK, by rw [hU]; exact hX.warm hW9⟩⟩ rfl rfl hl hs (lv_room hW) hdg hf) (by rw [hs1]; exact kk)
/-- a String's method -/
theorem k_SVx {kk0 : Nat} (S : Fx p m c cc nL s args own) (hM : CRx l y b n r rm (.ref (K.1 kk0) :: av) D ca K A ws v) (hkk : kk0 < 24) (hyc : y.cls = "java/lang/String") (hcode : Cond.code y b n r ∈ gw) (hlink : Cond.methodLink own index y ∈ gw) (hini : Cond.initialized y.cls ∈ gw) (hin : Cond.instanceMethod y ∈ gw) (hse : Cond.selects y.cls y y ∈ gw)
    (hd : y.cls ≠ "java/lang/invoke/MethodHandle" ∧ y.cls ≠ "java/lang/invoke/VarHandle" ∧ (parseMethodDescriptor y.desc).map (fun d => d.parameters.length) = some av.length) (hR : rm.frames + 1 ≤ R.frames ∧ 8 + (n + 11) + rm.locals ≤ R.locals) (hrc : rm.cells = 0) (hrs : rm.slots = 0)
    (hK : va_K D vwCl (tyL ca) s) (hX : Sx K A s H) (hP : va_P D vwCl ws H) {st0 : List Value} (hl : ls.size = nL) (hs : st0 = av.reverse ++ .ref (K.1 kk0) :: rest) (hW : (rest.map fun v => v.category).sum ≤ 8) (hdg : decode cc pc = .ok (.invokevirtual index, 3)) (hf : cells ≤ R.cells ∧ slots ≤ R.slots) {st1 : List Value} (hs1 : v.toList ++ rest = st1)
    (kk : W p l e R s m args below meth c H locs cells slots Q (F0 m (pc + 3) ls st1)) : W p l e R s m args below meth c H locs cells slots Q (F0 m pc ls st0) := by
  refine k_stop (va_runV (As := av) (rest := rest) (b := K.1 kk0) (g := F0 m pc ls st0) S hM ⟨u_cb S.2.2.2.2 hcode hlink hini hd hR hrc hrs, S.2.2.2.2 _ hin, S.2.2.2.2 _ hse⟩ ⟨PX_blind, ?_, fun U hU hW9 => ⟨rfl, by rw [hU]; exact hP, va_K.moved hW9.alike hK, by rw [hU]; exact hX.warm hW9⟩⟩ rfl rfl hl hs (lv_room hW) hdg hf) (by rw [hs1]; exact kk)
  obtain ⟨cell, h1, h2, h3, -⟩ := (hX.1 kk0 hkk).1
  exact ⟨cell, h1, h2, by rw [hyc]; exact h3⟩
theorem k_SMx (S : Fx p m c cc nL s args own) (hM : CMx l y b n r rm av D ca K A ws v ws') (hcode : Cond.code y b n r ∈ gw) (hlink : Cond.methodLink own index y ∈ gw) (hini : Cond.initialized y.cls ∈ gw) (hst : Cond.static y ∈ gw)
    (hd : y.cls ≠ "java/lang/invoke/MethodHandle" ∧ y.cls ≠ "java/lang/invoke/VarHandle" ∧ (parseMethodDescriptor y.desc).map (fun d => d.parameters.length) = some av.length) (hR : rm.frames + 1 ≤ R.frames ∧ 8 + (n + 11) + rm.locals ≤ R.locals) (hrc : rm.cells = 0) (hrs : rm.slots = 0)
    (hK : va_K D vwCl (tyL ca) s) (hX : Sx K A s H) (hw : Wd D A H0 ws H locs) {st0 : List Value} (hl : ls.size = nL) (hs : st0 = av.reverse ++ rest) (hW : (rest.map fun v => v.category).sum ≤ 8) (hdg : decode cc pc = .ok (.invokestatic index, 3)) (hf : cells ≤ R.cells ∧ slots ≤ R.slots) {st1 : List Value} (hs1 : v.toList ++ rest = st1)
    (kk : ∀ (H1 : Heap) (locs1 : List Loc), Wd D A H0 ws' H1 locs1 → W p l e R s m args below meth c H1 locs1 cells slots Q (F0 m (pc + 3) ls st1)) : W p l e R s m args below meth c H locs cells slots Q (F0 m pc ls st0) :=
  k_stopM (va_runS (As := av) (rest := rest) (g := F0 m pc ls st0) S hM ⟨u_cb S.2.2.2.2 hcode hlink hini hd hR hrc hrs, S.2.2.2.2 _ hst⟩ ⟨PX_blind, fun U hU hW9 => ⟨rfl, by rw [hU]; exact hw.1, va_K.moved hW9.alike hK, by rw [hU]; exact hX.warm hW9⟩⟩ rfl rfl hl hs (lv_room hW) hdg hf) hw.2.2 (by rw [hs1]; exact kk)
theorem k_VMx {q0 ci a : Nat} {fs : List Value} {T : u_T} {N : Nat} (S : Fx p m c cc nL s args own) (hM : CMx l y b n r rm (.ref a :: av) D ca K A ws v ws') (hcode : Cond.code y b n r ∈ gw) (hlink : Cond.methodLink own index y ∈ gw) (hini : Cond.initialized y.cls ∈ gw) (hin : Cond.instanceMethod y ∈ gw) (hse : Cond.selects y.cls y y ∈ gw)
    (hd : y.cls ≠ "java/lang/invoke/MethodHandle" ∧ y.cls ≠ "java/lang/invoke/VarHandle" ∧ (parseMethodDescriptor y.desc).map (fun d => d.parameters.length) = some av.length) (hR : rm.frames + 1 ≤ R.frames ∧ 8 + (n + 11) + rm.locals ≤ R.locals) (hrc : rm.cells = 0) (hrs : rm.slots = 0)
    (hK : va_K D vwCl (tyL ca) s) (hX : Sx K A s H) (hw : Wd D A H0 ws H locs) (he : ws[q0]? = some (a, .inr (ci, fs))) (hc : vwCl[ci]? = some (y.cls, T, N)) {st0 : List Value} (hl : ls.size = nL) (hs : st0 = av.reverse ++ .ref a :: rest) (hW : (rest.map fun v => v.category).sum ≤ 8) (hdg : decode cc pc = .ok (.invokevirtual index, 3)) (hf : cells ≤ R.cells ∧ slots ≤ R.slots) {st1 : List Value} (hs1 : v.toList ++ rest = st1)
    (kk : ∀ (H1 : Heap) (locs1 : List Loc), Wd D A H0 ws' H1 locs1 → W p l e R s m args below meth c H1 locs1 cells slots Q (F0 m (pc + 3) ls st1)) : W p l e R s m args below meth c H locs cells slots Q (F0 m pc ls st0) :=
  k_stopM (va_runV (As := av) (rest := rest) (b := a) (g := F0 m pc ls st0) S hM ⟨u_cb S.2.2.2.2 hcode hlink hini hd hR hrc hrs, S.2.2.2.2 _ hin, S.2.2.2.2 _ hse⟩ ⟨PX_blind, k_recv hK hw.1 he hc, fun U hU hW9 => ⟨rfl, by rw [hU]; exact hw.1, va_K.moved hW9.alike hK, by rw [hU]; exact hX.warm hW9⟩⟩ rfl rfl hl hs (lv_room hW) hdg hf) hw.2.2 (by rw [hs1]; exact kk)
/-- a callee throws: so does this method -/
theorem k_VX {q0 ci a : Nat} {fs : List Value} {T : u_T} {N : Nat} (hQ : ∀ (H : Heap) (locs : List Loc) (cells slots : Nat) (g : JFrame) (q : Addr), vx_W p l e R s m args below meth c H locs cells slots (vx_MQ below (fun _ _ _ _ => False) (XT D E ws1 A) args s 1 6 A) g q → vx_W p l e R s m args below meth c H locs cells slots Q g q) (hlk : meth.locks = false) (htab : ∀ x ∈ c.exceptionTable.toList, False)
    (S : Fx p m c cc nL s args own) (hM : CX l y b n r rm (.ref a :: av) D ca K A ws E ws1) (hcode : Cond.code y b n r ∈ gw) (hlink : Cond.methodLink own index y ∈ gw) (hini : Cond.initialized y.cls ∈ gw) (hin : Cond.instanceMethod y ∈ gw) (hse : Cond.selects y.cls y y ∈ gw)
    (hd : y.cls ≠ "java/lang/invoke/MethodHandle" ∧ y.cls ≠ "java/lang/invoke/VarHandle" ∧ (parseMethodDescriptor y.desc).map (fun d => d.parameters.length) = some av.length) (hR : rm.frames + 1 ≤ R.frames ∧ 8 + (n + 11) + rm.locals ≤ R.locals) (hrc : rm.cells = 1) (hrs : rm.slots = 6)
    (hK : va_K D vwCl (tyL ca) s) (hX : Sx K A s H) (hw : Wd D A s.heap ws H locs) (he : ws[q0]? = some (a, .inr (ci, fs))) (hc : vwCl[ci]? = some (y.cls, T, N)) {st0 : List Value} (hl : ls.size = nL) (hs : st0 = av.reverse ++ .ref a :: rest) (hW : (rest.map fun v => v.category).sum ≤ 8) (hdg : decode cc pc = .ok (.invokevirtual index, 3)) (hf : 0 + 1 ≤ R.cells ∧ 0 + 6 ≤ R.slots) :
    W p l e R s m args below meth c H locs 0 0 Q (F0 m pc ls st0) := by
  have hr := vx_runV (cells := 0) (slots := 0) (As := av) (rest := rest) (b := a) (g := F0 m pc ls st0) S hM ⟨u_cb S.2.2.2.2 hcode hlink hini hd hR hrc hrs, S.2.2.2.2 _ hin, S.2.2.2.2 _ hse⟩ ⟨PX_blind, k_recv hK hw.1 he hc, fun U hU hW9 => ⟨rfl, by rw [hU]; exact hw.1, va_K.moved hW9.alike hK, by rw [hU]; exact hX.warm hW9⟩⟩ rfl rfl hl hs (lv_room hW) hdg hf (locs := locs) (H := H) (e := e) (below := below) (meth := meth)
  intro T hT X
  rcases hr T hT X with ⟨v, st₀, t, T', L, h0, X', hL, e1, e2, hq, st⟩ | ⟨q, st₀, t, T', L, E2, ce, h0, X', hL, e1, e2, ⟨rfl, hP, hD, hF⟩, hce, hcv, hcl, st⟩
  · exact absurd hq id
  · obtain ⟨k1, k2, k3⟩ := vx_keep h0 e1 hw.2.2 (fun _ _ h => h) (fun _ h => h) hL hF
    obtain ⟨t2, a1, b1⟩ := hQ T'.heap (locs ++ L) (0 + 1) (0 + 6) (F0 m pc ls rest) q (vx_out (E := E2) (fun x hx => (htab x hx).elim) hlk (by rw [e1]; exact hce) hcv hcl (fun t3 ht3 _ => ⟨rfl, by rw [ht3, e1]; exact hP, hD, k3.F ht3⟩) k3.2.2 (Nat.le_refl _) (Nat.le_refl _)) T' rfl X'
    exact ⟨t2, st.trans a1, b1⟩
theorem x_in {w : Cond} (htg : ∀ w ∈ gw, w.before args s = true) (hX : Sx K A s H) (hw : w ∈ gw ∨ w ∈ nbW) : w.before args s = true := by
  rcases hw with h | h
  · exact htg w h
  · rcases nb_kind w h with ⟨x, rfl⟩ | ⟨C, T, rfl⟩
    · exact va_Nw.use rfl (hX.2.2.2.2.2.2.1 _ h)
    · exact va_Nw.use rfl (hX.2.2.2.2.2.2.1 _ h)
/-- throw new E("text") -/
theorem x_throw {text : String} {ik is ic kk : Nat} (hl : l.stackTraces = false) (hQ : ∀ (H : Heap) (locs : List Loc) (g : JFrame), W p l e R s m args below meth c H locs 0 0 (vx_MQ below (fun _ _ _ _ => False) (XT D E ws A) args s 1 6 A) g → W p l e R s m args below meth c H locs 0 0 Q g) (hlk : meth.locks = false) (htab : ∀ x ∈ c.exceptionTable.toList, False)
    (hx : p.tables.exec = Jvm.exec) (hb : c.code = cc) (hml : c.maxLocals = nL) (hsz : ls.size = nL) (hown : s.vm.findClass own = some m.cls) (htg : ∀ w ∈ gw, w.before args s = true) (hX : Sx K A s s.heap) (hw : Wd D A s.heap ws H locs)
    (hE : Bundle.fit E = true) (hk : Cond.classLink own ik E ∈ gw) (hini : Cond.initialized E ∈ gw) (hstr : (own, is, text, kk) ∈ sTab) (hat : ∀ w ∈ vx_atS own ic E ["java/lang/RuntimeException", "java/lang/Exception"], w ∈ gw ∨ w ∈ nbW) (hgood : ∀ w ∈ Cond.classLink own ik E :: Cond.initialized E :: vx_atS own ic E ["java/lang/RuntimeException", "java/lang/Exception"], vx_ot w = true)
    (d0 : decode cc pc = .ok (.new ik, 3)) (d3 : decode cc (pc + 3) = .ok (.dup, 1)) (d4 : decode cc (pc + 4) = .ok (.ldc is, 2)) (d6 : decode cc (pc + 6) = .ok (.invokespecial ic, 3)) (d9 : decode cc (pc + 9) = .ok (.athrow, 1))
    (hRf : 5 < R.frames) (hRl : (rest.map fun v => v.category).sum + 82 ≤ R.locals) (hRc : 0 + 1 ≤ R.cells) (hRs : 0 + 6 ≤ R.slots) : W p l e R s m args below meth c H locs 0 0 Q (F0 m pc ls rest) :=
  hQ _ _ _ (vx_throwS (names := ["java/lang/RuntimeException", "java/lang/Exception"]) hx hb hl hown hE (by decide +kernel) (htg _ hk) (htg _ hini) (hX.2.2.2.2.2.1 _ hstr) (fun w h => x_in htg hX (hat w h)) hgood hX.2.2.2.1 hX.2.2.2.2.1 hw.2.2 (hsz.trans hml.symm) d0 d3 d4 d6 d9 (fun x h => (htab x h).elim) hRf hRl hRc hRs hlk
    (fun t _ h1 h2 => ⟨rfl, fun k q hq => (hw.1 k q hq).kept (h2 _ (hw.1 k q hq).lt), hw.2.1, Nat.le_trans hw.2.2.1 h1, fun q q1 q2 => by rw [h2 q (Nat.lt_of_lt_of_le q1 hw.2.2.1)]; exact hw.2.2.2.1 q q1 q2⟩) hw.2.2.2.2 (Nat.le_refl _) (Nat.le_refl _))
theorem x_throwW {text : String} {ik is ic kk : Nat} (hl : l.stackTraces = false) (hQ : ∀ (H : Heap) (locs : List Loc) (g : JFrame), W p l e R s m args below meth c H locs 0 0 (vx_MQ below (fun _ _ _ _ => False) (XT D E ws A) args s 1 6 A) g → W p l e R s m args below meth c H locs 0 0 Q g) (hlk : meth.locks = false) (htab : ∀ x ∈ c.exceptionTable.toList, False)
    (hx : p.tables.exec = Jvm.exec) (hb : c.code = cc) (hml : c.maxLocals = nL) (hsz : ls.size = nL) (hown : s.vm.findClass own = some m.cls) (htg : ∀ w ∈ gw, w.before args s = true) (hX : Sx K A s s.heap) (hw : Wd D A s.heap ws H locs)
    (hE : Bundle.fit E = true) (hk : Cond.classLink own ik E ∈ gw) (hini : Cond.initialized E ∈ gw) (hstr : (own, is, text, kk) ∈ sTab) (hat : ∀ w ∈ vx_atS own ic E ["java/lang/RuntimeException", "java/lang/Exception"], w ∈ gw ∨ w ∈ nbW) (hgood : ∀ w ∈ Cond.classLink own ik E :: Cond.initialized E :: vx_atS own ic E ["java/lang/RuntimeException", "java/lang/Exception"], vx_ot w = true)
    (d0 : decode cc pc = .ok (.new ik, 3)) (d3 : decode cc (pc + 3) = .ok (.dup, 1)) (d4 : decode cc (pc + 4) = .ok (.ldc_w is, 3)) (d6 : decode cc (pc + 7) = .ok (.invokespecial ic, 3)) (d9 : decode cc (pc + 10) = .ok (.athrow, 1))
    (hRf : 5 < R.frames) (hRl : (rest.map fun v => v.category).sum + 82 ≤ R.locals) (hRc : 0 + 1 ≤ R.cells) (hRs : 0 + 6 ≤ R.slots) : W p l e R s m args below meth c H locs 0 0 Q (F0 m pc ls rest) :=
  hQ _ _ _ (vx_throwSW (names := ["java/lang/RuntimeException", "java/lang/Exception"]) hx hb hl hown hE (by decide +kernel) (htg _ hk) (htg _ hini) (hX.2.2.2.2.2.1 _ hstr) (fun w h => x_in htg hX (hat w h)) hgood hX.2.2.2.1 hX.2.2.2.2.1 hw.2.2 (hsz.trans hml.symm) d0 d3 d4 d6 d9 (fun x h => (htab x h).elim) hRf hRl hRc hRs hlk
    (fun t _ h1 h2 => ⟨rfl, fun k q hq => (hw.1 k q hq).kept (h2 _ (hw.1 k q hq).lt), hw.2.1, Nat.le_trans hw.2.2.1 h1, fun q q1 q2 => by rw [h2 q (Nat.lt_of_lt_of_le q1 hw.2.2.1)]; exact hw.2.2.2.1 q q1 q2⟩) hw.2.2.2.2 (Nat.le_refl _) (Nat.le_refl _))
end U3
/-- a call that may throw, in a function -/
def xb {α β χ : Type} (o : Option (α ⊕ χ)) (kx : χ → Option β) (k : α → Option β) : Option β := match o with
  | none => none
  | some (.inl a) => k a
  | some (.inr x) => kx x
theorem xb_some {α β χ : Type} {o : Option (α ⊕ χ)} {kx : χ → Option β} {k : α → Option β} {r : β} (h : xb o kx k = some r) : (∃ a, o = some (.inl a) ∧ k a = some r) ∨ ∃ x, o = some (.inr x) ∧ kx x = some r := by
  cases o with
  | none => cases h
  | some q => cases q with
    | inl a => exact Or.inl ⟨a, rfl, h⟩
    | inr x => exact Or.inr ⟨x, rfl, h⟩
/-- the exceptions, by numbers -/
def exn (k : Nat) : String := ["java/lang/IllegalArgumentException", "java/lang/IllegalStateException", "java/lang/IndexOutOfBoundsException", "java/lang/UnsupportedOperationException"].getD k ""
