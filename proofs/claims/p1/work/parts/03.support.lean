/-! support: a method's start, its ends, calls, cells in short -/
abbrev TY (T : Nat → ClassId) : List (ClassId × FieldType) := [(T 0, .int), (T 1, .byte), (T 2, .boolean), (T 3, .long)]
abbrev ai (T : Nat → ClassId) (q n : Nat) (f : Nat → Int32) : Nat × va_E := (q, .inl (T 0, n, .inl f))
abbrev ab (T : Nat → ClassId) (q n : Nat) (f : Nat → Int32) : Nat × va_E := (q, .inl (T 1, n, .inl f))
abbrev az (T : Nat → ClassId) (q n : Nat) (f : Nat → Int32) : Nat × va_E := (q, .inl (T 2, n, .inl f))
abbrev al (T : Nat → ClassId) (q n : Nat) (f : Nat → Int64) : Nat × va_E := (q, .inl (T 3, n, .inr (.inl f)))
abbrev aq (cE : ClassId) (q n : Nat) (f : Nat → Option Nat) : Nat × va_E := (q, .inl (cE, n, .inr (.inr (.inr (.inr f)))))
abbrev ob (q ci : Nat) (fs : List Value) : Nat × va_E := (q, .inr (ci, fs))
abbrev cst (v : Int32) : Nat → Int32 := fun _ => v
def isNest : Cond → Bool
  | .methodLinkNest .. => true
  | _ => false
/-- what isn't among the good words: the nest mates' constructors, the array of evenings -/
def NS (U : State) : Prop := (∀ w ∈ lw_tbl, isNest w = true → va_Nw w U) ∧ va_AO "OneCup$Evening" U
theorem NS.warm {s U : State} (hW : s.WarmedH U.vm) (h : NS s) : NS U := by
  refine ⟨fun w hw hn => ?_, h.2.moved hW.alike⟩
  have h1 := h.1 w hw hn
  cases w <;> first | exact va_Nw.warmM hW h1 | (simp [isNest] at hn)
theorem NS.same {u U : State} (hvm : u.vm = U.vm) (h : NS u) : NS U := by
  refine ⟨fun w hw hn => ?_, h.2.moved (hvm ▸ Vm.Alike.refl u.vm)⟩
  have h1 := h.1 w hw hn
  cases w <;> first | exact va_Nw.same rfl hvm h1 | (simp [isNest] at hn)
theorem NS.of {A : Array Value} {s : State} (h : ∀ w ∈ lw_tbl, w.before A s = true) (ho : (Cond.arrayOver (.object "OneCup$Evening")).before A s = true) : NS s := by
  refine ⟨fun w hw hn => ?_, va_AO.of ho⟩
  have h1 := h w hw
  cases w <;> first | exact va_Nw.of rfl h1 | (simp [isNest] at hn)
abbrev PW (D : va_G) (tys : List (ClassId × FieldType)) (W0 : va_W) (sz : Nat) : State → Prop := fun U => U.heap.size = sz ∧ va_P D vwCl W0 U.heap ∧ va_K D vwCl tys U ∧ va_D (fun _ => True) W0 ∧ NS U
abbrev QI {X : Type} (D : va_G) (post : Int32 → X → Prop) (W1 : X → va_W) (A : Nat → Prop) : Array Value → State → Outcome → State → Prop := va_Qi post (fun x t => va_P D vwCl (W1 x) t.heap ∧ va_D A (W1 x)) A
abbrev QV {X : Type} (D : va_G) (post : X → Prop) (W1 : X → va_W) (A : Nat → Prop) : Array Value → State → Outcome → State → Prop := va_Qv post (fun x t => va_P D vwCl (W1 x) t.heap ∧ va_D A (W1 x)) A
abbrev QR {X : Type} (D : va_G) (post : X → Prop) (q : Nat) (W1 : X → va_W) (A : Nat → Prop) : Array Value → State → Outcome → State → Prop := va_Qr post (fun x a t => a = q ∧ va_P D vwCl (W1 x) t.heap ∧ va_D A (W1 x)) A
abbrev LW (args : Array Value) (s : State) : Prop := ∀ w ∈ lw_good, w.before args s = true
theorem gWS {c : Cond} (h : c ∈ lw_good) : GoodIn lw_good (WS c) := by
  intro w hw
  have h1 : w ∈ lw_good := (List.mem_cons.mp hw).elim (fun e => e ▸ h) id
  exact ⟨h1, good_of_word (List.mem_filter.mp h1).2⟩
theorem gV {own C : String} {i : Nat} {y : MethodName} {c : Cond} (h1 : Cond.methodLink own i y ∈ lw_good) (h2 : Cond.instanceMethod y ∈ lw_good) (h3 : Cond.selects C y y ∈ lw_good) (h4 : Cond.initialized C ∈ lw_good) (h : c ∈ lw_good) : GoodIn lw_good (wsV own i C y (WS c)) := by
  intro w hw
  unfold wsV at hw
  rcases List.mem_append.mp hw with hw | hw
  · have h5 : w ∈ lw_good := by
      simp only [List.mem_cons, List.not_mem_nil, or_false] at hw
      rcases hw with rfl | rfl | rfl | rfl <;> assumption
    exact ⟨h5, good_of_word (List.mem_filter.mp h5).2⟩
  · exact gWS h w hw
theorem gS {own : String} {i : Nat} {y : MethodName} {c : Cond} (h1 : Cond.methodLink own i y ∈ lw_good) (h2 : Cond.static y ∈ lw_good) (h4 : Cond.initialized y.cls ∈ lw_good) (h : c ∈ lw_good) : GoodIn lw_good (va_wsS own i y (WS c)) := by
  intro w hw
  unfold va_wsS at hw
  rcases List.mem_append.mp hw with hw | hw
  · have h5 : w ∈ lw_good := by
      simp only [List.mem_cons, List.not_mem_nil, or_false] at hw
      rcases hw with rfl | rfl | rfl <;> assumption
    exact ⟨h5, good_of_word (List.mem_filter.mp h5).2⟩
  · exact gWS h w hw
theorem mk_met {l : Launch} {y : MethodName} {cc : ByteArray} {maxL : Nat} {ret : Option FieldType} {rm : Room} {D : va_G} {tys : List (ClassId × FieldType)} {W0 : va_W} {sz : Nat} {av : List Value} {Qc : (Nat → Prop) → Array Value → State → Outcome → State → Prop} {mc ms : Nat} {lv : List (Nat × Value)}
    (hy : plainName y.cls = true) (hlen : (lg_sl av).length ≤ maxL) (hlv : lv_args 0 av = lv)
    (body : ∀ (p : Program) (e : Env) (s : State) (m : MethodId) (below : List Frame) (meth : Method) (c : Code) (A : Nat → Prop) (ls : Array Slot) (H : Heap) (locs : List Loc), p.tables.exec = Jvm.exec → c.code = cc → c.maxLocals = maxL → meth.sig.returnType = ret → meth.locks = false → s.vm.findClass y.cls = some m.cls → meth.name = y.name → LW av.toArray s → NS s → (∀ q, s.heap.size ≤ q → A q) → va_P D vwCl W0 H → va_K D vwCl tys s → va_D A W0 → va_S A s.heap H locs → lv_has ls maxL lv → W p l e rm s m av.toArray below meth c H locs 0 0 (MQ below (Qc A) av.toArray s mc ms A) (F0 m 0 ls [])) :
    Met l y (WS (.code y cc maxL ret)) rm (va_Pc av (PW D tys W0 sz)) (Qc (va_A W0 sz)) mc ms (va_A W0 sz) := by
  refine Met.ofW (cc := cc) (maxL := maxL) (ret := ret) hy rfl ?_
  intro p e s m args below meth c s₁ B hml hv
  obtain ⟨rfl, hsz, hP, hK, hD0, hN⟩ := hv
  have hts := atoms_spec (ws := WS (.code y cc maxL ret)) B.pre
  subst hsz
  have hl := lv_entry av (n := maxL) hlen
  rw [hlv] at hl
  rw [lg_entry_eq]
  exact body p e s m below meth c (va_A W0 s.heap.size) _ s.heap [] B.exec B.bytes hml B.returns B.notSynchronized (findClass_of_methodNamed B.named) (name_of_methodNamed B.named B.method).1 (fun w hw => hts w (List.mem_cons_of_mem _ hw)) hN (fun q h => Or.inr h) hP hK hD0.self va_S.rf hl
section Z
variable {p : Program} {l : Launch} {e : Env} {R : Room} {s : State} {m : MethodId} {args : Array Value} {below : List Frame} {meth : Method} {c : Code} {H : Heap} {locs : List Loc} {cells slots : Nat} {Q : State → Prop}
variable {cc : ByteArray} {pc : Nat} {ls : Array Slot} {rest : List Value} {D : va_G} {A : Nat → Prop} {tys : List (ClassId × FieldType)} {ws : va_W} {H0 : Heap}
theorem pick {ws ws' : va_W} {is : List Nat} (h : is.map (fun i => ws[i]?) = ws'.map some) : is.filterMap (fun i => ws[i]?) = ws' := by
  have h2 : is.filterMap (fun i => ws[i]?) = (is.map (fun i => ws[i]?)).filterMap id := by rw [List.filterMap_map]; rfl
  rw [h2, h, List.filterMap_map]
  simp
theorem P_sub {W0 : va_W} (h : va_P D vwCl ws H) (is : List Nat) (hs : is.map (fun i => ws[i]?) = W0.map some) : va_P D vwCl W0 H := h.sub is (pick hs)
theorem ret_i {X : Type} {post : Int32 → X → Prop} {W1 : X → va_W} (x : X) {v : Int32} {ty : FieldType} (hx : p.tables.exec = Jvm.exec) (hb : c.code = cc) (hr : meth.sig.returnType = some ty) (hlocks : meth.locks = false) (hP : va_P D vwCl ws H) (hD : va_D A ws) (hS : va_S A s.heap H locs) (is : List Nat) (hn : va_nd is = true) (hs : is.map (fun i => ws[i]?) = (W1 x).map some) (hp : post v x) (hnar : narrow ty (.int v) = .int v) (hdg : decode cc pc = .ok (.ireturn, 1)) :
    W p l e R s m args below meth c H locs cells slots (MQ below (QI D post W1 A) args s cells slots A) (F0 m pc ls [.int v]) :=
  W.zret hx hb hr hnar (fun t ht _ => ⟨⟨v, x, rfl, hp, by rw [ht]; exact P_sub hP is hs, hD.sub is hn hs⟩, hS.F ht⟩) hS.2.2 hdg (hlocks := hlocks)
theorem ret_v {X : Type} {post : X → Prop} {W1 : X → va_W} (x : X) (hx : p.tables.exec = Jvm.exec) (hb : c.code = cc) (hr : meth.sig.returnType = none) (hlocks : meth.locks = false) (hP : va_P D vwCl ws H) (hD : va_D A ws) (hS : va_S A s.heap H locs) (is : List Nat) (hn : va_nd is = true) (hs : is.map (fun i => ws[i]?) = (W1 x).map some) (hp : post x) (hdg : decode cc pc = .ok (.return_, 1)) :
    W p l e R s m args below meth c H locs cells slots (MQ below (QV D post W1 A) args s cells slots A) (F0 m pc ls []) :=
  W.vret hx hb hr (fun t ht _ => ⟨⟨x, rfl, hp, by rw [ht]; exact P_sub hP is hs, hD.sub is hn hs⟩, hS.F ht⟩) hS.2.2 hdg (hlocks := hlocks)
theorem ret_r {X : Type} {post : X → Prop} {W1 : X → va_W} (x : X) {q : Nat} {rt : FieldType} (hrt : (∃ n, rt = .object n) ∨ ∃ t, rt = .array t) (hx : p.tables.exec = Jvm.exec) (hb : c.code = cc) (hr : meth.sig.returnType = some rt) (hlocks : meth.locks = false) (hP : va_P D vwCl ws H) (hD : va_D A ws) (hS : va_S A s.heap H locs) (is : List Nat) (hn : va_nd is = true) (hs : is.map (fun i => ws[i]?) = (W1 x).map some) (hp : post x) (hdg : decode cc pc = .ok (.areturn, 1)) :
    W p l e R s m args below meth c H locs cells slots (MQ below (QR D post q W1 A) args s cells slots A) (F0 m pc ls [.ref q]) :=
  W.aret hx hb hr hrt (Or.inr ⟨q, rfl⟩) (fun t ht _ => ⟨⟨x, q, rfl, hp, rfl, by rw [ht]; exact P_sub hP is hs, hD.sub is hn hs⟩, hS.F ht⟩) hS.2.2 hdg (hlocks := hlocks)
/-- the blindness of PW to frames -/
theorem PW_blind {av : List Value} {W0 : va_W} {sz : Nat} : FrameBlind (va_Pc av (PW D tys W0 sz)) := fun a U g mk q => by
  obtain ⟨q0, q1, qP, qK, qD, qN⟩ := q
  exact ⟨q0, q1, qP, va_K.moved (u := U) (U := U.calling g mk a) (Vm.Alike.refl U.vm) qK, qD, NS.same (u := U) (U := U.calling g mk a) rfl qN⟩
section CL
variable {own C : String} {index : Nat} {y : MethodName} {bytes : ByteArray} {maxL : Nat} {rm : Room} {W0 : va_W} {mc ms n nL : Nat} {b : Nat} {As : List Value} {st0 : List Value} {X : Type}
theorem run_V {Qc : (Nat → Prop) → Array Value → State → Outcome → State → Prop} {ret : Option FieldType} (ci q0 : Nat) {fs : List Value} {T : u_T} {N : Nat} (hx : p.tables.exec = Jvm.exec) (hb : c.code = cc) (hml : c.maxLocals = nL) (hown : s.vm.findClass own = some m.cls) (hg : LW args s) (hN : NS s)
    (hM : Met l y (WS (.code y bytes maxL ret)) rm (va_Pc (.ref b :: As) (PW D tys W0 H.size)) (Qc (va_A W0 H.size)) mc ms (va_A W0 H.size))
    (h1 : Cond.methodLink own index y ∈ lw_good) (h2 : Cond.instanceMethod y ∈ lw_good) (h3 : Cond.selects C y y ∈ lw_good) (h4 : Cond.initialized C ∈ lw_good) (h5 : Cond.code y bytes maxL ret ∈ lw_good)
    (hrc : rm.cells = mc) (hrs : rm.slots = ms) (hd : y.cls = C ∧ y.cls ≠ "java/lang/invoke/MethodHandle" ∧ y.cls ≠ "java/lang/invoke/VarHandle" ∧ (parseMethodDescriptor y.desc).map (fun d => d.parameters.length) = some n) (hR : rm.frames + 1 ≤ R.frames ∧ 8 + (maxL + 11) + rm.locals ≤ R.locals)
    (hK : va_K D vwCl tys s) (hP : va_P D vwCl W0 H) (hD : va_D A W0) (hc : vwCl[ci]? = some (C, T, N)) (he : W0[q0]? = some (b, .inr (ci, fs)))
    (hn : As.length = n) (hsz : ls.size = nL) (hst : st0 = As.reverse ++ .ref b :: rest) (hW : (rest.map fun v => v.category).sum ≤ 8) (hdg : decode cc pc = .ok (.invokevirtual index, 3)) (hf : cells + mc ≤ R.cells ∧ slots + ms ≤ R.slots) :
    va_Run p l e R s m args below meth c H locs cells slots mc ms (F0 m pc ls st0) rest (Qc (va_A W0 H.size) (Value.ref b :: As).toArray) (va_A W0 H.size) :=
  va_runV (Ts := lw_good) (As := As) (rest := rest) ⟨hx, hb, hml, hown, hg⟩ hM (cwV n hg (gV h1 h2 h3 h4 h5) rfl hrc hrs hd hR) ⟨PW_blind, va_recv hK hP hc he, fun U hU hW => ⟨rfl, by rw [hU], by rw [hU]; exact hP, va_K.moved hW.alike hK, hD.weaken (fun _ _ _ _ => trivial), NS.warm hW hN⟩⟩ rfl hn hsz hst (lv_room hW) hdg hf
theorem run_S {Qc : (Nat → Prop) → Array Value → State → Outcome → State → Prop} {ret : Option FieldType} (hx : p.tables.exec = Jvm.exec) (hb : c.code = cc) (hml : c.maxLocals = nL) (hown : s.vm.findClass own = some m.cls) (hg : LW args s) (hN : NS s)
    (hM : Met l y (WS (.code y bytes maxL ret)) rm (va_Pc As (PW D tys W0 H.size)) (Qc (va_A W0 H.size)) mc ms (va_A W0 H.size))
    (h1 : Cond.methodLink own index y ∈ lw_good) (h2 : Cond.static y ∈ lw_good) (h4 : Cond.initialized y.cls ∈ lw_good) (h5 : Cond.code y bytes maxL ret ∈ lw_good)
    (hrc : rm.cells = mc) (hrs : rm.slots = ms) (hd : y.cls ≠ "java/lang/invoke/MethodHandle" ∧ y.cls ≠ "java/lang/invoke/VarHandle" ∧ (parseMethodDescriptor y.desc).map (fun d => d.parameters.length) = some n) (hR : rm.frames + 1 ≤ R.frames ∧ 8 + (maxL + 11) + rm.locals ≤ R.locals)
    (hK : va_K D vwCl tys s) (hP : va_P D vwCl W0 H) (hD : va_D A W0)
    (hn : As.length = n) (hsz : ls.size = nL) (hst : st0 = As.reverse ++ rest) (hW : (rest.map fun v => v.category).sum ≤ 8) (hdg : decode cc pc = .ok (.invokestatic index, 3)) (hf : cells + mc ≤ R.cells ∧ slots + ms ≤ R.slots) :
    va_Run p l e R s m args below meth c H locs cells slots mc ms (F0 m pc ls st0) rest (Qc (va_A W0 H.size) As.toArray) (va_A W0 H.size) :=
  va_runS (Ts := lw_good) (As := As) (rest := rest) ⟨hx, hb, hml, hown, hg⟩ hM (va_cwS n hg (gS h1 h2 h4 h5) rfl hrc hrs hd hR) ⟨PW_blind, fun U hU hW => ⟨rfl, by rw [hU], by rw [hU]; exact hP, va_K.moved hW.alike hK, hD.weaken (fun _ _ _ _ => trivial), NS.warm hW hN⟩⟩ rfl hn hsz hst (lv_room hW) hdg hf
theorem run_I {Qc : (Nat → Prop) → Array Value → State → Outcome → State → Prop} (hx : p.tables.exec = Jvm.exec) (hb : c.code = cc) (hml : c.maxLocals = nL) (hown : s.vm.findClass own = some m.cls) (hg : LW args s) (hN : NS s)
    (hM : Met l y (WS (.code y bytes maxL none)) rm (va_Pc (.ref b :: As) (PW D tys W0 H.size)) (Qc (va_A W0 H.size)) mc ms (va_A W0 H.size))
    (h1 : Cond.methodLink own index y ∈ lw_good) (h2 : Cond.instanceMethod y ∈ lw_good) (h4 : Cond.initialized y.cls ∈ lw_good) (h5 : Cond.code y bytes maxL none ∈ lw_good) (hy1 : y.name = "<init>")
    (hrc : rm.cells = mc) (hrs : rm.slots = ms) (hd : y.cls ≠ "java/lang/invoke/MethodHandle" ∧ y.cls ≠ "java/lang/invoke/VarHandle" ∧ (parseMethodDescriptor y.desc).map (fun d => d.parameters.length) = some n) (hR : rm.frames + 1 ≤ R.frames ∧ 8 + (maxL + 11) + rm.locals ≤ R.locals)
    (hK : va_K D vwCl tys s) (hP : va_P D vwCl W0 H) (hD : va_D A W0)
    (hn : As.length = n) (hsz : ls.size = nL) (hst : st0 = As.reverse ++ .ref b :: rest) (hW : (rest.map fun v => v.category).sum ≤ 8) (hdg : decode cc pc = .ok (.invokespecial index, 3)) (hf : cells + mc ≤ R.cells ∧ slots + ms ≤ R.slots) :
    va_Run p l e R s m args below meth c H locs cells slots mc ms (F0 m pc ls st0) rest (Qc (va_A W0 H.size) (Value.ref b :: As).toArray) (va_A W0 H.size) :=
  va_runI (Ts := lw_good) (As := As) (rest := rest) ⟨hx, hb, hml, hown, hg⟩ hM (cwI n hg (gWS h5) rfl hrc hrs (hg _ h4) (hg _ h1) (hg _ h2) hy1 hd hR) ⟨PW_blind, fun U hU hW => ⟨rfl, by rw [hU], by rw [hU]; exact hP, va_K.moved hW.alike hK, hD.weaken (fun _ _ _ _ => trivial), NS.warm hW hN⟩⟩ rfl hn hsz hst (lv_room hW) hdg hf
theorem run_N {Qc : (Nat → Prop) → Array Value → State → Outcome → State → Prop} {host : String} (hx : p.tables.exec = Jvm.exec) (hb : c.code = cc) (hml : c.maxLocals = nL) (hown : s.vm.findClass own = some m.cls) (hg : LW args s) (hN : NS s)
    (hM : Met l y (WS (.code y bytes maxL none)) rm (va_Pc (.ref b :: As) (PW D tys W0 H.size)) (Qc (va_A W0 H.size)) mc ms (va_A W0 H.size))
    (h1 : Cond.methodLinkNest own index y host ∈ lw_tbl) (h2 : Cond.instanceMethod y ∈ lw_good) (h4 : Cond.initialized y.cls ∈ lw_good) (h5 : Cond.code y bytes maxL none ∈ lw_good) (hy1 : y.name = "<init>")
    (hrc : rm.cells = mc) (hrs : rm.slots = ms) (hd : y.cls ≠ "java/lang/invoke/MethodHandle" ∧ y.cls ≠ "java/lang/invoke/VarHandle" ∧ (parseMethodDescriptor y.desc).map (fun d => d.parameters.length) = some n) (hR : rm.frames + 1 ≤ R.frames ∧ 8 + (maxL + 11) + rm.locals ≤ R.locals)
    (hK : va_K D vwCl tys s) (hP : va_P D vwCl W0 H) (hD : va_D A W0)
    (hn : As.length = n) (hsz : ls.size = nL) (hst : st0 = As.reverse ++ .ref b :: rest) (hW : (rest.map fun v => v.category).sum ≤ 8) (hdg : decode cc pc = .ok (.invokespecial index, 3)) (hf : cells + mc ≤ R.cells ∧ slots + ms ≤ R.slots) :
    va_Run p l e R s m args below meth c H locs cells slots mc ms (F0 m pc ls st0) rest (Qc (va_A W0 H.size) (Value.ref b :: As).toArray) (va_A W0 H.size) :=
  va_runIN (Ts := lw_good) (As := As) (rest := rest) ⟨hx, hb, hml, hown, hg⟩ hM ⟨va_cnB n hg (gWS h5) rfl hrc hrs (hN.1 _ h1 rfl) (hg _ h4) hd hR, hy1, hg _ h2⟩ ⟨PW_blind, fun U hU hW => ⟨rfl, by rw [hU], by rw [hU]; exact hP, va_K.moved hW.alike hK, hD.weaken (fun _ _ _ _ => trivial), NS.warm hW hN⟩⟩ rfl hn hsz hst (lv_room hW) hdg hf
end CL
/-- behind a call: the rest and what came back -/
theorem cont_i {X : Type} {a : Array Value} {st0 : List Value} {mc ms : Nat} {W0 Wr : va_W} {post : Int32 → X → Prop} {W1 : X → va_W} (isC isR : List Nat)
    (hr : va_Run p l e R s m args below meth c H locs cells slots mc ms (F0 m pc ls st0) rest (QI D post W1 (va_A W0 H.size) a) (va_A W0 H.size)) (hP : va_P D vwCl ws H) (hD : va_D A ws) (hS : va_S A H0 H locs) (hA : ∀ q, H0.size ≤ q → A q)
    (hC : isC.map (fun i => ws[i]?) = W0.map some) (hR : isR.map (fun i => ws[i]?) = Wr.map some) (hn : va_nd isR = true) (hdis : ∀ i ∈ isR, i ∉ isC)
    (kk : ∀ (r : Int32) (x : X) (H1 : Heap) (locs1 : List Loc), post r x → va_P D vwCl (Wr ++ W1 x) H1 → va_D A (Wr ++ W1 x) → va_S A H0 H1 locs1 → W p l e R s m args below meth c H1 locs1 (cells + mc) (slots + ms) Q (F0 m (pc + 3) ls (.int r :: rest))) : W p l e R s m args below meth c H locs cells slots Q (F0 m pc ls st0) := by
  have hF := va_free (wc := W0) hD hS hA isC hC
  refine va_calli hr hS (fun q _ h => hF q h) hF (fun r u t H1 locs ht hvm hw hB hz1 hk1 hS => ?_)
  obtain ⟨hP1, hD1⟩ := hB
  rw [ht] at hP1
  obtain ⟨hP, hD⟩ := va_join (wr := Wr) (w1 := W1 u) hP hD isC isR hC hR hn hdis hk1 hF hP1 hD1
  exact kk r u H1 locs hw hP hD hS
theorem cont_v {X : Type} {a : Array Value} {st0 : List Value} {mc ms : Nat} {W0 Wr : va_W} {post : X → Prop} {W1 : X → va_W} (isC isR : List Nat)
    (hr : va_Run p l e R s m args below meth c H locs cells slots mc ms (F0 m pc ls st0) rest (QV D post W1 (va_A W0 H.size) a) (va_A W0 H.size)) (hP : va_P D vwCl ws H) (hD : va_D A ws) (hS : va_S A H0 H locs) (hA : ∀ q, H0.size ≤ q → A q)
    (hC : isC.map (fun i => ws[i]?) = W0.map some) (hR : isR.map (fun i => ws[i]?) = Wr.map some) (hn : va_nd isR = true) (hdis : ∀ i ∈ isR, i ∉ isC)
    (kk : ∀ (x : X) (H1 : Heap) (locs1 : List Loc), post x → va_P D vwCl (Wr ++ W1 x) H1 → va_D A (Wr ++ W1 x) → va_S A H0 H1 locs1 → W p l e R s m args below meth c H1 locs1 (cells + mc) (slots + ms) Q (F0 m (pc + 3) ls rest)) : W p l e R s m args below meth c H locs cells slots Q (F0 m pc ls st0) := by
  have hF := va_free (wc := W0) hD hS hA isC hC
  refine va_callv hr hS (fun q _ h => hF q h) hF (fun u t H1 locs ht hvm hw hB hz1 hk1 hS => ?_)
  obtain ⟨hP1, hD1⟩ := hB
  rw [ht] at hP1
  obtain ⟨hP, hD⟩ := va_join (wr := Wr) (w1 := W1 u) hP hD isC isR hC hR hn hdis hk1 hF hP1 hD1
  exact kk u H1 locs hw hP hD hS
theorem cont_r {X : Type} {a : Array Value} {st0 : List Value} {mc ms q : Nat} {W0 Wr : va_W} {post : X → Prop} {W1 : X → va_W} (isC isR : List Nat)
    (hr : va_Run p l e R s m args below meth c H locs cells slots mc ms (F0 m pc ls st0) rest (QR D post q W1 (va_A W0 H.size) a) (va_A W0 H.size)) (hP : va_P D vwCl ws H) (hD : va_D A ws) (hS : va_S A H0 H locs) (hA : ∀ q, H0.size ≤ q → A q)
    (hC : isC.map (fun i => ws[i]?) = W0.map some) (hR : isR.map (fun i => ws[i]?) = Wr.map some) (hn : va_nd isR = true) (hdis : ∀ i ∈ isR, i ∉ isC)
    (kk : ∀ (x : X) (H1 : Heap) (locs1 : List Loc), post x → va_P D vwCl (Wr ++ W1 x) H1 → va_D A (Wr ++ W1 x) → va_S A H0 H1 locs1 → W p l e R s m args below meth c H1 locs1 (cells + mc) (slots + ms) Q (F0 m (pc + 3) ls (.ref q :: rest))) : W p l e R s m args below meth c H locs cells slots Q (F0 m pc ls st0) := by
  have hF := va_free (wc := W0) hD hS hA isC hC
  refine va_callr hr hS (fun q _ h => hF q h) hF (fun u ra t H1 locs ht hvm hw hB hz1 hk1 hS => ?_)
  obtain ⟨rfl, hP1, hD1⟩ := hB
  rw [ht] at hP1
  obtain ⟨hP, hD⟩ := va_join (wr := Wr) (w1 := W1 u) hP hD isC isR hC hR hn hdis hk1 hF hP1 hD1
  exact kk u H1 locs hw hP hD hS
/-- arithmetic with the result named -/
theorem z_top {x v : Int32} (h : x = v) (k : W p l e R s m args below meth c H locs cells slots Q (F0 m pc ls (.int v :: rest))) : W p l e R s m args below meth c H locs cells slots Q (F0 m pc ls (.int x :: rest)) := by subst h; exact k
theorem z_iald (hx : p.tables.exec = Jvm.exec) (hb : c.code = cc) (hK : va_K D vwCl tys s) (hP : va_P D vwCl ws H) (q0 t0 : Nat) {a : Nat} {cA : ClassId} {n j : Nat} {f : Nat → Int32} {v : Int32} (ha : ws[q0]? = some (a, .inl (cA, n, .inl f))) (ht : tys[t0]? = some (cA, .int)) {i : Int32} (hi : vp_in i n) (hj : i.toNatClampNeg = j) (hv : f j = v) (hdg : decode cc pc = .ok (.iaload, 1))
    (kk : W p l e R s m args below meth c H locs cells slots Q (F0 m (pc + 1) ls (.int v :: rest))) : W p l e R s m args below meth c H locs cells slots Q (F0 m pc ls (.int i :: .ref a :: rest)) := by
  subst hj; subst hv
  exact va_iald hx hb hK hP q0 t0 ha ht hi hdg kk
theorem z_iast (hx : p.tables.exec = Jvm.exec) (hb : c.code = cc) (hK : va_K D vwCl tys s) (hP : va_P D vwCl ws H) (hD : va_D A ws) (hS : va_S A H0 H locs) (q0 t0 : Nat) {a : Nat} {cA : ClassId} {n j : Nat} {f g : Nat → Int32} (ha : ws[q0]? = some (a, .inl (cA, n, .inl f))) (ht : tys[t0]? = some (cA, .int)) {i x : Int32} (hi : vp_in i n) (hj : i.toNatClampNeg = j) (hg : upd f j x = g) (hdg : decode cc pc = .ok (.iastore, 1))
    (kk : ∀ (H1 : Heap) (locs1 : List Loc), va_P D vwCl (ws.set q0 (a, .inl (cA, n, .inl g))) H1 → va_D A (ws.set q0 (a, .inl (cA, n, .inl g))) → va_S A H0 H1 locs1 → W p l e R s m args below meth c H1 locs1 cells slots Q (F0 m (pc + 1) ls rest)) : W p l e R s m args below meth c H locs cells slots Q (F0 m pc ls (.int x :: .int i :: .ref a :: rest)) := by
  subst hj; subst hg
  exact va_iast hx hb hK hP hD hS q0 t0 ha ht hi hdg kk
theorem z_bald (hx : p.tables.exec = Jvm.exec) (hb : c.code = cc) (hK : va_K D vwCl tys s) (hP : va_P D vwCl ws H) (q0 t0 : Nat) {a : Nat} {cA : ClassId} {n j : Nat} {f : Nat → Int32} {v : Int32} (ha : ws[q0]? = some (a, .inl (cA, n, .inl f))) (ht : tys[t0]? = some (cA, .byte)) {i : Int32} (hi : vp_in i n) (hj : i.toNatClampNeg = j) (hv : f j = v) (hdg : decode cc pc = .ok (.baload, 1))
    (kk : W p l e R s m args below meth c H locs cells slots Q (F0 m (pc + 1) ls (.int v :: rest))) : W p l e R s m args below meth c H locs cells slots Q (F0 m pc ls (.int i :: .ref a :: rest)) := by
  subst hj; subst hv
  exact va_bald hx hb hK hP q0 t0 ha ht hi hdg kk
theorem z_zald (hx : p.tables.exec = Jvm.exec) (hb : c.code = cc) (hK : va_K D vwCl tys s) (hP : va_P D vwCl ws H) (q0 t0 : Nat) {a : Nat} {cA : ClassId} {n j : Nat} {f : Nat → Int32} {v : Int32} (ha : ws[q0]? = some (a, .inl (cA, n, .inl f))) (ht : tys[t0]? = some (cA, .boolean)) {i : Int32} (hi : vp_in i n) (hj : i.toNatClampNeg = j) (hv : f j = v) (hdg : decode cc pc = .ok (.baload, 1))
    (kk : W p l e R s m args below meth c H locs cells slots Q (F0 m (pc + 1) ls (.int v :: rest))) : W p l e R s m args below meth c H locs cells slots Q (F0 m pc ls (.int i :: .ref a :: rest)) := by
  subst hj; subst hv
  exact va_zald hx hb hK hP q0 t0 ha ht hi hdg kk
theorem z_bast (hx : p.tables.exec = Jvm.exec) (hb : c.code = cc) (hK : va_K D vwCl tys s) (hP : va_P D vwCl ws H) (hD : va_D A ws) (hS : va_S A H0 H locs) (q0 t0 : Nat) {a : Nat} {cA : ClassId} {n j : Nat} {f g : Nat → Int32} (ha : ws[q0]? = some (a, .inl (cA, n, .inl f))) (ht : tys[t0]? = some (cA, .byte)) {i x : Int32} (hi : vp_in i n) (hj : i.toNatClampNeg = j) (hg : upd f j (vp_nar .byte x) = g) (hdg : decode cc pc = .ok (.bastore, 1))
    (kk : ∀ (H1 : Heap) (locs1 : List Loc), va_P D vwCl (ws.set q0 (a, .inl (cA, n, .inl g))) H1 → va_D A (ws.set q0 (a, .inl (cA, n, .inl g))) → va_S A H0 H1 locs1 → W p l e R s m args below meth c H1 locs1 cells slots Q (F0 m (pc + 1) ls rest)) : W p l e R s m args below meth c H locs cells slots Q (F0 m pc ls (.int x :: .int i :: .ref a :: rest)) := by
  subst hj; subst hg
  exact va_bast hx hb hK hP hD hS q0 t0 ha ht hi hdg kk
theorem z_zast (hx : p.tables.exec = Jvm.exec) (hb : c.code = cc) (hK : va_K D vwCl tys s) (hP : va_P D vwCl ws H) (hD : va_D A ws) (hS : va_S A H0 H locs) (q0 t0 : Nat) {a : Nat} {cA : ClassId} {n j : Nat} {f g : Nat → Int32} (ha : ws[q0]? = some (a, .inl (cA, n, .inl f))) (ht : tys[t0]? = some (cA, .boolean)) {i x : Int32} (hi : vp_in i n) (hj : i.toNatClampNeg = j) (hg : upd f j (vp_nar .boolean x) = g) (hdg : decode cc pc = .ok (.bastore, 1))
    (kk : ∀ (H1 : Heap) (locs1 : List Loc), va_P D vwCl (ws.set q0 (a, .inl (cA, n, .inl g))) H1 → va_D A (ws.set q0 (a, .inl (cA, n, .inl g))) → va_S A H0 H1 locs1 → W p l e R s m args below meth c H1 locs1 cells slots Q (F0 m (pc + 1) ls rest)) : W p l e R s m args below meth c H locs cells slots Q (F0 m pc ls (.int x :: .int i :: .ref a :: rest)) := by
  subst hj; subst hg
  exact va_zast hx hb hK hP hD hS q0 t0 ha ht hi hdg kk
theorem z_last (hx : p.tables.exec = Jvm.exec) (hb : c.code = cc) (hK : va_K D vwCl tys s) (hP : va_P D vwCl ws H) (hD : va_D A ws) (hS : va_S A H0 H locs) (q0 t0 : Nat) {a : Nat} {cA : ClassId} {n j : Nat} {f g : Nat → Int64} (ha : ws[q0]? = some (a, .inl (cA, n, .inr (.inl f)))) (ht : tys[t0]? = some (cA, .long)) {i : Int32} {x : Int64} (hi : vp_in i n) (hj : i.toNatClampNeg = j) (hg : vp_updL f j x = g) (hdg : decode cc pc = .ok (.lastore, 1))
    (kk : ∀ (H1 : Heap) (locs1 : List Loc), va_P D vwCl (ws.set q0 (a, .inl (cA, n, .inr (.inl g)))) H1 → va_D A (ws.set q0 (a, .inl (cA, n, .inr (.inl g)))) → va_S A H0 H1 locs1 → W p l e R s m args below meth c H1 locs1 cells slots Q (F0 m (pc + 1) ls rest)) : W p l e R s m args below meth c H locs cells slots Q (F0 m pc ls (.long x :: .int i :: .ref a :: rest)) := by
  subst hj; subst hg
  exact va_last hx hb hK hP hD hS q0 t0 ha ht hi hdg kk
/-- a new array of ints: its class is the one that is known -/
theorem cls_same {cA cB : ClassId} {ty : FieldType} (hp : refKind ty = false) (h1 : va_RA s cA ty) (h2 : va_RA s cB ty) : cA = cB := by
  cases ty <;> first | exact Option.some.inj (h1.symm.trans h2) | (simp [refKind] at hp)
theorem z_newa (hx : p.tables.exec = Jvm.exec) (hb : c.code = cc) {atype : ArrayType} {ty : FieldType} (ha : (Cond.arrayClass (newarray.typeOf atype)).before args s = true) (hty : newarray.typeOf atype = ty) (hprim : refKind ty = false) (hK : va_K D vwCl tys s) (hP : va_P D vwCl ws H) (hD : va_D A ws) (hS : va_S A H0 H locs) (hA : ∀ q, H0.size ≤ q → A q) (t0 : Nat) {cT : ClassId} (ht : tys[t0]? = some (cT, ty))
    {n : Int32} {N' : Nat} {a0 : vp_A} (h0 : ∀ cA : ClassId, vp_cell cA a0 = arrV cA N' (fun _ => defaultValue ty)) (hn : ¬ n < 0) (hN : n.toNatClampNeg = N') (hbytes : N' * componentBytes ty ≤ 536870912) (hcells : cells + 1 ≤ R.cells) (hslots : slots + N' ≤ R.slots) (hdg : decode cc pc = .ok (.newarray atype, 2))
    (kk : ∀ (q : Nat) (H1 : Heap), va_P D vwCl (ws ++ [(q, .inl (cT, a0))]) H1 → va_D A (ws ++ [(q, .inl (cT, a0))]) → va_S A H0 H1 locs → W p l e R s m args below meth c H1 locs (cells + 1) (slots + N') Q (F0 m (pc + 2) ls (.ref q :: rest))) : W p l e R s m args below meth c H locs cells slots Q (F0 m pc ls (.int n :: rest)) := by
  refine va_newa (atype := atype) (ty := ty) (a0 := a0) hx hb ha hty hK hP hD hS hA h0 hn hN hbytes hcells hslots hdg (fun q cA H1 hK1 hP hD hS => ?_)
  have e : cA = cT := cls_same hprim (hK1.2 tys.length (cA, ty) (by simp)).2 (hK.2 t0 _ ht).2
  subst e
  exact kk q H1 hP hD hS
end Z
theorem in_places {ws : List Cond} (ps : List Nat) (hp : ws = ps.filterMap (fun i => lw_tbl[i]?)) (h : ws.all goodWord = true) : ∀ w ∈ ws, w ∈ lw_good := by
  intro w hw
  have h1 := List.all_eq_true.mp h w hw
  rw [hp] at hw
  obtain ⟨i, -, hi⟩ := List.mem_filterMap.mp hw
  exact List.mem_filter.mpr ⟨List.mem_of_getElem? hi, h1⟩
/-! loops, contents of arrays, plain facts -/
theorem loopW {σ : Type} {Wf : Heap → List Loc → Array Slot → Prop} (H : Heap) (locs : List Loc) (ls : Array Slot) (E : Nat) (I : Nat → σ → Heap → List Loc → Array Slot → Prop) (hx : ∀ x H locs ls, I E x H locs ls → Wf H locs ls)
    (hs : ∀ i x, i < E → (∀ y H locs ls, I (i + 1) y H locs ls → Wf H locs ls) → ∀ H locs ls, I i x H locs ls → Wf H locs ls) (x0 : σ) (h0 : I 0 x0 H locs ls) : Wf H locs ls := by
  have key : ∀ (n i : Nat), i + n = E → ∀ x H locs ls, I i x H locs ls → Wf H locs ls := by
    intro n
    induction n with
    | zero => intro i hi x H locs ls h; rw [Nat.add_zero] at hi; subst hi; exact hx x H locs ls h
    | succ n ih => intro i hi x H locs ls h; exact hs i x (by omega) (fun y H locs ls h => ih (i + 1) (by omega) y H locs ls h) H locs ls h
  exact key E 0 (Nat.zero_add E) x0 H locs ls h0
theorem arrV_cong {cA : ClassId} {n : Nat} {f g : Nat → Value} (h : ∀ j, j < n → f j = g j) : arrV cA n f = arrV cA n g := by
  unfold arrV
  congr 1
  apply Array.ext
  · simp
  · intro j h1 h2
    simp at h1
    simp [h j h1]
theorem P_cong {D : va_G} {ws ws' : va_W} {H : Heap} (h : va_P D vwCl ws H) (k : Nat) {q n : Nat} {cA : ClassId} {f g : Nat → Int32} (ha : ws[k]? = some (q, .inl (cA, n, .inl f))) (hw : ws.set k (q, .inl (cA, n, .inl g)) = ws') (hfg : ∀ j, j < n → f j = g j) : va_P D vwCl ws' H := by
  subst hw
  intro i x hx
  by_cases hi : i = k
  · subst hi
    rw [List.getElem?_set_self (List.getElem?_eq_some_iff.mp ha).1] at hx
    cases hx
    have h1 : H[q]? = some (vp_cell cA (n, .inl f)) := h i _ ha
    show H[q]? = some (vp_cell cA (n, .inl g))
    rw [h1, vp_cell_i, vp_cell_i, arrV_cong (fun j hj => by rw [hfg j hj])]
  · rw [List.getElem?_set_ne (Ne.symm hi)] at hx
    exact h i x hx
theorem D_cong {A : Nat → Prop} {ws ws' : va_W} (h : va_D A ws) (k : Nat) {q n : Nat} {cA : ClassId} {f g : Nat → Int32} (ha : ws[k]? = some (q, .inl (cA, n, .inl f))) (hw : ws.set k (q, .inl (cA, n, .inl g)) = ws') : va_D A ws' := by
  subst hw
  exact h.set ha
theorem fa_lt (a b : Int32) : a < b ↔ a.toInt < b.toInt := Int32.lt_iff_toInt_lt
theorem fa_le (a b : Int32) : a ≤ b ↔ a.toInt ≤ b.toInt := Int32.le_iff_toInt_le
theorem fa_eq (a b : Int32) : a = b ↔ a.toInt = b.toInt := ⟨fun h => by rw [h], fun h => Int32.toInt_inj.mp h⟩
theorem fa_lt64 (a b : Int64) : a < b ↔ a.toInt < b.toInt := Int64.lt_iff_toInt_lt
theorem fa_le64 (a b : Int64) : a ≤ b ↔ a.toInt ≤ b.toInt := Int64.le_iff_toInt_le
theorem w64 (a : Int32) : a.toInt64.toInt = a.toInt := Int32.toInt_toInt64 a
def upr (f : Nat → Int32) (b m : Nat) (v : Int32) : Nat → Int32 := fun k => if b ≤ k ∧ k < b + m then v else f k
theorem upr_0 (f : Nat → Int32) (b : Nat) (v : Int32) : upr f b 0 v = f := by
  funext k; unfold upr; rw [if_neg (by omega)]
theorem upr_s (f : Nat → Int32) (b m : Nat) (v : Int32) : upd (upr f b m v) (b + m) v = upr f b (m + 1) v := by
  funext k; unfold upr upd
  by_cases h : k = b + m
  · rw [if_pos h, if_pos (by omega)]
  · rw [if_neg h]
    show (if b ≤ k ∧ k < b + m then v else f k) = _
    by_cases h2 : b ≤ k ∧ k < b + m
    · rw [if_pos h2, if_pos (by omega)]
    · rw [if_neg h2, if_neg (by omega)]
theorem upr_s0 (f : Nat → Int32) (m : Nat) (v : Int32) : upd (upr f 0 m v) m v = upr f 0 (m + 1) v := by
  have h := upr_s f 0 m v
  rw [Nat.zero_add] at h
  exact h
theorem upr_all {f : Nat → Int32} {n j : Nat} {v : Int32} (h : j < n) : upr f 0 n v j = v := by
  unfold upr; rw [if_pos (by omega)]
theorem upd_cst (v : Int32) (j : Nat) : upd (cst v) j v = cst v := by
  funext k; unfold upd; by_cases h : k = j <;> simp [h, cst]
theorem updL_cst (v : Int64) (j : Nat) : vp_updL (fun _ => v) j v = fun _ => v := by
  funext k; unfold vp_updL; split <;> rfl
theorem upd_same {f : Nat → Int32} {j : Nat} {v : Int32} (h : f j = v) : upd f j v = f := by
  funext k; unfold upd; by_cases e : k = j
  · rw [if_pos e, e, h]
  · rw [if_neg e]
def cpf (g f : Nat → Int32) (m : Nat) : Nat → Int32 := fun k => if k < m then g k else f k
theorem cpf_0 (g f : Nat → Int32) : cpf g f 0 = f := by
  funext k; unfold cpf; rw [if_neg (by omega)]
theorem cpf_s (g f : Nat → Int32) (m : Nat) : upd (cpf g f m) m (g m) = cpf g f (m + 1) := by
  funext k; unfold cpf upd
  by_cases h : k = m
  · rw [if_pos h, if_pos (by omega), h]
  · rw [if_neg h]
    show (if k < m then g k else f k) = _
    by_cases h2 : k < m
    · rw [if_pos h2, if_pos (by omega)]
    · rw [if_neg h2, if_neg (by omega)]
theorem cpf_in {g f : Nat → Int32} {m k : Nat} (h : k < m) : cpf g f m k = g k := by unfold cpf; rw [if_pos h]
theorem lcmp_nlt {x y : Int64} (h : y ≤ x) : ¬ lg_cmp x y < 0 := by
  unfold lg_cmp; rw [fa_le64] at h
  by_cases h1 : y < x
  · simp [h1]
  · have e : x = y := Int64.toInt_inj.mp (by rw [fa_lt64] at h1; omega)
    simp [h1, e]
theorem lcmp_ngt {x y : Int64} (h : x ≤ y) : ¬ 0 < lg_cmp x y := by
  unfold lg_cmp; rw [fa_le64] at h
  have h1 : ¬ y < x := by rw [fa_lt64]; omega
  by_cases e : x = y
  · simp [e]
  · simp [h1, e]
theorem lcmp_lt {x y : Int64} (h : x < y) : lg_cmp x y < 0 := by
  unfold lg_cmp; rw [fa_lt64] at h
  have h1 : ¬ y < x := by rw [fa_lt64]; omega
  have e : ¬ x = y := fun e => by rw [e] at h; omega
  simp [h1, e]
theorem lcmp_gt {x y : Int64} (h : y < x) : 0 < lg_cmp x y := by
  unfold lg_cmp; simp [h]
theorem cpy_cst (v : Int32) (a b n : Nat) : va_cpy (cst v) (cst v) a b n = cst v := by
  funext k; unfold va_cpy; split <;> rfl
theorem k32_0 : ((0) : Int32).toInt = 0 := by decide
theorem k64_0 : ((0) : Int64).toInt = 0 := by decide
theorem k32_1 : ((1) : Int32).toInt = 1 := by decide
theorem k64_1 : ((1) : Int64).toInt = 1 := by decide
theorem k32_2 : ((2) : Int32).toInt = 2 := by decide
theorem k64_2 : ((2) : Int64).toInt = 2 := by decide
theorem k32_3 : ((3) : Int32).toInt = 3 := by decide
theorem k64_3 : ((3) : Int64).toInt = 3 := by decide
theorem k32_4 : ((4) : Int32).toInt = 4 := by decide
theorem k64_4 : ((4) : Int64).toInt = 4 := by decide
theorem k32_5 : ((5) : Int32).toInt = 5 := by decide
theorem k64_5 : ((5) : Int64).toInt = 5 := by decide
theorem k32_6 : ((6) : Int32).toInt = 6 := by decide
theorem k64_6 : ((6) : Int64).toInt = 6 := by decide
theorem k32_7 : ((7) : Int32).toInt = 7 := by decide
theorem k64_7 : ((7) : Int64).toInt = 7 := by decide
theorem k32_8 : ((8) : Int32).toInt = 8 := by decide
theorem k64_8 : ((8) : Int64).toInt = 8 := by decide
theorem k32_9 : ((9) : Int32).toInt = 9 := by decide
theorem k64_9 : ((9) : Int64).toInt = 9 := by decide
theorem k32_10 : ((10) : Int32).toInt = 10 := by decide
theorem k64_10 : ((10) : Int64).toInt = 10 := by decide
theorem k32_15 : ((15) : Int32).toInt = 15 := by decide
theorem k64_15 : ((15) : Int64).toInt = 15 := by decide
theorem k32_40 : ((40) : Int32).toInt = 40 := by decide
theorem k64_40 : ((40) : Int64).toInt = 40 := by decide
theorem k32_60 : ((60) : Int32).toInt = 60 := by decide
theorem k64_60 : ((60) : Int64).toInt = 60 := by decide
theorem k32_100 : ((100) : Int32).toInt = 100 := by decide
theorem k64_100 : ((100) : Int64).toInt = 100 := by decide
theorem k32_120 : ((120) : Int32).toInt = 120 := by decide
theorem k64_120 : ((120) : Int64).toInt = 120 := by decide
theorem k32_127 : ((127) : Int32).toInt = 127 := by decide
theorem k64_127 : ((127) : Int64).toInt = 127 := by decide
theorem k32_880 : ((880) : Int32).toInt = 880 := by decide
theorem k64_880 : ((880) : Int64).toInt = 880 := by decide
theorem k32_900 : ((900) : Int32).toInt = 900 := by decide
theorem k64_900 : ((900) : Int64).toInt = 900 := by decide
theorem k32_m1 : ((-1) : Int32).toInt = -1 := by decide
theorem k64_m1 : ((-1) : Int64).toInt = -1 := by decide
theorem k32_64 : ((64) : Int32).toInt = 64 := by decide
theorem k64_64 : ((64) : Int64).toInt = 64 := by decide
theorem k32_180 : ((180) : Int32).toInt = 180 := by decide
theorem k64_180 : ((180) : Int64).toInt = 180 := by decide
theorem inX0 : ∀ w ∈ u_ws RX0 TX0 12, w ∈ lw_good := in_places [634, 636, 638, 640, 642, 644, 646, 648, 650, 652, 654, 656] (by decide +kernel) (by decide +kernel)
theorem inX1 : ∀ w ∈ u_ws RX1 TX1 9, w ∈ lw_good := in_places [373, 375, 377, 379, 381, 383, 385, 387, 389] (by decide +kernel) (by decide +kernel)
theorem inX2 : ∀ w ∈ u_ws RX2 TX2 4, w ∈ lw_good := in_places [506, 508, 510, 512] (by decide +kernel) (by decide +kernel)
theorem inX3 : ∀ w ∈ u_ws RX3 TX3 6, w ∈ lw_good := in_places [404, 406, 408, 410, 412, 414] (by decide +kernel) (by decide +kernel)
theorem inX4 : ∀ w ∈ u_ws RX4 TX4 19, w ∈ lw_good := in_places [457, 459, 461, 463, 465, 467, 469, 471, 473, 475, 477, 479, 481, 483, 485, 487, 489, 491, 493] (by decide +kernel) (by decide +kernel)
theorem inX5 : ∀ w ∈ u_ws RX5 TX5 15, w ∈ lw_good := in_places [319, 321, 323, 325, 327, 329, 331, 333, 335, 337, 339, 341, 343, 345, 347] (by decide +kernel) (by decide +kernel)
theorem inX6 : ∀ w ∈ u_ws RX6 TX6 7, w ∈ lw_good := in_places [530, 532, 534, 536, 538, 540, 542] (by decide +kernel) (by decide +kernel)
theorem inX7 : ∀ w ∈ u_ws RX7 TX7 8, w ∈ lw_good := in_places [593, 595, 597, 599, 601, 603, 605, 607] (by decide +kernel) (by decide +kernel)
theorem inX8 : ∀ w ∈ u_ws RX8 TX8 15, w ∈ lw_good := in_places [230, 232, 234, 236, 238, 240, 242, 244, 246, 248, 250, 252, 254, 256, 258] (by decide +kernel) (by decide +kernel)
theorem inX9 : ∀ w ∈ u_ws RX9 TX9 8, w ∈ lw_good := in_places [192, 194, 196, 198, 200, 202, 204, 206] (by decide +kernel) (by decide +kernel)
theorem inX10 : ∀ w ∈ u_ws RX10 TX10 6, w ∈ lw_good := in_places [561, 563, 565, 567, 569, 571] (by decide +kernel) (by decide +kernel)
theorem inX11 : ∀ w ∈ u_ws RX11 TX11 17, w ∈ lw_good := in_places [713, 715, 717, 719, 721, 723, 725, 727, 729, 731, 733, 735, 737, 739, 741, 743, 745] (by decide +kernel) (by decide +kernel)
theorem inX12 : ∀ w ∈ u_ws RX12 TX12 63, w ∈ lw_good := in_places [1520, 1522, 1524, 1526, 1528, 1530, 1532, 1534, 1536, 1538, 1540, 1542, 1544, 1546, 1548, 1550, 1552, 1554, 1556, 1558, 1560, 1562, 1564, 1566, 1568, 1570, 1572, 1574, 1576, 1578, 1580, 1582, 1584, 1586, 1588, 1590, 1592, 1594, 1596, 1598, 1600, 1602, 1604, 1606, 1608, 1610, 1612, 1614, 1616, 1618, 1620, 1622, 1624, 1626, 1628, 1630, 1632, 1634, 1636, 1638, 1640, 1642, 1644] (by decide +kernel) (by decide +kernel)
