/-! ===== constructors: helpers (wip/gen/mk22.py) ===== -/
theorem met_openI {l : Launch} {y : MethodName} {rm : Room} {Pc : Array Value → State → Prop} {Qc : Array Value → State → Outcome → State → Prop} {mc ms : Nat} {free : Addr → Prop} {cc : ByteArray} {maxL : Nat} {ret : Option FieldType} (hy : plainName y.cls = true)
    (body : ∀ (p : Program) (e : Env) (s : State) (m : MethodId) (args : Array Value) (below : List Frame) (meth : Method) (c : Code), CallFix p m c cc maxL s args lw_g y.cls → meth.sig.returnType = ret → meth.locks = false → meth.name = y.name → Pc args s → W p l e rm s m args below meth c s.heap [] 0 0 (MQ below Qc args s mc ms free) (entryFrame m args maxL)) : Met l y (.code y cc maxL ret :: lw_g) rm Pc Qc mc ms free := by
  refine Met.ofW (cc := cc) (maxL := maxL) (ret := ret) hy rfl ?_
  intro p e s m args below meth c s₁ B hml hv
  exact body p e s m args below meth c ⟨B.exec, B.bytes, hml, findClass_of_methodNamed B.named, fun w hw => atoms_spec (ws := .code y cc maxL ret :: lw_g) B.pre w (List.mem_cons_of_mem _ hw)⟩ B.returns B.notSynchronized (name_of_methodNamed B.named B.method).1 hv
/-- the links of the constructors that only nest mates may call -/
def nests : List Cond := [.methodLinkNest "MurmurHall" 22 ⟨"MurmurHall$Trays", "<init>", "()V"⟩ "MurmurHall",
  .methodLinkNest "MurmurHall" 29 ⟨"MurmurHall$Tokens", "<init>", "()V"⟩ "MurmurHall",
  .methodLinkNest "MurmurHall" 52 ⟨"MurmurHall$Life", "<init>", "()V"⟩ "MurmurHall",
  .methodLinkNest "MurmurHall" 59 ⟨"MurmurHall$Guess", "<init>", "()V"⟩ "MurmurHall",
  .methodLinkNest "MurmurHall" 66 ⟨"MurmurHall$Moves", "<init>", "()V"⟩ "MurmurHall",
  .methodLinkNest "MurmurHall" 73 ⟨"MurmurHall$Parting", "<init>", "()V"⟩ "MurmurHall",
  .methodLinkNest "MurmurHall" 80 ⟨"MurmurHall$Hall", "<init>", "()V"⟩ "MurmurHall",
  .methodLinkNest "MurmurHall$Hall" 52 ⟨"MurmurHall$Steps", "<init>", "()V"⟩ "MurmurHall"]
def Nst (U : State) : Prop := ∀ w ∈ nests, va_Nw w U
theorem nest_kind {w : Cond} (h : w ∈ nests) : ∃ a i x b, w = .methodLinkNest a i x b := by
  unfold nests at h
  simp only [List.mem_cons, List.not_mem_nil, or_false] at h
  rcases h with rfl | rfl | rfl | rfl | rfl | rfl | rfl | rfl <;> exact ⟨_, _, _, _, rfl⟩
theorem Nst.same {u U : State} (hv : u.vm = U.vm) (h : Nst u) : Nst U := fun w hw => by
  obtain ⟨a, i, x, b, e⟩ := nest_kind hw
  have := h w hw
  subst e
  exact va_Nw.same rfl hv this
theorem Nst.warm {s U : State} (hW : s.WarmedH U.vm) (h : Nst s) : Nst U := fun w hw => by
  obtain ⟨a, i, x, b, e⟩ := nest_kind hw
  have := h w hw
  subst e
  exact va_Nw.warmM hW this
def NewP (G : WG) (h0 c : Nat) (fs : List Value) (av : List Value) (sz : Nat) : Array Value → State → Prop := va_Pc (.ref h0 :: av) (fun U => U.heap.size = sz ∧ va_K (gD G) classes (gT G) U ∧ Nst U ∧ va_P (gD G) classes [(h0, .inr (c, fs))] U.heap ∧ va_D (fun _ => True) [(h0, .inr (c, fs))])
def NewQ (G : WG) (h0 c : Nat) (fs : List Value) (sz : Nat) (B : va_W → Prop) : Array Value → State → Outcome → State → Prop := fun _ st oc t => oc = .returned none ∧ (∃ w1, B w1 ∧ va_P (gD G) classes w1 t.heap ∧ va_D (va_A [(h0, .inr (c, fs))] sz) w1) ∧ va_F (va_A [(h0, .inr (c, fs))] sz) st t
theorem NewP_blind {G : WG} {h0 c sz : Nat} {fs av : List Value} : FrameBlind (NewP G h0 c fs av sz) := by
  intro a U g mk h
  obtain ⟨h1, h2, h3, h4, h5, h6⟩ := h
  exact ⟨h1, h2, va_K.moved (u := U) (U := U.calling g mk a) (Vm.Alike.refl U.vm) h3, Nst.same (u := U) (U := U.calling g mk a) rfl h4, h5, h6⟩
theorem va_joinS {A0 : Nat → Prop} {D : va_G} {cl : List vw_C} {a w1 : va_W} {x : Nat × va_E} {H H1 : Heap} (hP : va_P D cl (a ++ [x]) H) (hD : va_D A0 (a ++ [x])) (hk : ∀ q : Nat, q < H.size → ¬ va_A [x] H.size q → H1[q]? = H[q]?) (hF : ∀ q, va_A [x] H.size q → A0 q) (hP1 : va_P D cl w1 H1) (hD1 : va_D (va_A [x] H.size) w1) : va_P D cl (a ++ w1) H1 ∧ va_D A0 (a ++ w1) := by
  have hx : (a ++ [x])[a.length]? = some x := by simp
  have hl : ∀ (k : Nat) (q : Nat × va_E), a[k]? = some q → (a ++ [x])[k]? = some q := fun k q h => by
    rw [List.getElem?_append_left (List.getElem?_eq_some_iff.mp h).1]; exact h
  have apart : ∀ (k : Nat) (q : Nat × va_E), a[k]? = some q → q.1 < H.size ∧ ¬ va_A [x] H.size q.1 := by
    intro k q hq
    have hlt := (hP k q (hl k q hq)).lt
    refine ⟨hlt, fun h => ?_⟩
    rcases h with ⟨j, e, hj⟩ | h
    · have hj0 : j = 0 := by
        have := (List.getElem?_eq_some_iff.mp hj).1
        simpa using this
      subst hj0
      cases hj
      have := hD.1 k a.length q (q.1, e) (hl k q hq) hx rfl
      have h2 := (List.getElem?_eq_some_iff.mp hq).1
      omega
    · omega
  refine ⟨va_P.app (fun k q hq => ?_) hP1, va_D.app ⟨fun i j u v hu hv e => hD.1 i j u v (hl i u hu) (hl j v hv) e, fun k q hq => hD.2 k q (hl k q hq)⟩ (hD1.weaken (fun k q _ h => hF q.1 h)) (fun i j u v hu hv e => ?_)⟩
  · obtain ⟨g1, g2⟩ := apart k q hq
    exact (hP k q (hl k q hq)).kept (hk q.1 g1 g2)
  · exact (apart i u hu).2 (by rw [e]; exact hD1.2 j v hv)
theorem obj_inst : Cond.instanceMethod Lib.objectInit ∈ lw_g := inG_mem (i := 186) (by decide +kernel)
theorem obj_code : Cond.code Lib.objectInit ⟨#[0xb1]⟩ 1 none ∈ lw_g := inG_mem (i := 187) (by decide +kernel)
theorem arr_I : Cond.arrayClass .int ∈ lw_g := by decide +kernel
theorem arr_J : Cond.arrayClass .long ∈ lw_g := by decide +kernel
theorem arr_B : Cond.arrayClass .byte ∈ lw_g := by decide +kernel
section New
variable {p : Program} {l : Launch} {e : Env} {R : Room} {s : State} {m : MethodId} {args : Array Value} {below : List Frame} {meth : Method} {c : Code} {H H0 : Heap} {locs : List Loc} {cells slots : Nat} {Q : State → Prop} {cc : ByteArray} {pc : Nat} {ls : Array Slot} {rest : List Value} {A : Nat → Prop} {G : WG} {ws : va_W}
theorem n_arrI (hexec : p.tables.exec = Jvm.exec) (hb : c.code = cc) (hts : ∀ w ∈ lw_g, w.before args s = true) (hK : va_K (gD G) classes (gT G) s) (hP : va_P (gD G) classes ws H) (hD : va_D A ws) (hS : va_S A H0 H locs) (hA : ∀ q, H0.size ≤ q → A q) {n : Int32} {N : Nat} (hn : ¬ n < 0) (hN : n.toNatClampNeg = N) (hN2 : N ≤ 10000) (hcells : cells + 1 ≤ R.cells) (hslots : slots + N ≤ R.slots) (hdg : decode cc pc = .ok (.newarray .int, 2))
    (kk : ∀ (q : Nat) (H1 : Heap), va_P (gD G) classes (ws ++ [(q, .inl (gIn G, N, .inl (fun _ => Int32.ofInt 0)))]) H1 → va_D A (ws ++ [(q, .inl (gIn G, N, .inl (fun _ => Int32.ofInt 0)))]) → va_S A H0 H1 locs → W p l e R s m args below meth c H1 locs (cells + 1) (slots + N) Q (F0 m (pc + 2) ls (.ref q :: rest))) : W p l e R s m args below meth c H locs cells slots Q (F0 m pc ls (.int n :: rest)) := by
  refine va_newa (atype := .int) (ty := .int) (a0 := (N, .inl (fun _ => Int32.ofInt 0))) hexec hb (hts _ arr_I) rfl hK hP hD hS hA (fun _ => rfl) hn hN ?_ hcells hslots hdg (fun q cA H1 hK1 hP1 hD1 hS1 => ?_)
  · have : componentBytes .int ≤ 8 := by decide
    exact Nat.le_trans (Nat.mul_le_mul hN2 this) (by decide)
  · have h1 : s.vm.findClass ("[" ++ FieldType.toString .int) = some cA := (hK1.2 3 (cA, .int) rfl).2
    have h2 : s.vm.findClass ("[" ++ FieldType.toString .int) = some (gIn G) := (hK.2 0 (gIn G, .int) rfl).2
    rw [h1] at h2
    cases h2
    exact kk q H1 hP1 hD1 hS1
theorem n_arrJ (hexec : p.tables.exec = Jvm.exec) (hb : c.code = cc) (hts : ∀ w ∈ lw_g, w.before args s = true) (hK : va_K (gD G) classes (gT G) s) (hP : va_P (gD G) classes ws H) (hD : va_D A ws) (hS : va_S A H0 H locs) (hA : ∀ q, H0.size ≤ q → A q) {n : Int32} {N : Nat} (hn : ¬ n < 0) (hN : n.toNatClampNeg = N) (hN2 : N ≤ 10000) (hcells : cells + 1 ≤ R.cells) (hslots : slots + N ≤ R.slots) (hdg : decode cc pc = .ok (.newarray .long, 2))
    (kk : ∀ (q : Nat) (H1 : Heap), va_P (gD G) classes (ws ++ [(q, .inl (gJ G, N, .inr (.inl (fun _ => Int64.ofInt 0))))]) H1 → va_D A (ws ++ [(q, .inl (gJ G, N, .inr (.inl (fun _ => Int64.ofInt 0))))]) → va_S A H0 H1 locs → W p l e R s m args below meth c H1 locs (cells + 1) (slots + N) Q (F0 m (pc + 2) ls (.ref q :: rest))) : W p l e R s m args below meth c H locs cells slots Q (F0 m pc ls (.int n :: rest)) := by
  refine va_newa (atype := .long) (ty := .long) (a0 := (N, .inr (.inl (fun _ => Int64.ofInt 0)))) hexec hb (hts _ arr_J) rfl hK hP hD hS hA (fun _ => rfl) hn hN ?_ hcells hslots hdg (fun q cA H1 hK1 hP1 hD1 hS1 => ?_)
  · have : componentBytes .long ≤ 8 := by decide
    exact Nat.le_trans (Nat.mul_le_mul hN2 this) (by decide)
  · have h1 : s.vm.findClass ("[" ++ FieldType.toString .long) = some cA := (hK1.2 3 (cA, .long) rfl).2
    have h2 : s.vm.findClass ("[" ++ FieldType.toString .long) = some (gJ G) := (hK.2 1 (gJ G, .long) rfl).2
    rw [h1] at h2
    cases h2
    exact kk q H1 hP1 hD1 hS1
theorem n_arrB (hexec : p.tables.exec = Jvm.exec) (hb : c.code = cc) (hts : ∀ w ∈ lw_g, w.before args s = true) (hK : va_K (gD G) classes (gT G) s) (hP : va_P (gD G) classes ws H) (hD : va_D A ws) (hS : va_S A H0 H locs) (hA : ∀ q, H0.size ≤ q → A q) {n : Int32} {N : Nat} (hn : ¬ n < 0) (hN : n.toNatClampNeg = N) (hN2 : N ≤ 10000) (hcells : cells + 1 ≤ R.cells) (hslots : slots + N ≤ R.slots) (hdg : decode cc pc = .ok (.newarray .byte, 2))
    (kk : ∀ (q : Nat) (H1 : Heap), va_P (gD G) classes (ws ++ [(q, .inl (gB G, N, .inl (fun _ => Int32.ofInt 0)))]) H1 → va_D A (ws ++ [(q, .inl (gB G, N, .inl (fun _ => Int32.ofInt 0)))]) → va_S A H0 H1 locs → W p l e R s m args below meth c H1 locs (cells + 1) (slots + N) Q (F0 m (pc + 2) ls (.ref q :: rest))) : W p l e R s m args below meth c H locs cells slots Q (F0 m pc ls (.int n :: rest)) := by
  refine va_newa (atype := .byte) (ty := .byte) (a0 := (N, .inl (fun _ => Int32.ofInt 0))) hexec hb (hts _ arr_B) rfl hK hP hD hS hA (fun _ => rfl) hn hN ?_ hcells hslots hdg (fun q cA H1 hK1 hP1 hD1 hS1 => ?_)
  · have : componentBytes .byte ≤ 8 := by decide
    exact Nat.le_trans (Nat.mul_le_mul hN2 this) (by decide)
  · have h1 : s.vm.findClass ("[" ++ FieldType.toString .byte) = some cA := (hK1.2 3 (cA, .byte) rfl).2
    have h2 : s.vm.findClass ("[" ++ FieldType.toString .byte) = some (gB G) := (hK.2 2 (gB G, .byte) rfl).2
    rw [h1] at h2
    cases h2
    exact kk q H1 hP1 hD1 hS1
theorem n_call {own : String} {nL : Nat} {y : MethodName} {bytes : ByteArray} {maxL mc ms idx ci : Nat} {rm : Room} {fs av : List Value} {B : va_W → Prop} {q : Nat} {a : va_W} (C : CallFix p m c cc nL s args lw_g own) (hK : va_K (gD G) classes (gT G) s) (hN : Nst s) (hM : Met l y (.code y bytes maxL none :: lw_g) rm (NewP G q ci fs av H.size) (NewQ G q ci fs H.size B) mc ms (va_A [(q, .inr (ci, fs))] H.size))
    (hrm : rm.cells = mc ∧ rm.slots = ms) (hw : (Cond.methodLink own idx y ∈ lw_g ∧ Cond.instanceMethod y ∈ lw_g) ∧ Cond.initialized y.cls ∈ lw_g ∧ Cond.code y bytes maxL none ∈ lw_g) (hd0 : y.name = "<init>" ∧ y.cls ≠ "java/lang/invoke/MethodHandle" ∧ y.cls ≠ "java/lang/invoke/VarHandle" ∧ (parseMethodDescriptor y.desc).map (fun d => d.parameters.length) = some av.length) (hR : rm.frames + 1 ≤ R.frames ∧ 8 + (maxL + 11) + rm.locals ≤ R.locals)
    (hP : va_P (gD G) classes (a ++ [(q, .inr (ci, fs))]) H) (hD : va_D A (a ++ [(q, .inr (ci, fs))])) (hS : va_S A s.heap H locs) (hA : ∀ q, s.heap.size ≤ q → A q) (hsz : ls.size = nL) (hcr : (rest.map fun v => v.category).sum ≤ 8) (hdg : decode cc pc = .ok (.invokespecial idx, 3)) (hf : cells + mc ≤ R.cells ∧ slots + ms ≤ R.slots)
    (kk : ∀ (w1 : va_W) (H1 : Heap) (locs1 : List Loc), B w1 → va_P (gD G) classes (a ++ w1) H1 → va_D A (a ++ w1) → va_S A s.heap H1 locs1 → W p l e R s m args below meth c H1 locs1 (cells + mc) (slots + ms) Q (F0 m (pc + 3) ls rest)) : W p l e R s m args below meth c H locs cells slots Q (F0 m pc ls (av.reverse ++ .ref q :: rest)) := by
  have hx : (a ++ [(q, (.inr (ci, fs) : va_E))])[a.length]? = some (q, .inr (ci, fs)) := by simp
  have hPq : va_P (gD G) classes [(q, .inr (ci, fs))] H := fun k z hz => by
    have hk0 : k = 0 := by
      have := (List.getElem?_eq_some_iff.mp hz).1
      simpa using this
    subst hk0
    cases hz
    exact hP a.length _ hx
  have hDq : va_D (fun _ => True) [(q, .inr (ci, fs))] := ⟨fun i j u v hu hv _ => by
    have h1 := (List.getElem?_eq_some_iff.mp hu).1
    have h2 := (List.getElem?_eq_some_iff.mp hv).1
    simp at h1 h2; omega, fun _ _ _ => trivial⟩
  have hF : ∀ z, va_A [(q, .inr (ci, fs))] H.size z → A z := by
    intro z hz
    rcases hz with ⟨k, e, hk⟩ | hz
    · have hk0 : k = 0 := by
        have := (List.getElem?_eq_some_iff.mp hk).1
        simpa using this
      subst hk0
      cases hk
      exact hD.2 a.length _ hx
    · exact hA z (Nat.le_trans hS.1 hz)
  have run := va_runI (e := e) (below := below) (meth := meth) (locs := locs) (bytes := bytes) (maxL := maxL) C hM (cwI av.length C.2.2.2.2 (goodIn_g (fun w hw' => by
    rcases List.mem_cons.mp hw' with e | hw'
    · rw [e]; exact hw.2.2
    · exact hw')) rfl hrm.1 hrm.2 (C.2.2.2.2 _ hw.2.1) (C.2.2.2.2 _ hw.1.1) (C.2.2.2.2 _ hw.1.2) hd0.1 ⟨hd0.2.1, hd0.2.2.1, hd0.2.2.2⟩ hR) ⟨NewP_blind, fun U hU hW => ⟨rfl, by rw [hU], va_K.moved hW.alike hK, hN.warm hW, by rw [hU]; exact hPq, hDq⟩⟩ (g := F0 m pc ls (av.reverse ++ .ref q :: rest)) rfl rfl hsz rfl (by simpa using hcr) hdg hf
  intro T hT X
  obtain ⟨v', st₀, t', T', L', h0, X', hL, e1, e2, ⟨hv, ⟨w1, hB, hP1, hD1⟩, hz, hk⟩, st⟩ := run T hT X
  rw [h0] at hz hk
  have hv : v' = none := by injection hv
  subst hv
  obtain ⟨hP2, hD2⟩ := va_joinS hP hD (fun z h1 h2 => hk z h1 h2) hF hP1 hD1
  obtain ⟨t2, a1, b1⟩ := kk w1 T'.heap (locs ++ L') hB (by rw [e1]; exact hP2) hD2
    ⟨Nat.le_trans hS.1 (by rw [e1]; exact hz), fun z h1 h2 => by rw [e1, hk z (Nat.lt_of_lt_of_le h1 hS.1) (fun y => h2 (hF z y))]; exact hS.2.1 z h1 h2, fun z hz => by
      rcases List.mem_append.mp hz with h | h
      · exact hS.2.2 z h
      · exact hF _ (hL z h)⟩ T' rfl X'
  exact ⟨t2, st t2 a1, b1⟩
theorem n_callN {own : String} {nL : Nat} {y : MethodName} {bytes : ByteArray} {maxL mc ms idx ci : Nat} {rm : Room} {fs av : List Value} {B : va_W → Prop} {q : Nat} {a : va_W} (C : CallFix p m c cc nL s args lw_g own) (hK : va_K (gD G) classes (gT G) s) (hN : Nst s) (hM : Met l y (.code y bytes maxL none :: lw_g) rm (NewP G q ci fs av H.size) (NewQ G q ci fs H.size B) mc ms (va_A [(q, .inr (ci, fs))] H.size))
    (hrm : rm.cells = mc ∧ rm.slots = ms) (hw : (Cond.instanceMethod y ∈ lw_g) ∧ Cond.initialized y.cls ∈ lw_g ∧ Cond.code y bytes maxL none ∈ lw_g) (hd0 : y.name = "<init>" ∧ y.cls ≠ "java/lang/invoke/MethodHandle" ∧ y.cls ≠ "java/lang/invoke/VarHandle" ∧ (parseMethodDescriptor y.desc).map (fun d => d.parameters.length) = some av.length) (hR : rm.frames + 1 ≤ R.frames ∧ 8 + (maxL + 11) + rm.locals ≤ R.locals) {host : String} (hnl : Cond.methodLinkNest own idx y host ∈ nests)
    (hP : va_P (gD G) classes (a ++ [(q, .inr (ci, fs))]) H) (hD : va_D A (a ++ [(q, .inr (ci, fs))])) (hS : va_S A s.heap H locs) (hA : ∀ q, s.heap.size ≤ q → A q) (hsz : ls.size = nL) (hcr : (rest.map fun v => v.category).sum ≤ 8) (hdg : decode cc pc = .ok (.invokespecial idx, 3)) (hf : cells + mc ≤ R.cells ∧ slots + ms ≤ R.slots)
    (kk : ∀ (w1 : va_W) (H1 : Heap) (locs1 : List Loc), B w1 → va_P (gD G) classes (a ++ w1) H1 → va_D A (a ++ w1) → va_S A s.heap H1 locs1 → W p l e R s m args below meth c H1 locs1 (cells + mc) (slots + ms) Q (F0 m (pc + 3) ls rest)) : W p l e R s m args below meth c H locs cells slots Q (F0 m pc ls (av.reverse ++ .ref q :: rest)) := by
  have hx : (a ++ [(q, (.inr (ci, fs) : va_E))])[a.length]? = some (q, .inr (ci, fs)) := by simp
  have hPq : va_P (gD G) classes [(q, .inr (ci, fs))] H := fun k z hz => by
    have hk0 : k = 0 := by
      have := (List.getElem?_eq_some_iff.mp hz).1
      simpa using this
    subst hk0
    cases hz
    exact hP a.length _ hx
  have hDq : va_D (fun _ => True) [(q, .inr (ci, fs))] := ⟨fun i j u v hu hv _ => by
    have h1 := (List.getElem?_eq_some_iff.mp hu).1
    have h2 := (List.getElem?_eq_some_iff.mp hv).1
    simp at h1 h2; omega, fun _ _ _ => trivial⟩
  have hF : ∀ z, va_A [(q, .inr (ci, fs))] H.size z → A z := by
    intro z hz
    rcases hz with ⟨k, e, hk⟩ | hz
    · have hk0 : k = 0 := by
        have := (List.getElem?_eq_some_iff.mp hk).1
        simpa using this
      subst hk0
      cases hk
      exact hD.2 a.length _ hx
    · exact hA z (Nat.le_trans hS.1 hz)
  have run := va_runIN (e := e) (below := below) (meth := meth) (locs := locs) (bytes := bytes) (maxL := maxL) C hM ⟨va_cnB (host := host) av.length C.2.2.2.2 (goodIn_g (fun w hw' => by
    rcases List.mem_cons.mp hw' with e | hw'
    · rw [e]; exact hw.2.2
    · exact hw')) rfl hrm.1 hrm.2 (hN _ hnl) (C.2.2.2.2 _ hw.2.1) ⟨hd0.2.1, hd0.2.2.1, hd0.2.2.2⟩ hR, hd0.1, C.2.2.2.2 _ hw.1⟩ ⟨NewP_blind, fun U hU hW => ⟨rfl, by rw [hU], va_K.moved hW.alike hK, hN.warm hW, by rw [hU]; exact hPq, hDq⟩⟩ (g := F0 m pc ls (av.reverse ++ .ref q :: rest)) rfl rfl hsz rfl (by simpa using hcr) hdg hf
  intro T hT X
  obtain ⟨v', st₀, t', T', L', h0, X', hL, e1, e2, ⟨hv, ⟨w1, hB, hP1, hD1⟩, hz, hk⟩, st⟩ := run T hT X
  rw [h0] at hz hk
  have hv : v' = none := by injection hv
  subst hv
  obtain ⟨hP2, hD2⟩ := va_joinS hP hD (fun z h1 h2 => hk z h1 h2) hF hP1 hD1
  obtain ⟨t2, a1, b1⟩ := kk w1 T'.heap (locs ++ L') hB (by rw [e1]; exact hP2) hD2
    ⟨Nat.le_trans hS.1 (by rw [e1]; exact hz), fun z h1 h2 => by rw [e1, hk z (Nat.lt_of_lt_of_le h1 hS.1) (fun y => h2 (hF z y))]; exact hS.2.1 z h1 h2, fun z hz => by
      rcases List.mem_append.mp hz with h | h
      · exact hS.2.2 z h
      · exact hF _ (hL z h)⟩ T' rfl X'
  exact ⟨t2, st t2 a1, b1⟩
end New
