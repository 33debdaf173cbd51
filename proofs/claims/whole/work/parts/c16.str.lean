/-! ===== the word list's text: length and charAt (wip/gen/mk16.py) ===== -/
def sy_coder : MethodName := ⟨"java/lang/String", "coder", "()B"⟩
abbrev sb_coder : ByteArray := prog_16_method_152_code
theorem sw_coder_code : Cond.code sy_coder sb_coder 1 (some .byte) ∈ lw_g := inG_mem (i := 1852) (by decide +kernel)
theorem sw_coder_inst : Cond.instanceMethod sy_coder ∈ lw_g := inG_mem (i := 1850) (by decide +kernel)
theorem sw_coder_sel : Cond.selects "java/lang/String" sy_coder sy_coder ∈ lw_g := inG_mem (i := 1851) (by decide +kernel)
theorem sd_coder_0 : decode sb_coder 0 = .ok (.getstatic 38, 3) := by decide +kernel
theorem sd_coder_3 : decode sb_coder 3 = .ok (.ifCond .eq (10), 3) := by decide +kernel
theorem sd_coder_6 : decode sb_coder 6 = .ok (.aload_n 0, 1) := by decide +kernel
theorem sd_coder_7 : decode sb_coder 7 = .ok (.getfield 15, 3) := by decide +kernel
theorem sd_coder_10 : decode sb_coder 10 = .ok (.goto (4), 3) := by decide +kernel
theorem sd_coder_13 : decode sb_coder 13 = .ok (.iconst (1), 1) := by decide +kernel
theorem sd_coder_14 : decode sb_coder 14 = .ok (.ireturn, 1) := by decide +kernel
def sy_isLatin1 : MethodName := ⟨"java/lang/String", "isLatin1", "()Z"⟩
abbrev sb_isLatin1 : ByteArray := prog_16_method_154_code
theorem sw_isLatin1_code : Cond.code sy_isLatin1 sb_isLatin1 1 (some .boolean) ∈ lw_g := inG_mem (i := 1862) (by decide +kernel)
theorem sw_isLatin1_inst : Cond.instanceMethod sy_isLatin1 ∈ lw_g := inG_mem (i := 1860) (by decide +kernel)
theorem sw_isLatin1_sel : Cond.selects "java/lang/String" sy_isLatin1 sy_isLatin1 ∈ lw_g := inG_mem (i := 1861) (by decide +kernel)
theorem sd_isLatin1_0 : decode sb_isLatin1 0 = .ok (.getstatic 38, 3) := by decide +kernel
theorem sd_isLatin1_3 : decode sb_isLatin1 3 = .ok (.ifCond .eq (14), 3) := by decide +kernel
theorem sd_isLatin1_6 : decode sb_isLatin1 6 = .ok (.aload_n 0, 1) := by decide +kernel
theorem sd_isLatin1_7 : decode sb_isLatin1 7 = .ok (.getfield 15, 3) := by decide +kernel
theorem sd_isLatin1_10 : decode sb_isLatin1 10 = .ok (.ifCond .ne (7), 3) := by decide +kernel
theorem sd_isLatin1_13 : decode sb_isLatin1 13 = .ok (.iconst (1), 1) := by decide +kernel
theorem sd_isLatin1_14 : decode sb_isLatin1 14 = .ok (.goto (4), 3) := by decide +kernel
theorem sd_isLatin1_17 : decode sb_isLatin1 17 = .ok (.iconst (0), 1) := by decide +kernel
theorem sd_isLatin1_18 : decode sb_isLatin1 18 = .ok (.ireturn, 1) := by decide +kernel
def sy_length : MethodName := ⟨"java/lang/String", "length", "()I"⟩
abbrev sb_length : ByteArray := prog_16_method_54_code
theorem sw_length_code : Cond.code sy_length sb_length 1 (some .int) ∈ lw_g := inG_mem (i := 1848) (by decide +kernel)
theorem sw_length_inst : Cond.instanceMethod sy_length ∈ lw_g := inG_mem (i := 1846) (by decide +kernel)
theorem sw_length_sel : Cond.selects "java/lang/String" sy_length sy_length ∈ lw_g := inG_mem (i := 1847) (by decide +kernel)
theorem sd_length_0 : decode sb_length 0 = .ok (.aload_n 0, 1) := by decide +kernel
theorem sd_length_1 : decode sb_length 1 = .ok (.getfield 9, 3) := by decide +kernel
theorem sd_length_4 : decode sb_length 4 = .ok (.arraylength, 1) := by decide +kernel
theorem sd_length_5 : decode sb_length 5 = .ok (.aload_n 0, 1) := by decide +kernel
theorem sd_length_6 : decode sb_length 6 = .ok (.invokevirtual 335, 3) := by decide +kernel
theorem sd_length_9 : decode sb_length 9 = .ok (.ishr, 1) := by decide +kernel
theorem sd_length_10 : decode sb_length 10 = .ok (.ireturn, 1) := by decide +kernel
def sy_charAt : MethodName := ⟨"java/lang/String", "charAt", "(I)C"⟩
abbrev sb_charAt : ByteArray := prog_16_method_56_code
theorem sw_charAt_code : Cond.code sy_charAt sb_charAt 2 (some .char) ∈ lw_g := inG_mem (i := 1858) (by decide +kernel)
theorem sw_charAt_inst : Cond.instanceMethod sy_charAt ∈ lw_g := inG_mem (i := 1856) (by decide +kernel)
theorem sw_charAt_sel : Cond.selects "java/lang/String" sy_charAt sy_charAt ∈ lw_g := inG_mem (i := 1857) (by decide +kernel)
theorem sd_charAt_0 : decode sb_charAt 0 = .ok (.aload_n 0, 1) := by decide +kernel
theorem sd_charAt_1 : decode sb_charAt 1 = .ok (.invokevirtual 492, 3) := by decide +kernel
theorem sd_charAt_4 : decode sb_charAt 4 = .ok (.ifCond .eq (12), 3) := by decide +kernel
theorem sd_charAt_7 : decode sb_charAt 7 = .ok (.aload_n 0, 1) := by decide +kernel
theorem sd_charAt_8 : decode sb_charAt 8 = .ok (.getfield 9, 3) := by decide +kernel
theorem sd_charAt_11 : decode sb_charAt 11 = .ok (.iload_n 1, 1) := by decide +kernel
theorem sd_charAt_12 : decode sb_charAt 12 = .ok (.invokestatic 495, 3) := by decide +kernel
theorem sd_charAt_15 : decode sb_charAt 15 = .ok (.ireturn, 1) := by decide +kernel
def sy_l1charAt : MethodName := ⟨"java/lang/StringLatin1", "charAt", "([BI)C"⟩
abbrev sb_l1charAt : ByteArray := prog_17_method_2_code
theorem sw_l1charAt_code : Cond.code sy_l1charAt sb_l1charAt 2 (some .char) ∈ lw_g := inG_mem (i := 1865) (by decide +kernel)
theorem sw_l1charAt_stat : Cond.static sy_l1charAt ∈ lw_g := inG_mem (i := 1864) (by decide +kernel)
theorem sd_l1charAt_0 : decode sb_l1charAt 0 = .ok (.iload_n 1, 1) := by decide +kernel
theorem sd_l1charAt_1 : decode sb_l1charAt 1 = .ok (.aload_n 0, 1) := by decide +kernel
theorem sd_l1charAt_2 : decode sb_l1charAt 2 = .ok (.arraylength, 1) := by decide +kernel
theorem sd_l1charAt_3 : decode sb_l1charAt 3 = .ok (.invokestatic 9, 3) := by decide +kernel
theorem sd_l1charAt_6 : decode sb_l1charAt 6 = .ok (.aload_n 0, 1) := by decide +kernel
theorem sd_l1charAt_7 : decode sb_l1charAt 7 = .ok (.iload_n 1, 1) := by decide +kernel
theorem sd_l1charAt_8 : decode sb_l1charAt 8 = .ok (.baload, 1) := by decide +kernel
theorem sd_l1charAt_9 : decode sb_l1charAt 9 = .ok (.sipush (255), 3) := by decide +kernel
theorem sd_l1charAt_12 : decode sb_l1charAt 12 = .ok (.iand, 1) := by decide +kernel
theorem sd_l1charAt_13 : decode sb_l1charAt 13 = .ok (.i2c, 1) := by decide +kernel
theorem sd_l1charAt_14 : decode sb_l1charAt 14 = .ok (.ireturn, 1) := by decide +kernel
def sy_sci : MethodName := ⟨"java/lang/String", "checkIndex", "(II)V"⟩
abbrev sb_sci : ByteArray := prog_16_method_155_code
theorem sw_sci_code : Cond.code sy_sci sb_sci 2 none ∈ lw_g := inG_mem (i := 1868) (by decide +kernel)
theorem sw_sci_stat : Cond.static sy_sci ∈ lw_g := inG_mem (i := 1867) (by decide +kernel)
theorem sd_sci_0 : decode sb_sci 0 = .ok (.iload_n 0, 1) := by decide +kernel
theorem sd_sci_1 : decode sb_sci 1 = .ok (.iload_n 1, 1) := by decide +kernel
theorem sd_sci_2 : decode sb_sci 2 = .ok (.getstatic 1053, 3) := by decide +kernel
theorem sd_sci_5 : decode sb_sci 5 = .ok (.invokestatic 1059, 3) := by decide +kernel
theorem sd_sci_8 : decode sb_sci 8 = .ok (.pop, 1) := by decide +kernel
theorem sd_sci_9 : decode sb_sci 9 = .ok (.return_, 1) := by decide +kernel
def sy_pci : MethodName := ⟨"jdk/internal/util/Preconditions", "checkIndex", "(IILjava/util/function/BiFunction;)I"⟩
abbrev sb_pci : ByteArray := prog_21_method_11_code
theorem sw_pci_code : Cond.code sy_pci sb_pci 3 (some .int) ∈ lw_g := inG_mem (i := 1873) (by decide +kernel)
theorem sw_pci_stat : Cond.static sy_pci ∈ lw_g := inG_mem (i := 1872) (by decide +kernel)
theorem sd_pci_0 : decode sb_pci 0 = .ok (.iload_n 0, 1) := by decide +kernel
theorem sd_pci_1 : decode sb_pci 1 = .ok (.ifCond .lt (8), 3) := by decide +kernel
theorem sd_pci_4 : decode sb_pci 4 = .ok (.iload_n 0, 1) := by decide +kernel
theorem sd_pci_5 : decode sb_pci 5 = .ok (.iload_n 1, 1) := by decide +kernel
theorem sd_pci_6 : decode sb_pci 6 = .ok (.if_icmp .lt (10), 3) := by decide +kernel
theorem sd_pci_16 : decode sb_pci 16 = .ok (.iload_n 0, 1) := by decide +kernel
theorem sd_pci_17 : decode sb_pci 17 = .ok (.ireturn, 1) := by decide +kernel
theorem sw_init : Cond.initialized "java/lang/String" ∈ lw_g := inG_mem (i := 175) (by decide +kernel)
theorem sw_init2 : Cond.initialized "jdk/internal/util/Preconditions" ∈ lw_g := inG_mem (i := 177) (by decide +kernel)
theorem sw_init1 : Cond.initialized "java/lang/StringLatin1" ∈ lw_g := inG_mem (i := 176) (by decide +kernel)
theorem sw_f_COMPACT_STRINGS : Cond.fieldLink "java/lang/String" 38 "java/lang/String" "COMPACT_STRINGS" "Z" ∈ lw_g := inG_mem (i := 1853) (by decide +kernel)
theorem sw_f_coder : Cond.fieldLink "java/lang/String" 15 "java/lang/String" "coder" "B" ∈ lw_g := inG_mem (i := 2442) (by decide +kernel)
theorem sw_f_value : Cond.fieldLink "java/lang/String" 9 "java/lang/String" "value" "[B" ∈ lw_g := inG_mem (i := 2441) (by decide +kernel)
theorem sw_f_fmt : Cond.fieldLink "java/lang/String" 1053 "jdk/internal/util/Preconditions" "SIOOBE_FORMATTER" "Ljava/util/function/BiFunction;" ∈ lw_g := inG_mem (i := 1869) (by decide +kernel)
theorem sw_m_sci : Cond.methodLink "java/lang/StringLatin1" 9 sy_sci ∈ lw_g := inG_mem (i := 1866) (by decide +kernel)
theorem sw_m_pci : Cond.methodLink "java/lang/String" 1059 sy_pci ∈ lw_g := inG_mem (i := 1871) (by decide +kernel)
theorem sw_m_coder : Cond.methodLink "java/lang/String" 335 sy_coder ∈ lw_g := inG_mem (i := 1849) (by decide +kernel)
theorem sw_m_isLatin1 : Cond.methodLink "java/lang/String" 492 sy_isLatin1 ∈ lw_g := inG_mem (i := 1859) (by decide +kernel)
theorem sw_m_l1 : Cond.methodLink "java/lang/String" 495 sy_l1charAt ∈ lw_g := inG_mem (i := 1863) (by decide +kernel)
/-- the text is there, as the Statement gives it -/
def Ws (G : WG) (A : Nat → Prop) (U : State) (H : Heap) : Prop := vk_S 1 [108] [kBytes] (fun _ => gS G) (fun _ => gV G) A U H ∧ va_Z "java/lang/String" "COMPACT_STRINGS" "Z" (.int 1) A U H ∧ va_Zq "jdk/internal/util/Preconditions" "SIOOBE_FORMATTER" "Ljava/util/function/BiFunction;" A U H
theorem Wf.ws {G : WG} {A : Nat → Prop} {U : State} {H : Heap} (h : Wf G A U H) : Ws G A U H := ⟨h.2.2.2.2.1, h.2.2.2.2.2.2⟩
theorem Ws.kept {G : WG} {A : Nat → Prop} {U : State} {H H1 : Heap} (h : Ws G A U H) (hq : ∀ a : Nat, a < H.size → ¬ A a → H1[a]? = H[a]?) : Ws G A U H1 := ⟨h.1.kept hq, h.2.1.kept hq, Zq.kept h.2.2 hq⟩
theorem Ws.moved {G : WG} {A : Nat → Prop} {u U : State} {H : Heap} (ha : u.vm.Alike U.vm) (h : Ws G A u H) : Ws G A U H := ⟨vk_S.moved ha h.1, va_Z.moved ha h.2.1, Zq.moved ha h.2.2⟩
def Ps (G : WG) (A : Nat → Prop) (av : List Value) : Array Value → State → Prop := va_Pc av (fun U => Ws G A U U.heap)
theorem Ps_blind {G : WG} {A : Nat → Prop} {av : List Value} : FrameBlind (Ps G A av) := fun a U g mk h => ⟨h.1, Ws.moved (u := U) (U := U.calling g mk a) (Vm.Alike.refl U.vm) h.2⟩
def Qs (v : Option Value) : Array Value → State → Outcome → State → Prop := fun _ st oc t => oc = .returned v ∧ t.heap = st.heap
theorem met_open {l : Launch} {y : MethodName} {rm : Room} {Pc : Array Value → State → Prop} {Qc : Array Value → State → Outcome → State → Prop} {mc ms : Nat} {free : Addr → Prop} {cc : ByteArray} {maxL : Nat} {ret : Option FieldType} (hy : plainName y.cls = true)
    (body : ∀ (p : Program) (e : Env) (s : State) (m : MethodId) (args : Array Value) (below : List Frame) (meth : Method) (c : Code), CallFix p m c cc maxL s args lw_g y.cls → meth.sig.returnType = ret → meth.locks = false → Pc args s → W p l e rm s m args below meth c s.heap [] 0 0 (MQ below Qc args s mc ms free) (entryFrame m args maxL)) : Met l y (.code y cc maxL ret :: lw_g) rm Pc Qc mc ms free := by
  refine Met.ofW (cc := cc) (maxL := maxL) (ret := ret) hy rfl ?_
  intro p e s m args below meth c s₁ B hml hv
  exact body p e s m args below meth c ⟨B.exec, B.bytes, hml, findClass_of_methodNamed B.named, fun w hw => atoms_spec (ws := .code y cc maxL ret :: lw_g) B.pre w (List.mem_cons_of_mem _ hw)⟩ B.returns B.notSynchronized hv
def rms : Room := { frames := 0, cells := 0, slots := 0, locals := 0 }
def rms1 : Room := { frames := 1, cells := 0, slots := 0, locals := 40 }
def rms2 : Room := { frames := 2, cells := 0, slots := 0, locals := 80 }
def rms3 : Room := { frames := 3, cells := 0, slots := 0, locals := 120 }
theorem k_bytes (j : Nat) : ([kBytes].getD 0 []).getD j 0 = Int32.ofInt (lget keys j) := by
  show kBytes.getD j 0 = _
  unfold kBytes
  rw [List.getD_eq_getElem?_getD, List.getElem?_map]
  by_cases h : j < keys.length
  · rw [List.getElem?_eq_getElem h]
    show Int32.ofInt _ = _
    rw [lget_of (List.getElem?_eq_getElem h)]
  · rw [List.getElem?_eq_none_iff.mpr (by omega)]
    have : ∀ (l : List Int) (j : Nat), l.length ≤ j → lget l j = 0 := by
      intro l
      induction l with
      | nil => intro j _; cases j <;> rfl
      | cons a r ih => intro j hj; cases j with
        | zero => simp at hj
        | succ j => exact ih j (by simpa using hj)
    rw [this keys j (by omega)]; rfl
def keyCk (i : Nat) : Bool := (Int32.ofInt (lget keys i) &&& 255 == Int32.ofInt (lget keys i)) && (((Int32.ofInt (lget keys i)).toUInt32 % 65536).toInt32 == Int32.ofInt (lget keys i)) && decide (narrow .char (.int (Int32.ofInt (lget keys i))) = .int (Int32.ofInt (lget keys i)))
def keyCk2 (i : Nat) : Bool := decide (0 ≤ lget keys i) && decide (lget keys i < 256)
theorem keys_ck : ∀ i, i < 108 → keyCk i = true := by decide +kernel
theorem keys_ck2 : ∀ i, i < 108 → keyCk2 i = true := by decide +kernel
theorem keys_in (i : Nat) (h : i < 108) : in32 (lget keys i) := by
  have := keys_ck2 i h
  unfold keyCk2 at this
  simp only [Bool.and_eq_true, decide_eq_true_eq] at this
  unfold in32; omega
section Str
variable {l : Launch} {G : WG} {A : Nat → Prop}
theorem s_coder : Met l sy_coder (.code sy_coder sb_coder 1 (some .byte) :: lw_g) rms (Ps G A [.ref (gS G)]) (Qs (some (.int 0))) 0 0 (fun _ => False) := by
  refine met_open (by decide) ?_
  intro p e s m args below meth c C hr hlocks hv
  obtain ⟨rfl, hW⟩ := hv
  have hl := lv_entry ([.ref (gS G)]) (n := 1) (Nat.le_of_ble_eq_true rfl)
  rw [lg_entry_eq]
  generalize (lg_sl ([.ref (gS G)]) ++ List.replicate (1 - (lg_sl ([.ref (gS G)])).length) Slot.unset).toArray = ls at hl ⊢
  have hl : lv_has ls 1 [(0, .ref (gS G))] := hl
  have hS : va_S A s.heap s.heap [] := va_S.rf
  refine va_gets C.1 C.2.1 hW.2.1 hS C.2.2.2.1 (C.2.2.2.2 _ sw_f_COMPACT_STRINGS) (fun _ h => h) sd_coder_0 ?_
  refine lv_if_eq C.1 C.2.1 sd_coder_3 (tgt := 13) rfl (fun h => absurd h (by decide)) (fun _ => ?_)
  refine lv_aload_n C.1 C.2.1 sd_coder_6 rfl (lv_at hl 0 rfl) ?_
  refine vk_getf C.1 C.2.1 (hW.1.1 0 (by decide)).2.1 hS C.2.2.2.1 (C.2.2.2.2 _ sw_f_coder) (fun _ h => h) sd_coder_7 ?_
  refine lv_goto C.1 C.2.1 sd_coder_10 (tgt := 14) rfl ?_
  exact W.zret C.1 C.2.1 hr (by decide) (fun t ht _ => ⟨rfl, ht⟩) (fun _ h => by cases h) sd_coder_14 hlocks
theorem s_isLatin1 : Met l sy_isLatin1 (.code sy_isLatin1 sb_isLatin1 1 (some .boolean) :: lw_g) rms (Ps G A [.ref (gS G)]) (Qs (some (.int 1))) 0 0 (fun _ => False) := by
  refine met_open (by decide) ?_
  intro p e s m args below meth c C hr hlocks hv
  obtain ⟨rfl, hW⟩ := hv
  have hl := lv_entry ([.ref (gS G)]) (n := 1) (Nat.le_of_ble_eq_true rfl)
  rw [lg_entry_eq]
  generalize (lg_sl ([.ref (gS G)]) ++ List.replicate (1 - (lg_sl ([.ref (gS G)])).length) Slot.unset).toArray = ls at hl ⊢
  have hl : lv_has ls 1 [(0, .ref (gS G))] := hl
  have hS : va_S A s.heap s.heap [] := va_S.rf
  refine va_gets C.1 C.2.1 hW.2.1 hS C.2.2.2.1 (C.2.2.2.2 _ sw_f_COMPACT_STRINGS) (fun _ h => h) sd_isLatin1_0 ?_
  refine lv_if_eq C.1 C.2.1 sd_isLatin1_3 (tgt := 17) rfl (fun h => absurd h (by decide)) (fun _ => ?_)
  refine lv_aload_n C.1 C.2.1 sd_isLatin1_6 rfl (lv_at hl 0 rfl) ?_
  refine vk_getf C.1 C.2.1 (hW.1.1 0 (by decide)).2.1 hS C.2.2.2.1 (C.2.2.2.2 _ sw_f_coder) (fun _ h => h) sd_isLatin1_7 ?_
  refine lv_if_ne C.1 C.2.1 sd_isLatin1_10 (tgt := 17) rfl (fun h => absurd rfl h) (fun _ => ?_)
  refine lv_iconst (v := 1) C.1 C.2.1 sd_isLatin1_13 rfl ?_
  refine lv_goto C.1 C.2.1 sd_isLatin1_14 (tgt := 18) rfl ?_
  exact W.zret C.1 C.2.1 hr (by decide) (fun t ht _ => ⟨rfl, ht⟩) (fun _ h => by cases h) sd_isLatin1_18 hlocks
theorem s_go {p : Program} {e : Env} {R : Room} {s : State} {m : MethodId} {args : Array Value} {below : List Frame} {meth : Method} {c : Code} {Q : State → Prop} {v : Option Value} {a : Array Value} {H : Heap} {locs : List Loc} {ls : Array Slot} {pc : Nat} {st0 rest : List Value} {kc ks : Nat} (hr : va_Run p l e R s m args below meth c H locs kc ks 0 0 (F0 m pc ls st0) rest (Qs v a) (fun _ => False)) (kk : W p l e R s m args below meth c H locs kc ks Q (F0 m (pc + 3) ls (v.toList ++ rest))) : W p l e R s m args below meth c H locs kc ks Q (F0 m pc ls st0) := by
  intro T hT X
  obtain ⟨v', st₀, t', T', L', h0, X', hL, e1, e2, ⟨hv, hh⟩, st⟩ := hr T hT X
  have hL' : L' = [] := by
    cases L' with
    | nil => rfl
    | cons q r => exact (hL q List.mem_cons_self).elim
  subst hL'
  rw [List.append_nil] at X'
  have hv : v' = v := by injection hv
  obtain ⟨t2, a1, b1⟩ := kk T' (by rw [e1, hh, h0]) X'
  refine ⟨t2, st t2 ?_, b1⟩
  rw [hv]; exact a1
theorem s_pci {i n : Int} {v : Value} (hi : 0 ≤ i ∧ i < n) (hn : in32 n) (hv : v = .null ∨ ∃ q, v = .ref q) : Met l sy_pci (.code sy_pci sb_pci 3 (some .int) :: lw_g) rms (Ps G A [.int (Int32.ofInt i), .int (Int32.ofInt n), v]) (Qs (some (.int (Int32.ofInt i)))) 0 0 (fun _ => False) := by
  have hin : in32 i := by unfold in32 at *; omega
  have body : ∀ (p : Program) (e : Env) (s : State) (m : MethodId) (args : Array Value) (below : List Frame) (meth : Method) (c : Code) (ls : Array Slot), CallFix p m c sb_pci 3 s args lw_g sy_pci.cls → meth.sig.returnType = some .int → meth.locks = false → lv_has ls 3 [(0, .int (Int32.ofInt i)), (1, .int (Int32.ofInt n))] → W p l e rms s m args below meth c s.heap [] 0 0 (MQ below (Qs (some (.int (Int32.ofInt i)))) args s 0 0 (fun _ => False)) (F0 m 0 ls []) := by
    intro p e s m args below meth c ls C hr hlocks hl
    refine lv_iload_n C.1 C.2.1 sd_pci_0 rfl (lv_at hl 0 rfl) ?_
    refine lv_if_lt C.1 C.2.1 sd_pci_1 (tgt := 9) rfl (fun h => ?_) (fun _ => ?_)
    · rw [show (0 : Int32) = Int32.ofInt 0 from rfl, i32_lt hin in32_0] at h; omega
    refine lv_iload_n C.1 C.2.1 sd_pci_4 rfl (lv_at hl 0 rfl) ?_
    refine lv_iload_n C.1 C.2.1 sd_pci_5 rfl (lv_at hl 1 rfl) ?_
    refine lv_icmp_lt C.1 C.2.1 sd_pci_6 (tgt := 16) rfl (fun _ => ?_) (fun h => ?_)
    · refine lv_iload_n C.1 C.2.1 sd_pci_16 rfl (lv_at hl 0 rfl) ?_
      exact W.iret (v := Int32.ofInt i) C.1 C.2.1 hr (fun t ht _ => ⟨rfl, ht⟩) (fun _ h => by cases h) sd_pci_17 hlocks
    · rw [i32_lt hin hn] at h; omega
  refine met_open (by decide) ?_
  intro p e s m args below meth c C hr hlocks hv'
  obtain ⟨rfl, hW⟩ := hv'
  rcases hv with rfl | ⟨q, rfl⟩
  · have hl := lv_entry ([.int (Int32.ofInt i), .int (Int32.ofInt n), .null]) (n := 3) (Nat.le_of_ble_eq_true rfl)
    rw [lg_entry_eq]
    generalize (lg_sl ([.int (Int32.ofInt i), .int (Int32.ofInt n), .null]) ++ List.replicate (3 - (lg_sl ([.int (Int32.ofInt i), .int (Int32.ofInt n), .null])).length) Slot.unset).toArray = ls at hl ⊢
    exact body p e s m _ below meth c ls C hr hlocks (lv_sub hl [0, 1] rfl)
  · have hl := lv_entry ([.int (Int32.ofInt i), .int (Int32.ofInt n), .ref q]) (n := 3) (Nat.le_of_ble_eq_true rfl)
    rw [lg_entry_eq]
    generalize (lg_sl ([.int (Int32.ofInt i), .int (Int32.ofInt n), .ref q]) ++ List.replicate (3 - (lg_sl ([.int (Int32.ofInt i), .int (Int32.ofInt n), .ref q])).length) Slot.unset).toArray = ls at hl ⊢
    exact body p e s m _ below meth c ls C hr hlocks (lv_sub hl [0, 1] rfl)
theorem s_sci {i n : Int} (hi : 0 ≤ i ∧ i < n) (hn : in32 n) : Met l sy_sci (.code sy_sci sb_sci 2 none :: lw_g) rms1 (Ps G A [.int (Int32.ofInt i), .int (Int32.ofInt n)]) (Qs none) 0 0 (fun _ => False) := by
  refine met_open (by decide) ?_
  intro p e s m args below meth c C hr hlocks hv
  obtain ⟨rfl, hW⟩ := hv
  have hl := lv_entry ([.int (Int32.ofInt i), .int (Int32.ofInt n)]) (n := 2) (Nat.le_of_ble_eq_true rfl)
  rw [lg_entry_eq]
  generalize (lg_sl ([.int (Int32.ofInt i), .int (Int32.ofInt n)]) ++ List.replicate (2 - (lg_sl ([.int (Int32.ofInt i), .int (Int32.ofInt n)])).length) Slot.unset).toArray = ls at hl ⊢
  have hl : lv_has ls 2 [(0, .int (Int32.ofInt i)), (1, .int (Int32.ofInt n))] := hl
  have hS : va_S A s.heap s.heap [] := va_S.rf
  have hZ : ∃ v : Value, (v = .null ∨ ∃ q, v = .ref q) ∧ va_Z "jdk/internal/util/Preconditions" "SIOOBE_FORMATTER" "Ljava/util/function/BiFunction;" v A s s.heap := by
    rcases hW.2.2 with h | ⟨t, h⟩
    · exact ⟨_, Or.inl rfl, h⟩
    · exact ⟨_, Or.inr ⟨t, rfl⟩, h⟩
  obtain ⟨v, hv, hZ⟩ := hZ
  refine lv_iload_n C.1 C.2.1 sd_sci_0 rfl (lv_at hl 0 rfl) ?_
  refine lv_iload_n C.1 C.2.1 sd_sci_1 rfl (lv_at hl 1 rfl) ?_
  refine va_gets C.1 C.2.1 hZ hS C.2.2.2.1 (C.2.2.2.2 _ sw_f_fmt) (fun _ h => h) sd_sci_2 ?_
  refine s_go (va_runS (nL := 2) (As := [.int (Int32.ofInt i), .int (Int32.ofInt n), v]) (bytes := sb_pci) (maxL := 3) (ret := some .int) C (s_pci (A := A) hi hn hv) (va_cwS 3 C.2.2.2.2 (goodIn_g (by
    intro w hw
    unfold va_wsS at hw
    simp only [List.cons_append, List.nil_append, List.mem_cons] at hw
    rcases hw with rfl | rfl | rfl | rfl | hw
    · exact sw_m_pci
    · exact sw_pci_stat
    · exact sw_init2
    · exact sw_pci_code
    · exact hw)) rfl rfl rfl (by decide +kernel) (by decide)) ⟨Ps_blind, fun U hU hWm => ⟨rfl, by show Ws G A U U.heap; rw [hU]; exact (hW.kept hS.2.1).moved hWm.alike⟩⟩ rfl rfl hl.1 rfl (lv_room (Nat.le_of_ble_eq_true rfl)) sd_sci_5 ⟨Nat.zero_le _, Nat.zero_le _⟩) ?_
  refine lv_pop C.1 C.2.1 sd_sci_8 rfl ?_
  exact W.vret C.1 C.2.1 hr (fun t ht _ => ⟨rfl, ht⟩) (fun _ h => by cases h) sd_sci_9 hlocks
theorem s_l1charAt {i : Int} (hi : 0 ≤ i ∧ i < 108) : Met l sy_l1charAt (.code sy_l1charAt sb_l1charAt 2 (some .char) :: lw_g) rms2 (Ps G A [.ref (gV G), .int (Int32.ofInt i)]) (Qs (some (.int (Int32.ofInt (lget keys i.toNat))))) 0 0 (fun _ => False) := by
  have hin : in32 i := by unfold in32; omega
  refine met_open (by decide) ?_
  intro p e s m args below meth c C hr hlocks hv
  obtain ⟨rfl, hW⟩ := hv
  have hl := lv_entry ([.ref (gV G), .int (Int32.ofInt i)]) (n := 2) (Nat.le_of_ble_eq_true rfl)
  rw [lg_entry_eq]
  generalize (lg_sl ([.ref (gV G), .int (Int32.ofInt i)]) ++ List.replicate (2 - (lg_sl ([.ref (gV G), .int (Int32.ofInt i)])).length) Slot.unset).toArray = ls at hl ⊢
  have hl : lv_has ls 2 [(0, .ref (gV G)), (1, .int (Int32.ofInt i))] := hl
  have hS : va_S A s.heap s.heap [] := va_S.rf
  have hT : va_T .byte (gV G) 108 (fun j => .int (([kBytes].getD 0 []).getD j 0)) A s s.heap := (hW.1.1 0 (by decide)).2.2.2
  refine lv_iload_n C.1 C.2.1 sd_l1charAt_0 rfl (lv_at hl 1 rfl) ?_
  refine lv_aload_n C.1 C.2.1 sd_l1charAt_1 rfl (lv_at hl 0 rfl) ?_
  refine va_tlen C.1 C.2.1 hT hS (v := Int32.ofInt 108) rfl sd_l1charAt_2 ?_
  refine s_go (va_runS (nL := 2) (As := [.int (Int32.ofInt i), .int (Int32.ofInt 108)]) (bytes := sb_sci) (maxL := 2) (ret := none) C (s_sci (A := A) hi (by unfold in32; omega)) (va_cwS 2 C.2.2.2.2 (goodIn_g (by
    intro w hw
    unfold va_wsS at hw
    simp only [List.cons_append, List.nil_append, List.mem_cons] at hw
    rcases hw with rfl | rfl | rfl | rfl | hw
    · exact sw_m_sci
    · exact sw_sci_stat
    · exact sw_init
    · exact sw_sci_code
    · exact hw)) rfl rfl rfl (by decide +kernel) (by decide)) ⟨Ps_blind, fun U hU hWm => ⟨rfl, by show Ws G A U U.heap; rw [hU]; exact (hW.kept hS.2.1).moved hWm.alike⟩⟩ rfl rfl hl.1 rfl (lv_room (Nat.le_of_ble_eq_true rfl)) sd_l1charAt_3 ⟨Nat.zero_le _, Nat.zero_le _⟩) ?_
  refine lv_aload_n C.1 C.2.1 sd_l1charAt_6 rfl (lv_at hl 0 rfl) ?_
  refine lv_iload_n C.1 C.2.1 sd_l1charAt_7 rfl (lv_at hl 1 rfl) ?_
  refine va_tb C.1 C.2.1 hT hS (i := Int32.ofInt i) (i32_vin (n := 108) hi.1 hi.2 hin) (v := .int (Int32.ofInt (lget keys i.toNat))) (by rw [i32_nat hi.1 hin]; exact congrArg Value.int (k_bytes _)) sd_l1charAt_8 ?_
  refine lv_sipush (v := 255) C.1 C.2.1 sd_l1charAt_9 rfl ?_
  refine lv_iand C.1 C.2.1 sd_l1charAt_12 ?_
  have hk := keys_ck i.toNat (by omega)
  unfold keyCk at hk
  simp only [Bool.and_eq_true, beq_iff_eq, decide_eq_true_eq] at hk
  rw [hk.1.1]
  refine lv_i2c (v := Int32.ofInt (lget keys i.toNat)) C.1 C.2.1 sd_l1charAt_13 hk.1.2 ?_
  exact W.zret C.1 C.2.1 hr hk.2 (fun t ht _ => ⟨rfl, ht⟩) (fun _ h => by cases h) sd_l1charAt_14 hlocks
theorem s_length : Met l sy_length (.code sy_length sb_length 1 (some .int) :: lw_g) rms3 (Ps G A [.ref (gS G)]) (Qs (some (.int (Int32.ofInt 108)))) 0 0 (fun _ => False) := by
  refine met_open (by decide) ?_
  intro p e s m args below meth c C hr hlocks hv
  obtain ⟨rfl, hW⟩ := hv
  have hl := lv_entry ([.ref (gS G)]) (n := 1) (Nat.le_of_ble_eq_true rfl)
  rw [lg_entry_eq]
  generalize (lg_sl ([.ref (gS G)]) ++ List.replicate (1 - (lg_sl ([.ref (gS G)])).length) Slot.unset).toArray = ls at hl ⊢
  have hl : lv_has ls 1 [(0, .ref (gS G))] := hl
  have hS : va_S A s.heap s.heap [] := va_S.rf
  refine lv_aload_n C.1 C.2.1 sd_length_0 rfl (lv_at hl 0 rfl) ?_
  refine vk_getf C.1 C.2.1 (hW.1.1 0 (by decide)).2.2.1 hS C.2.2.2.1 (C.2.2.2.2 _ sw_f_value) (fun _ h => h) sd_length_1 ?_
  have hT : va_T .byte (gV G) 108 (fun j => .int (([kBytes].getD 0 []).getD j 0)) A s s.heap := (hW.1.1 0 (by decide)).2.2.2
  refine va_tlen C.1 C.2.1 hT hS (v := Int32.ofInt 108) rfl sd_length_4 ?_
  refine lv_aload_n C.1 C.2.1 sd_length_5 rfl (lv_at hl 0 rfl) ?_
  refine s_go (va_runV (nL := 1) (b := gS G) (As := []) (C := "java/lang/String") (bytes := sb_coder) (maxL := 1) (ret := some .byte) C (s_coder (A := A)) (cwV 0 C.2.2.2.2 (goodIn_g (by
    intro w hw
    unfold wsV at hw
    simp only [List.cons_append, List.nil_append, List.mem_cons] at hw
    rcases hw with rfl | rfl | rfl | rfl | rfl | hw
    · exact sw_m_coder
    · exact sw_coder_inst
    · exact sw_coder_sel
    · exact sw_init
    · exact sw_coder_code
    · exact hw)) rfl rfl rfl (by decide +kernel) (by decide)) ⟨Ps_blind, vk_recv (i := 0) hW.1 (by decide) hS, fun U hU hWm => ⟨rfl, by show Ws G A U U.heap; rw [hU]; exact (hW.kept hS.2.1).moved hWm.alike⟩⟩ rfl rfl hl.1 rfl (lv_room (Nat.le_of_ble_eq_true rfl)) sd_length_6 ⟨Nat.zero_le _, Nat.zero_le _⟩) ?_
  refine lv_ishr C.1 C.2.1 sd_length_9 ?_
  exact W.iret (v := Int32.ofInt 108) C.1 C.2.1 hr (fun t ht _ => ⟨rfl, ht⟩) (fun _ h => by cases h) sd_length_10 hlocks
theorem s_charAt {i : Int} (hi : 0 ≤ i ∧ i < 108) : Met l sy_charAt (.code sy_charAt sb_charAt 2 (some .char) :: lw_g) rms3 (Ps G A [.ref (gS G), .int (Int32.ofInt i)]) (Qs (some (.int (Int32.ofInt (lget keys i.toNat))))) 0 0 (fun _ => False) := by
  refine met_open (by decide) ?_
  intro p e s m args below meth c C hr hlocks hv
  obtain ⟨rfl, hW⟩ := hv
  have hl := lv_entry ([.ref (gS G), .int (Int32.ofInt i)]) (n := 2) (Nat.le_of_ble_eq_true rfl)
  rw [lg_entry_eq]
  generalize (lg_sl ([.ref (gS G), .int (Int32.ofInt i)]) ++ List.replicate (2 - (lg_sl ([.ref (gS G), .int (Int32.ofInt i)])).length) Slot.unset).toArray = ls at hl ⊢
  have hl : lv_has ls 2 [(0, .ref (gS G)), (1, .int (Int32.ofInt i))] := hl
  have hS : va_S A s.heap s.heap [] := va_S.rf
  refine lv_aload_n C.1 C.2.1 sd_charAt_0 rfl (lv_at hl 0 rfl) ?_
  refine s_go (va_runV (nL := 2) (b := gS G) (As := []) (C := "java/lang/String") (bytes := sb_isLatin1) (maxL := 1) (ret := some .boolean) C (s_isLatin1 (A := A)) (cwV 0 C.2.2.2.2 (goodIn_g (by
    intro w hw
    unfold wsV at hw
    simp only [List.cons_append, List.nil_append, List.mem_cons] at hw
    rcases hw with rfl | rfl | rfl | rfl | rfl | hw
    · exact sw_m_isLatin1
    · exact sw_isLatin1_inst
    · exact sw_isLatin1_sel
    · exact sw_init
    · exact sw_isLatin1_code
    · exact hw)) rfl rfl rfl (by decide +kernel) (by decide)) ⟨Ps_blind, vk_recv (i := 0) hW.1 (by decide) hS, fun U hU hWm => ⟨rfl, by show Ws G A U U.heap; rw [hU]; exact (hW.kept hS.2.1).moved hWm.alike⟩⟩ rfl rfl hl.1 rfl (lv_room (Nat.le_of_ble_eq_true rfl)) sd_charAt_1 ⟨Nat.zero_le _, Nat.zero_le _⟩) ?_
  refine lv_if_eq C.1 C.2.1 sd_charAt_4 (tgt := 16) rfl (fun h => absurd h (by decide)) (fun _ => ?_)
  refine lv_aload_n C.1 C.2.1 sd_charAt_7 rfl (lv_at hl 0 rfl) ?_
  refine vk_getf C.1 C.2.1 (hW.1.1 0 (by decide)).2.2.1 hS C.2.2.2.1 (C.2.2.2.2 _ sw_f_value) (fun _ h => h) sd_charAt_8 ?_
  refine lv_iload_n C.1 C.2.1 sd_charAt_11 rfl (lv_at hl 1 rfl) ?_
  refine s_go (va_runS (nL := 2) (As := [.ref (gV G), .int (Int32.ofInt i)]) (bytes := sb_l1charAt) (maxL := 2) (ret := some .char) C (s_l1charAt (A := A) hi) (va_cwS 2 C.2.2.2.2 (goodIn_g (by
    intro w hw
    unfold va_wsS at hw
    simp only [List.cons_append, List.nil_append, List.mem_cons] at hw
    rcases hw with rfl | rfl | rfl | rfl | hw
    · exact sw_m_l1
    · exact sw_l1charAt_stat
    · exact sw_init1
    · exact sw_l1charAt_code
    · exact hw)) rfl rfl rfl (by decide +kernel) (by decide)) ⟨Ps_blind, fun U hU hWm => ⟨rfl, by show Ws G A U U.heap; rw [hU]; exact (hW.kept hS.2.1).moved hWm.alike⟩⟩ rfl rfl hl.1 rfl (lv_room (Nat.le_of_ble_eq_true rfl)) sd_charAt_12 ⟨Nat.zero_le _, Nat.zero_le _⟩) ?_
  have hk := keys_ck i.toNat (by omega)
  unfold keyCk at hk
  simp only [Bool.and_eq_true, beq_iff_eq, decide_eq_true_eq] at hk
  exact W.zret C.1 C.2.1 hr hk.2 (fun t ht _ => ⟨rfl, ht⟩) (fun _ h => by cases h) sd_charAt_15 hlocks
end Str
section Sim
variable {p : Program} {l : Launch} {e : Env} {R : Room} {s0 : State} {m : MethodId} {args : Array Value} {below : List Frame} {meth : Method} {c : Code} {Q : State → Prop} {cc : ByteArray} {own : String} {nL : Nat} {A : Nat → Prop} {G : WG} {sc : Prop} {xs : Int → Int} {L : Int} {kc ks : Nat}
theorem o_l2f (C : Cx p R s0 m args c cc own nL A G sc xs L kc ks) {pc : Nat} {τs τl : List Nat} {st ls : List Int} {s : Mem} {a : Int} {idx : Nat} (hR : 4 ≤ R.frames) (hd : decode cc pc = .ok (.invokevirtual idx, 3)) (hc : cats τs ≤ 8) (hlink : Cond.methodLink own idx sy_length ∈ lw_g)  (k : Wd p l e R s0 m args below meth c Q A G nL sc kc ks (pc + 3) (0 :: τs) τl (108 :: st) ls s) : Wd p l e R s0 m args below meth c Q A G nL sc kc ks pc (5 :: τs) τl (a :: st) ls s := by
  intro hs hl hm H locs lsC hP hD hS hv
  have hcr : ((stkB G τs st).map fun v => v.category).sum ≤ 8 := by rw [stk_cats _ _ hs.2]; exact hc
  have hlo := C.2.2.2.2.1
  refine s_go (va_runV (nL := nL) (b := gS G) (As := []) (C := "java/lang/String") (bytes := sb_length) (maxL := 1) (ret := some .int) C.1 (s_length (A := A)) (cwV 0 C.1.2.2.2.2 (goodIn_g (by
    intro w hw
    unfold wsV at hw
    simp only [List.cons_append, List.nil_append, List.mem_cons] at hw
    rcases hw with rfl | rfl | rfl | rfl | rfl | hw
    · exact hlink
    · exact sw_length_inst
    · exact sw_length_sel
    · exact sw_init
    · exact sw_length_code
    · exact hw)) rfl rfl rfl (by decide +kernel) ⟨by show 3 + 1 ≤ _; omega, by show 8 + (1 + 11) + 120 ≤ _; omega⟩) ⟨Ps_blind, vk_recv (i := 0) C.2.1.ws.1 (by decide) hS, fun U hU hWm => ⟨rfl, by show Ws G A U U.heap; rw [hU]; exact (C.2.1.ws.kept hS.2.1).moved hWm.alike⟩⟩ rfl rfl hv.1 rfl (by simpa using hcr) hd ⟨C.2.2.2.2.2.1, C.2.2.2.2.2.2⟩) ?_
  exact k ⟨(by show in32 108; unfold in32; omega), hs.2⟩ hl hm H locs lsC hP hD hS hv
theorem o_f2d (C : Cx p R s0 m args c cc own nL A G sc xs L kc ks) {pc : Nat} {τs τl : List Nat} {st ls : List Int} {s : Mem} {a i : Int} {idx : Nat} (hR : 4 ≤ R.frames) (hd : decode cc pc = .ok (.invokevirtual idx, 3)) (hc : cats τs ≤ 8) (hlink : Cond.methodLink own idx sy_charAt ∈ lw_g) (hi : 0 ≤ i ∧ i < 108) (k : Wd p l e R s0 m args below meth c Q A G nL sc kc ks (pc + 3) (0 :: τs) τl (lget keys i.toNat :: st) ls s) : Wd p l e R s0 m args below meth c Q A G nL sc kc ks pc (0 :: 5 :: τs) τl (i :: a :: st) ls s := by
  intro hs hl hm H locs lsC hP hD hS hv
  have hcr : ((stkB G τs st).map fun v => v.category).sum ≤ 8 := by rw [stk_cats _ _ hs.2.2]; exact hc
  have hlo := C.2.2.2.2.1
  refine s_go (va_runV (nL := nL) (b := gS G) (As := [.int (Int32.ofInt i)]) (C := "java/lang/String") (bytes := sb_charAt) (maxL := 2) (ret := some .char) C.1 (s_charAt hi (A := A)) (cwV 1 C.1.2.2.2.2 (goodIn_g (by
    intro w hw
    unfold wsV at hw
    simp only [List.cons_append, List.nil_append, List.mem_cons] at hw
    rcases hw with rfl | rfl | rfl | rfl | rfl | hw
    · exact hlink
    · exact sw_charAt_inst
    · exact sw_charAt_sel
    · exact sw_init
    · exact sw_charAt_code
    · exact hw)) rfl rfl rfl (by decide +kernel) ⟨by show 3 + 1 ≤ _; omega, by show 8 + (2 + 11) + 120 ≤ _; omega⟩) ⟨Ps_blind, vk_recv (i := 0) C.2.1.ws.1 (by decide) hS, fun U hU hWm => ⟨rfl, by show Ws G A U U.heap; rw [hU]; exact (C.2.1.ws.kept hS.2.1).moved hWm.alike⟩⟩ rfl rfl hv.1 rfl (by simpa using hcr) hd ⟨C.2.2.2.2.2.1, C.2.2.2.2.2.2⟩) ?_
  exact k ⟨(keys_in i.toNat (by omega)), hs.2.2⟩ hl hm H locs lsC hP hD hS hv
end Sim
