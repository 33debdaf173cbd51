/-! ===== array copies, switches, returns, calls (wip/gen/mk15.py) ===== -/
theorem copy_nat : Cond.native arraycopyName ∈ lw_g ∧ Cond.static arraycopyName ∈ lw_g ∧ Cond.initialized "java/lang/System" ∈ lw_g := by decide +kernel
theorem nfw : nativeFrameWords "java/lang/System" "arraycopy" 5 + 11 ≤ 100 := by decide
theorem mcopy_nat {s : Mem} {d : Nat} {a p q n : Int} : ∀ b : Nat, b ≠ d → s (b : Int) = mcopy s a p d q n (b : Int) := fun b hb => by unfold mcopy; rw [if_neg (by omega)]
theorem okm_copy {s : Mem} {a d : Nat} {p q n : Int} (h : okm s) (hv : ∀ j i v, okc a i v → okc d j v) : okm (mcopy s a p d q n) := by
  intro b j
  unfold mcopy
  by_cases hb : (b : Int) = d
  · rw [if_pos hb]
    have : b = d := by omega
    subst this
    by_cases hj : q ≤ j ∧ j < q + n
    · rw [if_pos hj]; exact hv _ _ _ (h a _)
    · rw [if_neg hj]; exact h b j
  · rw [if_neg hb]; exact h b j
def swv : List (Int × Int) → Int → Int → Int
  | [], d, _ => d
  | (a, t) :: r, d, x => if x = a then t else swv r d x
theorem swk_swv : ∀ (l : List (Int × Int)) (d x : Int) (k : Int → Rs), swk l d x k = k (swv l d x)
  | [], _, _, _ => rfl
  | (a, t) :: r, d, x, k => by unfold swk swv; split
                               · rfl
                               · exact swk_swv r d x k
def tmk (pc : Int) : Int → List Int → List (Int × Int)
  | _, [] => []
  | lo, o :: r => (lo, pc + o) :: tmk pc (lo + 1) r
theorem tmk_out {pc d x : Int} : ∀ (l : List Int) (lo : Int), (x < lo ∨ lo + l.length ≤ x) → swv (tmk pc lo l) d x = d
  | [], _, _ => rfl
  | o :: r, lo, h => by
    unfold tmk swv
    rw [List.length_cons] at h
    rw [if_neg (by omega)]
    exact tmk_out r (lo + 1) (by omega)
theorem tmk_in {pc d x : Int} : ∀ (l : List Int) (lo o : Int), lo ≤ x → l[(x - lo).toNat]? = some o → swv (tmk pc lo l) d x = pc + o
  | [], _, _, _, h => by simp at h
  | o' :: r, lo, o, h1, h2 => by
    unfold tmk swv
    by_cases hx : x = lo
    · rw [if_pos hx]
      rw [show (x - lo).toNat = 0 by omega] at h2
      cases h2; rfl
    · rw [if_neg hx]
      refine tmk_in r (lo + 1) o (by omega) ?_
      rw [show (x - lo).toNat = (x - (lo + 1)).toNat + 1 by omega] at h2
      simpa using h2
def lmk (pc : Int) (l : List (Int × Int)) : List (Int × Int) := l.map fun q => (q.1, pc + q.2)
theorem lmk_off {pc d x : Int} : ∀ (l : List (Int × Int)), swv (lmk pc l) (pc + d) x = pc + Op.lookupswitch.offset l d x
  | [] => rfl
  | (a, t) :: r => by
    show (if x = a then pc + t else swv (lmk pc r) (pc + d) x) = _
    rw [lmk_off r]
    by_cases h : x = a
    · rw [if_pos h]; subst h; simp [Op.lookupswitch.offset]
    · rw [if_neg h]; simp [Op.lookupswitch.offset, Ne.symm h]
theorem good_mem {w : Cond} (h : w ∈ lw_g) : (w.onTables && w.keeps) = true ∨ ∃ ty, w = .arrayClass ty := good_of_word (List.mem_filter.mp h).2
theorem goodIn_g {ws : List Cond} (h : ∀ w ∈ ws, w ∈ lw_g) : GoodIn lw_g ws := fun w hw => ⟨h w hw, good_mem (h w hw)⟩
theorem stk_len {G : WG} {sc : Prop} : ∀ (ts : List Nat) (as : List Int), okl sc ts as → (stkB G ts as).length = ts.length
  | [], [], _ => rfl
  | _ :: ts, _ :: as, h => by unfold stkB; rw [List.length_cons, List.length_cons, stk_len ts as h.2]
  | [], _ :: _, h => h.elim
  | _ :: _, [], h => h.elim
theorem stk_app {G : WG} {sc : Prop} {τ : List Nat} {v : List Int} : ∀ (ts : List Nat) (as : List Int), okl sc ts as → stkB G (ts ++ τ) (as ++ v) = stkB G ts as ++ stkB G τ v
  | [], [], _ => rfl
  | t :: ts, a :: as, h => by
    show cv G t a :: stkB G (ts ++ τ) (as ++ v) = _
    rw [stk_app ts as h.2]; rfl
  | [], _ :: _, h => h.elim
  | _ :: _, [], h => h.elim
theorem okl_app {sc : Prop} {τ : List Nat} {v : List Int} : ∀ (ts : List Nat) (as : List Int), okl sc ts as → okl sc τ v → okl sc (ts ++ τ) (as ++ v)
  | [], [], _, h => h
  | _ :: ts, _ :: as, h, h2 => ⟨h.1, okl_app ts as h.2 h2⟩
  | [], _ :: _, h, _ => h.elim
  | _ :: _, [], h, _ => h.elim
theorem stk_rev {G : WG} {sc : Prop} : ∀ (ts : List Nat) (as : List Int), okl sc ts as → stkB G ts.reverse as.reverse = (stkB G ts as).reverse ∧ okl sc ts.reverse as.reverse
  | [], [], _ => ⟨rfl, trivial⟩
  | t :: ts, a :: as, h => by
    obtain ⟨h1, h2⟩ := stk_rev (G := G) ts as h.2
    rw [List.reverse_cons, List.reverse_cons]
    refine ⟨?_, okl_app _ _ h2 ⟨h.1, trivial⟩⟩
    rw [stk_app _ _ h2, h1]
    show _ = (cv G t a :: stkB G ts as).reverse
    rw [List.reverse_cons]; rfl
  | [], _ :: _, h => h.elim
  | _ :: _, [], h => h.elim
theorem okl_split {sc : Prop} : ∀ (n : Nat) (a b : List Nat) (st : List Int), a.length = n → okl sc (a ++ b) st → okl sc a (st.take n) ∧ okl sc b (st.drop n)
  | 0, [], b, st, _, h => ⟨trivial, h⟩
  | n + 1, t :: a, b, v :: st, hl, h => by
    obtain ⟨h1, h2⟩ := okl_split n a b st (by simpa using hl) h.2
    exact ⟨⟨h.1, h1⟩, h2⟩
  | n + 1, t :: a, b, [], _, h => h.elim
  | 0, _ :: _, _, _, h, _ => by simp at h
  | _ + 1, [], _, _, h, _ => by simp at h
theorem okv_sc {sc sc' : Prop} {t : Nat} {v : Int} (h7 : t ≠ 7) (h : okv sc t v) : okv sc' t v := by
  unfold okv at *
  by_cases h0 : t = 0
  · rw [if_pos h0] at *; exact h
  · rw [if_neg h0] at *
    by_cases h1 : t = 1
    · rw [if_pos h1] at *; exact h
    · rw [if_neg h1, if_neg h7] at *; exact h
theorem okl_sc {sc sc' : Prop} : ∀ (ts : List Nat) (as : List Int), ts.all (fun t => t != 7) = true → okl sc ts as → okl sc' ts as
  | [], [], _, _ => trivial
  | t :: ts, a :: as, h7, h => by
    rw [List.all_cons, Bool.and_eq_true] at h7
    exact ⟨okv_sc (by simpa using h7.1) h.1, okl_sc ts as h7.2 h.2⟩
  | [], _ :: _, _, h => h.elim
  | _ :: _, [], _, h => h.elim
/-- the methods as the Statement has them: name, bytes, answer, its type, whether static -/
def jtab : List (MethodName × ByteArray × Option FieldType × Nat × Bool) := [(⟨"MurmurHall", "status", "()I"⟩, prog_1_method_2_code, some .int, 0, false),
  (⟨"MurmurHall", "top", "()J"⟩, prog_1_method_3_code, some .long, 1, false),
  (⟨"MurmurHall", "bottom", "()J"⟩, prog_1_method_4_code, some .long, 1, false),
  (⟨"MurmurHall", "tray", "(III)Z"⟩, prog_1_method_5_code, some .boolean, 0, false),
  (⟨"MurmurHall$Trays", "isOne", "(I)Z"⟩, prog_11_method_2_code, some .boolean, 0, false),
  (⟨"MurmurHall", "deny", "(I)Z"⟩, prog_1_method_61_code, some .boolean, 0, false),
  (⟨"MurmurHall$Trays", "lay", "(III)V"⟩, prog_11_method_6_code, none, 98, false),
  (⟨"MurmurHall", "grant", "()Z"⟩, prog_1_method_60_code, some .boolean, 0, false),
  (⟨"MurmurHall", "write", "(IIJ)Z"⟩, prog_1_method_6_code, some .boolean, 0, false),
  (⟨"MurmurHall$Trays", "problemAt", "(II)I"⟩, prog_11_method_4_code, some .int, 0, false),
  (⟨"MurmurHall$Trays", "isMissing", "(I)Z"⟩, prog_11_method_3_code, some .boolean, 0, false),
  (⟨"MurmurHall$Trays", "put", "(IIJ)V"⟩, prog_11_method_7_code, none, 98, false),
  (⟨"MurmurHall$Trays", "cut", "(IJ)J"⟩, prog_11_method_9_code, some .long, 1, true),
  (⟨"MurmurHall", "read", "(II)J"⟩, prog_1_method_7_code, some .long, 1, false),
  (⟨"MurmurHall", "fail", "(I)I"⟩, prog_1_method_59_code, some .int, 0, false),
  (⟨"MurmurHall", "pour", "(IIIII)Z"⟩, prog_1_method_8_code, some .boolean, 0, false),
  (⟨"MurmurHall$Trays", "reaches", "(III)Z"⟩, prog_11_method_5_code, some .boolean, 0, false),
  (⟨"MurmurHall$Trays", "move", "(IIIII)V"⟩, prog_11_method_8_code, none, 98, false),
  (⟨"MurmurHall", "feed", "(IIIII)I"⟩, prog_1_method_9_code, some .int, 0, false),
  (⟨"MurmurHall$Tokens", "append", "(I)V"⟩, prog_10_method_2_code, none, 98, false),
  (⟨"MurmurHall", "hall", "(I)I"⟩, prog_1_method_10_code, some .int, 0, false),
  (⟨"MurmurHall$Tokens", "begin", "(I)V"⟩, prog_10_method_3_code, none, 98, false),
  (⟨"MurmurHall$HallReader", "readInto", "(LMurmurHall$Hall;)Z"⟩, prog_4_method_2_code, some .boolean, 0, false),
  (⟨"MurmurHall$Hall", "clear", "()V"⟩, prog_3_method_2_code, none, 98, false),
  (⟨"MurmurHall$Steps", "clear", "()V"⟩, prog_9_method_2_code, none, 98, false),
  (⟨"MurmurHall$Tokens", "advance", "()V"⟩, prog_10_method_5_code, none, 98, false),
  (⟨"MurmurHall$Tokens", "kindOf", "(I)I"⟩, prog_10_method_6_code, some .int, 0, true),
  (⟨"MurmurHall$Tokens", "readLetters", "()V"⟩, prog_10_method_7_code, none, 98, false),
  (⟨"MurmurHall$Tokens", "wordNumber", "()I"⟩, prog_10_method_8_code, some .int, 0, false),
  (⟨"MurmurHall$Tokens", "readDigits", "()V"⟩, prog_10_method_9_code, none, 98, false),
  (⟨"MurmurHall$Hall", "measure", "(I[I)V"⟩, prog_3_method_32_code, none, 98, false),
  (⟨"java/util/Arrays", "fill", "([II)V"⟩, prog_20_method_103_code, none, 98, true),
  (⟨"MurmurHall$Hall", "shorten", "([IIII)V"⟩, prog_3_method_34_code, none, 98, true),
  (⟨"MurmurHall$Hall", "measureBy", "(I[I)V"⟩, prog_3_method_33_code, none, 98, false),
  (⟨"MurmurHall$HallReader", "readPart", "(LMurmurHall$Hall;)Z"⟩, prog_4_method_3_code, some .boolean, 0, false),
  (⟨"MurmurHall$Tokens", "word", "()I"⟩, prog_10_method_10_code, some .int, 0, false),
  (⟨"MurmurHall$HallReader", "readOdds", "(LMurmurHall$Hall;)Z"⟩, prog_4_method_4_code, some .boolean, 0, false),
  (⟨"MurmurHall$Tokens", "refuse", "(I)Z"⟩, prog_10_method_4_code, some .boolean, 0, false),
  (⟨"MurmurHall$Tokens", "numberNext", "(II)Z"⟩, prog_10_method_13_code, some .boolean, 0, false),
  (⟨"MurmurHall$Tokens", "numberHere", "(II)Z"⟩, prog_10_method_14_code, some .boolean, 0, false),
  (⟨"MurmurHall$Tokens", "closeNext", "()Z"⟩, prog_10_method_15_code, some .boolean, 0, false),
  (⟨"MurmurHall$Tokens", "closeHere", "()Z"⟩, prog_10_method_16_code, some .boolean, 0, false),
  (⟨"MurmurHall$HallReader", "readPlace", "(LMurmurHall$Hall;)Z"⟩, prog_4_method_5_code, some .boolean, 0, false),
  (⟨"MurmurHall$HallReader", "newNameNext", "(LMurmurHall$Hall;)Z"⟩, prog_4_method_12_code, some .boolean, 0, false),
  (⟨"MurmurHall$Tokens", "nameNext", "()Z"⟩, prog_10_method_12_code, some .boolean, 0, false),
  (⟨"MurmurHall$Hall", "isTaken", "(J)Z"⟩, prog_3_method_14_code, some .boolean, 0, false),
  (⟨"MurmurHall$Hall", "placeNamed", "(J)I"⟩, prog_3_method_11_code, some .int, 0, false),
  (⟨"MurmurHall$Hall", "indexOf", "(JII)I"⟩, prog_3_method_15_code, some .int, 0, false),
  (⟨"MurmurHall$Hall", "slateNamed", "(J)I"⟩, prog_3_method_12_code, some .int, 0, false),
  (⟨"MurmurHall$Hall", "callerNamed", "(J)I"⟩, prog_3_method_13_code, some .int, 0, false),
  (⟨"MurmurHall$Hall", "addPlace", "(J)V"⟩, prog_3_method_16_code, none, 98, false),
  (⟨"MurmurHall$HallReader", "readWay", "(LMurmurHall$Hall;)Z"⟩, prog_4_method_6_code, some .boolean, 0, false),
  (⟨"MurmurHall$HallReader", "placeNext", "(LMurmurHall$Hall;)I"⟩, prog_4_method_13_code, some .int, 0, false),
  (⟨"MurmurHall$Tokens", "wordNext", "(I)Z"⟩, prog_10_method_11_code, some .boolean, 0, false),
  (⟨"MurmurHall$Hall", "addWay", "(IIII)V"⟩, prog_3_method_17_code, none, 98, false),
  (⟨"MurmurHall$HallReader", "readSlate", "(LMurmurHall$Hall;)Z"⟩, prog_4_method_7_code, some .boolean, 0, false),
  (⟨"MurmurHall$Hall", "addSlate", "(JI)V"⟩, prog_3_method_18_code, none, 98, false),
  (⟨"MurmurHall$HallReader", "readCaller", "(LMurmurHall$Hall;)Z"⟩, prog_4_method_8_code, some .boolean, 0, false),
  (⟨"MurmurHall$Hall", "addCaller", "(JI)V"⟩, prog_3_method_19_code, none, 98, false),
  (⟨"MurmurHall$HallReader", "readCry", "(LMurmurHall$Hall;)Z"⟩, prog_4_method_9_code, some .boolean, 0, false),
  (⟨"MurmurHall$HallReader", "callerNext", "(LMurmurHall$Hall;)I"⟩, prog_4_method_14_code, some .int, 0, false),
  (⟨"MurmurHall$HallReader", "perhapsNumberNext", "()I"⟩, prog_4_method_10_code, some .int, 0, false),
  (⟨"MurmurHall$Hall", "addCry", "(IIII)I"⟩, prog_3_method_20_code, some .int, 0, false),
  (⟨"MurmurHall$HallReader", "readCall", "(LMurmurHall$Hall;)Z"⟩, prog_4_method_11_code, some .boolean, 0, false),
  (⟨"MurmurHall$Hall", "addCall", "(III)I"⟩, prog_3_method_22_code, some .int, 0, false),
  (⟨"MurmurHall$Hall", "hasCry", "(II)Z"⟩, prog_3_method_8_code, some .boolean, 0, false),
  (⟨"MurmurHall$Hall", "callNumber", "(III)I"⟩, prog_3_method_21_code, some .int, 0, true),
  (⟨"MurmurHall$Hall", "isSpoken", "(I)Z"⟩, prog_3_method_23_code, some .boolean, 0, false),
  (⟨"MurmurHall$Hall", "takeFrom", "(LMurmurHall$Hall;)V"⟩, prog_3_method_3_code, none, 98, false),
  (⟨"MurmurHall$Steps", "takeFrom", "(LMurmurHall$Steps;)V"⟩, prog_9_method_3_code, none, 98, false),
  (⟨"MurmurHall", "pass", "(I)I"⟩, prog_1_method_58_code, some .int, 0, false),
  (⟨"MurmurHall", "mornings", "(I)I"⟩, prog_1_method_11_code, some .int, 0, false),
  (⟨"MurmurHall$MorningsReader", "readInto", "(LMurmurHall$Steps;LMurmurHall$Hall;)Z"⟩, prog_6_method_2_code, some .boolean, 0, false),
  (⟨"MurmurHall$MorningsReader", "readEnd", "(LMurmurHall$Steps;)Z"⟩, prog_6_method_3_code, some .boolean, 0, false),
  (⟨"MurmurHall$MorningsReader", "beginStep", "(LMurmurHall$Steps;)Z"⟩, prog_6_method_4_code, some .boolean, 0, false),
  (⟨"MurmurHall$MorningsReader", "isPlainStep", "(I)Z"⟩, prog_6_method_5_code, some .boolean, 0, true),
  (⟨"MurmurHall$MorningsReader", "readRest", "(LMurmurHall$Steps;LMurmurHall$Hall;)Z"⟩, prog_6_method_6_code, some .boolean, 0, false),
  (⟨"MurmurHall$MorningsReader", "readCaller", "(LMurmurHall$Steps;ILMurmurHall$Hall;)Z"⟩, prog_6_method_9_code, some .boolean, 0, false),
  (⟨"MurmurHall$MorningsReader", "readWhere", "(LMurmurHall$Steps;II)Z"⟩, prog_6_method_12_code, some .boolean, 0, false),
  (⟨"MurmurHall$MorningsReader", "readNumber", "(LMurmurHall$Steps;III)Z"⟩, prog_6_method_13_code, some .boolean, 0, false),
  (⟨"MurmurHall$MorningsReader", "readPlace", "(LMurmurHall$Steps;ILMurmurHall$Hall;)Z"⟩, prog_6_method_10_code, some .boolean, 0, false),
  (⟨"MurmurHall$MorningsReader", "readTest", "(LMurmurHall$Steps;ILMurmurHall$Hall;)Z"⟩, prog_6_method_7_code, some .boolean, 0, false),
  (⟨"MurmurHall$MorningsReader", "readSlate", "(LMurmurHall$Steps;ILMurmurHall$Hall;)Z"⟩, prog_6_method_8_code, some .boolean, 0, false),
  (⟨"MurmurHall$MorningsReader", "readSign", "(LMurmurHall$Steps;I)Z"⟩, prog_6_method_11_code, some .boolean, 0, false),
  (⟨"MurmurHall$Tokens", "compareNext", "()Z"⟩, prog_10_method_17_code, some .boolean, 0, false),
  (⟨"MurmurHall", "fault", "(I)I"⟩, prog_1_method_12_code, some .int, 0, false),
  (⟨"MurmurHall", "told", "(I)I"⟩, prog_1_method_13_code, some .int, 0, false),
  (⟨"MurmurHall$Hall", "allCries", "()I"⟩, prog_3_method_10_code, some .int, 0, false),
  (⟨"MurmurHall", "way", "(II)I"⟩, prog_1_method_14_code, some .int, 0, false),
  (⟨"MurmurHall$Hall", "hasWay", "(I)Z"⟩, prog_3_method_5_code, some .boolean, 0, false),
  (⟨"MurmurHall", "slate", "(I)I"⟩, prog_1_method_15_code, some .int, 0, false),
  (⟨"MurmurHall$Hall", "hasSlate", "(I)Z"⟩, prog_3_method_6_code, some .boolean, 0, false),
  (⟨"MurmurHall", "caller", "(II)I"⟩, prog_1_method_16_code, some .int, 0, false),
  (⟨"MurmurHall$Hall", "hasCaller", "(I)Z"⟩, prog_3_method_7_code, some .boolean, 0, false),
  (⟨"MurmurHall", "cry", "(III)I"⟩, prog_1_method_17_code, some .int, 0, false),
  (⟨"MurmurHall$Hall", "numberOf", "(II)I"⟩, prog_3_method_36_code, some .int, 0, false),
  (⟨"MurmurHall", "call", "(II)I"⟩, prog_1_method_18_code, some .int, 0, false),
  (⟨"MurmurHall$Hall", "hasCall", "(I)Z"⟩, prog_3_method_9_code, some .boolean, 0, false),
  (⟨"MurmurHall$Hall", "callerOf", "(I)I"⟩, prog_3_method_26_code, some .int, 0, false),
  (⟨"MurmurHall$Hall", "kindOf", "(I)I"⟩, prog_3_method_25_code, some .int, 0, false),
  (⟨"MurmurHall$Hall", "startOf", "(I)I"⟩, prog_3_method_27_code, some .int, 0, false),
  (⟨"MurmurHall", "say", "(III)I"⟩, prog_1_method_19_code, some .int, 0, false),
  (⟨"MurmurHall", "hush", "(I)I"⟩, prog_1_method_20_code, some .int, 0, false),
  (⟨"MurmurHall$Hall", "strike", "(I)V"⟩, prog_3_method_24_code, none, 98, false),
  (⟨"MurmurHall", "walk", "(II)I"⟩, prog_1_method_21_code, some .int, 0, false),
  (⟨"MurmurHall$Hall", "hasPlace", "(I)Z"⟩, prog_3_method_4_code, some .boolean, 0, false),
  (⟨"MurmurHall", "hang", "(II)I"⟩, prog_1_method_22_code, some .int, 0, false),
  (⟨"MurmurHall", "pave", "(III)Z"⟩, prog_1_method_23_code, some .boolean, 0, false),
  (⟨"MurmurHall", "teach", "(IIII)I"⟩, prog_1_method_24_code, some .int, 0, false),
  (⟨"MurmurHall", "isNumber", "(II)Z"⟩, prog_1_method_67_code, some .boolean, 0, true),
  (⟨"MurmurHall", "rule", "(I)Z"⟩, prog_1_method_25_code, some .boolean, 0, false),
  (⟨"MurmurHall", "record", "()I"⟩, prog_1_method_26_code, some .int, 0, false),
  (⟨"MurmurHall$Hall", "keepSums", "()V"⟩, prog_3_method_45_code, none, 98, false),
  (⟨"MurmurHall$Hall", "writeSums", "([I)V"⟩, prog_3_method_44_code, none, 98, false),
  (⟨"MurmurHall$Hall", "distanceToSlate", "(II)I"⟩, prog_3_method_31_code, some .int, 0, false),
  (⟨"MurmurHall$Hall", "distance", "(II)I"⟩, prog_3_method_30_code, some .int, 0, false),
  (⟨"MurmurHall$Hall", "beatsOf", "(I)I"⟩, prog_3_method_28_code, some .int, 0, true),
  (⟨"MurmurHall$Hall", "cellOf", "(II)I"⟩, prog_3_method_35_code, some .int, 0, true),
  (⟨"MurmurHall$Hall", "lossOf", "(I)I"⟩, prog_3_method_29_code, some .int, 0, true),
  (⟨"MurmurHall$Hall", "amount", "(III)I"⟩, prog_3_method_37_code, some .int, 0, false),
  (⟨"MurmurHall$Hall", "total", "()I"⟩, prog_3_method_43_code, some .int, 0, false),
  (⟨"MurmurHall$Hall", "totalOn", "(I)I"⟩, prog_3_method_42_code, some .int, 0, false),
  (⟨"MurmurHall$Hall", "allOfCall", "(II)I"⟩, prog_3_method_40_code, some .int, 0, false),
  (⟨"MurmurHall", "scrawl", "(III)I"⟩, prog_1_method_27_code, some .int, 0, false),
  (⟨"MurmurHall", "isBeat", "(I)Z"⟩, prog_1_method_66_code, some .boolean, 0, true),
  (⟨"MurmurHall", "far", "(II)I"⟩, prog_1_method_28_code, some .int, 0, false),
  (⟨"MurmurHall", "lost", "(II)I"⟩, prog_1_method_29_code, some .int, 0, false),
  (⟨"MurmurHall", "heard", "(II)I"⟩, prog_1_method_30_code, some .int, 0, false),
  (⟨"MurmurHall$Hall", "sumAt", "(II)I"⟩, prog_3_method_39_code, some .int, 0, false),
  (⟨"MurmurHall$Hall", "amountAt", "(III)I"⟩, prog_3_method_38_code, some .int, 0, false),
  (⟨"MurmurHall", "from", "(II)I"⟩, prog_1_method_31_code, some .int, 0, false),
  (⟨"MurmurHall", "first", "(I)I"⟩, prog_1_method_32_code, some .int, 0, false),
  (⟨"MurmurHall", "last", "(I)I"⟩, prog_1_method_33_code, some .int, 0, false),
  (⟨"MurmurHall", "loudest", "(I)I"⟩, prog_1_method_34_code, some .int, 0, false),
  (⟨"MurmurHall", "all", "(I)I"⟩, prog_1_method_35_code, some .int, 0, false),
  (⟨"MurmurHall", "recorded", "(II)I"⟩, prog_1_method_36_code, some .int, 0, false),
  (⟨"MurmurHall", "differs", "()I"⟩, prog_1_method_37_code, some .int, 0, false),
  (⟨"MurmurHall", "copyHeard", "(IIII)I"⟩, prog_1_method_38_code, some .int, 0, false),
  (⟨"MurmurHall", "answers", "(I)I"⟩, prog_1_method_39_code, some .int, 0, false),
  (⟨"MurmurHall", "problemOfGuess", "(II)I"⟩, prog_1_method_62_code, some .int, 0, false),
  (⟨"MurmurHall$Guess", "findAnswers", "(LMurmurHall$Hall;II)V"⟩, prog_2_method_2_code, none, 98, false),
  (⟨"MurmurHall$Guess", "listen", "(LMurmurHall$Hall;)V"⟩, prog_2_method_3_code, none, 98, false),
  (⟨"MurmurHall$Hall", "totalKept", "()I"⟩, prog_3_method_46_code, some .int, 0, false),
  (⟨"MurmurHall$Guess", "listenOn", "(LMurmurHall$Hall;II)I"⟩, prog_2_method_4_code, some .int, 0, false),
  (⟨"MurmurHall$Guess", "search", "(LMurmurHall$Guess;III)V"⟩, prog_2_method_5_code, none, 98, true),
  (⟨"MurmurHall$Guess", "note", "(I)V"⟩, prog_2_method_10_code, none, 98, false),
  (⟨"MurmurHall$Guess", "sortChosen", "(I)V"⟩, prog_2_method_11_code, none, 98, false),
  (⟨"MurmurHall$Guess", "comesFirst", "(I)Z"⟩, prog_2_method_12_code, some .boolean, 0, false),
  (⟨"MurmurHall$Guess", "firstLeft", "(I)I"⟩, prog_2_method_6_code, some .int, 0, false),
  (⟨"MurmurHall$Guess", "beginFor", "(II)I"⟩, prog_2_method_7_code, some .int, 0, false),
  (⟨"MurmurHall$Guess", "fits", "(II)Z"⟩, prog_2_method_8_code, some .boolean, 0, false),
  (⟨"MurmurHall$Guess", "take", "(III)V"⟩, prog_2_method_9_code, none, 98, false),
  (⟨"MurmurHall", "answerAt", "(II)I"⟩, prog_1_method_40_code, some .int, 0, false),
  (⟨"MurmurHall", "with", "(IIII)I"⟩, prog_1_method_41_code, some .int, 0, false),
  (⟨"MurmurHall", "fewest", "()I"⟩, prog_1_method_42_code, some .int, 0, false),
  (⟨"MurmurHall", "slips", "(I)I"⟩, prog_1_method_43_code, some .int, 0, false),
  (⟨"MurmurHall$Guess", "findSlips", "(LMurmurHall$Hall;I)V"⟩, prog_2_method_13_code, none, 98, false),
  (⟨"MurmurHall$Guess", "weighEach", "()I"⟩, prog_2_method_14_code, some .int, 0, false),
  (⟨"MurmurHall$Guess", "changeBy", "(I)I"⟩, prog_2_method_16_code, some .int, 0, false),
  (⟨"MurmurHall$Guess", "findSecond", "(II)V"⟩, prog_2_method_15_code, none, 98, false),
  (⟨"MurmurHall", "slipsAt", "(II)I"⟩, prog_1_method_44_code, some .int, 0, false),
  (⟨"MurmurHall", "moved", "()I"⟩, prog_1_method_45_code, some .int, 0, false),
  (⟨"MurmurHall$Moves", "find", "(LMurmurHall$Hall;I)V"⟩, prog_7_method_2_code, none, 98, false),
  (⟨"MurmurHall$Moves", "measurePairs", "(LMurmurHall$Hall;II)V"⟩, prog_7_method_3_code, none, 98, false),
  (⟨"MurmurHall$Moves", "findOf", "(LMurmurHall$Hall;II)V"⟩, prog_7_method_4_code, none, 98, false),
  (⟨"MurmurHall$Moves", "explains", "(LMurmurHall$Hall;I)Z"⟩, prog_7_method_7_code, some .boolean, 0, false),
  (⟨"MurmurHall$Moves", "takes", "(LMurmurHall$Hall;III)Z"⟩, prog_7_method_8_code, some .boolean, 0, false),
  (⟨"MurmurHall$Moves", "giveBack", "()V"⟩, prog_7_method_9_code, none, 98, false),
  (⟨"MurmurHall$Moves", "isUsed", "(LMurmurHall$Hall;I)Z"⟩, prog_7_method_6_code, some .boolean, 0, false),
  (⟨"MurmurHall$Moves", "note", "(IIII)V"⟩, prog_7_method_5_code, none, 98, false),
  (⟨"MurmurHall", "movedAt", "(II)I"⟩, prog_1_method_46_code, some .int, 0, false),
  (⟨"MurmurHall", "alike", "(IIII)I"⟩, prog_1_method_47_code, some .int, 0, false),
  (⟨"MurmurHall$Parting", "listen", "(LMurmurHall$Hall;)V"⟩, prog_8_method_2_code, none, 98, false),
  (⟨"MurmurHall$Parting", "listenAt", "(LMurmurHall$Hall;III)V"⟩, prog_8_method_3_code, none, 98, false),
  (⟨"MurmurHall$Parting", "leftAligned", "(I)I"⟩, prog_8_method_4_code, some .int, 0, true),
  (⟨"MurmurHall$Hall", "slatePlaces", "()I"⟩, prog_3_method_47_code, some .int, 0, false),
  (⟨"MurmurHall$Parting", "laterBy", "(III)I"⟩, prog_8_method_5_code, some .int, 0, false),
  (⟨"MurmurHall$Parting", "laterAt", "(III)I"⟩, prog_8_method_7_code, some .int, 0, false),
  (⟨"MurmurHall$Parting", "both", "(II)I"⟩, prog_8_method_6_code, some .int, 0, true),
  (⟨"MurmurHall", "parts", "(I)I"⟩, prog_1_method_48_code, some .int, 0, false),
  (⟨"MurmurHall$Parting", "partsAll", "(LMurmurHall$Hall;I)Z"⟩, prog_8_method_8_code, some .boolean, 0, false),
  (⟨"MurmurHall$Parting", "isThere", "(LMurmurHall$Hall;I)Z"⟩, prog_8_method_9_code, some .boolean, 0, true),
  (⟨"MurmurHall", "hanging", "()I"⟩, prog_1_method_49_code, some .int, 0, false),
  (⟨"MurmurHall$Parting", "leastSet", "(LMurmurHall$Hall;)I"⟩, prog_8_method_10_code, some .int, 0, false),
  (⟨"MurmurHall$Parting", "markUnparted", "(III)V"⟩, prog_8_method_11_code, none, 98, false),
  (⟨"java/lang/Integer", "numberOfTrailingZeros", "(I)I"⟩, prog_14_method_48_code, some .int, 0, true),
  (⟨"java/lang/Integer", "bitCount", "(I)I"⟩, prog_14_method_49_code, some .int, 0, true),
  (⟨"MurmurHall", "hangingSet", "()I"⟩, prog_1_method_50_code, some .int, 0, false),
  (⟨"MurmurHall", "chance", "(III)Z"⟩, prog_1_method_51_code, some .boolean, 0, false),
  (⟨"MurmurHall$Hall", "weightOfAtLeast", "(III)J"⟩, prog_3_method_49_code, some .long, 1, false),
  (⟨"MurmurHall$Hall", "sixteens", "(I)J"⟩, prog_3_method_48_code, some .long, 1, true),
  (⟨"MurmurHall", "tell", "(JJ)V"⟩, prog_1_method_64_code, none, 98, false),
  (⟨"MurmurHall", "commonDivisor", "(JJ)J"⟩, prog_1_method_65_code, some .long, 1, true),
  (⟨"MurmurHall", "quiet", "(I)Z"⟩, prog_1_method_52_code, some .boolean, 0, false),
  (⟨"MurmurHall$Hall", "isLoudOn", "(II)Z"⟩, prog_3_method_41_code, some .boolean, 0, false),
  (⟨"MurmurHall", "live", "(I)I"⟩, prog_1_method_53_code, some .int, 0, false),
  (⟨"MurmurHall$Life", "run", "(LMurmurHall$Hall;I)V"⟩, prog_5_method_2_code, none, 98, false),
  (⟨"MurmurHall$Life", "behindEnd", "(LMurmurHall$Steps;I)I"⟩, prog_5_method_3_code, some .int, 0, false),
  (⟨"MurmurHall$Life", "behindStep", "(LMurmurHall$Hall;LMurmurHall$Steps;I)I"⟩, prog_5_method_4_code, some .int, 0, false),
  (⟨"MurmurHall$Life", "holds", "(LMurmurHall$Hall;LMurmurHall$Steps;I)Z"⟩, prog_5_method_10_code, some .boolean, 0, false),
  (⟨"MurmurHall$Life", "compares", "(III)Z"⟩, prog_5_method_11_code, some .boolean, 0, true),
  (⟨"MurmurHall$Life", "act", "(LMurmurHall$Hall;LMurmurHall$Steps;I)V"⟩, prog_5_method_5_code, none, 98, false),
  (⟨"MurmurHall$Life", "speak", "(LMurmurHall$Hall;III)V"⟩, prog_5_method_6_code, none, 98, false),
  (⟨"MurmurHall$Life", "speakByDraws", "(LMurmurHall$Hall;)V"⟩, prog_5_method_7_code, none, 98, false),
  (⟨"MurmurHall$Life", "draw", "(I)I"⟩, prog_5_method_12_code, some .int, 0, false),
  (⟨"MurmurHall$Life", "strikeLast", "(LMurmurHall$Hall;)V"⟩, prog_5_method_8_code, none, 98, false),
  (⟨"MurmurHall$Life", "go", "(LMurmurHall$Hall;II)V"⟩, prog_5_method_9_code, none, 98, false),
  (⟨"MurmurHall", "lived", "(I)I"⟩, prog_1_method_54_code, some .int, 0, false),
  (⟨"MurmurHall", "mean", "(II)Z"⟩, prog_1_method_55_code, some .boolean, 0, false),
  (⟨"MurmurHall", "mark", "()I"⟩, prog_1_method_56_code, some .int, 0, false),
  (⟨"MurmurHall", "markAt", "(I)LMurmurHall$Hall;"⟩, prog_1_method_63_code, some (.object "MurmurHall$Hall"), 11, false),
  (⟨"MurmurHall", "undo", "()I"⟩, prog_1_method_57_code, some .int, 0, false),
  (⟨"MurmurHallModel", "plain", "(I)V"⟩, prog_13_method_2_code, none, 98, false),
  (⟨"MurmurHallModel", "status", "()I"⟩, prog_13_method_3_code, some .int, 0, false),
  (⟨"MurmurHallModel", "top", "()J"⟩, prog_13_method_4_code, some .long, 1, false),
  (⟨"MurmurHallModel", "bottom", "()J"⟩, prog_13_method_5_code, some .long, 1, false),
  (⟨"MurmurHallModel", "tray", "(III)Z"⟩, prog_13_method_13_code, some .boolean, 0, false),
  (⟨"MurmurHallModel", "isTray", "(I)Z"⟩, prog_13_method_11_code, some .boolean, 0, true),
  (⟨"MurmurHallModel", "is", "(I)Z"⟩, prog_13_method_6_code, some .boolean, 0, false),
  (⟨"MurmurHallModel", "write", "(IIJ)Z"⟩, prog_13_method_15_code, some .boolean, 0, false),
  (⟨"MurmurHallModel", "wrongPlace", "(II)I"⟩, prog_13_method_14_code, some .int, 0, false),
  (⟨"MurmurHallModel", "cut", "(JI)J"⟩, prog_13_method_12_code, some .long, 1, true),
  (⟨"MurmurHallModel", "read", "(II)J"⟩, prog_13_method_16_code, some .long, 1, false),
  (⟨"MurmurHallModel", "pour", "(IIIII)Z"⟩, prog_13_method_17_code, some .boolean, 0, false),
  (⟨"MurmurHallModel", "feed", "(IIIII)I"⟩, prog_13_method_19_code, some .int, 0, false),
  (⟨"MurmurHallModel", "four", "(I)V"⟩, prog_13_method_20_code, none, 98, false),
  (⟨"MurmurHallModel", "fault", "(I)I"⟩, prog_13_method_35_code, some .int, 0, false),
  (⟨"MurmurHallModel", "hall", "(I)I"⟩, prog_13_method_54_code, some .int, 0, false),
  (⟨"MurmurHallModel", "begins", "(II)Z"⟩, prog_13_method_28_code, some .boolean, 0, false),
  (⟨"MurmurHallModel", "ahead", "()V"⟩, prog_13_method_24_code, none, 98, false),
  (⟨"MurmurHallModel", "byteAt", "(I)I"⟩, prog_13_method_21_code, some .int, 0, false),
  (⟨"MurmurHallModel", "isSmall", "(I)Z"⟩, prog_13_method_22_code, some .boolean, 0, true),
  (⟨"MurmurHallModel", "isDigit", "(I)Z"⟩, prog_13_method_23_code, some .boolean, 0, true),
  (⟨"MurmurHallModel", "refuse", "(I)I"⟩, prog_13_method_7_code, some .int, 0, false),
  (⟨"MurmurHallModel", "hallPart", "()Z"⟩, prog_13_method_53_code, some .boolean, 0, false),
  (⟨"MurmurHallModel", "inWords", "(Ljava/lang/String;)I"⟩, prog_13_method_26_code, some .int, 0, false),
  (⟨"MurmurHallModel", "fails", "(I)Z"⟩, prog_13_method_27_code, some .boolean, 0, false),
  (⟨"MurmurHallModel", "number", "(III)Z"⟩, prog_13_method_31_code, some .boolean, 0, false),
  (⟨"MurmurHallModel", "aPlace", "()Z"⟩, prog_13_method_47_code, some .boolean, 0, false),
  (⟨"MurmurHallModel", "newOne", "(III)Z"⟩, prog_13_method_43_code, some .boolean, 0, false),
  (⟨"MurmurHallModel", "isFull", "(II)Z"⟩, prog_13_method_42_code, some .boolean, 0, false),
  (⟨"MurmurHallModel", "isName", "(Ljava/lang/String;)Z"⟩, prog_13_method_32_code, some .boolean, 0, false),
  (⟨"MurmurHallModel", "isOld", "()Z"⟩, prog_13_method_41_code, some .boolean, 0, false),
  (⟨"MurmurHallModel", "findHere", "(II)I"⟩, prog_13_method_34_code, some .int, 0, false),
  (⟨"MurmurHallModel", "nameHere", "()J"⟩, prog_13_method_33_code, some .long, 1, false),
  (⟨"MurmurHallModel", "aWay", "()Z"⟩, prog_13_method_48_code, some .boolean, 0, false),
  (⟨"MurmurHallModel", "wayRow", "(I)I"⟩, prog_13_method_37_code, some .int, 0, true),
  (⟨"MurmurHallModel", "newPlaceTo", "(I)Z"⟩, prog_13_method_45_code, some .boolean, 0, false),
  (⟨"MurmurHallModel", "oldOne", "(III)Z"⟩, prog_13_method_44_code, some .boolean, 0, false),
  (⟨"MurmurHallModel", "wantWord", "(Ljava/lang/String;I)Z"⟩, prog_13_method_30_code, some .boolean, 0, false),
  (⟨"MurmurHallModel", "isThere", "(I)Z"⟩, prog_13_method_40_code, some .boolean, 0, false),
  (⟨"MurmurHallModel", "aSlate", "()Z"⟩, prog_13_method_49_code, some .boolean, 0, false),
  (⟨"MurmurHallModel", "aCaller", "()Z"⟩, prog_13_method_50_code, some .boolean, 0, false),
  (⟨"MurmurHallModel", "callerRow", "(I)I"⟩, prog_13_method_38_code, some .int, 0, true),
  (⟨"MurmurHallModel", "aCry", "()Z"⟩, prog_13_method_51_code, some .boolean, 0, false),
  (⟨"MurmurHallModel", "newCallerTo", "(I)Z"⟩, prog_13_method_46_code, some .boolean, 0, false),
  (⟨"MurmurHallModel", "aCall", "()Z"⟩, prog_13_method_52_code, some .boolean, 0, false),
  (⟨"MurmurHallModel", "callRow", "(I)I"⟩, prog_13_method_39_code, some .int, 0, true),
  (⟨"MurmurHallModel", "wantSign", "(I)Z"⟩, prog_13_method_29_code, some .boolean, 0, false),
  (⟨"MurmurHallModel", "isSign", "(I)Z"⟩, prog_13_method_25_code, some .boolean, 0, false),
  (⟨"MurmurHallModel", "taken", "(I)I"⟩, prog_13_method_36_code, some .int, 0, false),
  (⟨"MurmurHallModel", "gives", "(I)I"⟩, prog_13_method_8_code, some .int, 0, false),
  (⟨"MurmurHallModel", "mornings", "(I)I"⟩, prog_13_method_60_code, some .int, 0, false),
  (⟨"MurmurHallModel", "morningStep", "()Z"⟩, prog_13_method_59_code, some .boolean, 0, false),
  (⟨"MurmurHallModel", "morningOrder", "(II)Z"⟩, prog_13_method_58_code, some .boolean, 0, false),
  (⟨"MurmurHallModel", "callerTo", "(I)Z"⟩, prog_13_method_55_code, some .boolean, 0, false),
  (⟨"MurmurHallModel", "placeTo", "(I)Z"⟩, prog_13_method_56_code, some .boolean, 0, false),
  (⟨"MurmurHallModel", "test", "(I)Z"⟩, prog_13_method_57_code, some .boolean, 0, false),
  (⟨"MurmurHallModel", "told", "(I)I"⟩, prog_13_method_70_code, some .int, 0, false),
  (⟨"MurmurHallModel", "allCries", "()I"⟩, prog_13_method_69_code, some .int, 0, false),
  (⟨"MurmurHallModel", "way", "(II)I"⟩, prog_13_method_71_code, some .int, 0, false),
  (⟨"MurmurHallModel", "slate", "(I)I"⟩, prog_13_method_72_code, some .int, 0, false),
  (⟨"MurmurHallModel", "isSlate", "(I)Z"⟩, prog_13_method_62_code, some .boolean, 0, false),
  (⟨"MurmurHallModel", "caller", "(II)I"⟩, prog_13_method_73_code, some .int, 0, false),
  (⟨"MurmurHallModel", "isCaller", "(I)Z"⟩, prog_13_method_63_code, some .boolean, 0, false),
  (⟨"MurmurHallModel", "cry", "(III)I"⟩, prog_13_method_74_code, some .int, 0, false),
  (⟨"MurmurHallModel", "isCry", "(II)Z"⟩, prog_13_method_64_code, some .boolean, 0, false),
  (⟨"MurmurHallModel", "numberOf", "(III)I"⟩, prog_13_method_67_code, some .int, 0, false),
  (⟨"MurmurHallModel", "call", "(II)I"⟩, prog_13_method_75_code, some .int, 0, false),
  (⟨"MurmurHallModel", "callOf", "(II)I"⟩, prog_13_method_68_code, some .int, 0, false),
  (⟨"MurmurHallModel", "far", "(II)I"⟩, prog_13_method_77_code, some .int, 0, false),
  (⟨"MurmurHallModel", "isPlace", "(I)Z"⟩, prog_13_method_61_code, some .boolean, 0, false),
  (⟨"MurmurHallModel", "laysFar", "()V"⟩, prog_13_method_76_code, none, 98, false),
  (⟨"MurmurHallModel", "lost", "(II)I"⟩, prog_13_method_78_code, some .int, 0, false),
  (⟨"MurmurHallModel", "say", "(III)I"⟩, prog_13_method_90_code, some .int, 0, false),
  (⟨"MurmurHallModel", "isFrom", "(JJJ)Z"⟩, prog_13_method_18_code, some .boolean, 0, true),
  (⟨"MurmurHallModel", "says", "(III)I"⟩, prog_13_method_89_code, some .int, 0, false),
  (⟨"MurmurHallModel", "toldCall", "(III)I"⟩, prog_13_method_88_code, some .int, 0, false),
  (⟨"MurmurHallModel", "hush", "(I)I"⟩, prog_13_method_92_code, some .int, 0, false),
  (⟨"MurmurHallModel", "hushes", "(I)Z"⟩, prog_13_method_91_code, some .boolean, 0, false),
  (⟨"MurmurHallModel", "walk", "(II)I"⟩, prog_13_method_94_code, some .int, 0, false),
  (⟨"MurmurHallModel", "goesTo", "(II)Z"⟩, prog_13_method_93_code, some .boolean, 0, false),
  (⟨"MurmurHallModel", "hang", "(II)I"⟩, prog_13_method_95_code, some .int, 0, false),
  (⟨"MurmurHallModel", "pave", "(III)Z"⟩, prog_13_method_96_code, some .boolean, 0, false),
  (⟨"MurmurHallModel", "teach", "(IIII)I"⟩, prog_13_method_97_code, some .int, 0, false),
  (⟨"MurmurHallModel", "rule", "(I)Z"⟩, prog_13_method_98_code, some .boolean, 0, false),
  (⟨"MurmurHallModel", "record", "()I"⟩, prog_13_method_100_code, some .int, 0, false),
  (⟨"MurmurHallModel", "records", "()I"⟩, prog_13_method_99_code, some .int, 0, false),
  (⟨"MurmurHallModel", "allSums", "()I"⟩, prog_13_method_87_code, some .int, 0, false),
  (⟨"MurmurHallModel", "laysSums", "()V"⟩, prog_13_method_86_code, none, 98, false),
  (⟨"MurmurHallModel", "laysLeft", "(Z)V"⟩, prog_13_method_84_code, none, 98, false),
  (⟨"MurmurHallModel", "putsAll", "(I)V"⟩, prog_13_method_85_code, none, 98, false),
  (⟨"MurmurHallModel", "puts", "(IIII)V"⟩, prog_13_method_82_code, none, 98, false),
  (⟨"MurmurHallModel", "loudAt", "(IIII)I"⟩, prog_13_method_79_code, some .int, 0, false),
  (⟨"MurmurHallModel", "behindAt", "(II)I"⟩, prog_13_method_80_code, some .int, 0, false),
  (⟨"MurmurHallModel", "changes", "(II)V"⟩, prog_13_method_81_code, none, 98, false),
  (⟨"MurmurHallModel", "scrawl", "(III)I"⟩, prog_13_method_102_code, some .int, 0, false),
  (⟨"MurmurHallModel", "isBeat", "(I)Z"⟩, prog_13_method_101_code, some .boolean, 0, true),
  (⟨"MurmurHallModel", "heard", "(II)I"⟩, prog_13_method_103_code, some .int, 0, false),
  (⟨"MurmurHallModel", "from", "(II)I"⟩, prog_13_method_105_code, some .int, 0, false),
  (⟨"MurmurHallModel", "partOf", "(III)I"⟩, prog_13_method_104_code, some .int, 0, false),
  (⟨"MurmurHallModel", "first", "(I)I"⟩, prog_13_method_106_code, some .int, 0, false),
  (⟨"MurmurHallModel", "last", "(I)I"⟩, prog_13_method_107_code, some .int, 0, false),
  (⟨"MurmurHallModel", "loudest", "(I)I"⟩, prog_13_method_108_code, some .int, 0, false),
  (⟨"MurmurHallModel", "orNone", "(I)I"⟩, prog_13_method_9_code, some .int, 0, false),
  (⟨"MurmurHallModel", "all", "(I)I"⟩, prog_13_method_109_code, some .int, 0, false),
  (⟨"MurmurHallModel", "recorded", "(II)I"⟩, prog_13_method_110_code, some .int, 0, false),
  (⟨"MurmurHallModel", "differs", "()I"⟩, prog_13_method_112_code, some .int, 0, false),
  (⟨"MurmurHallModel", "differing", "()I"⟩, prog_13_method_111_code, some .int, 0, false),
  (⟨"MurmurHallModel", "copyHeard", "(IIII)I"⟩, prog_13_method_113_code, some .int, 0, false),
  (⟨"MurmurHallModel", "answers", "(I)I"⟩, prog_13_method_121_code, some .int, 0, false),
  (⟨"MurmurHallModel", "laysAnswers", "(II)V"⟩, prog_13_method_120_code, none, 98, false),
  (⟨"MurmurHallModel", "opensAt", "(II)Z"⟩, prog_13_method_118_code, some .boolean, 0, false),
  (⟨"MurmurHallModel", "finds", "(I)V"⟩, prog_13_method_117_code, none, 98, false),
  (⟨"MurmurHallModel", "putsOf", "(II)V"⟩, prog_13_method_83_code, none, 98, false),
  (⟨"MurmurHallModel", "mayBe", "(II)Z"⟩, prog_13_method_119_code, some .boolean, 0, false),
  (⟨"MurmurHallModel", "isCall", "(I)Z"⟩, prog_13_method_114_code, some .boolean, 0, false),
  (⟨"MurmurHallModel", "inCell", "(II)I"⟩, prog_13_method_115_code, some .int, 0, false),
  (⟨"MurmurHallModel", "answerAt", "(II)I"⟩, prog_13_method_122_code, some .int, 0, false),
  (⟨"MurmurHallModel", "with", "(IIII)I"⟩, prog_13_method_123_code, some .int, 0, false),
  (⟨"MurmurHallModel", "fewest", "()I"⟩, prog_13_method_124_code, some .int, 0, false),
  (⟨"MurmurHallModel", "slips", "(I)I"⟩, prog_13_method_127_code, some .int, 0, false),
  (⟨"MurmurHallModel", "laysSlips", "(I)V"⟩, prog_13_method_126_code, none, 98, false),
  (⟨"MurmurHallModel", "slipsBy", "(III)V"⟩, prog_13_method_125_code, none, 98, false),
  (⟨"MurmurHallModel", "isLoud", "(I)Z"⟩, prog_13_method_116_code, some .boolean, 0, false),
  (⟨"MurmurHallModel", "slipsAt", "(II)I"⟩, prog_13_method_128_code, some .int, 0, false),
  (⟨"MurmurHallModel", "moved", "()I"⟩, prog_13_method_130_code, some .int, 0, false),
  (⟨"MurmurHallModel", "movedOf", "(I)I"⟩, prog_13_method_129_code, some .int, 0, false),
  (⟨"MurmurHallModel", "movedAt", "(II)I"⟩, prog_13_method_131_code, some .int, 0, false),
  (⟨"MurmurHallModel", "alike", "(IIII)I"⟩, prog_13_method_136_code, some .int, 0, false),
  (⟨"MurmurHallModel", "slatePlaces", "()I"⟩, prog_13_method_135_code, some .int, 0, false),
  (⟨"MurmurHallModel", "laterOf", "(III)I"⟩, prog_13_method_134_code, some .int, 0, false),
  (⟨"MurmurHallModel", "areAlikeBy", "(IIII)Z"⟩, prog_13_method_133_code, some .boolean, 0, false),
  (⟨"MurmurHallModel", "isIn", "(II)Z"⟩, prog_13_method_65_code, some .boolean, 0, false),
  (⟨"MurmurHallModel", "inBeat", "(III)I"⟩, prog_13_method_132_code, some .int, 0, false),
  (⟨"MurmurHallModel", "parts", "(I)I"⟩, prog_13_method_139_code, some .int, 0, false),
  (⟨"MurmurHallModel", "doesPart", "(I)Z"⟩, prog_13_method_138_code, some .boolean, 0, false),
  (⟨"MurmurHallModel", "isCryOf", "(I)Z"⟩, prog_13_method_137_code, some .boolean, 0, false),
  (⟨"MurmurHallModel", "hanging", "()I"⟩, prog_13_method_141_code, some .int, 0, false),
  (⟨"MurmurHallModel", "hangingOf", "()I"⟩, prog_13_method_140_code, some .int, 0, false),
  (⟨"MurmurHallModel", "bits", "(I)I"⟩, prog_13_method_66_code, some .int, 0, true),
  (⟨"MurmurHallModel", "hangingSet", "()I"⟩, prog_13_method_142_code, some .int, 0, false),
  (⟨"MurmurHallModel", "chance", "(III)Z"⟩, prog_13_method_143_code, some .boolean, 0, false),
  (⟨"MurmurHallModel", "tellsBy", "(JJ)Z"⟩, prog_13_method_10_code, some .boolean, 0, false),
  (⟨"MurmurHallModel", "quiet", "(I)Z"⟩, prog_13_method_145_code, some .boolean, 0, false),
  (⟨"MurmurHallModel", "isHeardOn", "(II)Z"⟩, prog_13_method_144_code, some .boolean, 0, false),
  (⟨"MurmurHallModel", "live", "(I)I"⟩, prog_13_method_155_code, some .int, 0, false),
  (⟨"MurmurHallModel", "lives", "(I)V"⟩, prog_13_method_154_code, none, 98, false),
  (⟨"MurmurHallModel", "does", "(I)Z"⟩, prog_13_method_150_code, some .boolean, 0, false),
  (⟨"MurmurHallModel", "countsIf", "(IZ)Z"⟩, prog_13_method_147_code, some .boolean, 0, false),
  (⟨"MurmurHallModel", "recordsIt", "()Z"⟩, prog_13_method_149_code, some .boolean, 0, false),
  (⟨"MurmurHallModel", "saysAny", "()Z"⟩, prog_13_method_148_code, some .boolean, 0, false),
  (⟨"MurmurHallModel", "draw", "(I)I"⟩, prog_13_method_146_code, some .int, 0, false),
  (⟨"MurmurHallModel", "holds", "(I)Z"⟩, prog_13_method_152_code, some .boolean, 0, false),
  (⟨"MurmurHallModel", "sumOn", "(II)I"⟩, prog_13_method_151_code, some .int, 0, false),
  (⟨"MurmurHallModel", "behindEnds", "(I)I"⟩, prog_13_method_153_code, some .int, 0, false),
  (⟨"MurmurHallModel", "lived", "(I)I"⟩, prog_13_method_156_code, some .int, 0, false),
  (⟨"MurmurHallModel", "mean", "(II)Z"⟩, prog_13_method_157_code, some .boolean, 0, false),
  (⟨"MurmurHallModel", "mark", "()I"⟩, prog_13_method_159_code, some .int, 0, false),
  (⟨"MurmurHallModel", "copies", "(II)V"⟩, prog_13_method_158_code, none, 98, false),
  (⟨"MurmurHallModel", "undo", "()I"⟩, prog_13_method_160_code, some .int, 0, false)]
/-- where the tables say so -/
def jpos : List (List Nat) := [[679, 160, 677, 678], [683, 160, 681, 682], [687, 160, 685, 686], [691, 160, 689, 690], [695, 161, 693, 694], [699, 160, 698, 0], [703, 161, 701, 702], [707, 160, 706, 1], [711, 160, 709, 710], [715, 161, 713, 714], [720, 161, 718, 719], [724, 161, 722, 723], [727, 161, 726], [731, 160, 729, 730], [735, 160, 734, 2], [739, 160, 737, 738], [744, 161, 742, 743], [748, 161, 746, 747], [755, 160, 753, 754], [759, 162, 757, 758], [763, 160, 761, 762], [767, 162, 765, 766], [771, 163, 769, 770], [775, 169, 773, 774], [779, 170, 777, 778], [783, 162, 781, 782], [786, 162, 785], [790, 162, 789, 3], [794, 162, 793, 4], [800, 162, 799, 5], [804, 169, 802, 803], [808, 173, 807], [811, 169, 810], [815, 169, 814, 6], [819, 163, 818, 7], [823, 162, 821, 822], [827, 163, 826, 8], [831, 162, 829, 830], [835, 162, 833, 834], [840, 162, 838, 839], [845, 162, 843, 844], [849, 162, 847, 848], [853, 163, 852, 9], [857, 163, 856, 10], [861, 162, 859, 860], [865, 169, 863, 864], [869, 169, 867, 868], [873, 169, 872, 11], [877, 169, 875, 876], [881, 169, 879, 880], [885, 169, 883, 884], [889, 163, 888, 12], [893, 163, 892, 13], [898, 162, 896, 897], [903, 169, 901, 902], [908, 163, 907, 14], [912, 169, 910, 911], [916, 163, 915, 15], [920, 169, 918, 919], [924, 163, 923, 16], [928, 163, 927, 17], [933, 163, 932, 18], [938, 169, 936, 937], [942, 163, 941, 19], [946, 169, 944, 945], [950, 169, 948, 949], [953, 169, 952], [957, 169, 955, 956], [961, 169, 959, 960], [966, 170, 964, 965], [971, 160, 970, 20], [975, 160, 973, 974], [979, 164, 977, 978], [987, 164, 986, 21], [991, 164, 990, 22], [994, 164, 993], [998, 164, 997, 23], [1002, 164, 1001, 24], [1008, 164, 1007, 25], [1013, 164, 1012, 26], [1017, 164, 1016, 27], [1022, 164, 1021, 28], [1026, 164, 1025, 29], [1031, 164, 1030, 30], [1035, 162, 1033, 1034], [1041, 160, 1039, 1040], [1045, 160, 1043, 1044], [1049, 169, 1047, 1048], [1053, 160, 1051, 1052], [1057, 169, 1055, 1056], [1061, 160, 1059, 1060], [1065, 169, 1063, 1064], [1069, 160, 1067, 1068], [1073, 169, 1071, 1072], [1077, 160, 1075, 1076], [1082, 169, 1080, 1081], [1086, 160, 1084, 1085], [1090, 169, 1088, 1089], [1094, 169, 1092, 1093], [1098, 169, 1096, 1097], [1103, 169, 1101, 1102], [1107, 160, 1105, 1106], [1112, 160, 1110, 1111], [1116, 169, 1114, 1115], [1120, 160, 1118, 1119], [1124, 169, 1122, 1123], [1128, 160, 1126, 1127], [1132, 160, 1130, 1131], [1137, 160, 1135, 1136], [1140, 160, 1139], [1145, 160, 1143, 1144], [1149, 160, 1147, 1148], [1153, 169, 1151, 1152], [1157, 169, 1155, 1156], [1162, 169, 1160, 1161], [1166, 169, 1164, 1165], [1170, 169, 1169], [1173, 169, 1172], [1176, 169, 1175], [1180, 169, 1178, 1179], [1188, 169, 1186, 1187], [1192, 169, 1190, 1191], [1196, 169, 1195, 31], [1200, 160, 1198, 1199], [1203, 160, 1202], [1208, 160, 1206, 1207], [1215, 160, 1213, 1214], [1220, 160, 1218, 1219], [1224, 169, 1222, 1223], [1228, 169, 1226, 1227], [1232, 160, 1230, 1231], [1237, 160, 1235, 1236], [1242, 160, 1240, 1241], [1246, 160, 1244, 1245], [1250, 160, 1248, 1249], [1255, 160, 1253, 1254], [1259, 160, 1257, 1258], [1263, 160, 1261, 1262], [1267, 160, 1265, 1266], [1271, 160, 1270, 32], [1275, 166, 1273, 1274], [1279, 166, 1278, 33], [1284, 169, 1282, 1283], [1289, 166, 1288, 34], [1298, 166, 1297], [1302, 166, 1301, 35], [1309, 166, 1308, 36], [1313, 166, 1312, 37], [1317, 166, 1316, 38], [1321, 166, 1320, 39], [1325, 166, 1324, 40], [1330, 166, 1329, 41], [1334, 160, 1332, 1333], [1338, 160, 1336, 1337], [1343, 160, 1341, 1342], [1347, 160, 1345, 1346], [1351, 166, 1349, 1350], [1355, 166, 1354, 42], [1359, 166, 1358, 43], [1363, 166, 1362, 44], [1367, 160, 1365, 1366], [1371, 160, 1369, 1370], [1375, 167, 1373, 1374], [1382, 167, 1381, 45], [1388, 167, 1387, 46], [1393, 167, 1392, 47], [1397, 167, 1396, 48], [1407, 167, 1406, 49], [1411, 167, 1410, 50], [1415, 167, 1414, 51], [1419, 160, 1417, 1418], [1423, 160, 1421, 1422], [1427, 168, 1425, 1426], [1433, 168, 1432, 52], [1440, 168, 1439], [1444, 169, 1442, 1443], [1448, 168, 1446, 1447], [1452, 168, 1451, 53], [1458, 168, 1457], [1462, 160, 1460, 1461], [1466, 168, 1464, 1465], [1469, 168, 1468], [1474, 160, 1472, 1473], [1478, 168, 1476, 1477], [1483, 168, 1482, 54], [1486, 179, 1485], [1490, 179, 1489], [1498, 160, 1496, 1497], [1502, 160, 1500, 1501], [1506, 169, 1504, 1505], [1509, 169, 1508], [1513, 160, 1512, 55], [1516, 160, 1515], [1520, 160, 1518, 1519], [1524, 169, 1522, 1523], [1528, 160, 1526, 1527], [1532, 165, 1530, 1531], [1537, 165, 1536, 56], [1541, 165, 1540, 57], [1545, 165, 1544, 58], [1549, 165, 1548], [1553, 165, 1552, 59], [1557, 165, 1556, 60], [1562, 165, 1561, 61], [1566, 165, 1565, 62], [1571, 165, 1570, 63], [1576, 165, 1575, 64], [1581, 160, 1579, 1580], [1585, 160, 1583, 1584], [1589, 160, 1587, 1588], [1593, 160, 1592, 65], [1597, 160, 1595, 1596], [1607, 171, 1606, 66], [1756, 171, 1754, 1755], [1760, 171, 1758, 1759], [1764, 171, 1762, 1763], [1768, 171, 1766, 1767], [1771, 171, 1770], [1775, 171, 1774, 67], [1779, 171, 1777, 1778], [1783, 171, 1782, 68], [1786, 171, 1785], [1790, 171, 1788, 1789], [1795, 171, 1793, 1794], [1799, 171, 1797, 1798], [1803, 171, 1802, 69], [1807, 171, 1805, 1806], [1811, 171, 1809, 1810], [1815, 171, 1814, 70], [1819, 171, 1818, 71], [1823, 171, 1822, 72], [1826, 171, 1825], [1829, 171, 1828], [1835, 171, 1834, 73], [1839, 171, 1838, 74], [1844, 171, 1843, 75], [1896, 171, 1895, 76], [1900, 171, 1899, 77], [1904, 171, 1903, 78], [1908, 171, 1907, 79], [1912, 171, 1911, 80], [1916, 171, 1915, 81], [1920, 171, 1919, 82], [1924, 171, 1923, 83], [1928, 171, 1927, 84], [1932, 171, 1931, 85], [1935, 171, 1934], [1939, 171, 1938, 86], [1943, 171, 1942, 87], [1947, 171, 1946, 88], [1951, 171, 1950, 89], [1955, 171, 1954, 90], [1959, 171, 1958, 91], [1962, 171, 1961], [1966, 171, 1965, 92], [1970, 171, 1969, 93], [1974, 171, 1973, 94], [1977, 171, 1976], [1981, 171, 1980, 95], [1985, 171, 1984, 96], [1989, 171, 1988, 97], [1993, 171, 1992, 98], [1997, 171, 1995, 1996], [2001, 171, 2000, 99], [2005, 171, 2004, 100], [2009, 171, 2008, 101], [2013, 171, 2012, 102], [2017, 171, 2016, 103], [2021, 171, 2019, 2020], [2025, 171, 2024, 104], [2029, 171, 2027, 2028], [2033, 171, 2031, 2032], [2037, 171, 2036, 105], [2041, 171, 2039, 2040], [2045, 171, 2044, 106], [2049, 171, 2047, 2048], [2053, 171, 2052, 107], [2057, 171, 2056, 108], [2061, 171, 2059, 2060], [2065, 171, 2064, 109], [2069, 171, 2067, 2068], [2073, 171, 2072, 110], [2077, 171, 2076, 111], [2082, 171, 2080, 2081], [2086, 171, 2084, 2085], [2090, 171, 2089], [2094, 171, 2093, 112], [2098, 171, 2097, 113], [2102, 171, 2100, 2101], [2106, 171, 2105, 114], [2110, 171, 2108, 2109], [2114, 171, 2113, 115], [2118, 171, 2116, 2117], [2122, 171, 2120, 2121], [2127, 171, 2125, 2126], [2132, 171, 2130, 2131], [2137, 171, 2135, 2136], [2141, 171, 2140, 116], [2145, 171, 2144, 117], [2149, 171, 2148, 118], [2153, 171, 2152, 119], [2157, 171, 2156, 120], [2161, 171, 2160, 121], [2165, 171, 2164, 122], [2170, 171, 2169, 123], [2174, 171, 2173, 124], [2178, 171, 2176, 2177], [2181, 171, 2180], [2187, 171, 2185, 2186], [2191, 171, 2189, 2190], [2195, 171, 2194, 125], [2199, 171, 2197, 2198], [2203, 171, 2201, 2202], [2207, 171, 2205, 2206], [2211, 171, 2210, 126], [2215, 171, 2213, 2214], [2219, 171, 2217, 2218], [2223, 171, 2221, 2222], [2227, 171, 2226, 127], [2231, 171, 2229, 2230], [2236, 171, 2234, 2235], [2241, 171, 2240, 128], [2245, 171, 2244, 129], [2249, 171, 2248, 130], [2253, 171, 2252, 131], [2257, 171, 2256, 132], [2261, 171, 2260, 133], [2265, 171, 2264, 134], [2269, 171, 2267, 2268], [2273, 171, 2271, 2272], [2277, 171, 2275, 2276], [2281, 171, 2279, 2280], [2286, 171, 2285, 135], [2290, 171, 2289, 136], [2294, 171, 2293, 137], [2298, 171, 2296, 2297], [2302, 171, 2300, 2301], [2306, 171, 2305, 138], [2310, 171, 2308, 2309], [2314, 171, 2312, 2313], [2318, 171, 2317, 139], [2322, 171, 2321, 140], [2326, 171, 2325, 141], [2330, 171, 2329, 142], [2334, 171, 2333, 143], [2338, 171, 2336, 2337], [2342, 171, 2341, 144], [2346, 171, 2345, 145], [2350, 171, 2348, 2349], [2354, 171, 2353, 146], [2357, 171, 2356], [2361, 171, 2359, 2360], [2365, 171, 2363, 2364], [2369, 171, 2368, 147], [2373, 171, 2371, 2372], [2377, 171, 2376, 148], [2381, 171, 2379, 2380], [2386, 171, 2385, 149], [2390, 171, 2389, 150], [2394, 171, 2393, 151], [2398, 171, 2397, 152], [2402, 171, 2401, 153], [2406, 171, 2405, 154], [2411, 171, 2410, 155], [2415, 171, 2414, 156], [2419, 171, 2418, 157], [2423, 171, 2421, 2422], [2427, 171, 2425, 2426], [2431, 171, 2429, 2430], [2435, 171, 2434, 158], [2439, 171, 2437, 2438]]
def jm (mi : Nat) : MethodName × ByteArray × Option FieldType × Nat × Bool := jtab.getD mi (⟨"", "", ""⟩, ⟨#[]⟩, none, 98, true)
abbrev jY (mi : Nat) : MethodName := (jm mi).1
abbrev jB (mi : Nat) : ByteArray := (jm mi).2.1
abbrev jR (mi : Nat) : Option FieldType := (jm mi).2.2.1
abbrev jP (mi : Nat) : Nat := (jm mi).2.2.2.1
abbrev jS (mi : Nat) : Bool := (jm mi).2.2.2.2
def mt (mi : Nat) : Ops × List Nat × Nat := mtab.getD mi ([], [], 0)
abbrev jN (mi : Nat) : Nat := (mt mi).2.2
def jT (mi : Nat) : List Nat := (mt mi).2.1.filter (fun t => t != 99)
def inG (i : Nat) (w : Cond) : Bool := decide (lw_tbl[i]? = some w) && goodWord w
theorem inG_mem {i : Nat} {w : Cond} (h : inG i w = true) : w ∈ lw_g := by
  unfold inG at h
  rw [Bool.and_eq_true, decide_eq_true_eq] at h
  exact List.mem_filter.mpr ⟨List.mem_of_getElem? h.1, h.2⟩
def rmd (d : Nat) : Room := { frames := d + 8, cells := 0, slots := 0, locals := 300 + 60 * d }
/-- what the tables say of a method, and what its calls need -/
def mck (mi : Nat) : Bool := let p := jpos.getD mi []; let y := jY mi
  inG (p.getD 0 0) (.code y (jB mi) (jN mi) (jR mi)) && inG (p.getD 1 0) (.initialized y.cls) && decide (jN mi ≤ 30) && (jT mi).all (fun t => t != 7) && (jP mi != 7) && plainName y.cls && decide (y.cls ≠ "java/lang/invoke/MethodHandle" ∧ y.cls ≠ "java/lang/invoke/VarHandle") &&
  (if jS mi then inG (p.getD 2 0) (.static y) && decide ((parseMethodDescriptor y.desc).map (fun d => d.parameters.length) = some (jT mi).length)
   else inG (p.getD 2 0) (.instanceMethod y) && inG (p.getD 3 0) (.selects y.cls y y) && decide ((parseMethodDescriptor y.desc).map (fun d => d.parameters.length) = some ((jT mi).length - 1)) && decide (10 ≤ (jT mi).headD 0) && decide ((jT mi).headD 0 < 22) && (clN ((jT mi).headD 0 - 10) == y.cls))
def Pm (G : WG) (A : Nat → Prop) (ts : List Nat) (as : List Int) (s : Mem) : Array Value → State → Prop := va_Pc (stkB G ts as) (fun U => Wf G A U U.heap ∧ va_P (gD G) classes (wld G s) U.heap ∧ va_D A (wld G s))
def Qm (G : WG) (A : Nat → Prop) (ρ : Nat) (r : Int) (t : Mem) : Array Value → State → Outcome → State → Prop := fun _ st oc t' => oc = .returned (if ρ = 98 then none else some (cv G ρ r)) ∧ va_P (gD G) classes (wld G t) t'.heap ∧ okm t ∧ (ρ ≠ 98 → okv False ρ r) ∧ va_F A st t'
/-- the contract of method mi at depth d -/
def Kt (l : Launch) (A : Nat → Prop) (G : WG) (d mi : Nat) : Prop := ∀ (as : List Int) (s : Mem) (r : Int) (t : Mem), sem d mi as s = some (r, t) → okl False (jT mi) as → okm s → Met l (jY mi) (.code (jY mi) (jB mi) (jN mi) (jR mi) :: lw_g) (rmd d) (Pm G A (jT mi) as s) (Qm G A (jP mi) r t) 0 0 A
theorem Wf.same {G : WG} {A : Nat → Prop} {u U : State} {H : Heap} (hv : U.vm = u.vm) (h : Wf G A u H) : Wf G A U H := by
  have ha : u.vm.Alike U.vm := by rw [hv]; exact Vm.Alike.refl _
  exact ⟨va_K.moved ha h.1, va_Z.moved ha h.2.1, va_T.moved ha h.2.2.1, vk_R.same hv h.2.2.2.1, vk_S.moved ha h.2.2.2.2.1, va_Nw.same rfl hv.symm h.2.2.2.2.2.1, va_Z.moved ha h.2.2.2.2.2.2.1, Zq.moved ha h.2.2.2.2.2.2.2⟩
theorem Pm_blind {G : WG} {A : Nat → Prop} {ts : List Nat} {as : List Int} {s : Mem} : FrameBlind (Pm G A ts as s) := by
  intro a U g mk h
  obtain ⟨h1, h2, h3, h4⟩ := h
  exact ⟨h1, Wf.same (u := U) (U := U.calling g mk a) rfl h2, h3, h4⟩
section Sim
variable {p : Program} {l : Launch} {e : Env} {R : Room} {s0 : State} {m : MethodId} {args : Array Value} {below : List Frame} {meth : Method} {c : Code} {Q : State → Prop} {cc : ByteArray} {own : String} {nL : Nat} {A : Nat → Prop} {G : WG} {sc : Prop} {xs : Int → Int} {L : Int} {kc ks : Nat}
theorem o_copy2 (C : Cx p R s0 m args c cc own nL A G sc xs L kc ks) {pc : Nat} {τs τl : List Nat} {st ls : List Int} {s : Mem} {a x d y n : Int} {idx : Nat} (hd : decode cc pc = .ok (.invokestatic idx, 3)) (hc : cats τs ≤ 100) (h1 : Cond.methodLink own idx arraycopyName ∈ lw_g) (hx : 0 ≤ x ∧ 0 ≤ y ∧ 0 ≤ n ∧ x + n ≤ alen a ∧ y + n ≤ alen d) (k : Wd p l e R s0 m args below meth c Q A G nL sc kc ks (pc + 3) τs τl st ls (mcopy s a x d y n)) : Wd p l e R s0 m args below meth c Q A G nL sc kc ks pc (0 :: 0 :: 2 :: 0 :: 2 :: τs) τl (n :: y :: d :: x :: a :: st) ls s := by
  intro hs hl hm H locs lsC hP hD hS hv
  have hr : (2 : Nat) = 2 ∨ (2 : Nat) = 3 ∨ (2 : Nat) = 4 ∨ (10 ≤ (2 : Nat) ∧ (2 : Nat) < 99) := by omega
  obtain ⟨hn, hy, hdd, hxx, haa, hst⟩ := hs
  obtain ⟨a0, a1, a2⟩ := (okvr hr).mp haa
  obtain ⟨d0, d1, d2⟩ := (okvr hr).mp hdd
  obtain ⟨u, rfl⟩ : ∃ u : Nat, a = u := ⟨a.toNat, by omega⟩
  obtain ⟨v, rfl⟩ : ∃ v : Nat, d = v := ⟨d.toNat, by omega⟩
  rw [Int.toNat_natCast] at a2 d2
  have hu : u < 155 := by omega
  have hvv : v < 155 := by omega
  have he := wld_get (G := G) (s := s) hu
  have hf := wld_get (G := G) (s := s) hvv
  rw [ce_2 a2] at he
  rw [ce_2 d2] at hf
  obtain ⟨x1, x2, x3, x4, x5⟩ := hx
  have al1 : alen (u : Int) = lget layLen u := by unfold alen; rw [Int.toNat_natCast]
  have al2 : alen (v : Int) = lget layLen v := by unfold alen; rw [Int.toNat_natCast]
  rw [al1] at x4
  rw [al2] at x5
  have hcr := cats_rest (G := G) hst hc
  have hlo := C.2.2.2.2.1
  have hnf := nfw
  unfold stkB stkB stkB stkB stkB
  rw [cv0, cv0, cvr hr, cv0, cvr hr, Int.toNat_natCast, Int.toNat_natCast]
  have ng : ∀ z : Int, 0 ≤ z → in32 z → ¬ Int32.ofInt z < 0 := fun z h1 h2 => by
    rw [show (0 : Int32) = Int32.ofInt 0 from rfl, i32_lt h2 in32_0]; omega
  refine va_copyi C.1.1 C.1.2.1 (C.1.2.2.1.trans hv.1.symm) C.1.2.2.2.1 (C.1.2.2.2.2 _ h1) (C.1.2.2.2.2 _ copy_nat.1) (C.1.2.2.2.2 _ copy_nat.2.1) (C.1.2.2.2.2 _ copy_nat.2.2) C.2.1.1 hP hD hS u v 0 0 he hf rfl rfl rfl (ng x x1 hxx) (ng y x2 hy) (ng n x3 hn) (by rw [i32_nat x1 hxx, i32_nat x3 hn]; unfold cle; omega) (by rw [i32_nat x2 hy, i32_nat x3 hn]; unfold cle; omega) (fun _ _ => rfl) C.2.2.2.1 (by omega) hd (fun H1 locs1 hP1 hD1 hS1 => ?_)
  rw [i32_nat x1 hxx, i32_nat x2 hy, i32_nat x3 hn] at hP1 hD1
  have e1 : ce G (mcopy s u x v y n) v = (ga G v, .inl (gIn G, cle v, .inl (va_cpy (fun j => Int32.ofInt (s u j)) (fun j => Int32.ofInt (s v j)) x.toNat y.toNat n.toNat))) := by
    rw [ce_2 d2]
    have : (fun j : Nat => Int32.ofInt (mcopy s u x v y n v j)) = va_cpy (fun j => Int32.ofInt (s u j)) (fun j => Int32.ofInt (s v j)) x.toNat y.toNat n.toNat := by
      funext j
      unfold mcopy va_cpy
      rw [if_pos rfl]
      by_cases h : y.toNat ≤ j ∧ j < y.toNat + n.toNat
      · rw [if_pos h, if_pos (by omega)]
        congr 2; omega
      · rw [if_neg h, if_neg (by omega)]
    rw [this]
  rw [← e1, wld_set hvv mcopy_nat] at hP1 hD1
  exact k hst hl (okm_copy hm (fun j i z hz => (okc_2 d2).mpr ((okc_2 a2).mp hz))) H1 locs1 lsC hP1 hD1 hS1 hv
theorem o_copy3 (C : Cx p R s0 m args c cc own nL A G sc xs L kc ks) {pc : Nat} {τs τl : List Nat} {st ls : List Int} {s : Mem} {a x d y n : Int} {idx : Nat} (hd : decode cc pc = .ok (.invokestatic idx, 3)) (hc : cats τs ≤ 100) (h1 : Cond.methodLink own idx arraycopyName ∈ lw_g) (hx : 0 ≤ x ∧ 0 ≤ y ∧ 0 ≤ n ∧ x + n ≤ alen a ∧ y + n ≤ alen d) (k : Wd p l e R s0 m args below meth c Q A G nL sc kc ks (pc + 3) τs τl st ls (mcopy s a x d y n)) : Wd p l e R s0 m args below meth c Q A G nL sc kc ks pc (0 :: 0 :: 3 :: 0 :: 3 :: τs) τl (n :: y :: d :: x :: a :: st) ls s := by
  intro hs hl hm H locs lsC hP hD hS hv
  have hr : (3 : Nat) = 2 ∨ (3 : Nat) = 3 ∨ (3 : Nat) = 4 ∨ (10 ≤ (3 : Nat) ∧ (3 : Nat) < 99) := by omega
  obtain ⟨hn, hy, hdd, hxx, haa, hst⟩ := hs
  obtain ⟨a0, a1, a2⟩ := (okvr hr).mp haa
  obtain ⟨d0, d1, d2⟩ := (okvr hr).mp hdd
  obtain ⟨u, rfl⟩ : ∃ u : Nat, a = u := ⟨a.toNat, by omega⟩
  obtain ⟨v, rfl⟩ : ∃ v : Nat, d = v := ⟨d.toNat, by omega⟩
  rw [Int.toNat_natCast] at a2 d2
  have hu : u < 155 := by omega
  have hvv : v < 155 := by omega
  have he := wld_get (G := G) (s := s) hu
  have hf := wld_get (G := G) (s := s) hvv
  rw [ce_3 a2] at he
  rw [ce_3 d2] at hf
  obtain ⟨x1, x2, x3, x4, x5⟩ := hx
  have al1 : alen (u : Int) = lget layLen u := by unfold alen; rw [Int.toNat_natCast]
  have al2 : alen (v : Int) = lget layLen v := by unfold alen; rw [Int.toNat_natCast]
  rw [al1] at x4
  rw [al2] at x5
  have hcr := cats_rest (G := G) hst hc
  have hlo := C.2.2.2.2.1
  have hnf := nfw
  unfold stkB stkB stkB stkB stkB
  rw [cv0, cv0, cvr hr, cv0, cvr hr, Int.toNat_natCast, Int.toNat_natCast]
  have ng : ∀ z : Int, 0 ≤ z → in32 z → ¬ Int32.ofInt z < 0 := fun z h1 h2 => by
    rw [show (0 : Int32) = Int32.ofInt 0 from rfl, i32_lt h2 in32_0]; omega
  refine va_copyl C.1.1 C.1.2.1 (C.1.2.2.1.trans hv.1.symm) C.1.2.2.2.1 (C.1.2.2.2.2 _ h1) (C.1.2.2.2.2 _ copy_nat.1) (C.1.2.2.2.2 _ copy_nat.2.1) (C.1.2.2.2.2 _ copy_nat.2.2) C.2.1.1 hP hD hS u v 1 1 he hf rfl rfl rfl (ng x x1 hxx) (ng y x2 hy) (ng n x3 hn) (by rw [i32_nat x1 hxx, i32_nat x3 hn]; unfold cle; omega) (by rw [i32_nat x2 hy, i32_nat x3 hn]; unfold cle; omega) (fun _ _ => rfl) C.2.2.2.1 (by omega) hd (fun H1 locs1 hP1 hD1 hS1 => ?_)
  rw [i32_nat x1 hxx, i32_nat x2 hy, i32_nat x3 hn] at hP1 hD1
  have e1 : ce G (mcopy s u x v y n) v = (ga G v, .inl (gJ G, cle v, .inr (.inl (va_cpy (fun j => Int64.ofInt (s u j)) (fun j => Int64.ofInt (s v j)) x.toNat y.toNat n.toNat)))) := by
    rw [ce_3 d2]
    have : (fun j : Nat => Int64.ofInt (mcopy s u x v y n v j)) = va_cpy (fun j => Int64.ofInt (s u j)) (fun j => Int64.ofInt (s v j)) x.toNat y.toNat n.toNat := by
      funext j
      unfold mcopy va_cpy
      rw [if_pos rfl]
      by_cases h : y.toNat ≤ j ∧ j < y.toNat + n.toNat
      · rw [if_pos h, if_pos (by omega)]
        congr 2; omega
      · rw [if_neg h, if_neg (by omega)]
    rw [this]
  rw [← e1, wld_set hvv mcopy_nat] at hP1 hD1
  exact k hst hl (okm_copy hm (fun j i z hz => (okc_3 d2).mpr ((okc_3 a2).mp hz))) H1 locs1 lsC hP1 hD1 hS1 hv
theorem o_tsw (C : Cx p R s0 m args c cc own nL A G sc xs L kc ks) {pc : Nat} {τs τl : List Nat} {st ls : List Int} {s : Mem} {x df lo hi : Int} {of : Array Int} {len tg : Nat} (hd : decode cc pc = .ok (.tableswitch df lo hi of, len)) (hh : hi + 1 = lo + of.toList.length) (ht : swv (tmk pc lo of.toList) ((pc : Int) + df) x = (tg : Int)) (k : Wd p l e R s0 m args below meth c Q A G nL sc kc ks tg τs τl st ls s) : Wd p l e R s0 m args below meth c Q A G nL sc kc ks pc (0 :: τs) τl (x :: st) ls s := by
  intro hs hl hm H locs lsC hP hD hS hv
  have h := k hs.2 hl hm H locs lsC hP hD hS hv
  have hx := i32_to hs.1
  by_cases ho : x < lo ∨ hi < x
  · rw [tmk_out _ _ (by omega)] at ht
    exact lv_tableOut C.1.1 C.1.2.1 (x := Int32.ofInt x) hd (by rw [hx]; exact ho) ht h
  · have hlt : (x - lo).toNat < of.toList.length := by omega
    have hg : of.toList[(x - lo).toNat]? = some (of.toList[(x - lo).toNat]) := List.getElem?_eq_getElem hlt
    rw [tmk_in _ _ _ (by omega) hg] at ht
    exact lv_tableIn C.1.1 C.1.2.1 (x := Int32.ofInt x) hd (by rw [hx]; omega) (by rw [hx]; omega) (by rw [hx, ← Array.getElem?_toList]; exact hg) ht h
theorem o_lsw (C : Cx p R s0 m args c cc own nL A G sc xs L kc ks) {pc : Nat} {τs τl : List Nat} {st ls : List Int} {s : Mem} {x df : Int} {ps : Array (Int × Int)} {len tg : Nat} (hd : decode cc pc = .ok (.lookupswitch df ps, len)) (hp : (ps.toList.zip (ps.toList.drop 1)).all (fun (a, next) => a.1 < next.1) = true) (ht : swv (lmk pc ps.toList) ((pc : Int) + df) x = (tg : Int)) (k : Wd p l e R s0 m args below meth c Q A G nL sc kc ks tg τs τl st ls s) : Wd p l e R s0 m args below meth c Q A G nL sc kc ks pc (0 :: τs) τl (x :: st) ls s := by
  intro hs hl hm H locs lsC hP hD hS hv
  have h := k hs.2 hl hm H locs lsC hP hD hS hv
  rw [lmk_off] at ht
  exact lv_lookup C.1.1 C.1.2.1 (x := Int32.ofInt x) hd hp rfl (by rw [i32_to hs.1]; exact ht) h
theorem call_go {ρ : Nat} {r : Int} {t : Mem} {a : Array Value} {H : Heap} {locs : List Loc} {lsC : Array Slot} {pc : Nat} {st0 rest : List Value} (hr : va_Run p l e R s0 m args below meth c H locs kc ks 0 0 (F0 m pc lsC st0) rest (Qm G A ρ r t a) A) (hS : va_S A s0.heap H locs)
    (kk : ∀ (H1 : Heap) (locs1 : List Loc), va_P (gD G) classes (wld G t) H1 → okm t → (ρ ≠ 98 → okv False ρ r) → va_S A s0.heap H1 locs1 → W p l e R s0 m args below meth c H1 locs1 kc ks Q (F0 m (pc + 3) lsC ((if ρ = 98 then [] else [cv G ρ r]) ++ rest))) : W p l e R s0 m args below meth c H locs kc ks Q (F0 m pc lsC st0) := by
  intro T hT X
  obtain ⟨v, st₀, t', T', L', h0, X', hL, e1, e2, ⟨hv, hp, hm, hb, hz, hk⟩, st⟩ := hr T hT X
  rw [h0] at hz hk
  have hv : v = (if ρ = 98 then none else some (cv G ρ r)) := by injection hv
  obtain ⟨t2, a1, b1⟩ := kk T'.heap (locs ++ L') (by rw [e1]; exact hp) hm hb
    ⟨Nat.le_trans hS.1 (by rw [e1]; exact hz), fun q h1 h2 => by rw [e1, hk q (Nat.lt_of_lt_of_le h1 hS.1) h2]; exact hS.2.1 q h1 h2, fun q hq => by
      rcases List.mem_append.mp hq with h | h
      · exact hS.2.2 q h
      · exact hL q h⟩ T' rfl X'
  refine ⟨t2, st t2 ?_, b1⟩
  rw [hv]
  by_cases h98 : ρ = 98
  · rw [if_pos h98] at a1 ⊢; exact a1
  · rw [if_neg h98] at a1 ⊢; exact a1
theorem call_back {ρ : Nat} {r : Int} {t s : Mem} {τs τl : List Nat} {st ls : List Int} {pc : Nat} {H : Heap} {locs : List Loc} {lsC : Array Slot} {st0 : List Value} {a : Array Value} (h7 : ρ ≠ 7) (hs : okl sc τs st) (hl : okl sc τl ls) (hD : va_D A (wld G s)) (hS : va_S A s0.heap H locs) (hv : lv_has lsC nL (lvL G 0 τl ls)) (k : Wd p l e R s0 m args below meth c Q A G nL sc kc ks (pc + 3) ((if ρ = 98 then [] else [ρ]) ++ τs) τl ((if ρ = 98 then [] else [r]) ++ st) ls t)
    (hr : va_Run p l e R s0 m args below meth c H locs kc ks 0 0 (F0 m pc lsC st0) (stkB G τs st) (Qm G A ρ r t a) A) : W p l e R s0 m args below meth c H locs kc ks Q (F0 m pc lsC st0) := by
  refine call_go hr hS (fun H1 locs1 hP1 hm1 hb1 hS1 => ?_)
  by_cases h98 : ρ = 98
  · rw [if_pos h98, if_pos h98] at k
    rw [if_pos h98]
    exact k hs hl hm1 H1 locs1 lsC hP1 (va_D_wld hD) hS1 hv
  · rw [if_neg h98, if_neg h98] at k
    rw [if_neg h98]
    exact k ⟨okv_sc h7 (hb1 h98), hs⟩ hl hm1 H1 locs1 lsC hP1 (va_D_wld hD) hS1 hv
theorem o_callS (C : Cx p R s0 m args c cc own nL A G sc xs L kc ks) {pc : Nat} {τs τl : List Nat} {st ls : List Int} {s : Mem} {d mi idx : Nat} {as : List Int} {r : Int} {t : Mem} (hK : Kt l A G d mi) (hR : d + 9 ≤ R.frames ∧ 360 + 60 * d ≤ R.locals) (hM : mck mi = true) (hcs : sem d mi as s = some (r, t)) (hT : okl sc (jT mi) as) (hc : cats τs ≤ 8) (hst : jS mi = true) (hd : decode cc pc = .ok (.invokestatic idx, 3)) (hlink : Cond.methodLink own idx (jY mi) ∈ lw_g) (k : Wd p l e R s0 m args below meth c Q A G nL sc kc ks (pc + 3) ((if jP mi = 98 then [] else [jP mi]) ++ τs) τl ((if jP mi = 98 then [] else [r]) ++ st) ls t) : Wd p l e R s0 m args below meth c Q A G nL sc kc ks pc ((jT mi).reverse ++ τs) τl (as.reverse ++ st) ls s := by
  have hM0 := hM
  unfold mck at hM
  simp only [Bool.and_eq_true, decide_eq_true_eq] at hM
  obtain ⟨⟨⟨⟨⟨⟨⟨m1, m2⟩, m3⟩, m4⟩, m5⟩, m6⟩, m7⟩, m8⟩ := hM
  have hTF : okl False (jT mi) as := okl_sc _ _ m4 hT
  have hMet := hK as s r t hcs hTF
  rw [hst, if_pos rfl, Bool.and_eq_true, decide_eq_true_eq] at m8
  obtain ⟨e1, e2⟩ := stk_rev (G := G) _ _ hT
  intro hs hl hm H locs lsC hP hD hS hv
  obtain ⟨hsa, hsb⟩ := okl_split (jT mi).length _ _ _ (by rw [List.length_reverse]) hs
  have hlen := okl_len _ _ hT
  rw [hlen, List.drop_append_of_le_length (by rw [List.length_reverse]; exact Nat.le_refl _), List.drop_eq_nil_of_le (by rw [List.length_reverse]; exact Nat.le_refl _), List.nil_append] at hsb
  rw [stk_app _ _ e2, e1]
  have hcr : ((stkB G τs st).map fun v => v.category).sum ≤ 8 := by rw [stk_cats _ _ hsb]; exact hc
  refine call_back (by simpa using m5) hsb hl hD hS hv k (va_runS (nL := nL) C.1 (hMet hm) (va_cwS (jT mi).length C.1.2.2.2.2 (goodIn_g ?_) rfl rfl rfl ⟨m7.1, m7.2, m8.2⟩ ⟨by show d + 8 + 1 ≤ _; omega, by show 8 + (jN mi + 11) + (300 + 60 * d) ≤ _; omega⟩) ⟨Pm_blind, fun U hU hW => ⟨rfl, ?_, ?_, hD⟩⟩ rfl (stk_len _ _ hT) hv.1 rfl (by simpa using hcr) hd ⟨C.2.2.2.2.2.1, C.2.2.2.2.2.2⟩)
  · intro w hw
    unfold va_wsS at hw
    simp only [List.cons_append, List.nil_append, List.mem_cons] at hw
    rcases hw with rfl | rfl | rfl | rfl | hw
    · exact hlink
    · exact inG_mem m8.1
    · exact inG_mem m2
    · exact inG_mem m1
    · exact hw
  · rw [hU]; exact (Wf.kept C.2.1 hS.2.1).warm hW
  · rw [hU]; exact hP
theorem o_callV (C : Cx p R s0 m args c cc own nL A G sc xs L kc ks) {pc : Nat} {τs τl : List Nat} {st ls : List Int} {s : Mem} {d mi idx : Nat} {as : List Int} {r : Int} {t : Mem} (hK : Kt l A G d mi) (hR : d + 9 ≤ R.frames ∧ 360 + 60 * d ≤ R.locals) (hM : mck mi = true) (hcs : sem d mi as s = some (r, t)) (hT : okl sc (jT mi) as) (hc : cats τs ≤ 8) (hst : jS mi = false) (hd : decode cc pc = .ok (.invokevirtual idx, 3)) (hlink : Cond.methodLink own idx (jY mi) ∈ lw_g) (k : Wd p l e R s0 m args below meth c Q A G nL sc kc ks (pc + 3) ((if jP mi = 98 then [] else [jP mi]) ++ τs) τl ((if jP mi = 98 then [] else [r]) ++ st) ls t) : Wd p l e R s0 m args below meth c Q A G nL sc kc ks pc ((jT mi).reverse ++ τs) τl (as.reverse ++ st) ls s := by
  have hM0 := hM
  unfold mck at hM
  simp only [Bool.and_eq_true, decide_eq_true_eq] at hM
  obtain ⟨⟨⟨⟨⟨⟨⟨m1, m2⟩, m3⟩, m4⟩, m5⟩, m6⟩, m7⟩, m8⟩ := hM
  have hTF : okl False (jT mi) as := okl_sc _ _ m4 hT
  have hMet := hK as s r t hcs hTF
  rw [hst, if_neg (by decide)] at m8
  simp only [Bool.and_eq_true, decide_eq_true_eq, beq_iff_eq] at m8
  obtain ⟨⟨⟨⟨⟨n1, n2⟩, n3⟩, n4⟩, n5⟩, n6⟩ := m8
  obtain ⟨e1, e2⟩ := stk_rev (G := G) _ _ hT
  intro hs hl hm H locs lsC hP hD hS hv
  obtain ⟨hsa, hsb⟩ := okl_split (jT mi).length _ _ _ (by rw [List.length_reverse]) hs
  have hlen := okl_len _ _ hT
  rw [hlen, List.drop_append_of_le_length (by rw [List.length_reverse]; exact Nat.le_refl _), List.drop_eq_nil_of_le (by rw [List.length_reverse]; exact Nat.le_refl _), List.nil_append] at hsb
  rw [stk_app _ _ e2, e1]
  have hcr : ((stkB G τs st).map fun v => v.category).sum ≤ 8 := by rw [stk_cats _ _ hsb]; exact hc
  have hMe := hMet hm
  cases hjt : jT mi with
  | nil => rw [hjt] at n4; simp at n4
  | cons t0 ts =>
    cases has : as with
    | nil => rw [hjt, has] at hT; exact hT.elim
    | cons a0 as' =>
      rw [hjt] at n3 n4 n5 n6 hMe hT
      rw [has] at hT hMe
      simp only [List.headD_cons] at n4 n5 n6
      have hr : t0 = 2 ∨ t0 = 3 ∨ t0 = 4 ∨ (10 ≤ t0 ∧ t0 < 99) := by omega
      obtain ⟨h0, h1, h2⟩ := (okvr hr).mp hT.1
      obtain ⟨q, rfl⟩ : ∃ q : Nat, a0 = q := ⟨a0.toNat, by omega⟩
      rw [Int.toNat_natCast] at h2
      have hq : q < 155 := by omega
      have he : (wld G s)[q]? = some (ga G q, .inr (t0 - 10, fvl G s q 0 (fkt.getD (t0 - 10) []))) := by rw [wld_get hq, ce_obj (c := t0 - 10) (by omega)]
      have hrec := va_recv C.2.1.1 hP (cls_at (t0 - 10) (by omega)) he
      have hstk : stkB G (t0 :: ts) ((q : Int) :: as') = .ref (ga G q) :: stkB G ts as' := by
        show cv G t0 q :: _ = _
        rw [cvr hr, Int.toNat_natCast]
      refine call_back (by simpa using m5) hsb hl hD hS hv k (va_runV (nL := nL) (bytes := jB mi) (maxL := jN mi) (ret := jR mi)  (b := ga G q) (As := stkB G ts as') (C := clN (t0 - 10)) C.1 hMe ?_ ⟨Pm_blind, hrec, fun U hU hW => ⟨by rw [hstk], ?_, ?_, hD⟩⟩ rfl (stk_len _ _ hT.2) hv.1 ?_ (by simpa using hcr) hd ⟨C.2.2.2.2.2.1, C.2.2.2.2.2.2⟩)
      · refine cwV ts.length C.1.2.2.2.2 (goodIn_g ?_) rfl rfl rfl ⟨n6.symm, m7.1, m7.2, by simpa using n3⟩ ⟨by show d + 8 + 1 ≤ _; omega, by show 8 + (jN mi + 11) + (300 + 60 * d) ≤ _; omega⟩
        intro w hw
        unfold wsV at hw
        simp only [List.cons_append, List.nil_append, List.mem_cons] at hw
        rw [n6] at hw
        rcases hw with rfl | rfl | rfl | rfl | rfl | hw
        · exact hlink
        · exact inG_mem n1
        · exact inG_mem n2
        · exact inG_mem m2
        · exact inG_mem m1
        · exact hw
      · rw [hU]; exact (Wf.kept C.2.1 hS.2.1).warm hW
      · rw [hU]; exact hP
      · show (stkB G (t0 :: ts) ((q : Int) :: as')).reverse ++ _ = _
        rw [hstk, List.reverse_cons, List.append_assoc]; rfl
theorem o_callN (C : Cx p R s0 m args c cc own nL A G sc xs L kc ks) {pc : Nat} {τs τl : List Nat} {st ls : List Int} {s : Mem} {d mi idx : Nat} {as : List Int} {r : Int} {t : Mem} (hK : Kt l A G d mi) (hR : d + 9 ≤ R.frames ∧ 360 + 60 * d ≤ R.locals) (hM : mck mi = true) (hcs : sem d mi as s = some (r, t)) (hT : okl sc (jT mi) as) (hc : cats τs ≤ 8) (hst : jS mi = false) (hd : decode cc pc = .ok (.invokevirtual idx, 3)) (hidx : own = "MurmurHall" ∧ idx = 22) (hy : jY mi = ⟨"MurmurHall$Trays", "<init>", "()V"⟩) (k : Wd p l e R s0 m args below meth c Q A G nL sc kc ks (pc + 3) ((if jP mi = 98 then [] else [jP mi]) ++ τs) τl ((if jP mi = 98 then [] else [r]) ++ st) ls t) : Wd p l e R s0 m args below meth c Q A G nL sc kc ks pc ((jT mi).reverse ++ τs) τl (as.reverse ++ st) ls s := by
  have hM0 := hM
  unfold mck at hM
  simp only [Bool.and_eq_true, decide_eq_true_eq] at hM
  obtain ⟨⟨⟨⟨⟨⟨⟨m1, m2⟩, m3⟩, m4⟩, m5⟩, m6⟩, m7⟩, m8⟩ := hM
  have hTF : okl False (jT mi) as := okl_sc _ _ m4 hT
  have hMet := hK as s r t hcs hTF
  rw [hst, if_neg (by decide)] at m8
  simp only [Bool.and_eq_true, decide_eq_true_eq, beq_iff_eq] at m8
  obtain ⟨⟨⟨⟨⟨n1, n2⟩, n3⟩, n4⟩, n5⟩, n6⟩ := m8
  obtain ⟨e1, e2⟩ := stk_rev (G := G) _ _ hT
  intro hs hl hm H locs lsC hP hD hS hv
  obtain ⟨hsa, hsb⟩ := okl_split (jT mi).length _ _ _ (by rw [List.length_reverse]) hs
  have hlen := okl_len _ _ hT
  rw [hlen, List.drop_append_of_le_length (by rw [List.length_reverse]; exact Nat.le_refl _), List.drop_eq_nil_of_le (by rw [List.length_reverse]; exact Nat.le_refl _), List.nil_append] at hsb
  rw [stk_app _ _ e2, e1]
  have hcr : ((stkB G τs st).map fun v => v.category).sum ≤ 8 := by rw [stk_cats _ _ hsb]; exact hc
  have hMe := hMet hm
  cases hjt : jT mi with
  | nil => rw [hjt] at n4; simp at n4
  | cons t0 ts =>
    cases has : as with
    | nil => rw [hjt, has] at hT; exact hT.elim
    | cons a0 as' =>
      rw [hjt] at n3 n4 n5 n6 hMe hT
      rw [has] at hT hMe
      simp only [List.headD_cons] at n4 n5 n6
      have hr : t0 = 2 ∨ t0 = 3 ∨ t0 = 4 ∨ (10 ≤ t0 ∧ t0 < 99) := by omega
      obtain ⟨h0, h1, h2⟩ := (okvr hr).mp hT.1
      obtain ⟨q, rfl⟩ : ∃ q : Nat, a0 = q := ⟨a0.toNat, by omega⟩
      rw [Int.toNat_natCast] at h2
      have hq : q < 155 := by omega
      have he : (wld G s)[q]? = some (ga G q, .inr (t0 - 10, fvl G s q 0 (fkt.getD (t0 - 10) []))) := by rw [wld_get hq, ce_obj (c := t0 - 10) (by omega)]
      have hrec := va_recv C.2.1.1 hP (cls_at (t0 - 10) (by omega)) he
      have hstk : stkB G (t0 :: ts) ((q : Int) :: as') = .ref (ga G q) :: stkB G ts as' := by
        show cv G t0 q :: _ = _
        rw [cvr hr, Int.toNat_natCast]
      refine call_back (by simpa using m5) hsb hl hD hS hv k (va_runVN (nL := nL) (bytes := jB mi) (maxL := jN mi) (ret := jR mi) (host := "MurmurHall") (b := ga G q) (As := stkB G ts as') (C := clN (t0 - 10)) C.1 hMe ?_ ⟨Pm_blind, hrec, fun U hU hW => ⟨by rw [hstk], ?_, ?_, hD⟩⟩ rfl (stk_len _ _ hT.2) hv.1 ?_ (by simpa using hcr) hd ⟨C.2.2.2.2.2.1, C.2.2.2.2.2.2⟩)
      · refine ⟨va_cnB (host := "MurmurHall") ts.length C.1.2.2.2.2 (goodIn_g ?_) rfl rfl rfl ?_ (C.1.2.2.2.2 _ (inG_mem m2)) ⟨m7.1, m7.2, by simpa using n3⟩ ⟨by show d + 8 + 1 ≤ _; omega, by show 8 + (jN mi + 11) + (300 + 60 * d) ≤ _; omega⟩, C.1.2.2.2.2 _ (inG_mem n1), by rw [n6]; exact C.1.2.2.2.2 _ (inG_mem n2)⟩
        · intro w hw
          rcases List.mem_cons.mp hw with rfl | hw
          · exact inG_mem m1
          · exact hw
        · rw [hidx.1, hidx.2, hy]; exact C.2.1.2.2.2.2.2.1
      · rw [hU]; exact (Wf.kept C.2.1 hS.2.1).warm hW
      · rw [hU]; exact hP
      · show (stkB G (t0 :: ts) ((q : Int) :: as')).reverse ++ _ = _
        rw [hstk, List.reverse_cons, List.append_assoc]; rfl
end Sim
