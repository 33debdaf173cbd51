/-! ===== array copies, switches, returns, calls (wip/gen/mk15.py) ===== -/
theorem copy_nat : Cond.native arraycopyName ∈ lw_g ∧ Cond.static arraycopyName ∈ lw_g ∧ Cond.initialized "java/lang/System" ∈ lw_g := by decide +kernel
theorem nfw : nativeFrameWords "java/lang/System" "arraycopy" 5 + 11 ≤ 100 := by decide
theorem mcopy_nat {s : Mem} {d : Nat} {a p q n : Int} : ∀ b : Nat, b ≠ d → s (b : Int) = mcopy s a p d q n (b : Int) := fun b hb => by unfold mcopy; rw [if_neg (by omega)]
theorem okm_copy {s : Mem} {a d : Nat} {p q n : Int} (h : okm s) (hv : ∀ j i v, okc a i v → okc d j v) : okm (mcopy s a p d q n) := by
  intro b j
  unfold mcopy
  by_cases hb : (b : Int) = d
  · rw [if_pos hb]
    have : b = d := by omega
    subst this
    by_cases hj : q ≤ j ∧ j < q + n
    · rw [if_pos hj]; exact hv _ _ _ (h a _)
    · rw [if_neg hj]; exact h b j
  · rw [if_neg hb]; exact h b j
def swv : List (Int × Int) → Int → Int → Int
  | [], d, _ => d
  | (a, t) :: r, d, x => if x = a then t else swv r d x
theorem swk_swv : ∀ (l : List (Int × Int)) (d x : Int) (k : Int → Rs), swk l d x k = k (swv l d x)
  | [], _, _, _ => rfl
  | (a, t) :: r, d, x, k => by unfold swk swv; split
                               · rfl
                               · exact swk_swv r d x k
def tmk (pc : Int) : Int → List Int → List (Int × Int)
  | _, [] => []
  | lo, o :: r => (lo, pc + o) :: tmk pc (lo + 1) r
theorem tmk_out {pc d x : Int} : ∀ (l : List Int) (lo : Int), (x < lo ∨ lo + l.length ≤ x) → swv (tmk pc lo l) d x = d
  | [], _, _ => rfl
  | o :: r, lo, h => by
    unfold tmk swv
    rw [List.length_cons] at h
    rw [if_neg (by omega)]
    exact tmk_out r (lo + 1) (by omega)
theorem tmk_in {pc d x : Int} : ∀ (l : List Int) (lo o : Int), lo ≤ x → l[(x - lo).toNat]? = some o → swv (tmk pc lo l) d x = pc + o
  | [], _, _, _, h => by simp at h
  | o' :: r, lo, o, h1, h2 => by
    unfold tmk swv
    by_cases hx : x = lo
    · rw [if_pos hx]
      rw [show (x - lo).toNat = 0 by omega] at h2
      cases h2; rfl
    · rw [if_neg hx]
      refine tmk_in r (lo + 1) o (by omega) ?_
      rw [show (x - lo).toNat = (x - (lo + 1)).toNat + 1 by omega] at h2
      simpa using h2
def lmk (pc : Int) (l : List (Int × Int)) : List (Int × Int) := l.map fun q => (q.1, pc + q.2)
theorem lmk_off {pc d x : Int} : ∀ (l : List (Int × Int)), swv (lmk pc l) (pc + d) x = pc + Op.lookupswitch.offset l d x
  | [] => rfl
  | (a, t) :: r => by
    show (if x = a then pc + t else swv (lmk pc r) (pc + d) x) = _
    rw [lmk_off r]
    by_cases h : x = a
    · rw [if_pos h]; subst h; simp [Op.lookupswitch.offset]
    · rw [if_neg h]; simp [Op.lookupswitch.offset, Ne.symm h]
theorem good_mem {w : Cond} (h : w ∈ lw_g) : (w.onTables && w.keeps) = true ∨ ∃ ty, w = .arrayClass ty := good_of_word (List.mem_filter.mp h).2
theorem goodIn_g {ws : List Cond} (h : ∀ w ∈ ws, w ∈ lw_g) : GoodIn lw_g ws := fun w hw => ⟨h w hw, good_mem (h w hw)⟩
theorem stk_len {G : WG} {sc : Prop} : ∀ (ts : List Nat) (as : List Int), okl sc ts as → (stkB G ts as).length = ts.length
  | [], [], _ => rfl
  | _ :: ts, _ :: as, h => by unfold stkB; rw [List.length_cons, List.length_cons, stk_len ts as h.2]
  | [], _ :: _, h => h.elim
  | _ :: _, [], h => h.elim
theorem stk_app {G : WG} {sc : Prop} {τ : List Nat} {v : List Int} : ∀ (ts : List Nat) (as : List Int), okl sc ts as → stkB G (ts ++ τ) (as ++ v) = stkB G ts as ++ stkB G τ v
  | [], [], _ => rfl
  | t :: ts, a :: as, h => by
    show cv G t a :: stkB G (ts ++ τ) (as ++ v) = _
    rw [stk_app ts as h.2]; rfl
  | [], _ :: _, h => h.elim
  | _ :: _, [], h => h.elim
theorem okl_app {sc : Prop} {τ : List Nat} {v : List Int} : ∀ (ts : List Nat) (as : List Int), okl sc ts as → okl sc τ v → okl sc (ts ++ τ) (as ++ v)
  | [], [], _, h => h
  | _ :: ts, _ :: as, h, h2 => ⟨h.1, okl_app ts as h.2 h2⟩
  | [], _ :: _, h, _ => h.elim
  | _ :: _, [], h, _ => h.elim
theorem stk_rev {G : WG} {sc : Prop} : ∀ (ts : List Nat) (as : List Int), okl sc ts as → stkB G ts.reverse as.reverse = (stkB G ts as).reverse ∧ okl sc ts.reverse as.reverse
  | [], [], _ => ⟨rfl, trivial⟩
  | t :: ts, a :: as, h => by
    obtain ⟨h1, h2⟩ := stk_rev (G := G) ts as h.2
    rw [List.reverse_cons, List.reverse_cons]
    refine ⟨?_, okl_app _ _ h2 ⟨h.1, trivial⟩⟩
    rw [stk_app _ _ h2, h1]
    show _ = (cv G t a :: stkB G ts as).reverse
    rw [List.reverse_cons]; rfl
  | [], _ :: _, h => h.elim
  | _ :: _, [], h => h.elim
theorem okl_split {sc : Prop} : ∀ (n : Nat) (a b : List Nat) (st : List Int), a.length = n → okl sc (a ++ b) st → okl sc a (st.take n) ∧ okl sc b (st.drop n)
  | 0, [], b, st, _, h => ⟨trivial, h⟩
  | n + 1, t :: a, b, v :: st, hl, h => by
    obtain ⟨h1, h2⟩ := okl_split n a b st (by simpa using hl) h.2
    exact ⟨⟨h.1, h1⟩, h2⟩
  | n + 1, t :: a, b, [], _, h => h.elim
  | 0, _ :: _, _, _, h, _ => by simp at h
  | _ + 1, [], _, _, h, _ => by simp at h
theorem okv_sc {sc sc' : Prop} {t : Nat} {v : Int} (h7 : t ≠ 7) (h : okv sc t v) : okv sc' t v := by
  unfold okv at *
  by_cases h0 : t = 0
  · rw [if_pos h0] at *; exact h
  · rw [if_neg h0] at *
    by_cases h1 : t = 1
    · rw [if_pos h1] at *; exact h
    · rw [if_neg h1, if_neg h7] at *; exact h
theorem okl_sc {sc sc' : Prop} : ∀ (ts : List Nat) (as : List Int), ts.all (fun t => t != 7) = true → okl sc ts as → okl sc' ts as
  | [], [], _, _ => trivial
  | t :: ts, a :: as, h7, h => by
    rw [List.all_cons, Bool.and_eq_true] at h7
    exact ⟨okv_sc (by simpa using h7.1) h.1, okl_sc ts as h7.2 h.2⟩
  | [], _ :: _, _, h => h.elim
  | _ :: _, [], _, h => h.elim
/-- the methods as the Statement has them: name, bytes, answer, its type, whether static -/
def jtab : List (MethodName × ByteArray × Option FieldType × Nat × Bool) := [(⟨"MurmurHall", "status", "()I"⟩, prog_1_method_2_code, some .int, 0, false),
  (⟨"MurmurHall", "top", "()J"⟩, prog_1_method_3_code, some .long, 1, false),
  (⟨"MurmurHall", "bottom", "()J"⟩, prog_1_method_4_code, some .long, 1, false),
  (⟨"MurmurHall", "tray", "(III)Z"⟩, prog_1_method_5_code, some .boolean, 0, false),
  (⟨"MurmurHall$Trays", "isOne", "(I)Z"⟩, prog_11_method_2_code, some .boolean, 0, false),
  (⟨"MurmurHall", "deny", "(I)Z"⟩, prog_1_method_61_code, some .boolean, 0, false),
  (⟨"MurmurHall$Trays", "lay", "(III)V"⟩, prog_11_method_6_code, none, 98, false),
  (⟨"MurmurHall", "grant", "()Z"⟩, prog_1_method_60_code, some .boolean, 0, false),
  (⟨"MurmurHall", "write", "(IIJ)Z"⟩, prog_1_method_6_code, some .boolean, 0, false),
  (⟨"MurmurHall$Trays", "problemAt", "(II)I"⟩, prog_11_method_4_code, some .int, 0, false),
  (⟨"MurmurHall$Trays", "isMissing", "(I)Z"⟩, prog_11_method_3_code, some .boolean, 0, false),
  (⟨"MurmurHall$Trays", "put", "(IIJ)V"⟩, prog_11_method_7_code, none, 98, false),
  (⟨"MurmurHall$Trays", "cut", "(IJ)J"⟩, prog_11_method_9_code, some .long, 1, true),
  (⟨"MurmurHall", "read", "(II)J"⟩, prog_1_method_7_code, some .long, 1, false),
  (⟨"MurmurHall", "fail", "(I)I"⟩, prog_1_method_59_code, some .int, 0, false),
  (⟨"MurmurHall", "pour", "(IIIII)Z"⟩, prog_1_method_8_code, some .boolean, 0, false),
  (⟨"MurmurHall$Trays", "reaches", "(III)Z"⟩, prog_11_method_5_code, some .boolean, 0, false),
  (⟨"MurmurHall$Trays", "move", "(IIIII)V"⟩, prog_11_method_8_code, none, 98, false),
  (⟨"MurmurHall", "feed", "(IIIII)I"⟩, prog_1_method_9_code, some .int, 0, false),
  (⟨"MurmurHall$Tokens", "append", "(I)V"⟩, prog_10_method_2_code, none, 98, false),
  (⟨"MurmurHall", "hall", "(I)I"⟩, prog_1_method_10_code, some .int, 0, false),
  (⟨"MurmurHall$Tokens", "begin", "(I)V"⟩, prog_10_method_3_code, none, 98, false),
  (⟨"MurmurHall$HallReader", "readInto", "(LMurmurHall$Hall;)Z"⟩, prog_4_method_2_code, some .boolean, 0, false),
  (⟨"MurmurHall$Hall", "clear", "()V"⟩, prog_3_method_2_code, none, 98, false),
  (⟨"MurmurHall$Steps", "clear", "()V"⟩, prog_9_method_2_code, none, 98, false),
  (⟨"MurmurHall$Tokens", "advance", "()V"⟩, prog_10_method_5_code, none, 98, false),
  (⟨"MurmurHall$Tokens", "kindOf", "(I)I"⟩, prog_10_method_6_code, some .int, 0, true),
  (⟨"MurmurHall$Tokens", "readLetters", "()V"⟩, prog_10_method_7_code, none, 98, false),
  (⟨"MurmurHall$Tokens", "wordNumber", "()I"⟩, prog_10_method_8_code, some .int, 0, false),
  (⟨"MurmurHall$Tokens", "readDigits", "()V"⟩, prog_10_method_9_code, none, 98, false),
  (⟨"MurmurHall$Hall", "measure", "(I[I)V"⟩, prog_3_method_32_code, none, 98, false),
  (⟨"java/util/Arrays", "fill", "([II)V"⟩, prog_20_method_103_code, none, 98, true),
  (⟨"MurmurHall$Hall", "shorten", "([IIII)V"⟩, prog_3_method_34_code, none, 98, true),
  (⟨"MurmurHall$Hall", "measureBy", "(I[I)V"⟩, prog_3_method_33_code, none, 98, false),
  (⟨"MurmurHall$HallReader", "readPart", "(LMurmurHall$Hall;)Z"⟩, prog_4_method_3_code, some .boolean, 0, false),
  (⟨"MurmurHall$Tokens", "word", "()I"⟩, prog_10_method_10_code, some .int, 0, false),
  (⟨"MurmurHall$HallReader", "readOdds", "(LMurmurHall$Hall;)Z"⟩, prog_4_method_4_code, some .boolean, 0, false),
  (⟨"MurmurHall$Tokens", "refuse", "(I)Z"⟩, prog_10_method_4_code, some .boolean, 0, false),
  (⟨"MurmurHall$Tokens", "numberNext", "(II)Z"⟩, prog_10_method_13_code, some .boolean, 0, false),
  (⟨"MurmurHall$Tokens", "numberHere", "(II)Z"⟩, prog_10_method_14_code, some .boolean, 0, false),
  (⟨"MurmurHall$Tokens", "closeNext", "()Z"⟩, prog_10_method_15_code, some .boolean, 0, false),
  (⟨"MurmurHall$Tokens", "closeHere", "()Z"⟩, prog_10_method_16_code, some .boolean, 0, false),
  (⟨"MurmurHall$HallReader", "readPlace", "(LMurmurHall$Hall;)Z"⟩, prog_4_method_5_code, some .boolean, 0, false),
  (⟨"MurmurHall$HallReader", "newNameNext", "(LMurmurHall$Hall;)Z"⟩, prog_4_method_12_code, some .boolean, 0, false),
  (⟨"MurmurHall$Tokens", "nameNext", "()Z"⟩, prog_10_method_12_code, some .boolean, 0, false),
  (⟨"MurmurHall$Hall", "isTaken", "(J)Z"⟩, prog_3_method_14_code, some .boolean, 0, false),
  (⟨"MurmurHall$Hall", "placeNamed", "(J)I"⟩, prog_3_method_11_code, some .int, 0, false),
  (⟨"MurmurHall$Hall", "indexOf", "(JII)I"⟩, prog_3_method_15_code, some .int, 0, false),
  (⟨"MurmurHall$Hall", "slateNamed", "(J)I"⟩, prog_3_method_12_code, some .int, 0, false),
  (⟨"MurmurHall$Hall", "callerNamed", "(J)I"⟩, prog_3_method_13_code, some .int, 0, false),
  (⟨"MurmurHall$Hall", "addPlace", "(J)V"⟩, prog_3_method_16_code, none, 98, false),
  (⟨"MurmurHall$HallReader", "readWay", "(LMurmurHall$Hall;)Z"⟩, prog_4_method_6_code, some .boolean, 0, false),
  (⟨"MurmurHall$HallReader", "placeNext", "(LMurmurHall$Hall;)I"⟩, prog_4_method_13_code, some .int, 0, false),
  (⟨"MurmurHall$Tokens", "wordNext", "(I)Z"⟩, prog_10_method_11_code, some .boolean, 0, false),
  (⟨"MurmurHall$Hall", "addWay", "(IIII)V"⟩, prog_3_method_17_code, none, 98, false),
  (⟨"MurmurHall$HallReader", "readSlate", "(LMurmurHall$Hall;)Z"⟩, prog_4_method_7_code, some .boolean, 0, false),
  (⟨"MurmurHall$Hall", "addSlate", "(JI)V"⟩, prog_3_method_18_code, none, 98, false),
  (⟨"MurmurHall$HallReader", "readCaller", "(LMurmurHall$Hall;)Z"⟩, prog_4_method_8_code, some .boolean, 0, false),
  (⟨"MurmurHall$Hall", "addCaller", "(JI)V"⟩, prog_3_method_19_code, none, 98, false),
  (⟨"MurmurHall$HallReader", "readCry", "(LMurmurHall$Hall;)Z"⟩, prog_4_method_9_code, some .boolean, 0, false),
  (⟨"MurmurHall$HallReader", "callerNext", "(LMurmurHall$Hall;)I"⟩, prog_4_method_14_code, some .int, 0, false),
  (⟨"MurmurHall$HallReader", "perhapsNumberNext", "()I"⟩, prog_4_method_10_code, some .int, 0, false),
  (⟨"MurmurHall$Hall", "addCry", "(IIII)I"⟩, prog_3_method_20_code, some .int, 0, false),
  (⟨"MurmurHall$HallReader", "readCall", "(LMurmurHall$Hall;)Z"⟩, prog_4_method_11_code, some .boolean, 0, false),
  (⟨"MurmurHall$Hall", "addCall", "(III)I"⟩, prog_3_method_22_code, some .int, 0, false),
  (⟨"MurmurHall$Hall", "hasCry", "(II)Z"⟩, prog_3_method_8_code, some .boolean, 0, false),
  (⟨"MurmurHall$Hall", "callNumber", "(III)I"⟩, prog_3_method_21_code, some .int, 0, true),
  (⟨"MurmurHall$Hall", "isSpoken", "(I)Z"⟩, prog_3_method_23_code, some .boolean, 0, false),
  (⟨"MurmurHall$Hall", "takeFrom", "(LMurmurHall$Hall;)V"⟩, prog_3_method_3_code, none, 98, false),
  (⟨"MurmurHall$Steps", "takeFrom", "(LMurmurHall$Steps;)V"⟩, prog_9_method_3_code, none, 98, false),
  (⟨"MurmurHall", "pass", "(I)I"⟩, prog_1_method_58_code, some .int, 0, false),
  (⟨"MurmurHall", "mornings", "(I)I"⟩, prog_1_method_11_code, some .int, 0, false),
  (⟨"MurmurHall$MorningsReader", "readInto", "(LMurmurHall$Steps;LMurmurHall$Hall;)Z"⟩, prog_6_method_2_code, some .boolean, 0, false),
  (⟨"MurmurHall$MorningsReader", "readEnd", "(LMurmurHall$Steps;)Z"⟩, prog_6_method_3_code, some .boolean, 0, false),
  (⟨"MurmurHall$MorningsReader", "beginStep", "(LMurmurHall$Steps;)Z"⟩, prog_6_method_4_code, some .boolean, 0, false),
  (⟨"MurmurHall$MorningsReader", "isPlainStep", "(I)Z"⟩, prog_6_method_5_code, some .boolean, 0, true),
  (⟨"MurmurHall$MorningsReader", "readRest", "(LMurmurHall$Steps;LMurmurHall$Hall;)Z"⟩, prog_6_method_6_code, some .boolean, 0, false),
  (⟨"MurmurHall$MorningsReader", "readCaller", "(LMurmurHall$Steps;ILMurmurHall$Hall;)Z"⟩, prog_6_method_9_code, some .boolean, 0, false),
  (⟨"MurmurHall$MorningsReader", "readWhere", "(LMurmurHall$Steps;II)Z"⟩, prog_6_method_12_code, some .boolean, 0, false),
  (⟨"MurmurHall$MorningsReader", "readNumber", "(LMurmurHall$Steps;III)Z"⟩, prog_6_method_13_code, some .boolean, 0, false),
  (⟨"MurmurHall$MorningsReader", "readPlace", "(LMurmurHall$Steps;ILMurmurHall$Hall;)Z"⟩, prog_6_method_10_code, some .boolean, 0, false),
  (⟨"MurmurHall$MorningsReader", "readTest", "(LMurmurHall$Steps;ILMurmurHall$Hall;)Z"⟩, prog_6_method_7_code, some .boolean, 0, false),
  (⟨"MurmurHall$MorningsReader", "readSlate", "(LMurmurHall$Steps;ILMurmurHall$Hall;)Z"⟩, prog_6_method_8_code, some .boolean, 0, false),
  (⟨"MurmurHall$MorningsReader", "readSign", "(LMurmurHall$Steps;I)Z"⟩, prog_6_method_11_code, some .boolean, 0, false),
  (⟨"MurmurHall$Tokens", "compareNext", "()Z"⟩, prog_10_method_17_code, some .boolean, 0, false),
  (⟨"MurmurHall", "fault", "(I)I"⟩, prog_1_method_12_code, some .int, 0, false),
  (⟨"MurmurHall", "told", "(I)I"⟩, prog_1_method_13_code, some .int, 0, false),
  (⟨"MurmurHall$Hall", "allCries", "()I"⟩, prog_3_method_10_code, some .int, 0, false),
  (⟨"MurmurHall", "way", "(II)I"⟩, prog_1_method_14_code, some .int, 0, false),
  (⟨"MurmurHall$Hall", "hasWay", "(I)Z"⟩, prog_3_method_5_code, some .boolean, 0, false),
  (⟨"MurmurHall", "slate", "(I)I"⟩, prog_1_method_15_code, some .int, 0, false),
  (⟨"MurmurHall$Hall", "hasSlate", "(I)Z"⟩, prog_3_method_6_code, some .boolean, 0, false),
  (⟨"MurmurHall", "caller", "(II)I"⟩, prog_1_method_16_code, some .int, 0, false),
  (⟨"MurmurHall$Hall", "hasCaller", "(I)Z"⟩, prog_3_method_7_code, some .boolean, 0, false),
  (⟨"MurmurHall", "cry", "(III)I"⟩, prog_1_method_17_code, some .int, 0, false),
  (⟨"MurmurHall$Hall", "numberOf", "(II)I"⟩, prog_3_method_36_code, some .int, 0, false),
  (⟨"MurmurHall", "call", "(II)I"⟩, prog_1_method_18_code, some .int, 0, false),
  (⟨"MurmurHall$Hall", "hasCall", "(I)Z"⟩, prog_3_method_9_code, some .boolean, 0, false),
  (⟨"MurmurHall$Hall", "callerOf", "(I)I"⟩, prog_3_method_26_code, some .int, 0, false),
  (⟨"MurmurHall$Hall", "kindOf", "(I)I"⟩, prog_3_method_25_code, some .int, 0, false),
  (⟨"MurmurHall$Hall", "startOf", "(I)I"⟩, prog_3_method_27_code, some .int, 0, false),
  (⟨"MurmurHall", "say", "(III)I"⟩, prog_1_method_19_code, some .int, 0, false),
  (⟨"MurmurHall", "hush", "(I)I"⟩, prog_1_method_20_code, some .int, 0, false),
  (⟨"MurmurHall$Hall", "strike", "(I)V"⟩, prog_3_method_24_code, none, 98, false),
  (⟨"MurmurHall", "walk", "(II)I"⟩, prog_1_method_21_code, some .int, 0, false),
  (⟨"MurmurHall$Hall", "hasPlace", "(I)Z"⟩, prog_3_method_4_code, some .boolean, 0, false),
  (⟨"MurmurHall", "hang", "(II)I"⟩, prog_1_method_22_code, some .int, 0, false),
  (⟨"MurmurHall", "pave", "(III)Z"⟩, prog_1_method_23_code, some .boolean, 0, false),
  (⟨"MurmurHall", "teach", "(IIII)I"⟩, prog_1_method_24_code, some .int, 0, false),
  (⟨"MurmurHall", "isNumber", "(II)Z"⟩, prog_1_method_67_code, some .boolean, 0, true),
  (⟨"MurmurHall", "rule", "(I)Z"⟩, prog_1_method_25_code, some .boolean, 0, false),
  (⟨"MurmurHall", "record", "()I"⟩, prog_1_method_26_code, some .int, 0, false),
  (⟨"MurmurHall$Hall", "keepSums", "()V"⟩, prog_3_method_45_code, none, 98, false),
  (⟨"MurmurHall$Hall", "writeSums", "([I)V"⟩, prog_3_method_44_code, none, 98, false),
  (⟨"MurmurHall$Hall", "distanceToSlate", "(II)I"⟩, prog_3_method_31_code, some .int, 0, false),
  (⟨"MurmurHall$Hall", "distance", "(II)I"⟩, prog_3_method_30_code, some .int, 0, false),
  (⟨"MurmurHall$Hall", "beatsOf", "(I)I"⟩, prog_3_method_28_code, some .int, 0, true),
  (⟨"MurmurHall$Hall", "cellOf", "(II)I"⟩, prog_3_method_35_code, some .int, 0, true),
  (⟨"MurmurHall$Hall", "lossOf", "(I)I"⟩, prog_3_method_29_code, some .int, 0, true),
  (⟨"MurmurHall$Hall", "amount", "(III)I"⟩, prog_3_method_37_code, some .int, 0, false),
  (⟨"MurmurHall$Hall", "total", "()I"⟩, prog_3_method_43_code, some .int, 0, false),
  (⟨"MurmurHall$Hall", "totalOn", "(I)I"⟩, prog_3_method_42_code, some .int, 0, false),
  (⟨"MurmurHall$Hall", "allOfCall", "(II)I"⟩, prog_3_method_40_code, some .int, 0, false),
  (⟨"MurmurHall", "scrawl", "(III)I"⟩, prog_1_method_27_code, some .int, 0, false),
  (⟨"MurmurHall", "isBeat", "(I)Z"⟩, prog_1_method_66_code, some .boolean, 0, true),
  (⟨"MurmurHall", "far", "(II)I"⟩, prog_1_method_28_code, some .int, 0, false),
  (⟨"MurmurHall", "lost", "(II)I"⟩, prog_1_method_29_code, some .int, 0, false),
  (⟨"MurmurHall", "heard", "(II)I"⟩, prog_1_method_30_code, some .int, 0, false),
  (⟨"MurmurHall$Hall", "sumAt", "(II)I"⟩, prog_3_method_39_code, some .int, 0, false),
  (⟨"MurmurHall$Hall", "amountAt", "(III)I"⟩, prog_3_method_38_code, some .int, 0, false),
  (⟨"MurmurHall", "from", "(II)I"⟩, prog_1_method_31_code, some .int, 0, false),
  (⟨"MurmurHall", "first", "(I)I"⟩, prog_1_method_32_code, some .int, 0, false),
  (⟨"MurmurHall", "last", "(I)I"⟩, prog_1_method_33_code, some .int, 0, false),
  (⟨"MurmurHall", "loudest", "(I)I"⟩, prog_1_method_34_code, some .int, 0, false),
  (⟨"MurmurHall", "all", "(I)I"⟩, prog_1_method_35_code, some .int, 0, false),
  (⟨"MurmurHall", "recorded", "(II)I"⟩, prog_1_method_36_code, some .int, 0, false),
  (⟨"MurmurHall", "differs", "()I"⟩, prog_1_method_37_code, some .int, 0, false),
  (⟨"MurmurHall", "copyHeard", "(IIII)I"⟩, prog_1_method_38_code, some .int, 0, false),
  (⟨"MurmurHall", "answers", "(I)I"⟩, prog_1_method_39_code, some .int, 0, false),
  (⟨"MurmurHall", "problemOfGuess", "(II)I"⟩, prog_1_method_62_code, some .int, 0, false),
  (⟨"MurmurHall$Guess", "findAnswers", "(LMurmurHall$Hall;II)V"⟩, prog_2_method_2_code, none, 98, false),
  (⟨"MurmurHall$Guess", "listen", "(LMurmurHall$Hall;)V"⟩, prog_2_method_3_code, none, 98, false),
  (⟨"MurmurHall$Hall", "totalKept", "()I"⟩, prog_3_method_46_code, some .int, 0, false),
  (⟨"MurmurHall$Guess", "listenOn", "(LMurmurHall$Hall;II)I"⟩, prog_2_method_4_code, some .int, 0, false),
  (⟨"MurmurHall$Guess", "search", "(III)V"⟩, prog_2_method_5_code, none, 98, false),
  (⟨"MurmurHall$Guess", "note", "(I)V"⟩, prog_2_method_10_code, none, 98, false),
  (⟨"MurmurHall$Guess", "sortChosen", "(I)V"⟩, prog_2_method_11_code, none, 98, false),
  (⟨"MurmurHall$Guess", "comesFirst", "(I)Z"⟩, prog_2_method_12_code, some .boolean, 0, false),
  (⟨"MurmurHall$Guess", "firstLeft", "(I)I"⟩, prog_2_method_6_code, some .int, 0, false),
  (⟨"MurmurHall$Guess", "beginFor", "(II)I"⟩, prog_2_method_7_code, some .int, 0, false),
  (⟨"MurmurHall$Guess", "fits", "(II)Z"⟩, prog_2_method_8_code, some .boolean, 0, false),
  (⟨"MurmurHall$Guess", "take", "(III)V"⟩, prog_2_method_9_code, none, 98, false),
  (⟨"MurmurHall", "answerAt", "(II)I"⟩, prog_1_method_40_code, some .int, 0, false),
  (⟨"MurmurHall", "with", "(IIII)I"⟩, prog_1_method_41_code, some .int, 0, false),
  (⟨"MurmurHall", "fewest", "()I"⟩, prog_1_method_42_code, some .int, 0, false),
  (⟨"MurmurHall", "slips", "(I)I"⟩, prog_1_method_43_code, some .int, 0, false),
  (⟨"MurmurHall$Guess", "findSlips", "(LMurmurHall$Hall;I)V"⟩, prog_2_method_13_code, none, 98, false),
  (⟨"MurmurHall$Guess", "weighEach", "()I"⟩, prog_2_method_14_code, some .int, 0, false),
  (⟨"MurmurHall$Guess", "changeBy", "(I)I"⟩, prog_2_method_16_code, some .int, 0, false),
  (⟨"MurmurHall$Guess", "findSecond", "(II)V"⟩, prog_2_method_15_code, none, 98, false),
  (⟨"MurmurHall", "slipsAt", "(II)I"⟩, prog_1_method_44_code, some .int, 0, false),
  (⟨"MurmurHall", "moved", "()I"⟩, prog_1_method_45_code, some .int, 0, false),
  (⟨"MurmurHall$Moves", "find", "(LMurmurHall$Hall;I)V"⟩, prog_7_method_2_code, none, 98, false),
  (⟨"MurmurHall$Moves", "measurePairs", "(LMurmurHall$Hall;II)V"⟩, prog_7_method_3_code, none, 98, false),
  (⟨"MurmurHall$Moves", "findOf", "(LMurmurHall$Hall;II)V"⟩, prog_7_method_4_code, none, 98, false),
  (⟨"MurmurHall$Moves", "explains", "(LMurmurHall$Hall;I)Z"⟩, prog_7_method_7_code, some .boolean, 0, false),
  (⟨"MurmurHall$Moves", "takes", "(LMurmurHall$Hall;III)Z"⟩, prog_7_method_8_code, some .boolean, 0, false),
  (⟨"MurmurHall$Moves", "giveBack", "()V"⟩, prog_7_method_9_code, none, 98, false),
  (⟨"MurmurHall$Moves", "isUsed", "(LMurmurHall$Hall;I)Z"⟩, prog_7_method_6_code, some .boolean, 0, false),
  (⟨"MurmurHall$Moves", "note", "(IIII)V"⟩, prog_7_method_5_code, none, 98, false),
  (⟨"MurmurHall", "movedAt", "(II)I"⟩, prog_1_method_46_code, some .int, 0, false),
  (⟨"MurmurHall", "alike", "(IIII)I"⟩, prog_1_method_47_code, some .int, 0, false),
  (⟨"MurmurHall$Parting", "listen", "(LMurmurHall$Hall;)V"⟩, prog_8_method_2_code, none, 98, false),
  (⟨"MurmurHall$Parting", "listenAt", "(LMurmurHall$Hall;III)V"⟩, prog_8_method_3_code, none, 98, false),
  (⟨"MurmurHall$Parting", "leftAligned", "(I)I"⟩, prog_8_method_4_code, some .int, 0, true),
  (⟨"MurmurHall$Hall", "slatePlaces", "()I"⟩, prog_3_method_47_code, some .int, 0, false),
  (⟨"MurmurHall$Parting", "laterBy", "(III)I"⟩, prog_8_method_5_code, some .int, 0, false),
  (⟨"MurmurHall$Parting", "laterAt", "(III)I"⟩, prog_8_method_7_code, some .int, 0, false),
  (⟨"MurmurHall$Parting", "both", "(II)I"⟩, prog_8_method_6_code, some .int, 0, true),
  (⟨"MurmurHall", "parts", "(I)I"⟩, prog_1_method_48_code, some .int, 0, false),
  (⟨"MurmurHall$Parting", "partsAll", "(LMurmurHall$Hall;I)Z"⟩, prog_8_method_8_code, some .boolean, 0, false),
  (⟨"MurmurHall$Parting", "isThere", "(LMurmurHall$Hall;I)Z"⟩, prog_8_method_9_code, some .boolean, 0, true),
  (⟨"MurmurHall", "hanging", "()I"⟩, prog_1_method_49_code, some .int, 0, false),
  (⟨"MurmurHall$Parting", "leastSet", "(LMurmurHall$Hall;)I"⟩, prog_8_method_10_code, some .int, 0, false),
  (⟨"MurmurHall$Parting", "markUnparted", "(III)V"⟩, prog_8_method_11_code, none, 98, false),
  (⟨"java/lang/Integer", "numberOfTrailingZeros", "(I)I"⟩, prog_14_method_48_code, some .int, 0, true),
  (⟨"java/lang/Integer", "bitCount", "(I)I"⟩, prog_14_method_49_code, some .int, 0, true),
  (⟨"MurmurHall", "hangingSet", "()I"⟩, prog_1_method_50_code, some .int, 0, false),
  (⟨"MurmurHall", "chance", "(III)Z"⟩, prog_1_method_51_code, some .boolean, 0, false),
  (⟨"MurmurHall$Hall", "weightOfAtLeast", "(IIII)J"⟩, prog_3_method_49_code, some .long, 1, false),
  (⟨"MurmurHall$Hall", "sixteens", "(I)J"⟩, prog_3_method_48_code, some .long, 1, true),
  (⟨"MurmurHall", "tell", "(JJ)V"⟩, prog_1_method_64_code, none, 98, false),
  (⟨"MurmurHall", "commonDivisor", "(JJ)J"⟩, prog_1_method_65_code, some .long, 1, true),
  (⟨"MurmurHall", "quiet", "(I)Z"⟩, prog_1_method_52_code, some .boolean, 0, false),
  (⟨"MurmurHall$Hall", "isLoudOn", "(II)Z"⟩, prog_3_method_41_code, some .boolean, 0, false),
  (⟨"MurmurHall", "live", "(I)I"⟩, prog_1_method_53_code, some .int, 0, false),
  (⟨"MurmurHall$Life", "run", "(LMurmurHall$Hall;I)V"⟩, prog_5_method_2_code, none, 98, false),
  (⟨"MurmurHall$Life", "behindEnd", "(LMurmurHall$Steps;I)I"⟩, prog_5_method_3_code, some .int, 0, false),
  (⟨"MurmurHall$Life", "behindStep", "(LMurmurHall$Hall;LMurmurHall$Steps;I)I"⟩, prog_5_method_4_code, some .int, 0, false),
  (⟨"MurmurHall$Life", "holds", "(LMurmurHall$Hall;LMurmurHall$Steps;I)Z"⟩, prog_5_method_10_code, some .boolean, 0, false),
  (⟨"MurmurHall$Life", "compares", "(III)Z"⟩, prog_5_method_11_code, some .boolean, 0, true),
  (⟨"MurmurHall$Life", "act", "(LMurmurHall$Hall;LMurmurHall$Steps;I)V"⟩, prog_5_method_5_code, none, 98, false),
  (⟨"MurmurHall$Life", "speak", "(LMurmurHall$Hall;III)V"⟩, prog_5_method_6_code, none, 98, false),
  (⟨"MurmurHall$Life", "speakByDraws", "(LMurmurHall$Hall;)V"⟩, prog_5_method_7_code, none, 98, false),
  (⟨"MurmurHall$Life", "draw", "(I)I"⟩, prog_5_method_12_code, some .int, 0, false),
  (⟨"MurmurHall$Life", "strikeLast", "(LMurmurHall$Hall;)V"⟩, prog_5_method_8_code, none, 98, false),
  (⟨"MurmurHall$Life", "go", "(LMurmurHall$Hall;II)V"⟩, prog_5_method_9_code, none, 98, false),
  (⟨"MurmurHall", "lived", "(I)I"⟩, prog_1_method_54_code, some .int, 0, false),
  (⟨"MurmurHall", "mean", "(II)Z"⟩, prog_1_method_55_code, some .boolean, 0, false),
  (⟨"MurmurHall", "mark", "()I"⟩, prog_1_method_56_code, some .int, 0, false),
  (⟨"MurmurHall", "markAt", "(I)LMurmurHall$Hall;"⟩, prog_1_method_63_code, some (.object "MurmurHall$Hall"), 11, false),
  (⟨"MurmurHall", "undo", "()I"⟩, prog_1_method_57_code, some .int, 0, false),
  (⟨"MurmurHallModel", "plain", "(I)V"⟩, prog_13_method_2_code, none, 98, false),
  (⟨"MurmurHallModel", "status", "()I"⟩, prog_13_method_3_code, some .int, 0, false),
  (⟨"MurmurHallModel", "top", "()J"⟩, prog_13_method_4_code, some .long, 1, false),
  (⟨"MurmurHallModel", "bottom", "()J"⟩, prog_13_method_5_code, some .long, 1, false),
  (⟨"MurmurHallModel", "tray", "(III)Z"⟩, prog_13_method_13_code, some .boolean, 0, false),
  (⟨"MurmurHallModel", "isTray", "(I)Z"⟩, prog_13_method_11_code, some .boolean, 0, true),
  (⟨"MurmurHallModel", "is", "(I)Z"⟩, prog_13_method_6_code, some .boolean, 0, false),
  (⟨"MurmurHallModel", "write", "(IIJ)Z"⟩, prog_13_method_15_code, some .boolean, 0, false),
  (⟨"MurmurHallModel", "wrongPlace", "(II)I"⟩, prog_13_method_14_code, some .int, 0, false),
  (⟨"MurmurHallModel", "cut", "(JI)J"⟩, prog_13_method_12_code, some .long, 1, true),
  (⟨"MurmurHallModel", "read", "(II)J"⟩, prog_13_method_16_code, some .long, 1, false),
  (⟨"MurmurHallModel", "pour", "(IIIII)Z"⟩, prog_13_method_17_code, some .boolean, 0, false),
  (⟨"MurmurHallModel", "feed", "(IIIII)I"⟩, prog_13_method_19_code, some .int, 0, false),
  (⟨"MurmurHallModel", "four", "(I)V"⟩, prog_13_method_20_code, none, 98, false),
  (⟨"MurmurHallModel", "fault", "(I)I"⟩, prog_13_method_35_code, some .int, 0, false),
  (⟨"MurmurHallModel", "hall", "(I)I"⟩, prog_13_method_54_code, some .int, 0, false),
  (⟨"MurmurHallModel", "begins", "(II)Z"⟩, prog_13_method_28_code, some .boolean, 0, false),
  (⟨"MurmurHallModel", "ahead", "()V"⟩, prog_13_method_24_code, none, 98, false),
  (⟨"MurmurHallModel", "byteAt", "(I)I"⟩, prog_13_method_21_code, some .int, 0, false),
  (⟨"MurmurHallModel", "isSmall", "(I)Z"⟩, prog_13_method_22_code, some .boolean, 0, true),
  (⟨"MurmurHallModel", "isDigit", "(I)Z"⟩, prog_13_method_23_code, some .boolean, 0, true),
  (⟨"MurmurHallModel", "refuse", "(I)I"⟩, prog_13_method_7_code, some .int, 0, false),
  (⟨"MurmurHallModel", "hallPart", "()Z"⟩, prog_13_method_53_code, some .boolean, 0, false),
  (⟨"MurmurHallModel", "inWords", "(Ljava/lang/String;)I"⟩, prog_13_method_26_code, some .int, 0, false),
  (⟨"MurmurHallModel", "fails", "(I)Z"⟩, prog_13_method_27_code, some .boolean, 0, false),
  (⟨"MurmurHallModel", "number", "(III)Z"⟩, prog_13_method_31_code, some .boolean, 0, false),
  (⟨"MurmurHallModel", "aPlace", "()Z"⟩, prog_13_method_47_code, some .boolean, 0, false),
  (⟨"MurmurHallModel", "newOne", "(III)Z"⟩, prog_13_method_43_code, some .boolean, 0, false),
  (⟨"MurmurHallModel", "isFull", "(II)Z"⟩, prog_13_method_42_code, some .boolean, 0, false),
  (⟨"MurmurHallModel", "isName", "(Ljava/lang/String;)Z"⟩, prog_13_method_32_code, some .boolean, 0, false),
  (⟨"MurmurHallModel", "isOld", "()Z"⟩, prog_13_method_41_code, some .boolean, 0, false),
  (⟨"MurmurHallModel", "findHere", "(II)I"⟩, prog_13_method_34_code, some .int, 0, false),
  (⟨"MurmurHallModel", "nameHere", "()J"⟩, prog_13_method_33_code, some .long, 1, false),
  (⟨"MurmurHallModel", "aWay", "()Z"⟩, prog_13_method_48_code, some .boolean, 0, false),
  (⟨"MurmurHallModel", "wayRow", "(I)I"⟩, prog_13_method_37_code, some .int, 0, true),
  (⟨"MurmurHallModel", "newPlaceTo", "(I)Z"⟩, prog_13_method_45_code, some .boolean, 0, false),
  (⟨"MurmurHallModel", "oldOne", "(III)Z"⟩, prog_13_method_44_code, some .boolean, 0, false),
  (⟨"MurmurHallModel", "wantWord", "(Ljava/lang/String;I)Z"⟩, prog_13_method_30_code, some .boolean, 0, false),
  (⟨"MurmurHallModel", "isThere", "(I)Z"⟩, prog_13_method_40_code, some .boolean, 0, false),
  (⟨"MurmurHallModel", "aSlate", "()Z"⟩, prog_13_method_49_code, some .boolean, 0, false),
  (⟨"MurmurHallModel", "aCaller", "()Z"⟩, prog_13_method_50_code, some .boolean, 0, false),
  (⟨"MurmurHallModel", "callerRow", "(I)I"⟩, prog_13_method_38_code, some .int, 0, true),
  (⟨"MurmurHallModel", "aCry", "()Z"⟩, prog_13_method_51_code, some .boolean, 0, false),
  (⟨"MurmurHallModel", "newCallerTo", "(I)Z"⟩, prog_13_method_46_code, some .boolean, 0, false),
  (⟨"MurmurHallModel", "aCall", "()Z"⟩, prog_13_method_52_code, some .boolean, 0, false),
  (⟨"MurmurHallModel", "callRow", "(I)I"⟩, prog_13_method_39_code, some .int, 0, true),
  (⟨"MurmurHallModel", "wantSign", "(I)Z"⟩, prog_13_method_29_code, some .boolean, 0, false),
  (⟨"MurmurHallModel", "isSign", "(I)Z"⟩, prog_13_method_25_code, some .boolean, 0, false),
  (⟨"MurmurHallModel", "taken", "(I)I"⟩, prog_13_method_36_code, some .int, 0, false),
  (⟨"MurmurHallModel", "gives", "(I)I"⟩, prog_13_method_8_code, some .int, 0, false),
  (⟨"MurmurHallModel", "mornings", "(I)I"⟩, prog_13_method_60_code, some .int, 0, false),
  (⟨"MurmurHallModel", "morningStep", "()Z"⟩, prog_13_method_59_code, some .boolean, 0, false),
  (⟨"MurmurHallModel", "morningOrder", "(II)Z"⟩, prog_13_method_58_code, some .boolean, 0, false),
  (⟨"MurmurHallModel", "callerTo", "(I)Z"⟩, prog_13_method_55_code, some .boolean, 0, false),
  (⟨"MurmurHallModel", "placeTo", "(I)Z"⟩, prog_13_method_56_code, some .boolean, 0, false),
  (⟨"MurmurHallModel", "test", "(I)Z"⟩, prog_13_method_57_code, some .boolean, 0, false),
  (⟨"MurmurHallModel", "told", "(I)I"⟩, prog_13_method_70_code, some .int, 0, false),
  (⟨"MurmurHallModel", "allCries", "()I"⟩, prog_13_method_69_code, some .int, 0, false),
  (⟨"MurmurHallModel", "way", "(II)I"⟩, prog_13_method_71_code, some .int, 0, false),
  (⟨"MurmurHallModel", "slate", "(I)I"⟩, prog_13_method_72_code, some .int, 0, false),
  (⟨"MurmurHallModel", "isSlate", "(I)Z"⟩, prog_13_method_62_code, some .boolean, 0, false),
  (⟨"MurmurHallModel", "caller", "(II)I"⟩, prog_13_method_73_code, some .int, 0, false),
  (⟨"MurmurHallModel", "isCaller", "(I)Z"⟩, prog_13_method_63_code, some .boolean, 0, false),
  (⟨"MurmurHallModel", "cry", "(III)I"⟩, prog_13_method_74_code, some .int, 0, false),
  (⟨"MurmurHallModel", "isCry", "(II)Z"⟩, prog_13_method_64_code, some .boolean, 0, false),
  (⟨"MurmurHallModel", "numberOf", "(III)I"⟩, prog_13_method_67_code, some .int, 0, false),
  (⟨"MurmurHallModel", "call", "(II)I"⟩, prog_13_method_75_code, some .int, 0, false),
  (⟨"MurmurHallModel", "callOf", "(II)I"⟩, prog_13_method_68_code, some .int, 0, false),
  (⟨"MurmurHallModel", "far", "(II)I"⟩, prog_13_method_77_code, some .int, 0, false),
  (⟨"MurmurHallModel", "isPlace", "(I)Z"⟩, prog_13_method_61_code, some .boolean, 0, false),
  (⟨"MurmurHallModel", "laysFar", "()V"⟩, prog_13_method_76_code, none, 98, false),
  (⟨"MurmurHallModel", "lost", "(II)I"⟩, prog_13_method_78_code, some .int, 0, false),
  (⟨"MurmurHallModel", "say", "(III)I"⟩, prog_13_method_90_code, some .int, 0, false),
  (⟨"MurmurHallModel", "isFrom", "(JJJ)Z"⟩, prog_13_method_18_code, some .boolean, 0, true),
  (⟨"MurmurHallModel", "says", "(III)I"⟩, prog_13_method_89_code, some .int, 0, false),
  (⟨"MurmurHallModel", "toldCall", "(III)I"⟩, prog_13_method_88_code, some .int, 0, false),
  (⟨"MurmurHallModel", "hush", "(I)I"⟩, prog_13_method_92_code, some .int, 0, false),
  (⟨"MurmurHallModel", "hushes", "(I)Z"⟩, prog_13_method_91_code, some .boolean, 0, false),
  (⟨"MurmurHallModel", "walk", "(II)I"⟩, prog_13_method_94_code, some .int, 0, false),
  (⟨"MurmurHallModel", "goesTo", "(II)Z"⟩, prog_13_method_93_code, some .boolean, 0, false),
  (⟨"MurmurHallModel", "hang", "(II)I"⟩, prog_13_method_95_code, some .int, 0, false),
  (⟨"MurmurHallModel", "pave", "(III)Z"⟩, prog_13_method_96_code, some .boolean, 0, false),
  (⟨"MurmurHallModel", "teach", "(IIII)I"⟩, prog_13_method_97_code, some .int, 0, false),
  (⟨"MurmurHallModel", "rule", "(I)Z"⟩, prog_13_method_98_code, some .boolean, 0, false),
  (⟨"MurmurHallModel", "record", "()I"⟩, prog_13_method_100_code, some .int, 0, false),
  (⟨"MurmurHallModel", "records", "()I"⟩, prog_13_method_99_code, some .int, 0, false),
  (⟨"MurmurHallModel", "allSums", "()I"⟩, prog_13_method_87_code, some .int, 0, false),
  (⟨"MurmurHallModel", "laysSums", "()V"⟩, prog_13_method_86_code, none, 98, false),
  (⟨"MurmurHallModel", "laysLeft", "(Z)V"⟩, prog_13_method_84_code, none, 98, false),
  (⟨"MurmurHallModel", "putsAll", "(I)V"⟩, prog_13_method_85_code, none, 98, false),
  (⟨"MurmurHallModel", "puts", "(IIII)V"⟩, prog_13_method_82_code, none, 98, false),
  (⟨"MurmurHallModel", "loudAt", "(IIII)I"⟩, prog_13_method_79_code, some .int, 0, false),
  (⟨"MurmurHallModel", "behindAt", "(II)I"⟩, prog_13_method_80_code, some .int, 0, false),
  (⟨"MurmurHallModel", "changes", "(II)V"⟩, prog_13_method_81_code, none, 98, false),
  (⟨"MurmurHallModel", "scrawl", "(III)I"⟩, prog_13_method_102_code, some .int, 0, false),
  (⟨"MurmurHallModel", "isBeat", "(I)Z"⟩, prog_13_method_101_code, some .boolean, 0, true),
  (⟨"MurmurHallModel", "heard", "(II)I"⟩, prog_13_method_103_code, some .int, 0, false),
  (⟨"MurmurHallModel", "from", "(II)I"⟩, prog_13_method_105_code, some .int, 0, false),
  (⟨"MurmurHallModel", "partOf", "(III)I"⟩, prog_13_method_104_code, some .int, 0, false),
  (⟨"MurmurHallModel", "first", "(I)I"⟩, prog_13_method_106_code, some .int, 0, false),
  (⟨"MurmurHallModel", "last", "(I)I"⟩, prog_13_method_107_code, some .int, 0, false),
  (⟨"MurmurHallModel", "loudest", "(I)I"⟩, prog_13_method_108_code, some .int, 0, false),
  (⟨"MurmurHallModel", "orNone", "(I)I"⟩, prog_13_method_9_code, some .int, 0, false),
  (⟨"MurmurHallModel", "all", "(I)I"⟩, prog_13_method_109_code, some .int, 0, false),
  (⟨"MurmurHallModel", "recorded", "(II)I"⟩, prog_13_method_110_code, some .int, 0, false),
  (⟨"MurmurHallModel", "differs", "()I"⟩, prog_13_method_112_code, some .int, 0, false),
  (⟨"MurmurHallModel", "differing", "()I"⟩, prog_13_method_111_code, some .int, 0, false),
  (⟨"MurmurHallModel", "copyHeard", "(IIII)I"⟩, prog_13_method_113_code, some .int, 0, false),
  (⟨"MurmurHallModel", "answers", "(I)I"⟩, prog_13_method_121_code, some .int, 0, false),
  (⟨"MurmurHallModel", "laysAnswers", "(II)V"⟩, prog_13_method_120_code, none, 98, false),
  (⟨"MurmurHallModel", "opensAt", "(II)Z"⟩, prog_13_method_118_code, some .boolean, 0, false),
  (⟨"MurmurHallModel", "finds", "(I)V"⟩, prog_13_method_117_code, none, 98, false),
  (⟨"MurmurHallModel", "putsOf", "(II)V"⟩, prog_13_method_83_code, none, 98, false),
  (⟨"MurmurHallModel", "mayBe", "(II)Z"⟩, prog_13_method_119_code, some .boolean, 0, false),
  (⟨"MurmurHallModel", "isCall", "(I)Z"⟩, prog_13_method_114_code, some .boolean, 0, false),
  (⟨"MurmurHallModel", "inCell", "(II)I"⟩, prog_13_method_115_code, some .int, 0, false),
  (⟨"MurmurHallModel", "answerAt", "(II)I"⟩, prog_13_method_122_code, some .int, 0, false),
  (⟨"MurmurHallModel", "with", "(IIII)I"⟩, prog_13_method_123_code, some .int, 0, false),
  (⟨"MurmurHallModel", "fewest", "()I"⟩, prog_13_method_124_code, some .int, 0, false),
  (⟨"MurmurHallModel", "slips", "(I)I"⟩, prog_13_method_127_code, some .int, 0, false),
  (⟨"MurmurHallModel", "laysSlips", "(I)V"⟩, prog_13_method_126_code, none, 98, false),
  (⟨"MurmurHallModel", "slipsBy", "(III)V"⟩, prog_13_method_125_code, none, 98, false),
  (⟨"MurmurHallModel", "isLoud", "(I)Z"⟩, prog_13_method_116_code, some .boolean, 0, false),
  (⟨"MurmurHallModel", "slipsAt", "(II)I"⟩, prog_13_method_128_code, some .int, 0, false),
  (⟨"MurmurHallModel", "moved", "()I"⟩, prog_13_method_130_code, some .int, 0, false),
  (⟨"MurmurHallModel", "movedOf", "(I)I"⟩, prog_13_method_129_code, some .int, 0, false),
  (⟨"MurmurHallModel", "movedAt", "(II)I"⟩, prog_13_method_131_code, some .int, 0, false),
  (⟨"MurmurHallModel", "alike", "(IIII)I"⟩, prog_13_method_136_code, some .int, 0, false),
  (⟨"MurmurHallModel", "slatePlaces", "()I"⟩, prog_13_method_135_code, some .int, 0, false),
  (⟨"MurmurHallModel", "laterOf", "(III)I"⟩, prog_13_method_134_code, some .int, 0, false),
  (⟨"MurmurHallModel", "areAlikeBy", "(IIII)Z"⟩, prog_13_method_133_code, some .boolean, 0, false),
  (⟨"MurmurHallModel", "isIn", "(II)Z"⟩, prog_13_method_65_code, some .boolean, 0, false),
  (⟨"MurmurHallModel", "inBeat", "(III)I"⟩, prog_13_method_132_code, some .int, 0, false),
  (⟨"MurmurHallModel", "parts", "(I)I"⟩, prog_13_method_139_code, some .int, 0, false),
  (⟨"MurmurHallModel", "doesPart", "(I)Z"⟩, prog_13_method_138_code, some .boolean, 0, false),
  (⟨"MurmurHallModel", "isCryOf", "(I)Z"⟩, prog_13_method_137_code, some .boolean, 0, false),
  (⟨"MurmurHallModel", "hanging", "()I"⟩, prog_13_method_141_code, some .int, 0, false),
  (⟨"MurmurHallModel", "hangingOf", "()I"⟩, prog_13_method_140_code, some .int, 0, false),
  (⟨"MurmurHallModel", "bits", "(I)I"⟩, prog_13_method_66_code, some .int, 0, true),
  (⟨"MurmurHallModel", "hangingSet", "()I"⟩, prog_13_method_142_code, some .int, 0, false),
  (⟨"MurmurHallModel", "chance", "(III)Z"⟩, prog_13_method_143_code, some .boolean, 0, false),
  (⟨"MurmurHallModel", "tellsBy", "(JJ)Z"⟩, prog_13_method_10_code, some .boolean, 0, false),
  (⟨"MurmurHallModel", "quiet", "(I)Z"⟩, prog_13_method_145_code, some .boolean, 0, false),
  (⟨"MurmurHallModel", "isHeardOn", "(II)Z"⟩, prog_13_method_144_code, some .boolean, 0, false),
  (⟨"MurmurHallModel", "live", "(I)I"⟩, prog_13_method_155_code, some .int, 0, false),
  (⟨"MurmurHallModel", "lives", "(I)V"⟩, prog_13_method_154_code, none, 98, false),
  (⟨"MurmurHallModel", "does", "(I)Z"⟩, prog_13_method_150_code, some .boolean, 0, false),
  (⟨"MurmurHallModel", "countsIf", "(IZ)Z"⟩, prog_13_method_147_code, some .boolean, 0, false),
  (⟨"MurmurHallModel", "recordsIt", "()Z"⟩, prog_13_method_149_code, some .boolean, 0, false),
  (⟨"MurmurHallModel", "saysAny", "()Z"⟩, prog_13_method_148_code, some .boolean, 0, false),
  (⟨"MurmurHallModel", "draw", "(I)I"⟩, prog_13_method_146_code, some .int, 0, false),
  (⟨"MurmurHallModel", "holds", "(I)Z"⟩, prog_13_method_152_code, some .boolean, 0, false),
  (⟨"MurmurHallModel", "sumOn", "(II)I"⟩, prog_13_method_151_code, some .int, 0, false),
  (⟨"MurmurHallModel", "behindEnds", "(I)I"⟩, prog_13_method_153_code, some .int, 0, false),
  (⟨"MurmurHallModel", "lived", "(I)I"⟩, prog_13_method_156_code, some .int, 0, false),
  (⟨"MurmurHallModel", "mean", "(II)Z"⟩, prog_13_method_157_code, some .boolean, 0, false),
  (⟨"MurmurHallModel", "mark", "()I"⟩, prog_13_method_159_code, some .int, 0, false),
  (⟨"MurmurHallModel", "copies", "(II)V"⟩, prog_13_method_158_code, none, 98, false),
  (⟨"MurmurHallModel", "undo", "()I"⟩, prog_13_method_160_code, some .int, 0, false)]
/-- where the tables say so -/
def jpos : List (List Nat) := [[681, 162, 679, 680], [685, 162, 683, 684], [689, 162, 687, 688], [693, 162, 691, 692], [697, 163, 695, 696], [701, 162, 700, 0], [705, 163, 703, 704], [709, 162, 708, 1], [713, 162, 711, 712], [717, 163, 715, 716], [722, 163, 720, 721], [726, 163, 724, 725], [729, 163, 728], [733, 162, 731, 732], [737, 162, 736, 2], [741, 162, 739, 740], [746, 163, 744, 745], [750, 163, 748, 749], [757, 162, 755, 756], [761, 164, 759, 760], [765, 162, 763, 764], [769, 164, 767, 768], [773, 165, 771, 772], [777, 171, 775, 776], [781, 172, 779, 780], [785, 164, 783, 784], [788, 164, 787], [792, 164, 791, 3], [796, 164, 795, 4], [802, 164, 801, 5], [806, 171, 804, 805], [810, 175, 809], [813, 171, 812], [817, 171, 816, 6], [821, 165, 820, 7], [825, 164, 823, 824], [829, 165, 828, 8], [833, 164, 831, 832], [837, 164, 835, 836], [842, 164, 840, 841], [847, 164, 845, 846], [851, 164, 849, 850], [855, 165, 854, 9], [859, 165, 858, 10], [863, 164, 861, 862], [867, 171, 865, 866], [871, 171, 869, 870], [875, 171, 874, 11], [879, 171, 877, 878], [883, 171, 881, 882], [887, 171, 885, 886], [891, 165, 890, 12], [895, 165, 894, 13], [900, 164, 898, 899], [905, 171, 903, 904], [910, 165, 909, 14], [914, 171, 912, 913], [918, 165, 917, 15], [922, 171, 920, 921], [926, 165, 925, 16], [930, 165, 929, 17], [935, 165, 934, 18], [940, 171, 938, 939], [944, 165, 943, 19], [948, 171, 946, 947], [952, 171, 950, 951], [955, 171, 954], [959, 171, 957, 958], [963, 171, 961, 962], [968, 172, 966, 967], [973, 162, 972, 20], [977, 162, 975, 976], [981, 166, 979, 980], [989, 166, 988, 21], [993, 166, 992, 22], [996, 166, 995], [1000, 166, 999, 23], [1004, 166, 1003, 24], [1010, 166, 1009, 25], [1015, 166, 1014, 26], [1019, 166, 1018, 27], [1024, 166, 1023, 28], [1028, 166, 1027, 29], [1033, 166, 1032, 30], [1037, 164, 1035, 1036], [1043, 162, 1041, 1042], [1047, 162, 1045, 1046], [1051, 171, 1049, 1050], [1055, 162, 1053, 1054], [1059, 171, 1057, 1058], [1063, 162, 1061, 1062], [1067, 171, 1065, 1066], [1071, 162, 1069, 1070], [1075, 171, 1073, 1074], [1079, 162, 1077, 1078], [1084, 171, 1082, 1083], [1088, 162, 1086, 1087], [1092, 171, 1090, 1091], [1096, 171, 1094, 1095], [1100, 171, 1098, 1099], [1105, 171, 1103, 1104], [1109, 162, 1107, 1108], [1114, 162, 1112, 1113], [1118, 171, 1116, 1117], [1122, 162, 1120, 1121], [1126, 171, 1124, 1125], [1130, 162, 1128, 1129], [1134, 162, 1132, 1133], [1139, 162, 1137, 1138], [1142, 162, 1141], [1147, 162, 1145, 1146], [1151, 162, 1149, 1150], [1155, 171, 1153, 1154], [1159, 171, 1157, 1158], [1164, 171, 1162, 1163], [1168, 171, 1166, 1167], [1172, 171, 1171], [1175, 171, 1174], [1178, 171, 1177], [1182, 171, 1180, 1181], [1190, 171, 1188, 1189], [1194, 171, 1192, 1193], [1198, 171, 1197, 31], [1202, 162, 1200, 1201], [1205, 162, 1204], [1210, 162, 1208, 1209], [1217, 162, 1215, 1216], [1222, 162, 1220, 1221], [1226, 171, 1224, 1225], [1230, 171, 1228, 1229], [1234, 162, 1232, 1233], [1239, 162, 1237, 1238], [1244, 162, 1242, 1243], [1248, 162, 1246, 1247], [1252, 162, 1250, 1251], [1257, 162, 1255, 1256], [1261, 162, 1259, 1260], [1265, 162, 1263, 1264], [1269, 162, 1267, 1268], [1273, 162, 1272, 32], [1277, 168, 1275, 1276], [1281, 168, 1280, 33], [1286, 171, 1284, 1285], [1291, 168, 1290, 34], [1301, 168, 1300, 35], [1305, 168, 1304, 36], [1312, 168, 1311, 37], [1316, 168, 1315, 38], [1320, 168, 1319, 39], [1324, 168, 1323, 40], [1328, 168, 1327, 41], [1333, 168, 1332, 42], [1337, 162, 1335, 1336], [1341, 162, 1339, 1340], [1346, 162, 1344, 1345], [1350, 162, 1348, 1349], [1354, 168, 1352, 1353], [1358, 168, 1357, 43], [1362, 168, 1361, 44], [1366, 168, 1365, 45], [1370, 162, 1368, 1369], [1374, 162, 1372, 1373], [1378, 169, 1376, 1377], [1385, 169, 1384, 46], [1391, 169, 1390, 47], [1396, 169, 1395, 48], [1400, 169, 1399, 49], [1410, 169, 1409, 50], [1414, 169, 1413, 51], [1418, 169, 1417, 52], [1422, 162, 1420, 1421], [1426, 162, 1424, 1425], [1430, 170, 1428, 1429], [1436, 170, 1435, 53], [1443, 170, 1442], [1447, 171, 1445, 1446], [1451, 170, 1449, 1450], [1455, 170, 1454, 54], [1461, 170, 1460], [1465, 162, 1463, 1464], [1469, 170, 1467, 1468], [1472, 170, 1471], [1477, 162, 1475, 1476], [1481, 170, 1479, 1480], [1486, 170, 1485, 55], [1489, 181, 1488], [1493, 181, 1492], [1501, 162, 1499, 1500], [1505, 162, 1503, 1504], [1509, 171, 1508, 56], [1512, 171, 1511], [1519, 162, 1518, 57], [1522, 162, 1521], [1526, 162, 1524, 1525], [1530, 171, 1528, 1529], [1534, 162, 1532, 1533], [1538, 167, 1536, 1537], [1543, 167, 1542, 58], [1547, 167, 1546, 59], [1551, 167, 1550, 60], [1555, 167, 1554], [1559, 167, 1558, 61], [1563, 167, 1562, 62], [1568, 167, 1567, 63], [1572, 167, 1571, 64], [1577, 167, 1576, 65], [1582, 167, 1581, 66], [1587, 162, 1585, 1586], [1591, 162, 1589, 1590], [1595, 162, 1593, 1594], [1599, 162, 1598, 67], [1603, 162, 1601, 1602], [1613, 173, 1612, 68], [1762, 173, 1760, 1761], [1766, 173, 1764, 1765], [1770, 173, 1768, 1769], [1774, 173, 1772, 1773], [1777, 173, 1776], [1781, 173, 1780, 69], [1785, 173, 1783, 1784], [1789, 173, 1788, 70], [1792, 173, 1791], [1796, 173, 1794, 1795], [1801, 173, 1799, 1800], [1805, 173, 1803, 1804], [1809, 173, 1808, 71], [1813, 173, 1811, 1812], [1817, 173, 1815, 1816], [1821, 173, 1820, 72], [1825, 173, 1824, 73], [1829, 173, 1828, 74], [1832, 173, 1831], [1835, 173, 1834], [1841, 173, 1840, 75], [1845, 173, 1844, 76], [1850, 173, 1849, 77], [1902, 173, 1901, 78], [1906, 173, 1905, 79], [1910, 173, 1909, 80], [1914, 173, 1913, 81], [1918, 173, 1917, 82], [1922, 173, 1921, 83], [1926, 173, 1925, 84], [1930, 173, 1929, 85], [1934, 173, 1933, 86], [1938, 173, 1937, 87], [1941, 173, 1940], [1945, 173, 1944, 88], [1949, 173, 1948, 89], [1953, 173, 1952, 90], [1957, 173, 1956, 91], [1961, 173, 1960, 92], [1965, 173, 1964, 93], [1968, 173, 1967], [1972, 173, 1971, 94], [1976, 173, 1975, 95], [1980, 173, 1979, 96], [1983, 173, 1982], [1987, 173, 1986, 97], [1991, 173, 1990, 98], [1995, 173, 1994, 99], [1999, 173, 1998, 100], [2003, 173, 2001, 2002], [2007, 173, 2006, 101], [2011, 173, 2010, 102], [2015, 173, 2014, 103], [2019, 173, 2018, 104], [2023, 173, 2022, 105], [2027, 173, 2025, 2026], [2031, 173, 2030, 106], [2035, 173, 2033, 2034], [2039, 173, 2037, 2038], [2043, 173, 2042, 107], [2047, 173, 2045, 2046], [2051, 173, 2050, 108], [2055, 173, 2053, 2054], [2059, 173, 2058, 109], [2063, 173, 2062, 110], [2067, 173, 2065, 2066], [2071, 173, 2070, 111], [2075, 173, 2073, 2074], [2079, 173, 2078, 112], [2083, 173, 2082, 113], [2088, 173, 2086, 2087], [2092, 173, 2090, 2091], [2096, 173, 2095], [2100, 173, 2099, 114], [2104, 173, 2103, 115], [2108, 173, 2106, 2107], [2112, 173, 2111, 116], [2116, 173, 2114, 2115], [2120, 173, 2119, 117], [2124, 173, 2122, 2123], [2128, 173, 2126, 2127], [2133, 173, 2131, 2132], [2138, 173, 2136, 2137], [2143, 173, 2141, 2142], [2147, 173, 2146, 118], [2151, 173, 2150, 119], [2155, 173, 2154, 120], [2159, 173, 2158, 121], [2163, 173, 2162, 122], [2167, 173, 2166, 123], [2171, 173, 2170, 124], [2176, 173, 2175, 125], [2180, 173, 2179, 126], [2184, 173, 2182, 2183], [2187, 173, 2186], [2193, 173, 2191, 2192], [2197, 173, 2195, 2196], [2201, 173, 2200, 127], [2205, 173, 2203, 2204], [2209, 173, 2207, 2208], [2213, 173, 2211, 2212], [2217, 173, 2216, 128], [2221, 173, 2219, 2220], [2225, 173, 2223, 2224], [2229, 173, 2227, 2228], [2233, 173, 2232, 129], [2237, 173, 2235, 2236], [2242, 173, 2240, 2241], [2247, 173, 2246, 130], [2251, 173, 2250, 131], [2255, 173, 2254, 132], [2259, 173, 2258, 133], [2263, 173, 2262, 134], [2267, 173, 2266, 135], [2271, 173, 2270, 136], [2275, 173, 2273, 2274], [2279, 173, 2277, 2278], [2283, 173, 2281, 2282], [2287, 173, 2285, 2286], [2292, 173, 2291, 137], [2296, 173, 2295, 138], [2300, 173, 2299, 139], [2304, 173, 2302, 2303], [2308, 173, 2306, 2307], [2312, 173, 2311, 140], [2316, 173, 2314, 2315], [2320, 173, 2318, 2319], [2324, 173, 2323, 141], [2328, 173, 2327, 142], [2332, 173, 2331, 143], [2336, 173, 2335, 144], [2340, 173, 2339, 145], [2344, 173, 2342, 2343], [2348, 173, 2347, 146], [2352, 173, 2351, 147], [2356, 173, 2354, 2355], [2360, 173, 2359, 148], [2363, 173, 2362], [2367, 173, 2365, 2366], [2371, 173, 2369, 2370], [2375, 173, 2374, 149], [2379, 173, 2377, 2378], [2383, 173, 2382, 150], [2387, 173, 2385, 2386], [2392, 173, 2391, 151], [2396, 173, 2395, 152], [2400, 173, 2399, 153], [2404, 173, 2403, 154], [2408, 173, 2407, 155], [2412, 173, 2411, 156], [2417, 173, 2416, 157], [2421, 173, 2420, 158], [2425, 173, 2424, 159], [2429, 173, 2427, 2428], [2433, 173, 2431, 2432], [2437, 173, 2435, 2436], [2441, 173, 2440, 160], [2445, 173, 2443, 2444]]
def jm (mi : Nat) : MethodName × ByteArray × Option FieldType × Nat × Bool := jtab.getD mi (⟨"", "", ""⟩, ⟨#[]⟩, none, 98, true)
abbrev jY (mi : Nat) : MethodName := (jm mi).1
abbrev jB (mi : Nat) : ByteArray := (jm mi).2.1
abbrev jR (mi : Nat) : Option FieldType := (jm mi).2.2.1
abbrev jP (mi : Nat) : Nat := (jm mi).2.2.2.1
abbrev jS (mi : Nat) : Bool := (jm mi).2.2.2.2
def mt (mi : Nat) : Ops × List Nat × Nat := mtab.getD mi ([], [], 0)
abbrev jN (mi : Nat) : Nat := (mt mi).2.2
def jT (mi : Nat) : List Nat := (mt mi).2.1.filter (fun t => t != 99)
def inG (i : Nat) (w : Cond) : Bool := decide (lw_tbl[i]? = some w) && goodWord w
theorem inG_mem {i : Nat} {w : Cond} (h : inG i w = true) : w ∈ lw_g := by
  unfold inG at h
  rw [Bool.and_eq_true, decide_eq_true_eq] at h
  exact List.mem_filter.mpr ⟨List.mem_of_getElem? h.1, h.2⟩
def rmd (d : Nat) : Room := { frames := d + 8, cells := 0, slots := 0, locals := 300 + 60 * d }
/-- what the tables say of a method, and what its calls need -/
def mck (mi : Nat) : Bool := let p := jpos.getD mi []; let y := jY mi
  inG (p.getD 0 0) (.code y (jB mi) (jN mi) (jR mi)) && inG (p.getD 1 0) (.initialized y.cls) && decide (jN mi ≤ 30) && (jT mi).all (fun t => t != 7) && (jP mi != 7) && plainName y.cls && decide (y.cls ≠ "java/lang/invoke/MethodHandle" ∧ y.cls ≠ "java/lang/invoke/VarHandle") &&
  (if jS mi then inG (p.getD 2 0) (.static y) && decide ((parseMethodDescriptor y.desc).map (fun d => d.parameters.length) = some (jT mi).length)
   else inG (p.getD 2 0) (.instanceMethod y) && inG (p.getD 3 0) (.selects y.cls y y) && decide ((parseMethodDescriptor y.desc).map (fun d => d.parameters.length) = some ((jT mi).length - 1)) && decide (10 ≤ (jT mi).headD 0) && decide ((jT mi).headD 0 < 22) && (clN ((jT mi).headD 0 - 10) == y.cls))
def Pm (G : WG) (A : Nat → Prop) (ts : List Nat) (as : List Int) (s : Mem) : Array Value → State → Prop := va_Pc (stkB G ts as) (fun U => Wf G A U U.heap ∧ va_P (gD G) classes (wld G s) U.heap ∧ va_D A (wld G s))
def Qm (G : WG) (A : Nat → Prop) (ρ : Nat) (r : Int) (t : Mem) : Array Value → State → Outcome → State → Prop := fun _ st oc t' => oc = .returned (if ρ = 98 then none else some (cv G ρ r)) ∧ va_P (gD G) classes (wld G t) t'.heap ∧ okm t ∧ (ρ ≠ 98 → okv False ρ r) ∧ va_F A st t'
/-- the contract of method mi at depth d -/
def Kt (l : Launch) (A : Nat → Prop) (G : WG) (d mi : Nat) : Prop := ∀ (as : List Int) (s : Mem) (r : Int) (t : Mem), sem d mi as s = some (r, t) → okl False (jT mi) as → okm s → Met l (jY mi) (.code (jY mi) (jB mi) (jN mi) (jR mi) :: lw_g) (rmd d) (Pm G A (jT mi) as s) (Qm G A (jP mi) r t) 0 0 A
theorem Wf.same {G : WG} {A : Nat → Prop} {u U : State} {H : Heap} (hv : U.vm = u.vm) (h : Wf G A u H) : Wf G A U H := by
  have ha : u.vm.Alike U.vm := by rw [hv]; exact Vm.Alike.refl _
  exact ⟨va_K.moved ha h.1, va_Z.moved ha h.2.1, va_T.moved ha h.2.2.1, vk_R.same hv h.2.2.2.1, vk_S.moved ha h.2.2.2.2.1, va_Nw.same rfl hv.symm h.2.2.2.2.2.1, va_Z.moved ha h.2.2.2.2.2.2.1, Zq.moved ha h.2.2.2.2.2.2.2⟩
theorem Pm_blind {G : WG} {A : Nat → Prop} {ts : List Nat} {as : List Int} {s : Mem} : FrameBlind (Pm G A ts as s) := by
  intro a U g mk h
  obtain ⟨h1, h2, h3, h4⟩ := h
  exact ⟨h1, Wf.same (u := U) (U := U.calling g mk a) rfl h2, h3, h4⟩
section Sim
variable {p : Program} {l : Launch} {e : Env} {R : Room} {s0 : State} {m : MethodId} {args : Array Value} {below : List Frame} {meth : Method} {c : Code} {Q : State → Prop} {cc : ByteArray} {own : String} {nL : Nat} {A : Nat → Prop} {G : WG} {sc : Prop} {xs : Int → Int} {L : Int} {kc ks : Nat}
theorem o_copy2 (C : Cx p R s0 m args c cc own nL A G sc xs L kc ks) {pc : Nat} {τs τl : List Nat} {st ls : List Int} {s : Mem} {a x d y n : Int} {idx : Nat} (hd : decode cc pc = .ok (.invokestatic idx, 3)) (hc : cats τs ≤ 100) (h1 : Cond.methodLink own idx arraycopyName ∈ lw_g) (hx : 0 ≤ x ∧ 0 ≤ y ∧ 0 ≤ n ∧ x + n ≤ alen a ∧ y + n ≤ alen d) (k : Wd p l e R s0 m args below meth c Q A G nL sc kc ks (pc + 3) τs τl st ls (mcopy s a x d y n)) : Wd p l e R s0 m args below meth c Q A G nL sc kc ks pc (0 :: 0 :: 2 :: 0 :: 2 :: τs) τl (n :: y :: d :: x :: a :: st) ls s := by
  intro hs hl hm H locs lsC hP hD hS hv
  have hr : (2 : Nat) = 2 ∨ (2 : Nat) = 3 ∨ (2 : Nat) = 4 ∨ (10 ≤ (2 : Nat) ∧ (2 : Nat) < 99) := by omega
  obtain ⟨hn, hy, hdd, hxx, haa, hst⟩ := hs
  obtain ⟨a0, a1, a2⟩ := (okvr hr).mp haa
  obtain ⟨d0, d1, d2⟩ := (okvr hr).mp hdd
  obtain ⟨u, rfl⟩ : ∃ u : Nat, a = u := ⟨a.toNat, by omega⟩
  obtain ⟨v, rfl⟩ : ∃ v : Nat, d = v := ⟨d.toNat, by omega⟩
  rw [Int.toNat_natCast] at a2 d2
  have hu : u < 155 := by omega
  have hvv : v < 155 := by omega
  have he := wld_get (G := G) (s := s) hu
  have hf := wld_get (G := G) (s := s) hvv
  rw [ce_2 a2] at he
  rw [ce_2 d2] at hf
  obtain ⟨x1, x2, x3, x4, x5⟩ := hx
  have al1 : alen (u : Int) = lget layLen u := by unfold alen; rw [Int.toNat_natCast]
  have al2 : alen (v : Int) = lget layLen v := by unfold alen; rw [Int.toNat_natCast]
  rw [al1] at x4
  rw [al2] at x5
  have hcr := cats_rest (G := G) hst hc
  have hlo := C.2.2.2.2.1
  have hnf := nfw
  unfold stkB stkB stkB stkB stkB
  rw [cv0, cv0, cvr hr, cv0, cvr hr, Int.toNat_natCast, Int.toNat_natCast]
  have ng : ∀ z : Int, 0 ≤ z → in32 z → ¬ Int32.ofInt z < 0 := fun z h1 h2 => by
    rw [show (0 : Int32) = Int32.ofInt 0 from rfl, i32_lt h2 in32_0]; omega
  refine va_copyi C.1.1 C.1.2.1 (C.1.2.2.1.trans hv.1.symm) C.1.2.2.2.1 (C.1.2.2.2.2 _ h1) (C.1.2.2.2.2 _ copy_nat.1) (C.1.2.2.2.2 _ copy_nat.2.1) (C.1.2.2.2.2 _ copy_nat.2.2) C.2.1.1 hP hD hS u v 0 0 he hf rfl rfl rfl (ng x x1 hxx) (ng y x2 hy) (ng n x3 hn) (by rw [i32_nat x1 hxx, i32_nat x3 hn]; unfold cle; omega) (by rw [i32_nat x2 hy, i32_nat x3 hn]; unfold cle; omega) (fun _ _ => rfl) C.2.2.2.1 (by omega) hd (fun H1 locs1 hP1 hD1 hS1 => ?_)
  rw [i32_nat x1 hxx, i32_nat x2 hy, i32_nat x3 hn] at hP1 hD1
  have e1 : ce G (mcopy s u x v y n) v = (ga G v, .inl (gIn G, cle v, .inl (va_cpy (fun j => Int32.ofInt (s u j)) (fun j => Int32.ofInt (s v j)) x.toNat y.toNat n.toNat))) := by
    rw [ce_2 d2]
    have : (fun j : Nat => Int32.ofInt (mcopy s u x v y n v j)) = va_cpy (fun j => Int32.ofInt (s u j)) (fun j => Int32.ofInt (s v j)) x.toNat y.toNat n.toNat := by
      funext j
      unfold mcopy va_cpy
      rw [if_pos rfl]
      by_cases h : y.toNat ≤ j ∧ j < y.toNat + n.toNat
      · rw [if_pos h, if_pos (by omega)]
        congr 2; omega
      · rw [if_neg h, if_neg (by omega)]
    rw [this]
  rw [← e1, wld_set hvv mcopy_nat] at hP1 hD1
  exact k hst hl (okm_copy hm (fun j i z hz => (okc_2 d2).mpr ((okc_2 a2).mp hz))) H1 locs1 lsC hP1 hD1 hS1 hv
theorem o_copy3 (C : Cx p R s0 m args c cc own nL A G sc xs L kc ks) {pc : Nat} {τs τl : List Nat} {st ls : List Int} {s : Mem} {a x d y n : Int} {idx : Nat} (hd : decode cc pc = .ok (.invokestatic idx, 3)) (hc : cats τs ≤ 100) (h1 : Cond.methodLink own idx arraycopyName ∈ lw_g) (hx : 0 ≤ x ∧ 0 ≤ y ∧ 0 ≤ n ∧ x + n ≤ alen a ∧ y + n ≤ alen d) (k : Wd p l e R s0 m args below meth c Q A G nL sc kc ks (pc + 3) τs τl st ls (mcopy s a x d y n)) : Wd p l e R s0 m args below meth c Q A G nL sc kc ks pc (0 :: 0 :: 3 :: 0 :: 3 :: τs) τl (n :: y :: d :: x :: a :: st) ls s := by
  intro hs hl hm H locs lsC hP hD hS hv
  have hr : (3 : Nat) = 2 ∨ (3 : Nat) = 3 ∨ (3 : Nat) = 4 ∨ (10 ≤ (3 : Nat) ∧ (3 : Nat) < 99) := by omega
  obtain ⟨hn, hy, hdd, hxx, haa, hst⟩ := hs
  obtain ⟨a0, a1, a2⟩ := (okvr hr).mp haa
  obtain ⟨d0, d1, d2⟩ := (okvr hr).mp hdd
  obtain ⟨u, rfl⟩ : ∃ u : Nat, a = u := ⟨a.toNat, by omega⟩
  obtain ⟨v, rfl⟩ : ∃ v : Nat, d = v := ⟨d.toNat, by omega⟩
  rw [Int.toNat_natCast] at a2 d2
  have hu : u < 155 := by omega
  have hvv : v < 155 := by omega
  have he := wld_get (G := G) (s := s) hu
  have hf := wld_get (G := G) (s := s) hvv
  rw [ce_3 a2] at he
  rw [ce_3 d2] at hf
  obtain ⟨x1, x2, x3, x4, x5⟩ := hx
  have al1 : alen (u : Int) = lget layLen u := by unfold alen; rw [Int.toNat_natCast]
  have al2 : alen (v : Int) = lget layLen v := by unfold alen; rw [Int.toNat_natCast]
  rw [al1] at x4
  rw [al2] at x5
  have hcr := cats_rest (G := G) hst hc
  have hlo := C.2.2.2.2.1
  have hnf := nfw
  unfold stkB stkB stkB stkB stkB
  rw [cv0, cv0, cvr hr, cv0, cvr hr, Int.toNat_natCast, Int.toNat_natCast]
  have ng : ∀ z : Int, 0 ≤ z → in32 z → ¬ Int32.ofInt z < 0 := fun z h1 h2 => by
    rw [show (0 : Int32) = Int32.ofInt 0 from rfl, i32_lt h2 in32_0]; omega
  refine va_copyl C.1.1 C.1.2.1 (C.1.2.2.1.trans hv.1.symm) C.1.2.2.2.1 (C.1.2.2.2.2 _ h1) (C.1.2.2.2.2 _ copy_nat.1) (C.1.2.2.2.2 _ copy_nat.2.1) (C.1.2.2.2.2 _ copy_nat.2.2) C.2.1.1 hP hD hS u v 1 1 he hf rfl rfl rfl (ng x x1 hxx) (ng y x2 hy) (ng n x3 hn) (by rw [i32_nat x1 hxx, i32_nat x3 hn]; unfold cle; omega) (by rw [i32_nat x2 hy, i32_nat x3 hn]; unfold cle; omega) (fun _ _ => rfl) C.2.2.2.1 (by omega) hd (fun H1 locs1 hP1 hD1 hS1 => ?_)
  rw [i32_nat x1 hxx, i32_nat x2 hy, i32_nat x3 hn] at hP1 hD1
  have e1 : ce G (mcopy s u x v y n) v = (ga G v, .inl (gJ G, cle v, .inr (.inl (va_cpy (fun j => Int64.ofInt (s u j)) (fun j => Int64.ofInt (s v j)) x.toNat y.toNat n.toNat)))) := by
    rw [ce_3 d2]
    have : (fun j : Nat => Int64.ofInt (mcopy s u x v y n v j)) = va_cpy (fun j => Int64.ofInt (s u j)) (fun j => Int64.ofInt (s v j)) x.toNat y.toNat n.toNat := by
      funext j
      unfold mcopy va_cpy
      rw [if_pos rfl]
      by_cases h : y.toNat ≤ j ∧ j < y.toNat + n.toNat
      · rw [if_pos h, if_pos (by omega)]
        congr 2; omega
      · rw [if_neg h, if_neg (by omega)]
    rw [this]
  rw [← e1, wld_set hvv mcopy_nat] at hP1 hD1
  exact k hst hl (okm_copy hm (fun j i z hz => (okc_3 d2).mpr ((okc_3 a2).mp hz))) H1 locs1 lsC hP1 hD1 hS1 hv
theorem o_tsw (C : Cx p R s0 m args c cc own nL A G sc xs L kc ks) {pc : Nat} {τs τl : List Nat} {st ls : List Int} {s : Mem} {x df lo hi : Int} {of : Array Int} {len tg : Nat} (hd : decode cc pc = .ok (.tableswitch df lo hi of, len)) (hh : hi + 1 = lo + of.toList.length) (ht : swv (tmk pc lo of.toList) ((pc : Int) + df) x = (tg : Int)) (k : Wd p l e R s0 m args below meth c Q A G nL sc kc ks tg τs τl st ls s) : Wd p l e R s0 m args below meth c Q A G nL sc kc ks pc (0 :: τs) τl (x :: st) ls s := by
  intro hs hl hm H locs lsC hP hD hS hv
  have h := k hs.2 hl hm H locs lsC hP hD hS hv
  have hx := i32_to hs.1
  by_cases ho : x < lo ∨ hi < x
  · rw [tmk_out _ _ (by omega)] at ht
    exact lv_tableOut C.1.1 C.1.2.1 (x := Int32.ofInt x) hd (by rw [hx]; exact ho) ht h
  · have hlt : (x - lo).toNat < of.toList.length := by omega
    have hg : of.toList[(x - lo).toNat]? = some (of.toList[(x - lo).toNat]) := List.getElem?_eq_getElem hlt
    rw [tmk_in _ _ _ (by omega) hg] at ht
    exact lv_tableIn C.1.1 C.1.2.1 (x := Int32.ofInt x) hd (by rw [hx]; omega) (by rw [hx]; omega) (by rw [hx, ← Array.getElem?_toList]; exact hg) ht h
theorem o_lsw (C : Cx p R s0 m args c cc own nL A G sc xs L kc ks) {pc : Nat} {τs τl : List Nat} {st ls : List Int} {s : Mem} {x df : Int} {ps : Array (Int × Int)} {len tg : Nat} (hd : decode cc pc = .ok (.lookupswitch df ps, len)) (hp : (ps.toList.zip (ps.toList.drop 1)).all (fun (a, next) => a.1 < next.1) = true) (ht : swv (lmk pc ps.toList) ((pc : Int) + df) x = (tg : Int)) (k : Wd p l e R s0 m args below meth c Q A G nL sc kc ks tg τs τl st ls s) : Wd p l e R s0 m args below meth c Q A G nL sc kc ks pc (0 :: τs) τl (x :: st) ls s := by
  intro hs hl hm H locs lsC hP hD hS hv
  have h := k hs.2 hl hm H locs lsC hP hD hS hv
  rw [lmk_off] at ht
  exact lv_lookup C.1.1 C.1.2.1 (x := Int32.ofInt x) hd hp rfl (by rw [i32_to hs.1]; exact ht) h
theorem call_go {ρ : Nat} {r : Int} {t : Mem} {a : Array Value} {H : Heap} {locs : List Loc} {lsC : Array Slot} {pc : Nat} {st0 rest : List Value} (hr : va_Run p l e R s0 m args below meth c H locs kc ks 0 0 (F0 m pc lsC st0) rest (Qm G A ρ r t a) A) (hS : va_S A s0.heap H locs)
    (kk : ∀ (H1 : Heap) (locs1 : List Loc), va_P (gD G) classes (wld G t) H1 → okm t → (ρ ≠ 98 → okv False ρ r) → va_S A s0.heap H1 locs1 → W p l e R s0 m args below meth c H1 locs1 kc ks Q (F0 m (pc + 3) lsC ((if ρ = 98 then [] else [cv G ρ r]) ++ rest))) : W p l e R s0 m args below meth c H locs kc ks Q (F0 m pc lsC st0) := by
  intro T hT X
  obtain ⟨v, st₀, t', T', L', h0, X', hL, e1, e2, ⟨hv, hp, hm, hb, hz, hk⟩, st⟩ := hr T hT X
  rw [h0] at hz hk
  have hv : v = (if ρ = 98 then none else some (cv G ρ r)) := by injection hv
  obtain ⟨t2, a1, b1⟩ := kk T'.heap (locs ++ L') (by rw [e1]; exact hp) hm hb
    ⟨Nat.le_trans hS.1 (by rw [e1]; exact hz), fun q h1 h2 => by rw [e1, hk q (Nat.lt_of_lt_of_le h1 hS.1) h2]; exact hS.2.1 q h1 h2, fun q hq => by
      rcases List.mem_append.mp hq with h | h
      · exact hS.2.2 q h
      · exact hL q h⟩ T' rfl X'
  refine ⟨t2, st t2 ?_, b1⟩
  rw [hv]
  by_cases h98 : ρ = 98
  · rw [if_pos h98] at a1 ⊢; exact a1
  · rw [if_neg h98] at a1 ⊢; exact a1
theorem call_back {ρ : Nat} {r : Int} {t s : Mem} {τs τl : List Nat} {st ls : List Int} {pc : Nat} {H : Heap} {locs : List Loc} {lsC : Array Slot} {st0 : List Value} {a : Array Value} (h7 : ρ ≠ 7) (hs : okl sc τs st) (hl : okl sc τl ls) (hD : va_D A (wld G s)) (hS : va_S A s0.heap H locs) (hv : lv_has lsC nL (lvL G 0 τl ls)) (k : Wd p l e R s0 m args below meth c Q A G nL sc kc ks (pc + 3) ((if ρ = 98 then [] else [ρ]) ++ τs) τl ((if ρ = 98 then [] else [r]) ++ st) ls t)
    (hr : va_Run p l e R s0 m args below meth c H locs kc ks 0 0 (F0 m pc lsC st0) (stkB G τs st) (Qm G A ρ r t a) A) : W p l e R s0 m args below meth c H locs kc ks Q (F0 m pc lsC st0) := by
  refine call_go hr hS (fun H1 locs1 hP1 hm1 hb1 hS1 => ?_)
  by_cases h98 : ρ = 98
  · rw [if_pos h98, if_pos h98] at k
    rw [if_pos h98]
    exact k hs hl hm1 H1 locs1 lsC hP1 (va_D_wld hD) hS1 hv
  · rw [if_neg h98, if_neg h98] at k
    rw [if_neg h98]
    exact k ⟨okv_sc h7 (hb1 h98), hs⟩ hl hm1 H1 locs1 lsC hP1 (va_D_wld hD) hS1 hv
theorem o_callS (C : Cx p R s0 m args c cc own nL A G sc xs L kc ks) {pc : Nat} {τs τl : List Nat} {st ls : List Int} {s : Mem} {d mi idx : Nat} {as : List Int} {r : Int} {t : Mem} (hK : Kt l A G d mi) (hR : d + 9 ≤ R.frames ∧ 360 + 60 * d ≤ R.locals) (hM : mck mi = true) (hcs : sem d mi as s = some (r, t)) (hT : okl sc (jT mi) as) (hc : cats τs ≤ 8) (hst : jS mi = true) (hd : decode cc pc = .ok (.invokestatic idx, 3)) (hlink : Cond.methodLink own idx (jY mi) ∈ lw_g) (k : Wd p l e R s0 m args below meth c Q A G nL sc kc ks (pc + 3) ((if jP mi = 98 then [] else [jP mi]) ++ τs) τl ((if jP mi = 98 then [] else [r]) ++ st) ls t) : Wd p l e R s0 m args below meth c Q A G nL sc kc ks pc ((jT mi).reverse ++ τs) τl (as.reverse ++ st) ls s := by
  have hM0 := hM
  unfold mck at hM
  simp only [Bool.and_eq_true, decide_eq_true_eq] at hM
  obtain ⟨⟨⟨⟨⟨⟨⟨m1, m2⟩, m3⟩, m4⟩, m5⟩, m6⟩, m7⟩, m8⟩ := hM
  have hTF : okl False (jT mi) as := okl_sc _ _ m4 hT
  have hMet := hK as s r t hcs hTF
  rw [hst, if_pos rfl, Bool.and_eq_true, decide_eq_true_eq] at m8
  obtain ⟨e1, e2⟩ := stk_rev (G := G) _ _ hT
  intro hs hl hm H locs lsC hP hD hS hv
  obtain ⟨hsa, hsb⟩ := okl_split (jT mi).length _ _ _ (by rw [List.length_reverse]) hs
  have hlen := okl_len _ _ hT
  rw [hlen, List.drop_append_of_le_length (by rw [List.length_reverse]; exact Nat.le_refl _), List.drop_eq_nil_of_le (by rw [List.length_reverse]; exact Nat.le_refl _), List.nil_append] at hsb
  rw [stk_app _ _ e2, e1]
  have hcr : ((stkB G τs st).map fun v => v.category).sum ≤ 8 := by rw [stk_cats _ _ hsb]; exact hc
  refine call_back (by simpa using m5) hsb hl hD hS hv k (va_runS (nL := nL) C.1 (hMet hm) (va_cwS (jT mi).length C.1.2.2.2.2 (goodIn_g ?_) rfl rfl rfl ⟨m7.1, m7.2, m8.2⟩ ⟨by show d + 8 + 1 ≤ _; omega, by show 8 + (jN mi + 11) + (300 + 60 * d) ≤ _; omega⟩) ⟨Pm_blind, fun U hU hW => ⟨rfl, ?_, ?_, hD⟩⟩ rfl (stk_len _ _ hT) hv.1 rfl (by simpa using hcr) hd ⟨C.2.2.2.2.2.1, C.2.2.2.2.2.2⟩)
  · intro w hw
    unfold va_wsS at hw
    simp only [List.cons_append, List.nil_append, List.mem_cons] at hw
    rcases hw with rfl | rfl | rfl | rfl | hw
    · exact hlink
    · exact inG_mem m8.1
    · exact inG_mem m2
    · exact inG_mem m1
    · exact hw
  · rw [hU]; exact (Wf.kept C.2.1 hS.2.1).warm hW
  · rw [hU]; exact hP
theorem o_callV (C : Cx p R s0 m args c cc own nL A G sc xs L kc ks) {pc : Nat} {τs τl : List Nat} {st ls : List Int} {s : Mem} {d mi idx : Nat} {as : List Int} {r : Int} {t : Mem} (hK : Kt l A G d mi) (hR : d + 9 ≤ R.frames ∧ 360 + 60 * d ≤ R.locals) (hM : mck mi = true) (hcs : sem d mi as s = some (r, t)) (hT : okl sc (jT mi) as) (hc : cats τs ≤ 8) (hst : jS mi = false) (hd : decode cc pc = .ok (.invokevirtual idx, 3)) (hlink : Cond.methodLink own idx (jY mi) ∈ lw_g) (k : Wd p l e R s0 m args below meth c Q A G nL sc kc ks (pc + 3) ((if jP mi = 98 then [] else [jP mi]) ++ τs) τl ((if jP mi = 98 then [] else [r]) ++ st) ls t) : Wd p l e R s0 m args below meth c Q A G nL sc kc ks pc ((jT mi).reverse ++ τs) τl (as.reverse ++ st) ls s := by
  have hM0 := hM
  unfold mck at hM
  simp only [Bool.and_eq_true, decide_eq_true_eq] at hM
  obtain ⟨⟨⟨⟨⟨⟨⟨m1, m2⟩, m3⟩, m4⟩, m5⟩, m6⟩, m7⟩, m8⟩ := hM
  have hTF : okl False (jT mi) as := okl_sc _ _ m4 hT
  have hMet := hK as s r t hcs hTF
  rw [hst, if_neg (by decide)] at m8
  simp only [Bool.and_eq_true, decide_eq_true_eq, beq_iff_eq] at m8
  obtain ⟨⟨⟨⟨⟨n1, n2⟩, n3⟩, n4⟩, n5⟩, n6⟩ := m8
  obtain ⟨e1, e2⟩ := stk_rev (G := G) _ _ hT
  intro hs hl hm H locs lsC hP hD hS hv
  obtain ⟨hsa, hsb⟩ := okl_split (jT mi).length _ _ _ (by rw [List.length_reverse]) hs
  have hlen := okl_len _ _ hT
  rw [hlen, List.drop_append_of_le_length (by rw [List.length_reverse]; exact Nat.le_refl _), List.drop_eq_nil_of_le (by rw [List.length_reverse]; exact Nat.le_refl _), List.nil_append] at hsb
  rw [stk_app _ _ e2, e1]
  have hcr : ((stkB G τs st).map fun v => v.category).sum ≤ 8 := by rw [stk_cats _ _ hsb]; exact hc
  have hMe := hMet hm
  cases hjt : jT mi with
  | nil => rw [hjt] at n4; simp at n4
  | cons t0 ts =>
    cases has : as with
    | nil => rw [hjt, has] at hT; exact hT.elim
    | cons a0 as' =>
      rw [hjt] at n3 n4 n5 n6 hMe hT
      rw [has] at hT hMe
      simp only [List.headD_cons] at n4 n5 n6
      have hr : t0 = 2 ∨ t0 = 3 ∨ t0 = 4 ∨ (10 ≤ t0 ∧ t0 < 99) := by omega
      obtain ⟨h0, h1, h2⟩ := (okvr hr).mp hT.1
      obtain ⟨q, rfl⟩ : ∃ q : Nat, a0 = q := ⟨a0.toNat, by omega⟩
      rw [Int.toNat_natCast] at h2
      have hq : q < 155 := by omega
      have he : (wld G s)[q]? = some (ga G q, .inr (t0 - 10, fvl G s q 0 (fkt.getD (t0 - 10) []))) := by rw [wld_get hq, ce_obj (c := t0 - 10) (by omega)]
      have hrec := va_recv C.2.1.1 hP (cls_at (t0 - 10) (by omega)) he
      have hstk : stkB G (t0 :: ts) ((q : Int) :: as') = .ref (ga G q) :: stkB G ts as' := by
        show cv G t0 q :: _ = _
        rw [cvr hr, Int.toNat_natCast]
      refine call_back (by simpa using m5) hsb hl hD hS hv k (va_runV (nL := nL) (bytes := jB mi) (maxL := jN mi) (ret := jR mi)  (b := ga G q) (As := stkB G ts as') (C := clN (t0 - 10)) C.1 hMe ?_ ⟨Pm_blind, hrec, fun U hU hW => ⟨by rw [hstk], ?_, ?_, hD⟩⟩ rfl (stk_len _ _ hT.2) hv.1 ?_ (by simpa using hcr) hd ⟨C.2.2.2.2.2.1, C.2.2.2.2.2.2⟩)
      · refine cwV ts.length C.1.2.2.2.2 (goodIn_g ?_) rfl rfl rfl ⟨n6.symm, m7.1, m7.2, by simpa using n3⟩ ⟨by show d + 8 + 1 ≤ _; omega, by show 8 + (jN mi + 11) + (300 + 60 * d) ≤ _; omega⟩
        intro w hw
        unfold wsV at hw
        simp only [List.cons_append, List.nil_append, List.mem_cons] at hw
        rw [n6] at hw
        rcases hw with rfl | rfl | rfl | rfl | rfl | hw
        · exact hlink
        · exact inG_mem n1
        · exact inG_mem n2
        · exact inG_mem m2
        · exact inG_mem m1
        · exact hw
      · rw [hU]; exact (Wf.kept C.2.1 hS.2.1).warm hW
      · rw [hU]; exact hP
      · show (stkB G (t0 :: ts) ((q : Int) :: as')).reverse ++ _ = _
        rw [hstk, List.reverse_cons, List.append_assoc]; rfl
theorem o_callN (C : Cx p R s0 m args c cc own nL A G sc xs L kc ks) {pc : Nat} {τs τl : List Nat} {st ls : List Int} {s : Mem} {d mi idx : Nat} {as : List Int} {r : Int} {t : Mem} (hK : Kt l A G d mi) (hR : d + 9 ≤ R.frames ∧ 360 + 60 * d ≤ R.locals) (hM : mck mi = true) (hcs : sem d mi as s = some (r, t)) (hT : okl sc (jT mi) as) (hc : cats τs ≤ 8) (hst : jS mi = false) (hd : decode cc pc = .ok (.invokevirtual idx, 3)) (hidx : own = "MurmurHall" ∧ idx = 387) (hy : jY mi = ⟨"MurmurHall$Hall", "weightOfAtLeast", "(IIII)J"⟩) (k : Wd p l e R s0 m args below meth c Q A G nL sc kc ks (pc + 3) ((if jP mi = 98 then [] else [jP mi]) ++ τs) τl ((if jP mi = 98 then [] else [r]) ++ st) ls t) : Wd p l e R s0 m args below meth c Q A G nL sc kc ks pc ((jT mi).reverse ++ τs) τl (as.reverse ++ st) ls s := by
  have hM0 := hM
  unfold mck at hM
  simp only [Bool.and_eq_true, decide_eq_true_eq] at hM
  obtain ⟨⟨⟨⟨⟨⟨⟨m1, m2⟩, m3⟩, m4⟩, m5⟩, m6⟩, m7⟩, m8⟩ := hM
  have hTF : okl False (jT mi) as := okl_sc _ _ m4 hT
  have hMet := hK as s r t hcs hTF
  rw [hst, if_neg (by decide)] at m8
  simp only [Bool.and_eq_true, decide_eq_true_eq, beq_iff_eq] at m8
  obtain ⟨⟨⟨⟨⟨n1, n2⟩, n3⟩, n4⟩, n5⟩, n6⟩ := m8
  obtain ⟨e1, e2⟩ := stk_rev (G := G) _ _ hT
  intro hs hl hm H locs lsC hP hD hS hv
  obtain ⟨hsa, hsb⟩ := okl_split (jT mi).length _ _ _ (by rw [List.length_reverse]) hs
  have hlen := okl_len _ _ hT
  rw [hlen, List.drop_append_of_le_length (by rw [List.length_reverse]; exact Nat.le_refl _), List.drop_eq_nil_of_le (by rw [List.length_reverse]; exact Nat.le_refl _), List.nil_append] at hsb
  rw [stk_app _ _ e2, e1]
  have hcr : ((stkB G τs st).map fun v => v.category).sum ≤ 8 := by rw [stk_cats _ _ hsb]; exact hc
  have hMe := hMet hm
  cases hjt : jT mi with
  | nil => rw [hjt] at n4; simp at n4
  | cons t0 ts =>
    cases has : as with
    | nil => rw [hjt, has] at hT; exact hT.elim
    | cons a0 as' =>
      rw [hjt] at n3 n4 n5 n6 hMe hT
      rw [has] at hT hMe
      simp only [List.headD_cons] at n4 n5 n6
      have hr : t0 = 2 ∨ t0 = 3 ∨ t0 = 4 ∨ (10 ≤ t0 ∧ t0 < 99) := by omega
      obtain ⟨h0, h1, h2⟩ := (okvr hr).mp hT.1
      obtain ⟨q, rfl⟩ : ∃ q : Nat, a0 = q := ⟨a0.toNat, by omega⟩
      rw [Int.toNat_natCast] at h2
      have hq : q < 155 := by omega
      have he : (wld G s)[q]? = some (ga G q, .inr (t0 - 10, fvl G s q 0 (fkt.getD (t0 - 10) []))) := by rw [wld_get hq, ce_obj (c := t0 - 10) (by omega)]
      have hrec := va_recv C.2.1.1 hP (cls_at (t0 - 10) (by omega)) he
      have hstk : stkB G (t0 :: ts) ((q : Int) :: as') = .ref (ga G q) :: stkB G ts as' := by
        show cv G t0 q :: _ = _
        rw [cvr hr, Int.toNat_natCast]
      refine call_back (by simpa using m5) hsb hl hD hS hv k (va_runVN (nL := nL) (bytes := jB mi) (maxL := jN mi) (ret := jR mi) (host := "MurmurHall") (b := ga G q) (As := stkB G ts as') (C := clN (t0 - 10)) C.1 hMe ?_ ⟨Pm_blind, hrec, fun U hU hW => ⟨by rw [hstk], ?_, ?_, hD⟩⟩ rfl (stk_len _ _ hT.2) hv.1 ?_ (by simpa using hcr) hd ⟨C.2.2.2.2.2.1, C.2.2.2.2.2.2⟩)
      · refine ⟨va_cnB (host := "MurmurHall") ts.length C.1.2.2.2.2 (goodIn_g ?_) rfl rfl rfl ?_ (C.1.2.2.2.2 _ (inG_mem m2)) ⟨m7.1, m7.2, by simpa using n3⟩ ⟨by show d + 8 + 1 ≤ _; omega, by show 8 + (jN mi + 11) + (300 + 60 * d) ≤ _; omega⟩, C.1.2.2.2.2 _ (inG_mem n1), by rw [n6]; exact C.1.2.2.2.2 _ (inG_mem n2)⟩
        · intro w hw
          rcases List.mem_cons.mp hw with rfl | hw
          · exact inG_mem m1
          · exact hw
        · rw [hidx.1, hidx.2, hy]; exact C.2.1.2.2.2.2.2.1
      · rw [hU]; exact (Wf.kept C.2.1 hS.2.1).warm hW
      · rw [hU]; exact hP
      · show (stkB G (t0 :: ts) ((q : Int) :: as')).reverse ++ _ = _
        rw [hstk, List.reverse_cons, List.append_assoc]; rfl
end Sim
