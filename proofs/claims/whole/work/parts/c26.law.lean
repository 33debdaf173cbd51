/-! ===== the law: from its entry to the abstract machine (wip/gen/mk26.py; its head is the skeleton's) ===== -/
def R_law : String := "MurmurHallLaw"
def lw_P (b : Addr) (xs : List Int32) (args : Array Value) (s : State) : Prop := args = #[.ref b] ∧ s.IntsAt b xs ∧ xs.length ≤ 384 ∧ (Jvm.Cond.and given_1 narrow_1).before args s = true
def lw_Q (_ : Array Value) (s : State) (o : Outcome) (t : State) : Prop := o = .returned (some (.int 1)) ∧ Framed s o t [] 600000 7302250
def lw_Z (below : List Frame) (a : Array Value) (s : State) : State → Prop := fun t => ∃ o, t.status = .running ∧ Ended t below o ∧ lw_Q a s o t
/-- the law's own end, with 1 on the stack, nothing written that was there before, its room as the claim has it -/
theorem lw_ret {p : Program} {l : Launch} {e : Env} {s : State} {m : MethodId} {below : List Frame} {meth : Method} {c : Code} {b : Nat} (hx : p.tables.exec = Jvm.exec) (hb : c.code = code) (hr : meth.sig.returnType = ret) (hlocks : meth.locks = false) {pc : Nat} {H : Heap} {ls : Array Slot} (hdg : decode code pc = .ok (.ireturn, 1)) : W p l e room_1 s m #[Value.ref b] below meth c H [] 600000 7302250 (lw_Z below #[Value.ref b] s) (F0 m pc ls [.int 1]) := by
  intro T hT X
  obtain ⟨fs, hret, hrun, hended, hW, hframe⟩ := X.leave (v := some (.int 1)) (hlocks := hlocks) (fun h => by rw [hr] at h; cases h)
  have hmeth' : T.vm.method? m = some meth := X.method'
  refine ⟨T.setFrames fs, ?_, .returned (some (.int 1)), hrun, hended, rfl, ⟨_, rfl⟩, hW, hframe⟩
  jvm_step X.here [X.here.top, hx, hb, hdg, hmeth', hr, ret, narrow_b1]
  (try refine ⟨rfl, ?_⟩); (try refine ⟨rfl, ?_⟩)
  first | (intro acts; rw [hret _ acts rfl rfl rfl]) | rw [hret _ _ rfl rfl rfl]
  exact Steps.refl _
/-- what holds at the law's entry: the machine, the code, the tables' words (any of lw_tbl by 'hts w (by decide +kernel)'), the script of L ints xs at the cell b, what the Statement gives of the start (any of its parts by flat_of_before) -/
def lw_At (p : Program) (s : State) (m : MethodId) (meth : Method) (c : Code) (b L : Nat) (xs : Nat → Int32) : Prop :=
  p.tables.exec = Jvm.exec ∧ c.code = code ∧ meth.sig.returnType = ret ∧ c.maxLocals = 4 ∧ s.vm.findClass R_law = some m.cls ∧ (∀ w ∈ lw_tbl, w.before #[Value.ref b] s = true) ∧ va_X b L xs s s.heap ∧ b < s.heap.size ∧ meth.locks = false ∧ (Jvm.Cond.and given_1 narrow_1).before #[Value.ref b] s = true
theorem ld_0 : decode code 0 = .ok (.new 7, 3) := by decide +kernel
theorem ld_3 : decode code 3 = .ok (.dup, 1) := by decide +kernel
theorem ld_4 : decode code 4 = .ok (.invokespecial 9, 3) := by decide +kernel
theorem ld_7 : decode code 7 = .ok (.astore_n 1, 1) := by decide +kernel
theorem ld_8 : decode code 8 = .ok (.new 10, 3) := by decide +kernel
theorem ld_11 : decode code 11 = .ok (.dup, 1) := by decide +kernel
theorem ld_12 : decode code 12 = .ok (.invokespecial 12, 3) := by decide +kernel
theorem ld_15 : decode code 15 = .ok (.astore_n 2, 1) := by decide +kernel
theorem ll_M : Cond.methodLink "MurmurHallLaw" 9 ny_M ∈ lw_g := inG_mem (i := 182) (by decide +kernel)
theorem ll_R : Cond.methodLink "MurmurHallLaw" 12 ny_R ∈ lw_g := inG_mem (i := 1600) (by decide +kernel)
theorem lc_M : Cond.classLink "MurmurHallLaw" 7 RX10 ∈ lw_g := by decide +kernel
theorem lc_R : Cond.classLink "MurmurHallLaw" 10 RX11 ∈ lw_g := by decide +kernel
theorem inst_ck : ∀ c, c < 12 → Cond.instantiable (clN c) (clW c) ∈ lw_g := by decide +kernel
theorem g_tbl {w : Cond} (h : w ∈ lw_g) : w ∈ lw_tbl := (List.mem_filter.mp h).1
theorem nests_tbl : ∀ w ∈ nests, w ∈ lw_tbl := by decide +kernel
theorem wd_mem : ∀ j, j < 21 → Cond.eq (.elem (.static "MurmurHall$Tokens" "WORDS" "[J") (.int (Int32.ofNat j))) (.long (Int64.ofInt (lget words j))) ∈ flatC (Jvm.Cond.and given_1 narrow_1) := by decide +kernel
theorem kb_mem : ∀ j, j < 108 → Cond.eq (.elem (.field (.string "MurmurHallModel" 177) "java/lang/String" "value" "[B") (.int (Int32.ofNat j))) (.int (kBytes.getD j 0)) ∈ flatC (Jvm.Cond.and given_1 narrow_1) := by decide +kernel
set_option maxRecDepth 100000 in
theorem wf_start {s : State} {a : Array Value} (hts : ∀ w ∈ lw_tbl, w.before a s = true) (hgv : (Jvm.Cond.and given_1 narrow_1).before a s = true) (A : Nat → Prop) (hA : ∀ q : Nat, q < s.heap.size → ¬ A q) (b : Nat) : ∃ G : WG, gX G = b ∧ Wf G A s s.heap := by
  have hs := flat_of_before _ hgv
  have hc : ∀ c : Nat, ∃ q : ClassId × (Nat → Nat), c < 12 → u_Kn s (clN c) (clT c) (clW c) q.1 q.2 := by
    intro c
    by_cases h : c < 12
    · obtain ⟨cC, iS, hk⟩ := u_known (C := clN c) (T := clT c) (N := clW c) (n := clW c) hts (fun w hw => g_tbl (cls_ws h w hw)) (hts _ (g_tbl (inst_ck c h)))
      exact ⟨(cC, iS), fun _ => hk⟩
    · obtain ⟨cC, iS, -⟩ := u_known (C := clN 0) (T := clT 0) (N := clW 0) (n := clW 0) hts (fun w hw => g_tbl (cls_ws (c := 0) (by decide) w hw)) (hts _ (g_tbl (inst_ck 0 (by decide))))
      exact ⟨(cC, iS), fun z => absurd z h⟩
  obtain ⟨dq, hdq⟩ := Classical.axiomOfChoice hc
  obtain ⟨cI, kI, compI, hI1, hI2, hI3⟩ := Cond.arrayClass_spec (args := a) (first := s) (o := none) (s := s) (idx := []) (type := .int) (hts _ (g_tbl arr_I))
  obtain ⟨cJ, kJ, compJ, hJ1, hJ2, hJ3⟩ := Cond.arrayClass_spec (args := a) (first := s) (o := none) (s := s) (idx := []) (type := .long) (hts _ (g_tbl arr_J))
  obtain ⟨cB, kB, compB, hB1, hB2, hB3⟩ := Cond.arrayClass_spec (args := a) (first := s) (o := none) (s := s) (idx := []) (type := .byte) (hts _ (g_tbl arr_B))
  obtain ⟨tW, hW1, hW2⟩ := va_Tof (tm := .static "MurmurHall$Tokens" "WORDS" "[J") (ty := .long) (N := 21) (f := fun j => .long (Int64.ofInt (lget words j))) (A := A) (by decide) (hs _ (by decide +kernel)) (va_eqt (z := 21) (hs _ (by decide +kernel))) (fun j hj => va_eqtl (hs _ (wd_mem j hj))) hA
  obtain ⟨adK, adV, hS1, hS2⟩ := vk_Sof (N := 1) (tm := fun _ => .string "MurmurHallModel" 177) (len := [108]) (byt := [kBytes]) (A := A) (args := a) (s := s) (fun i hi => by
    have : i = 0 := by omega
    subst this; decide) (fun i hi => hs _ (by decide +kernel)) (fun i hi => hs _ (by decide +kernel)) (fun i hi => hs _ (by decide +kernel)) (fun i hi => by
    have : i = 0 := by omega
    subst this; exact hs _ (by decide +kernel)) (fun i hi j hj => by
    have : i = 0 := by omega
    subst this; exact hs _ (kb_mem j hj)) (fun i j hi hj h => absurd (by omega) h) hA
  have hS3 : vk_S 1 [108] [kBytes] (fun _ => adK 0) (fun _ => adV 0) A s s.heap := ⟨fun i hi => by
    have : i = 0 := by omega
    subst this; exact hS1.1 0 hi, fun i j hi hj _ => by omega⟩
  refine ⟨((fun c => (dq c).1, fun c => (dq c).2), (cI, cJ, cB), fun _ => 0, (adK 0, adV 0, tW, b)), rfl, ⟨?_, ?_⟩, ?_, hW2, ?_, hS3, ?_, ?_, ?_⟩
  · intro c q hq
    have hlt : c < 12 := (List.getElem?_eq_some_iff.mp hq).1
    have := cls_at c hlt
    rw [this] at hq
    cases hq
    exact hdq c hlt
  · intro k q hq
    match k, hq with
    | 0, hq => cases hq; exact ⟨fun n z => ⟨fun k h => (by cases h), kI, hI2, compI, hI3⟩, hI1⟩
    | 1, hq => cases hq; exact ⟨fun n z => ⟨fun k h => (by cases h), kJ, hJ2, compJ, hJ3⟩, hJ1⟩
    | 2, hq => cases hq; exact ⟨fun n z => ⟨fun k h => (by cases h), kB, hB2, compB, hB3⟩, hB1⟩
    | k + 3, hq => simp [gT] at hq
  · exact va_Zref (hts _ (by decide +kernel)) (hts (.initialized "MurmurHall$Tokens") (by decide +kernel)) hW1 hA
  · exact vk_R.of (hts _ (by decide +kernel)) (hS2 0 (by decide))
  · exact va_Nw.of rfl (hts nest1 (by decide +kernel))
  · exact va_Zof (hts _ (by decide +kernel)) (hts (.initialized "java/lang/String") (by decide +kernel)) (va_eqi (hs _ (by decide +kernel))) hA
  · exact va_Zqof (hts _ (by decide +kernel)) (hts (.initialized "jdk/internal/util/Preconditions") (by decide +kernel)) (hs _ (by decide +kernel)) hA
theorem rt_law {p : Program} {l : Launch} {e : Env} {s : State} {m : MethodId} {below : List Frame} {meth : Method} {c : Code} {b kc ks : Nat} {G : WG} {sc : Prop} {t : Mem} (hx : p.tables.exec = Jvm.exec) (hb : c.code = code) (hr : meth.sig.returnType = ret) (hlocks : meth.locks = false) (h1 : kc ≤ 600000) (h2 : ks ≤ 7302250) : Rt p l e room_1 s m #[Value.ref b] below meth c (lw_Z below #[Value.ref b] s) (fun q => s.heap.size ≤ q) G sc code 0 (some .boolean) 1 t kc ks := by
  intro pc H locs lsC hd hP hD hS hm hv hbo
  refine va_forget (fun q hq => hS.2.2 q hq) ?_
  refine W.widen (k := 600000) (n := 7302250) h1 h2 ?_
  exact lw_ret hx hb hr hlocks hd
set_option maxHeartbeats 8000000 in
set_option maxRecDepth 100000 in
theorem law_start {p : Program} {e : Env} {s : State} {m : MethodId} {below : List Frame} {meth : Method} {c : Code} (l : Launch) {b L : Nat} {xs : Nat → Int32} (hL : L ≤ 384) (C0 : lw_At p s m meth c b L xs) (d : Nat) (hd : d ≤ 1000) (hkt : ∀ (A : Nat → Prop) (G : WG) (mi : Nat), mi < nM → Kt l A G d mi) (hM : ∀ mi, mi < nM → mck mi = true) (hmi : 212 < nM) (x : Xt) (hxl : xck "MurmurHallLaw" code 4 0 (some .boolean) x o_law = true) (hen : entO (xent x) 16 = some ([], [7, 20, 21, 99])) (r1 : Int) (s1 t : Mem) (hpl : sem d 212 [137, 0] sI = some (r1, s1)) (n : Nat) (hst : steps (sem d) (fun j => (xs j.toNat).toInt) (L : Int) o_law n 16 [] [0, 0, 137, 0] s1 = some (1, t)) : W p l e room_1 s m #[Value.ref b] below meth c s.heap [] 0 0 (lw_Z below #[Value.ref b] s) (entryFrame m ([Value.ref b] : List Value).toArray 4) := by
  obtain ⟨hx, hb, hr, hml, hown, hts, hX, hbl, hlocks, hgv⟩ := id C0
  have hA : ∀ q : Nat, s.heap.size ≤ q → (fun q : Nat => s.heap.size ≤ q) q := fun _ h => h
  have hbA : ¬ (fun q : Nat => s.heap.size ≤ q) b := Nat.not_le.mpr hbl
  obtain ⟨G, hGX, hWf⟩ := wf_start hts hgv (fun q : Nat => s.heap.size ≤ q) (fun q h => Nat.not_le.mpr h) b
  have hN : Nst s := fun w hw => by
    have h1 := hts w (nests_tbl w hw)
    obtain ⟨a, i, y, z, e⟩ := nest_kind hw
    subst e
    exact va_Nw.of rfl h1
  have C : CallFix p m c code 4 s #[Value.ref b] lw_g "MurmurHallLaw" := ⟨hx, hb, hml, hown, fun w hw => hts w (g_tbl hw)⟩
  have hK : va_K (gD G) classes (gT G) s := hWf.1
  have hS : va_S (fun q : Nat => s.heap.size ≤ q) s.heap s.heap [] := va_S.rf
  have hP : va_P (gD G) classes [] s.heap := fun k q h => by simp at h
  have hD : va_D (fun q : Nat => s.heap.size ≤ q) [] := ⟨fun i j p q h => by simp at h, fun k q h => by simp at h⟩
  have hl := lv_entry ([.ref b]) (n := 4) (Nat.le_of_ble_eq_true rfl)
  rw [lg_entry_eq]
  generalize (lg_sl ([.ref b]) ++ List.replicate (4 - (lg_sl ([.ref b])).length) Slot.unset).toArray = ls at hl ⊢
  have hl : lv_has ls 4 [(0, .ref b)] := hl
  refine va_new (ci := 10) (fs := [.int (Int32.ofInt 0), .long (Int64.ofInt 0), .long (Int64.ofInt 0), .int (Int32.ofInt 0), .int (Int32.ofInt 0), .null, .null, .null, .null, .null, .null, .null, .null, .null, .null, .null, .null, .null, .null, .null]) (C := RX10) (T := TX10) (N := 20) hx hb C.2.2.2.2 (cls_ws (c := 10) (by decide)) tyX10 tyX10_ok hown (C.2.2.2.2 _ lc_M) (C.2.2.2.2 _ (inst_ck 10 (by decide))) (C.2.2.2.2 _ nw_M_init) hK hP hD hS hA rfl df_10 (by decide) (by decide) ld_0 (fun q0 H hP hD hS => ?_)
  refine lv_dup hx hb ld_3 rfl ?_
  refine n_call (a := []) (idx := 9) (av := []) (rest := [.ref q0]) C hK hN (n_M l G q0 H.size) ⟨rfl, rfl⟩ ⟨⟨ll_M, nw_M_inst⟩, nw_M_init, nw_M_code⟩ nw_M_par (by decide) hP hD hS hA hl.1 (Nat.le_of_ble_eq_true rfl) ld_4 (by decide) (fun w1 H locs hB hP hD hS => ?_)
  obtain ⟨g, hg0, ew⟩ := hB
  subst ew
  refine lv_astore_n (x := q0) hx hb ld_7 rfl hl (by decide) rfl (fun ls hl => ?_)
  have hl : lv_has ls 4 [(1, .ref q0), (0, .ref b)] := hl
  have hP : va_P (gD G) classes (aM G g) H := hP
  have hD : va_D (fun q : Nat => s.heap.size ≤ q) (aM G g) := hD
  refine va_new (ci := 11) (fs := dR) (C := RX11) (T := TX11) (N := 48) hx hb C.2.2.2.2 (cls_ws (c := 11) (by decide)) tyX11 tyX11_ok hown (C.2.2.2.2 _ lc_R) (C.2.2.2.2 _ (inst_ck 11 (by decide))) (C.2.2.2.2 _ (inG_mem (i := 171) (by decide +kernel))) hK hP hD hS hA rfl df_11 (by decide) (by decide) ld_8 (fun h1 H hP hD hS => ?_)
  refine lv_dup hx hb ld_11 rfl ?_
  have run := va_runI (e := e) (below := below) (meth := meth) (R := room_1) (locs := locs) (cells := 138) (slots := 8781) (bytes := prog_13_method_1_code) (maxL := 1) (b := h1) (As := []) (index := 12) C (n_R l (fun q : Nat => s.heap.size ≤ q) G g h1 H.size d r1 s1 (fun q h => Nat.le_trans hS.1 h) (fun G' => hkt _ G' 212 hmi) (hM 212 hmi) hpl) (cwI 0 C.2.2.2.2 (goodIn_g (fun w hw' => by
    rcases List.mem_cons.mp hw' with e | hw'
    · rw [e]; exact nw_R_code
    · exact hw')) rfl rfl rfl (C.2.2.2.2 _ nw_R_init) (C.2.2.2.2 _ ll_R) (C.2.2.2.2 _ nw_R_inst) nw_R_par.1 nw_R_par.2 ⟨by show d + 20 + 1 ≤ 2048; omega, by show 8 + (1 + 11) + (1000 + 60 * d) ≤ 84000; omega⟩) ⟨fun a U g mk q => by
      obtain ⟨q0, q1, q2, q3, q4⟩ := q
      exact ⟨q0, q1, Wf.same (u := U) (U := U.calling g mk a) rfl q2, q3, q4⟩, fun U hU hW => ⟨rfl, by rw [hU], by rw [hU]; exact (Wf.kept hWf hS.2.1).warm hW, by rw [hU]; exact hP, hD⟩⟩ (g := F0 m 12 ls [.ref h1, .ref h1]) (rest := [.ref h1]) rfl rfl hl.1 rfl (lv_room (Nat.le_of_ble_eq_true rfl)) ld_12 (by decide)
  suffices main : ∀ (H : Heap) (locs : List Loc) (g' : Nat → Nat), g' 0 = g 0 → g' 137 = h1 → va_P (gD G) classes (wld (gset G g') s1) H → va_D (fun q : Nat => s.heap.size ≤ q) (wld (gset G g') s1) → okm s1 → va_S (fun q : Nat => s.heap.size ≤ q) s.heap H locs → W p l e room_1 s m #[Value.ref b] below meth c H locs 155 16657 (lw_Z below #[Value.ref b] s) (F0 m 15 ls [.ref h1]) by
    intro T hT X
    obtain ⟨v', st₀, t', T', L', h0, X', hLL, e1, e2, ⟨hv, ⟨g', hg1, hg2, hP1, hD1⟩, hm1, hz, hk⟩, st⟩ := run T hT X
    rw [h0] at hz hk
    have hv : v' = none := by injection hv
    subst hv
    obtain ⟨t2, a1, b1⟩ := main T'.heap (locs ++ L') g' hg1 hg2 (by rw [e1]; exact hP1) hD1 hm1
      ⟨Nat.le_trans hS.1 (by rw [e1]; exact hz), fun z h1 h2 => by rw [e1, hk z (Nat.lt_of_lt_of_le h1 hS.1) h2]; exact hS.2.1 z h1 h2, fun z hz => by
        rcases List.mem_append.mp hz with h | h
        · exact hS.2.2 z h
        · exact hLL z h⟩ T' rfl X'
    exact ⟨t2, st t2 a1, b1⟩
  clear run hP hD hS
  intro H locs g' hg1 hg2 hP hD hm1 hS
  refine lv_astore_n (x := h1) hx hb ld_15 rfl hl (by decide) rfl (fun ls hl => ?_)
  have hl : lv_has ls 4 [(2, .ref h1), (1, .ref q0), (0, .ref b)] := hl
  have hxi : ∀ j : Nat, Int32.ofInt ((xs ((j : Int).toNat)).toInt) = xs j := fun j => by rw [Int.toNat_natCast, Int32.ofInt_toInt]
  have Cl : Cx p room_1 s m #[Value.ref b] c code "MurmurHallLaw" 4 (fun q : Nat => s.heap.size ≤ q) (gset G g') True (fun j => (xs j.toNat).toInt) (L : Int) 155 16657 := ⟨C, hWf, fun _ => ⟨L, rfl, by
      show va_X (gX G) L (fun j => Int32.ofInt ((xs ((j : Int).toNat)).toInt)) s s.heap
      rw [hGX, show (fun j : Nat => Int32.ofInt ((xs ((j : Int).toNat)).toInt)) = xs from funext hxi]; exact hX, by show gX G < _; rw [hGX]; exact hbl, by show ¬ _ ≤ gX G; rw [hGX]; exact hbA, by unfold in32; omega, fun j => i32_in _⟩, by decide, by decide, by decide, by decide⟩
  have wd := sim_steps (e := e) (below := below) (l := l) (A := fun q : Nat => s.heap.size ≤ q) Cl (hkt _ (gset G g')) hM ⟨by show d + 9 ≤ 2048; omega, by show 360 + 60 * d ≤ 84000; omega⟩ (xck_of hxl) (rt_law hx hb hr hlocks (by decide) (by decide)) n [] [0, 0, 137, 0] s1 16 [] [7, 20, 21, 99] hst hen
  refine wd trivial ⟨trivial, (okvr (by omega)).mpr ⟨by omega, by omega, by decide⟩, (okvr (by omega)).mpr ⟨by omega, by omega, by decide⟩, okv99, trivial⟩ hm1 H locs ls hP hD hS (lv_mono hl ?_)
  intro z hz
  have hz : z ∈ [(0, Value.ref (gX G)), (1, Value.ref (g' 0)), (2, Value.ref (g' 137))] := hz
  rw [hGX, hg1, hg2, hg0] at hz
  simp only [List.mem_cons, List.not_mem_nil, or_false] at hz ⊢
  rcases hz with h | h | h
  · exact Or.inr (Or.inr h)
  · exact Or.inr (Or.inl h)
  · exact Or.inl h
