/-! ===== printed by wip/gen/mk23.py: the constructors ===== -/
theorem sorts_eq : upd (upd (upd (upd (fun _ => Int32.ofInt 0) (Int32.ofInt (0)).toNatClampNeg (Int32.ofInt (-1))) (Int32.ofInt (1)).toNatClampNeg (Int32.ofInt (-1))) (Int32.ofInt (2)).toNatClampNeg (Int32.ofInt (-1))) (Int32.ofInt (3)).toNatClampNeg (Int32.ofInt (-1)) = (fun (j : Nat) => Int32.ofInt (if (0 : Int) ≤ (j : Int) ∧ (j : Int) < 4 then -1 else 0)) := by
  funext j
  show (if j = 3 then _ else if j = 2 then _ else if j = 1 then _ else if j = 0 then _ else _) = _
  by_cases h : j < 4
  · rw [if_pos (by omega : (0 : Int) ≤ (j : Int) ∧ (j : Int) < 4)]
    have : j = 0 ∨ j = 1 ∨ j = 2 ∨ j = 3 := by omega
    rcases this with rfl | rfl | rfl | rfl <;> rfl
  · rw [if_neg (by omega), if_neg (by omega), if_neg (by omega), if_neg (by omega), if_neg (by omega)]
theorem df_0 : ∀ j, j < 17 → defaultValue (tyX0 j) = vp_V [.int (Int32.ofInt 0), .int (Int32.ofInt 0), .int (Int32.ofInt 0), .int (Int32.ofInt 0), .null, .int (Int32.ofInt 0), .int (Int32.ofInt 0), .int (Int32.ofInt 0), .int (Int32.ofInt 0), .null, .null, .null, .null, .null, .null, .null, .null] j := by decide +kernel
theorem df_1 : ∀ j, j < 19 → defaultValue (tyX1 j) = vp_V [.int (Int32.ofInt 0), .int (Int32.ofInt 0), .int (Int32.ofInt 0), .int (Int32.ofInt 0), .int (Int32.ofInt 0), .int (Int32.ofInt 0), .int (Int32.ofInt 0), .null, .null, .null, .null, .null, .null, .null, .null, .null, .null, .null, .null] j := by decide +kernel
theorem df_2 : ∀ j, j < 2 → defaultValue (tyX2 j) = vp_V [.null, .int (Int32.ofInt 0)] j := by decide +kernel
theorem df_3 : ∀ j, j < 8 → defaultValue (tyX3 j) = vp_V [.int (Int32.ofInt 0), .int (Int32.ofInt 0), .int (Int32.ofInt 0), .int (Int32.ofInt 0), .int (Int32.ofInt 0), .int (Int32.ofInt 0), .int (Int32.ofInt 0), .null] j := by decide +kernel
theorem df_4 : ∀ j, j < 3 → defaultValue (tyX4 j) = vp_V [.null, .null, .int (Int32.ofInt 0)] j := by decide +kernel
theorem df_5 : ∀ j, j < 12 → defaultValue (tyX5 j) = vp_V [.int (Int32.ofInt 0), .int (Int32.ofInt 0), .int (Int32.ofInt 0), .int (Int32.ofInt 0), .int (Int32.ofInt 0), .int (Int32.ofInt 0), .null, .null, .null, .null, .null, .null] j := by decide +kernel
theorem df_6 : ∀ j, j < 5 → defaultValue (tyX6 j) = vp_V [.null, .null, .null, .null, .null] j := by decide +kernel
theorem df_7 : ∀ j, j < 10 → defaultValue (tyX7 j) = vp_V [.int (Int32.ofInt 0), .int (Int32.ofInt 0), .int (Int32.ofInt 0), .null, .null, .null, .null, .null, .null, .null] j := by decide +kernel
theorem df_8 : ∀ j, j < 10 → defaultValue (tyX8 j) = vp_V [.null, .int (Int32.ofInt 0), .int (Int32.ofInt 0), .int (Int32.ofInt 0), .int (Int32.ofInt 0), .int (Int32.ofInt 0), .int (Int32.ofInt 0), .long (Int64.ofInt 0), .int (Int32.ofInt 0), .int (Int32.ofInt 0)] j := by decide +kernel
theorem df_9 : ∀ j, j < 3 → defaultValue (tyX9 j) = vp_V [.null, .null, .null] j := by decide +kernel
theorem df_10 : ∀ j, j < 20 → defaultValue (tyX10 j) = vp_V [.int (Int32.ofInt 0), .long (Int64.ofInt 0), .long (Int64.ofInt 0), .int (Int32.ofInt 0), .int (Int32.ofInt 0), .null, .null, .null, .null, .null, .null, .null, .null, .null, .null, .null, .null, .null, .null, .null] j := by decide +kernel
theorem df_11 : ∀ j, j < 48 → defaultValue (tyX11 j) = vp_V [.null, .null, .int (Int32.ofInt 0), .long (Int64.ofInt 0), .long (Int64.ofInt 0), .null, .null, .null, .null, .null, .int (Int32.ofInt 0), .int (Int32.ofInt 0), .int (Int32.ofInt 0), .int (Int32.ofInt 0), .int (Int32.ofInt 0), .int (Int32.ofInt 0), .int (Int32.ofInt 0), .int (Int32.ofInt 0), .int (Int32.ofInt 0), .int (Int32.ofInt 0), .int (Int32.ofInt 0), .null, .int (Int32.ofInt 0), .int (Int32.ofInt 0), .null, .null, .int (Int32.ofInt 0), .int (Int32.ofInt 0), .null, .null, .null, .null, .int (Int32.ofInt 0), .int (Int32.ofInt 0), .int (Int32.ofInt 0), .int (Int32.ofInt 0), .int (Int32.ofInt 0), .int (Int32.ofInt 0), .int (Int32.ofInt 0), .int (Int32.ofInt 0), .int (Int32.ofInt 0), .int (Int32.ofInt 0), .int (Int32.ofInt 0), .null, .null, .null, .int (Int32.ofInt 0), .int (Int32.ofInt 0)] j := by decide +kernel
def ny_Trays : MethodName := ⟨RX9, "<init>", "()V"⟩
theorem nw_Trays_code : Cond.code ny_Trays prog_11_method_1_code 1 none ∈ lw_g := inG_mem (i := 192) (by decide +kernel)
theorem nw_Trays_inst : Cond.instanceMethod ny_Trays ∈ lw_g := inG_mem (i := 191) (by decide +kernel)
theorem nw_Trays_init : Cond.initialized RX9 ∈ lw_g := inG_mem (i := 161) (by decide +kernel)
theorem nw_Trays_par : ny_Trays.name = "<init>" ∧ ny_Trays.cls ≠ "java/lang/invoke/MethodHandle" ∧ ny_Trays.cls ≠ "java/lang/invoke/VarHandle" ∧ (parseMethodDescriptor ny_Trays.desc).map (fun d => d.parameters.length) = some 0 := by decide +kernel
theorem nd_Trays_0 : decode prog_11_method_1_code 0 = .ok (.aload_n 0, 1) := by decide +kernel
theorem nd_Trays_1 : decode prog_11_method_1_code 1 = .ok (.invokespecial 3, 3) := by decide +kernel
theorem nd_Trays_4 : decode prog_11_method_1_code 4 = .ok (.aload_n 0, 1) := by decide +kernel
theorem nd_Trays_5 : decode prog_11_method_1_code 5 = .ok (.iconst (4), 1) := by decide +kernel
theorem nd_Trays_6 : decode prog_11_method_1_code 6 = .ok (.newarray .int, 2) := by decide +kernel
theorem nd_Trays_8 : decode prog_11_method_1_code 8 = .ok (.dup, 1) := by decide +kernel
theorem nd_Trays_9 : decode prog_11_method_1_code 9 = .ok (.iconst (0), 1) := by decide +kernel
theorem nd_Trays_10 : decode prog_11_method_1_code 10 = .ok (.iconst (-1), 1) := by decide +kernel
theorem nd_Trays_11 : decode prog_11_method_1_code 11 = .ok (.iastore, 1) := by decide +kernel
theorem nd_Trays_12 : decode prog_11_method_1_code 12 = .ok (.dup, 1) := by decide +kernel
theorem nd_Trays_13 : decode prog_11_method_1_code 13 = .ok (.iconst (1), 1) := by decide +kernel
theorem nd_Trays_14 : decode prog_11_method_1_code 14 = .ok (.iconst (-1), 1) := by decide +kernel
theorem nd_Trays_15 : decode prog_11_method_1_code 15 = .ok (.iastore, 1) := by decide +kernel
theorem nd_Trays_16 : decode prog_11_method_1_code 16 = .ok (.dup, 1) := by decide +kernel
theorem nd_Trays_17 : decode prog_11_method_1_code 17 = .ok (.iconst (2), 1) := by decide +kernel
theorem nd_Trays_18 : decode prog_11_method_1_code 18 = .ok (.iconst (-1), 1) := by decide +kernel
theorem nd_Trays_19 : decode prog_11_method_1_code 19 = .ok (.iastore, 1) := by decide +kernel
theorem nd_Trays_20 : decode prog_11_method_1_code 20 = .ok (.dup, 1) := by decide +kernel
theorem nd_Trays_21 : decode prog_11_method_1_code 21 = .ok (.iconst (3), 1) := by decide +kernel
theorem nd_Trays_22 : decode prog_11_method_1_code 22 = .ok (.iconst (-1), 1) := by decide +kernel
theorem nd_Trays_23 : decode prog_11_method_1_code 23 = .ok (.iastore, 1) := by decide +kernel
theorem nd_Trays_24 : decode prog_11_method_1_code 24 = .ok (.putfield 9, 3) := by decide +kernel
theorem nd_Trays_27 : decode prog_11_method_1_code 27 = .ok (.aload_n 0, 1) := by decide +kernel
theorem nd_Trays_28 : decode prog_11_method_1_code 28 = .ok (.iconst (4), 1) := by decide +kernel
theorem nd_Trays_29 : decode prog_11_method_1_code 29 = .ok (.newarray .int, 2) := by decide +kernel
theorem nd_Trays_31 : decode prog_11_method_1_code 31 = .ok (.putfield 15, 3) := by decide +kernel
theorem nd_Trays_34 : decode prog_11_method_1_code 34 = .ok (.aload_n 0, 1) := by decide +kernel
theorem nd_Trays_35 : decode prog_11_method_1_code 35 = .ok (.sipush (240), 3) := by decide +kernel
theorem nd_Trays_38 : decode prog_11_method_1_code 38 = .ok (.newarray .long, 2) := by decide +kernel
theorem nd_Trays_40 : decode prog_11_method_1_code 40 = .ok (.putfield 18, 3) := by decide +kernel
theorem nd_Trays_43 : decode prog_11_method_1_code 43 = .ok (.return_, 1) := by decide +kernel
theorem nw_Trays_obj : Cond.methodLink RX9 3 Lib.objectInit ∈ lw_g := inG_mem (i := 193) (by decide +kernel)
def nB_Trays (G : WG) (h0 : Nat) (w1 : va_W) : Prop := ∃ q1 q2 q3 : Nat, w1 = [(h0, .inr (9, [.ref q1, .ref q2, .ref q3])), (q1, .inl (gIn G, 4, .inl (fun (j : Nat) => Int32.ofInt (if (0 : Int) ≤ (j : Int) ∧ (j : Int) < 4 then -1 else 0)))), (q2, .inl (gIn G, 4, .inl (fun _ => Int32.ofInt 0))), (q3, .inl (gJ G, 240, .inr (.inl (fun _ => Int64.ofInt 0))))]
set_option maxHeartbeats 4000000 in
set_option maxRecDepth 100000 in
theorem n_Trays (l : Launch) (G : WG) (h0 : Nat) (sz : Nat) : Met l ny_Trays (.code ny_Trays prog_11_method_1_code 1 none :: lw_g) ({ frames := 1, cells := 3, slots := 248, locals := 100 }) (NewP G h0 9 [.null, .null, .null] [] sz) (NewQ G h0 9 [.null, .null, .null] sz (nB_Trays G h0)) 3 248 (va_A [(h0, .inr (9, [.null, .null, .null]))] sz) := by
  refine met_openI (by decide) ?_
  intro p e s m args below meth c C hr hlocks hin hv
  obtain ⟨hargs, hsz, hK, hN, hP, hD0⟩ := hv
  subst hargs hsz
  have hD := hD0.self (sz := s.heap.size)
  generalize hAe : va_A [(h0, .inr (9, [.null, .null, .null]))] s.heap.size = A at hD ⊢
  have hA : ∀ q : Nat, s.heap.size ≤ q → A q := fun q h => by rw [← hAe]; exact Or.inr h
  have hS : va_S A s.heap s.heap [] := va_S.rf
  have hl := lv_entry ([.ref h0]) (n := 1) (Nat.le_of_ble_eq_true rfl)
  rw [lg_entry_eq]
  generalize (lg_sl ([.ref h0]) ++ List.replicate (1 - (lg_sl ([.ref h0])).length) Slot.unset).toArray = ls at hl ⊢
  have hl : lv_has ls 1 [(0, .ref h0)] := hl
  refine lv_aload_n C.1 C.2.1 nd_Trays_0 rfl (lv_at hl 0 rfl) ?_
  refine W.objInit C.1 C.2.1 C.2.2.2.1 (C.2.2.2.2 _ nw_Trays_obj) (C.2.2.2.2 _ obj_inst) (C.2.2.2.2 _ obj_code) rfl (by rw [C.2.2.1]; exact hl.1) rfl nd_Trays_1 (Nat.le_of_ble_eq_true rfl) (Nat.le_of_ble_eq_true rfl) ?_
  refine W.eq (g2 := F0 m 4 ls []) rfl ?_
  refine lv_aload_n C.1 C.2.1 nd_Trays_4 rfl (lv_at hl 0 rfl) ?_
  refine lv_iconst (v := Int32.ofInt (4)) C.1 C.2.1 nd_Trays_5 (by decide) ?_
  refine n_arrI C.1 C.2.1 C.2.2.2.2 hK hP hD hS hA (n := Int32.ofInt 4) (N := 4) (by decide) (by decide) (by decide) (by decide) (by decide) nd_Trays_6 (fun q1 H hP hD hS => ?_)
  have hP : va_P (gD G) classes [(h0, .inr (9, [.null, .null, .null])), (q1, .inl (gIn G, 4, .inl (fun _ => Int32.ofInt 0)))] H := hP
  have hD : va_D A [(h0, .inr (9, [.null, .null, .null])), (q1, .inl (gIn G, 4, .inl (fun _ => Int32.ofInt 0)))] := hD
  refine lv_dup C.1 C.2.1 nd_Trays_8 rfl ?_
  refine lv_iconst (v := Int32.ofInt (0)) C.1 C.2.1 nd_Trays_9 (by decide) ?_
  refine lv_iconst (v := Int32.ofInt (-1)) C.1 C.2.1 nd_Trays_10 (by decide) ?_
  refine va_iast C.1 C.2.1 hK hP hD hS 1 0 rfl rfl (i := Int32.ofInt (0)) (x := Int32.ofInt (-1)) (by unfold vp_in; decide) nd_Trays_11 (fun H locs hP hD hS => ?_)
  have hP : va_P (gD G) classes [(h0, .inr (9, [.null, .null, .null])), (q1, .inl (gIn G, 4, .inl (upd (fun _ => Int32.ofInt 0) (Int32.ofInt (0)).toNatClampNeg (Int32.ofInt (-1)))))] H := hP
  have hD : va_D A [(h0, .inr (9, [.null, .null, .null])), (q1, .inl (gIn G, 4, .inl (upd (fun _ => Int32.ofInt 0) (Int32.ofInt (0)).toNatClampNeg (Int32.ofInt (-1)))))] := hD
  refine lv_dup C.1 C.2.1 nd_Trays_12 rfl ?_
  refine lv_iconst (v := Int32.ofInt (1)) C.1 C.2.1 nd_Trays_13 (by decide) ?_
  refine lv_iconst (v := Int32.ofInt (-1)) C.1 C.2.1 nd_Trays_14 (by decide) ?_
  refine va_iast C.1 C.2.1 hK hP hD hS 1 0 rfl rfl (i := Int32.ofInt (1)) (x := Int32.ofInt (-1)) (by unfold vp_in; decide) nd_Trays_15 (fun H locs hP hD hS => ?_)
  have hP : va_P (gD G) classes [(h0, .inr (9, [.null, .null, .null])), (q1, .inl (gIn G, 4, .inl (upd (upd (fun _ => Int32.ofInt 0) (Int32.ofInt (0)).toNatClampNeg (Int32.ofInt (-1))) (Int32.ofInt (1)).toNatClampNeg (Int32.ofInt (-1)))))] H := hP
  have hD : va_D A [(h0, .inr (9, [.null, .null, .null])), (q1, .inl (gIn G, 4, .inl (upd (upd (fun _ => Int32.ofInt 0) (Int32.ofInt (0)).toNatClampNeg (Int32.ofInt (-1))) (Int32.ofInt (1)).toNatClampNeg (Int32.ofInt (-1)))))] := hD
  refine lv_dup C.1 C.2.1 nd_Trays_16 rfl ?_
  refine lv_iconst (v := Int32.ofInt (2)) C.1 C.2.1 nd_Trays_17 (by decide) ?_
  refine lv_iconst (v := Int32.ofInt (-1)) C.1 C.2.1 nd_Trays_18 (by decide) ?_
  refine va_iast C.1 C.2.1 hK hP hD hS 1 0 rfl rfl (i := Int32.ofInt (2)) (x := Int32.ofInt (-1)) (by unfold vp_in; decide) nd_Trays_19 (fun H locs hP hD hS => ?_)
  have hP : va_P (gD G) classes [(h0, .inr (9, [.null, .null, .null])), (q1, .inl (gIn G, 4, .inl (upd (upd (upd (fun _ => Int32.ofInt 0) (Int32.ofInt (0)).toNatClampNeg (Int32.ofInt (-1))) (Int32.ofInt (1)).toNatClampNeg (Int32.ofInt (-1))) (Int32.ofInt (2)).toNatClampNeg (Int32.ofInt (-1)))))] H := hP
  have hD : va_D A [(h0, .inr (9, [.null, .null, .null])), (q1, .inl (gIn G, 4, .inl (upd (upd (upd (fun _ => Int32.ofInt 0) (Int32.ofInt (0)).toNatClampNeg (Int32.ofInt (-1))) (Int32.ofInt (1)).toNatClampNeg (Int32.ofInt (-1))) (Int32.ofInt (2)).toNatClampNeg (Int32.ofInt (-1)))))] := hD
  refine lv_dup C.1 C.2.1 nd_Trays_20 rfl ?_
  refine lv_iconst (v := Int32.ofInt (3)) C.1 C.2.1 nd_Trays_21 (by decide) ?_
  refine lv_iconst (v := Int32.ofInt (-1)) C.1 C.2.1 nd_Trays_22 (by decide) ?_
  refine va_iast C.1 C.2.1 hK hP hD hS 1 0 rfl rfl (i := Int32.ofInt (3)) (x := Int32.ofInt (-1)) (by unfold vp_in; decide) nd_Trays_23 (fun H locs hP hD hS => ?_)
  have hP : va_P (gD G) classes [(h0, .inr (9, [.null, .null, .null])), (q1, .inl (gIn G, 4, .inl (upd (upd (upd (upd (fun _ => Int32.ofInt 0) (Int32.ofInt (0)).toNatClampNeg (Int32.ofInt (-1))) (Int32.ofInt (1)).toNatClampNeg (Int32.ofInt (-1))) (Int32.ofInt (2)).toNatClampNeg (Int32.ofInt (-1))) (Int32.ofInt (3)).toNatClampNeg (Int32.ofInt (-1)))))] H := hP
  have hD : va_D A [(h0, .inr (9, [.null, .null, .null])), (q1, .inl (gIn G, 4, .inl (upd (upd (upd (upd (fun _ => Int32.ofInt 0) (Int32.ofInt (0)).toNatClampNeg (Int32.ofInt (-1))) (Int32.ofInt (1)).toNatClampNeg (Int32.ofInt (-1))) (Int32.ofInt (2)).toNatClampNeg (Int32.ofInt (-1))) (Int32.ofInt (3)).toNatClampNeg (Int32.ofInt (-1)))))] := hD
  refine va_putF (D := gD G) (ref := RX9) (index := 9) (ci := 9) (v := .ref q1) (ty := .array .int) (C := RX9) (T := TX9) (N := 3) C.1 C.2.1 C.2.2.2.2 (cls_ws (c := 9) (by decide)) tyX9 tyX9_ok nmX9 C.2.2.2.1 hK hP hD hS 0 rfl rfl 0 (by decide) (C.2.2.2.2 _ (inG_mem (i := 194) (by decide +kernel))) (fun _ h => h) rfl hin rfl (by decide +kernel) rfl rfl (Nat.le_of_ble_eq_true rfl) nd_Trays_24 (fun H locs hP hD hS => ?_)
  have hP : va_P (gD G) classes [(h0, .inr (9, [.ref q1, .null, .null])), (q1, .inl (gIn G, 4, .inl (upd (upd (upd (upd (fun _ => Int32.ofInt 0) (Int32.ofInt (0)).toNatClampNeg (Int32.ofInt (-1))) (Int32.ofInt (1)).toNatClampNeg (Int32.ofInt (-1))) (Int32.ofInt (2)).toNatClampNeg (Int32.ofInt (-1))) (Int32.ofInt (3)).toNatClampNeg (Int32.ofInt (-1)))))] H := hP
  have hD : va_D A [(h0, .inr (9, [.ref q1, .null, .null])), (q1, .inl (gIn G, 4, .inl (upd (upd (upd (upd (fun _ => Int32.ofInt 0) (Int32.ofInt (0)).toNatClampNeg (Int32.ofInt (-1))) (Int32.ofInt (1)).toNatClampNeg (Int32.ofInt (-1))) (Int32.ofInt (2)).toNatClampNeg (Int32.ofInt (-1))) (Int32.ofInt (3)).toNatClampNeg (Int32.ofInt (-1)))))] := hD
  refine lv_aload_n C.1 C.2.1 nd_Trays_27 rfl (lv_at hl 0 rfl) ?_
  refine lv_iconst (v := Int32.ofInt (4)) C.1 C.2.1 nd_Trays_28 (by decide) ?_
  refine n_arrI C.1 C.2.1 C.2.2.2.2 hK hP hD hS hA (n := Int32.ofInt 4) (N := 4) (by decide) (by decide) (by decide) (by decide) (by decide) nd_Trays_29 (fun q2 H hP hD hS => ?_)
  have hP : va_P (gD G) classes [(h0, .inr (9, [.ref q1, .null, .null])), (q1, .inl (gIn G, 4, .inl (upd (upd (upd (upd (fun _ => Int32.ofInt 0) (Int32.ofInt (0)).toNatClampNeg (Int32.ofInt (-1))) (Int32.ofInt (1)).toNatClampNeg (Int32.ofInt (-1))) (Int32.ofInt (2)).toNatClampNeg (Int32.ofInt (-1))) (Int32.ofInt (3)).toNatClampNeg (Int32.ofInt (-1))))), (q2, .inl (gIn G, 4, .inl (fun _ => Int32.ofInt 0)))] H := hP
  have hD : va_D A [(h0, .inr (9, [.ref q1, .null, .null])), (q1, .inl (gIn G, 4, .inl (upd (upd (upd (upd (fun _ => Int32.ofInt 0) (Int32.ofInt (0)).toNatClampNeg (Int32.ofInt (-1))) (Int32.ofInt (1)).toNatClampNeg (Int32.ofInt (-1))) (Int32.ofInt (2)).toNatClampNeg (Int32.ofInt (-1))) (Int32.ofInt (3)).toNatClampNeg (Int32.ofInt (-1))))), (q2, .inl (gIn G, 4, .inl (fun _ => Int32.ofInt 0)))] := hD
  refine va_putF (D := gD G) (ref := RX9) (index := 15) (ci := 9) (v := .ref q2) (ty := .array .int) (C := RX9) (T := TX9) (N := 3) C.1 C.2.1 C.2.2.2.2 (cls_ws (c := 9) (by decide)) tyX9 tyX9_ok nmX9 C.2.2.2.1 hK hP hD hS 0 rfl rfl 1 (by decide) (C.2.2.2.2 _ (inG_mem (i := 196) (by decide +kernel))) (fun _ h => h) rfl hin rfl (by decide +kernel) rfl rfl (Nat.le_of_ble_eq_true rfl) nd_Trays_31 (fun H locs hP hD hS => ?_)
  have hP : va_P (gD G) classes [(h0, .inr (9, [.ref q1, .ref q2, .null])), (q1, .inl (gIn G, 4, .inl (upd (upd (upd (upd (fun _ => Int32.ofInt 0) (Int32.ofInt (0)).toNatClampNeg (Int32.ofInt (-1))) (Int32.ofInt (1)).toNatClampNeg (Int32.ofInt (-1))) (Int32.ofInt (2)).toNatClampNeg (Int32.ofInt (-1))) (Int32.ofInt (3)).toNatClampNeg (Int32.ofInt (-1))))), (q2, .inl (gIn G, 4, .inl (fun _ => Int32.ofInt 0)))] H := hP
  have hD : va_D A [(h0, .inr (9, [.ref q1, .ref q2, .null])), (q1, .inl (gIn G, 4, .inl (upd (upd (upd (upd (fun _ => Int32.ofInt 0) (Int32.ofInt (0)).toNatClampNeg (Int32.ofInt (-1))) (Int32.ofInt (1)).toNatClampNeg (Int32.ofInt (-1))) (Int32.ofInt (2)).toNatClampNeg (Int32.ofInt (-1))) (Int32.ofInt (3)).toNatClampNeg (Int32.ofInt (-1))))), (q2, .inl (gIn G, 4, .inl (fun _ => Int32.ofInt 0)))] := hD
  refine lv_aload_n C.1 C.2.1 nd_Trays_34 rfl (lv_at hl 0 rfl) ?_
  refine lv_sipush (v := Int32.ofInt (240)) C.1 C.2.1 nd_Trays_35 (by decide) ?_
  refine n_arrJ C.1 C.2.1 C.2.2.2.2 hK hP hD hS hA (n := Int32.ofInt 240) (N := 240) (by decide) (by decide) (by decide) (by decide) (by decide) nd_Trays_38 (fun q3 H hP hD hS => ?_)
  have hP : va_P (gD G) classes [(h0, .inr (9, [.ref q1, .ref q2, .null])), (q1, .inl (gIn G, 4, .inl (upd (upd (upd (upd (fun _ => Int32.ofInt 0) (Int32.ofInt (0)).toNatClampNeg (Int32.ofInt (-1))) (Int32.ofInt (1)).toNatClampNeg (Int32.ofInt (-1))) (Int32.ofInt (2)).toNatClampNeg (Int32.ofInt (-1))) (Int32.ofInt (3)).toNatClampNeg (Int32.ofInt (-1))))), (q2, .inl (gIn G, 4, .inl (fun _ => Int32.ofInt 0))), (q3, .inl (gJ G, 240, .inr (.inl (fun _ => Int64.ofInt 0))))] H := hP
  have hD : va_D A [(h0, .inr (9, [.ref q1, .ref q2, .null])), (q1, .inl (gIn G, 4, .inl (upd (upd (upd (upd (fun _ => Int32.ofInt 0) (Int32.ofInt (0)).toNatClampNeg (Int32.ofInt (-1))) (Int32.ofInt (1)).toNatClampNeg (Int32.ofInt (-1))) (Int32.ofInt (2)).toNatClampNeg (Int32.ofInt (-1))) (Int32.ofInt (3)).toNatClampNeg (Int32.ofInt (-1))))), (q2, .inl (gIn G, 4, .inl (fun _ => Int32.ofInt 0))), (q3, .inl (gJ G, 240, .inr (.inl (fun _ => Int64.ofInt 0))))] := hD
  refine va_putF (D := gD G) (ref := RX9) (index := 18) (ci := 9) (v := .ref q3) (ty := .array .long) (C := RX9) (T := TX9) (N := 3) C.1 C.2.1 C.2.2.2.2 (cls_ws (c := 9) (by decide)) tyX9 tyX9_ok nmX9 C.2.2.2.1 hK hP hD hS 0 rfl rfl 2 (by decide) (C.2.2.2.2 _ (inG_mem (i := 197) (by decide +kernel))) (fun _ h => h) rfl hin rfl (by decide +kernel) rfl rfl (Nat.le_of_ble_eq_true rfl) nd_Trays_40 (fun H locs hP hD hS => ?_)
  have hP : va_P (gD G) classes [(h0, .inr (9, [.ref q1, .ref q2, .ref q3])), (q1, .inl (gIn G, 4, .inl (upd (upd (upd (upd (fun _ => Int32.ofInt 0) (Int32.ofInt (0)).toNatClampNeg (Int32.ofInt (-1))) (Int32.ofInt (1)).toNatClampNeg (Int32.ofInt (-1))) (Int32.ofInt (2)).toNatClampNeg (Int32.ofInt (-1))) (Int32.ofInt (3)).toNatClampNeg (Int32.ofInt (-1))))), (q2, .inl (gIn G, 4, .inl (fun _ => Int32.ofInt 0))), (q3, .inl (gJ G, 240, .inr (.inl (fun _ => Int64.ofInt 0))))] H := hP
  have hD : va_D A [(h0, .inr (9, [.ref q1, .ref q2, .ref q3])), (q1, .inl (gIn G, 4, .inl (upd (upd (upd (upd (fun _ => Int32.ofInt 0) (Int32.ofInt (0)).toNatClampNeg (Int32.ofInt (-1))) (Int32.ofInt (1)).toNatClampNeg (Int32.ofInt (-1))) (Int32.ofInt (2)).toNatClampNeg (Int32.ofInt (-1))) (Int32.ofInt (3)).toNatClampNeg (Int32.ofInt (-1))))), (q2, .inl (gIn G, 4, .inl (fun _ => Int32.ofInt 0))), (q3, .inl (gJ G, 240, .inr (.inl (fun _ => Int64.ofInt 0))))] := hD
  have hP : va_P (gD G) classes [(h0, .inr (9, [.ref q1, .ref q2, .ref q3])), (q1, .inl (gIn G, 4, .inl (upd (upd (upd (upd (fun _ => Int32.ofInt 0) (Int32.ofInt (0)).toNatClampNeg (Int32.ofInt (-1))) (Int32.ofInt (1)).toNatClampNeg (Int32.ofInt (-1))) (Int32.ofInt (2)).toNatClampNeg (Int32.ofInt (-1))) (Int32.ofInt (3)).toNatClampNeg (Int32.ofInt (-1))))), (q2, .inl (gIn G, 4, .inl (fun _ => Int32.ofInt 0))), (q3, .inl (gJ G, 240, .inr (.inl (fun _ => Int64.ofInt 0))))] H := hP
  have hD : va_D A [(h0, .inr (9, [.ref q1, .ref q2, .ref q3])), (q1, .inl (gIn G, 4, .inl (upd (upd (upd (upd (fun _ => Int32.ofInt 0) (Int32.ofInt (0)).toNatClampNeg (Int32.ofInt (-1))) (Int32.ofInt (1)).toNatClampNeg (Int32.ofInt (-1))) (Int32.ofInt (2)).toNatClampNeg (Int32.ofInt (-1))) (Int32.ofInt (3)).toNatClampNeg (Int32.ofInt (-1))))), (q2, .inl (gIn G, 4, .inl (fun _ => Int32.ofInt 0))), (q3, .inl (gJ G, 240, .inr (.inl (fun _ => Int64.ofInt 0))))] := hD
  rw [sorts_eq] at hP hD
  exact W.vret C.1 C.2.1 hr (fun t ht hW => ⟨rfl, ⟨_, ⟨q1, q2, q3, rfl⟩, by rw [ht]; exact hP, by rw [hAe]; exact hD⟩, by rw [hAe]; exact hS.F ht⟩) hS.2.2 nd_Trays_43 hlocks
def ny_Tokens : MethodName := ⟨RX8, "<init>", "()V"⟩
theorem nw_Tokens_code : Cond.code ny_Tokens prog_10_method_1_code 1 none ∈ lw_g := inG_mem (i := 212) (by decide +kernel)
theorem nw_Tokens_inst : Cond.instanceMethod ny_Tokens ∈ lw_g := inG_mem (i := 211) (by decide +kernel)
theorem nw_Tokens_init : Cond.initialized RX8 ∈ lw_g := inG_mem (i := 162) (by decide +kernel)
theorem nw_Tokens_par : ny_Tokens.name = "<init>" ∧ ny_Tokens.cls ≠ "java/lang/invoke/MethodHandle" ∧ ny_Tokens.cls ≠ "java/lang/invoke/VarHandle" ∧ (parseMethodDescriptor ny_Tokens.desc).map (fun d => d.parameters.length) = some 0 := by decide +kernel
theorem nd_Tokens_0 : decode prog_10_method_1_code 0 = .ok (.aload_n 0, 1) := by decide +kernel
theorem nd_Tokens_1 : decode prog_10_method_1_code 1 = .ok (.invokespecial 3, 3) := by decide +kernel
theorem nd_Tokens_4 : decode prog_10_method_1_code 4 = .ok (.aload_n 0, 1) := by decide +kernel
theorem nd_Tokens_5 : decode prog_10_method_1_code 5 = .ok (.sipush (900), 3) := by decide +kernel
theorem nd_Tokens_8 : decode prog_10_method_1_code 8 = .ok (.newarray .byte, 2) := by decide +kernel
theorem nd_Tokens_10 : decode prog_10_method_1_code 10 = .ok (.putfield 11, 3) := by decide +kernel
theorem nd_Tokens_13 : decode prog_10_method_1_code 13 = .ok (.aload_n 0, 1) := by decide +kernel
theorem nd_Tokens_14 : decode prog_10_method_1_code 14 = .ok (.iconst (-1), 1) := by decide +kernel
theorem nd_Tokens_15 : decode prog_10_method_1_code 15 = .ok (.putfield 15, 3) := by decide +kernel
theorem nd_Tokens_18 : decode prog_10_method_1_code 18 = .ok (.aload_n 0, 1) := by decide +kernel
theorem nd_Tokens_19 : decode prog_10_method_1_code 19 = .ok (.iconst (-1), 1) := by decide +kernel
theorem nd_Tokens_20 : decode prog_10_method_1_code 20 = .ok (.putfield 19, 3) := by decide +kernel
theorem nd_Tokens_23 : decode prog_10_method_1_code 23 = .ok (.return_, 1) := by decide +kernel
theorem nw_Tokens_obj : Cond.methodLink RX8 3 Lib.objectInit ∈ lw_g := inG_mem (i := 213) (by decide +kernel)
def nB_Tokens (G : WG) (h0 : Nat) (w1 : va_W) : Prop := ∃ q1 : Nat, w1 = [(h0, .inr (8, [.ref q1, .int (Int32.ofInt 0), .int (Int32.ofInt 0), .int (Int32.ofInt 0), .int (Int32.ofInt 0), .int (Int32.ofInt 0), .int (Int32.ofInt 0), .long (Int64.ofInt 0), .int (Int32.ofInt (-1)), .int (Int32.ofInt (-1))])), (q1, .inl (gB G, 900, .inl (fun _ => Int32.ofInt 0)))]
set_option maxHeartbeats 4000000 in
set_option maxRecDepth 100000 in
theorem n_Tokens (l : Launch) (G : WG) (h0 : Nat) (sz : Nat) : Met l ny_Tokens (.code ny_Tokens prog_10_method_1_code 1 none :: lw_g) ({ frames := 1, cells := 1, slots := 900, locals := 100 }) (NewP G h0 8 [.null, .int (Int32.ofInt 0), .int (Int32.ofInt 0), .int (Int32.ofInt 0), .int (Int32.ofInt 0), .int (Int32.ofInt 0), .int (Int32.ofInt 0), .long (Int64.ofInt 0), .int (Int32.ofInt 0), .int (Int32.ofInt 0)] [] sz) (NewQ G h0 8 [.null, .int (Int32.ofInt 0), .int (Int32.ofInt 0), .int (Int32.ofInt 0), .int (Int32.ofInt 0), .int (Int32.ofInt 0), .int (Int32.ofInt 0), .long (Int64.ofInt 0), .int (Int32.ofInt 0), .int (Int32.ofInt 0)] sz (nB_Tokens G h0)) 1 900 (va_A [(h0, .inr (8, [.null, .int (Int32.ofInt 0), .int (Int32.ofInt 0), .int (Int32.ofInt 0), .int (Int32.ofInt 0), .int (Int32.ofInt 0), .int (Int32.ofInt 0), .long (Int64.ofInt 0), .int (Int32.ofInt 0), .int (Int32.ofInt 0)]))] sz) := by
  refine met_openI (by decide) ?_
  intro p e s m args below meth c C hr hlocks hin hv
  obtain ⟨hargs, hsz, hK, hN, hP, hD0⟩ := hv
  subst hargs hsz
  have hD := hD0.self (sz := s.heap.size)
  generalize hAe : va_A [(h0, .inr (8, [.null, .int (Int32.ofInt 0), .int (Int32.ofInt 0), .int (Int32.ofInt 0), .int (Int32.ofInt 0), .int (Int32.ofInt 0), .int (Int32.ofInt 0), .long (Int64.ofInt 0), .int (Int32.ofInt 0), .int (Int32.ofInt 0)]))] s.heap.size = A at hD ⊢
  have hA : ∀ q : Nat, s.heap.size ≤ q → A q := fun q h => by rw [← hAe]; exact Or.inr h
  have hS : va_S A s.heap s.heap [] := va_S.rf
  have hl := lv_entry ([.ref h0]) (n := 1) (Nat.le_of_ble_eq_true rfl)
  rw [lg_entry_eq]
  generalize (lg_sl ([.ref h0]) ++ List.replicate (1 - (lg_sl ([.ref h0])).length) Slot.unset).toArray = ls at hl ⊢
  have hl : lv_has ls 1 [(0, .ref h0)] := hl
  refine lv_aload_n C.1 C.2.1 nd_Tokens_0 rfl (lv_at hl 0 rfl) ?_
  refine W.objInit C.1 C.2.1 C.2.2.2.1 (C.2.2.2.2 _ nw_Tokens_obj) (C.2.2.2.2 _ obj_inst) (C.2.2.2.2 _ obj_code) rfl (by rw [C.2.2.1]; exact hl.1) rfl nd_Tokens_1 (Nat.le_of_ble_eq_true rfl) (Nat.le_of_ble_eq_true rfl) ?_
  refine W.eq (g2 := F0 m 4 ls []) rfl ?_
  refine lv_aload_n C.1 C.2.1 nd_Tokens_4 rfl (lv_at hl 0 rfl) ?_
  refine lv_sipush (v := Int32.ofInt (900)) C.1 C.2.1 nd_Tokens_5 (by decide) ?_
  refine n_arrB C.1 C.2.1 C.2.2.2.2 hK hP hD hS hA (n := Int32.ofInt 900) (N := 900) (by decide) (by decide) (by decide) (by decide) (by decide) nd_Tokens_8 (fun q1 H hP hD hS => ?_)
  have hP : va_P (gD G) classes [(h0, .inr (8, [.null, .int (Int32.ofInt 0), .int (Int32.ofInt 0), .int (Int32.ofInt 0), .int (Int32.ofInt 0), .int (Int32.ofInt 0), .int (Int32.ofInt 0), .long (Int64.ofInt 0), .int (Int32.ofInt 0), .int (Int32.ofInt 0)])), (q1, .inl (gB G, 900, .inl (fun _ => Int32.ofInt 0)))] H := hP
  have hD : va_D A [(h0, .inr (8, [.null, .int (Int32.ofInt 0), .int (Int32.ofInt 0), .int (Int32.ofInt 0), .int (Int32.ofInt 0), .int (Int32.ofInt 0), .int (Int32.ofInt 0), .long (Int64.ofInt 0), .int (Int32.ofInt 0), .int (Int32.ofInt 0)])), (q1, .inl (gB G, 900, .inl (fun _ => Int32.ofInt 0)))] := hD
  refine va_putF (D := gD G) (ref := RX8) (index := 11) (ci := 8) (v := .ref q1) (ty := .array .byte) (C := RX8) (T := TX8) (N := 10) C.1 C.2.1 C.2.2.2.2 (cls_ws (c := 8) (by decide)) tyX8 tyX8_ok nmX8 C.2.2.2.1 hK hP hD hS 0 rfl rfl 0 (by decide) (C.2.2.2.2 _ (inG_mem (i := 214) (by decide +kernel))) (fun _ h => h) rfl hin rfl (by decide +kernel) rfl rfl (Nat.le_of_ble_eq_true rfl) nd_Tokens_10 (fun H locs hP hD hS => ?_)
  have hP : va_P (gD G) classes [(h0, .inr (8, [.ref q1, .int (Int32.ofInt 0), .int (Int32.ofInt 0), .int (Int32.ofInt 0), .int (Int32.ofInt 0), .int (Int32.ofInt 0), .int (Int32.ofInt 0), .long (Int64.ofInt 0), .int (Int32.ofInt 0), .int (Int32.ofInt 0)])), (q1, .inl (gB G, 900, .inl (fun _ => Int32.ofInt 0)))] H := hP
  have hD : va_D A [(h0, .inr (8, [.ref q1, .int (Int32.ofInt 0), .int (Int32.ofInt 0), .int (Int32.ofInt 0), .int (Int32.ofInt 0), .int (Int32.ofInt 0), .int (Int32.ofInt 0), .long (Int64.ofInt 0), .int (Int32.ofInt 0), .int (Int32.ofInt 0)])), (q1, .inl (gB G, 900, .inl (fun _ => Int32.ofInt 0)))] := hD
  refine lv_aload_n C.1 C.2.1 nd_Tokens_13 rfl (lv_at hl 0 rfl) ?_
  refine lv_iconst (v := Int32.ofInt (-1)) C.1 C.2.1 nd_Tokens_14 (by decide) ?_
  refine va_put (D := gD G) (ref := RX8) (index := 15) (ci := 8) (v := .int (Int32.ofInt (-1))) (ty := .int) (C := RX8) (T := TX8) (N := 10) C.1 C.2.1 C.2.2.2.2 (cls_ws (c := 8) (by decide)) tyX8 tyX8_ok nmX8 C.2.2.2.1 hK hP hD hS 0 rfl rfl 8 (by decide) (C.2.2.2.2 _ (inG_mem (i := 229) (by decide +kernel))) (fun _ h => h) rfl (by decide +kernel) rfl rfl (Nat.le_of_ble_eq_true rfl) nd_Tokens_15 (fun H locs hP hD hS => ?_)
  have hP : va_P (gD G) classes [(h0, .inr (8, [.ref q1, .int (Int32.ofInt 0), .int (Int32.ofInt 0), .int (Int32.ofInt 0), .int (Int32.ofInt 0), .int (Int32.ofInt 0), .int (Int32.ofInt 0), .long (Int64.ofInt 0), .int (Int32.ofInt (-1)), .int (Int32.ofInt 0)])), (q1, .inl (gB G, 900, .inl (fun _ => Int32.ofInt 0)))] H := hP
  have hD : va_D A [(h0, .inr (8, [.ref q1, .int (Int32.ofInt 0), .int (Int32.ofInt 0), .int (Int32.ofInt 0), .int (Int32.ofInt 0), .int (Int32.ofInt 0), .int (Int32.ofInt 0), .long (Int64.ofInt 0), .int (Int32.ofInt (-1)), .int (Int32.ofInt 0)])), (q1, .inl (gB G, 900, .inl (fun _ => Int32.ofInt 0)))] := hD
  refine lv_aload_n C.1 C.2.1 nd_Tokens_18 rfl (lv_at hl 0 rfl) ?_
  refine lv_iconst (v := Int32.ofInt (-1)) C.1 C.2.1 nd_Tokens_19 (by decide) ?_
  refine va_put (D := gD G) (ref := RX8) (index := 19) (ci := 8) (v := .int (Int32.ofInt (-1))) (ty := .int) (C := RX8) (T := TX8) (N := 10) C.1 C.2.1 C.2.2.2.2 (cls_ws (c := 8) (by decide)) tyX8 tyX8_ok nmX8 C.2.2.2.1 hK hP hD hS 0 rfl rfl 9 (by decide) (C.2.2.2.2 _ (inG_mem (i := 231) (by decide +kernel))) (fun _ h => h) rfl (by decide +kernel) rfl rfl (Nat.le_of_ble_eq_true rfl) nd_Tokens_20 (fun H locs hP hD hS => ?_)
  have hP : va_P (gD G) classes [(h0, .inr (8, [.ref q1, .int (Int32.ofInt 0), .int (Int32.ofInt 0), .int (Int32.ofInt 0), .int (Int32.ofInt 0), .int (Int32.ofInt 0), .int (Int32.ofInt 0), .long (Int64.ofInt 0), .int (Int32.ofInt (-1)), .int (Int32.ofInt (-1))])), (q1, .inl (gB G, 900, .inl (fun _ => Int32.ofInt 0)))] H := hP
  have hD : va_D A [(h0, .inr (8, [.ref q1, .int (Int32.ofInt 0), .int (Int32.ofInt 0), .int (Int32.ofInt 0), .int (Int32.ofInt 0), .int (Int32.ofInt 0), .int (Int32.ofInt 0), .long (Int64.ofInt 0), .int (Int32.ofInt (-1)), .int (Int32.ofInt (-1))])), (q1, .inl (gB G, 900, .inl (fun _ => Int32.ofInt 0)))] := hD
  have hP : va_P (gD G) classes [(h0, .inr (8, [.ref q1, .int (Int32.ofInt 0), .int (Int32.ofInt 0), .int (Int32.ofInt 0), .int (Int32.ofInt 0), .int (Int32.ofInt 0), .int (Int32.ofInt 0), .long (Int64.ofInt 0), .int (Int32.ofInt (-1)), .int (Int32.ofInt (-1))])), (q1, .inl (gB G, 900, .inl (fun _ => Int32.ofInt 0)))] H := hP
  have hD : va_D A [(h0, .inr (8, [.ref q1, .int (Int32.ofInt 0), .int (Int32.ofInt 0), .int (Int32.ofInt 0), .int (Int32.ofInt 0), .int (Int32.ofInt 0), .int (Int32.ofInt 0), .long (Int64.ofInt 0), .int (Int32.ofInt (-1)), .int (Int32.ofInt (-1))])), (q1, .inl (gB G, 900, .inl (fun _ => Int32.ofInt 0)))] := hD
  exact W.vret C.1 C.2.1 hr (fun t ht hW => ⟨rfl, ⟨_, ⟨q1, rfl⟩, by rw [ht]; exact hP, by rw [hAe]; exact hD⟩, by rw [hAe]; exact hS.F ht⟩) hS.2.2 nd_Tokens_23 hlocks
def ny_HallReader : MethodName := ⟨RX2, "<init>", "(LMurmurHall$Tokens;)V"⟩
theorem nw_HallReader_code : Cond.code ny_HallReader prog_4_method_1_code 2 none ∈ lw_g := inG_mem (i := 259) (by decide +kernel)
theorem nw_HallReader_inst : Cond.instanceMethod ny_HallReader ∈ lw_g := inG_mem (i := 258) (by decide +kernel)
theorem nw_HallReader_init : Cond.initialized RX2 ∈ lw_g := inG_mem (i := 163) (by decide +kernel)
theorem nw_HallReader_par : ny_HallReader.name = "<init>" ∧ ny_HallReader.cls ≠ "java/lang/invoke/MethodHandle" ∧ ny_HallReader.cls ≠ "java/lang/invoke/VarHandle" ∧ (parseMethodDescriptor ny_HallReader.desc).map (fun d => d.parameters.length) = some 1 := by decide +kernel
theorem nd_HallReader_0 : decode prog_4_method_1_code 0 = .ok (.aload_n 0, 1) := by decide +kernel
theorem nd_HallReader_1 : decode prog_4_method_1_code 1 = .ok (.invokespecial 3, 3) := by decide +kernel
theorem nd_HallReader_4 : decode prog_4_method_1_code 4 = .ok (.aload_n 0, 1) := by decide +kernel
theorem nd_HallReader_5 : decode prog_4_method_1_code 5 = .ok (.aload_n 1, 1) := by decide +kernel
theorem nd_HallReader_6 : decode prog_4_method_1_code 6 = .ok (.putfield 9, 3) := by decide +kernel
theorem nd_HallReader_9 : decode prog_4_method_1_code 9 = .ok (.return_, 1) := by decide +kernel
theorem nw_HallReader_obj : Cond.methodLink RX2 3 Lib.objectInit ∈ lw_g := inG_mem (i := 260) (by decide +kernel)
def nB_HallReader (G : WG) (h0 : Nat) (h1 : Nat) (w1 : va_W) : Prop := w1 = [(h0, .inr (2, [.ref h1, .int (Int32.ofInt 0)]))]
set_option maxHeartbeats 4000000 in
set_option maxRecDepth 100000 in
theorem n_HallReader (l : Launch) (G : WG) (h0 : Nat) (h1 : Nat) (sz : Nat) : Met l ny_HallReader (.code ny_HallReader prog_4_method_1_code 2 none :: lw_g) ({ frames := 1, cells := 0, slots := 0, locals := 100 }) (NewP G h0 2 [.null, .int (Int32.ofInt 0)] [.ref h1] sz) (NewQ G h0 2 [.null, .int (Int32.ofInt 0)] sz (nB_HallReader G h0 h1)) 0 0 (va_A [(h0, .inr (2, [.null, .int (Int32.ofInt 0)]))] sz) := by
  refine met_openI (by decide) ?_
  intro p e s m args below meth c C hr hlocks hin hv
  obtain ⟨hargs, hsz, hK, hN, hP, hD0⟩ := hv
  subst hargs hsz
  have hD := hD0.self (sz := s.heap.size)
  generalize hAe : va_A [(h0, .inr (2, [.null, .int (Int32.ofInt 0)]))] s.heap.size = A at hD ⊢
  have hA : ∀ q : Nat, s.heap.size ≤ q → A q := fun q h => by rw [← hAe]; exact Or.inr h
  have hS : va_S A s.heap s.heap [] := va_S.rf
  have hl := lv_entry ([.ref h0, .ref h1]) (n := 2) (Nat.le_of_ble_eq_true rfl)
  rw [lg_entry_eq]
  generalize (lg_sl ([.ref h0, .ref h1]) ++ List.replicate (2 - (lg_sl ([.ref h0, .ref h1])).length) Slot.unset).toArray = ls at hl ⊢
  have hl : lv_has ls 2 [(0, .ref h0), (1, .ref h1)] := hl
  refine lv_aload_n C.1 C.2.1 nd_HallReader_0 rfl (lv_at hl 0 rfl) ?_
  refine W.objInit C.1 C.2.1 C.2.2.2.1 (C.2.2.2.2 _ nw_HallReader_obj) (C.2.2.2.2 _ obj_inst) (C.2.2.2.2 _ obj_code) rfl (by rw [C.2.2.1]; exact hl.1) rfl nd_HallReader_1 (Nat.le_of_ble_eq_true rfl) (Nat.le_of_ble_eq_true rfl) ?_
  refine W.eq (g2 := F0 m 4 ls []) rfl ?_
  refine lv_aload_n C.1 C.2.1 nd_HallReader_4 rfl (lv_at hl 0 rfl) ?_
  refine lv_aload_n C.1 C.2.1 nd_HallReader_5 rfl (lv_at hl 1 rfl) ?_
  refine va_putF (D := gD G) (ref := RX2) (index := 9) (ci := 2) (v := .ref h1) (ty := .object "MurmurHall$Tokens") (C := RX2) (T := TX2) (N := 2) C.1 C.2.1 C.2.2.2.2 (cls_ws (c := 2) (by decide)) tyX2 tyX2_ok nmX2 C.2.2.2.1 hK hP hD hS 0 rfl rfl 0 (by decide) (C.2.2.2.2 _ (inG_mem (i := 261) (by decide +kernel))) (fun _ h => h) rfl hin rfl (by decide +kernel) rfl rfl (Nat.le_of_ble_eq_true rfl) nd_HallReader_6 (fun H locs hP hD hS => ?_)
  have hP : va_P (gD G) classes [(h0, .inr (2, [.ref h1, .int (Int32.ofInt 0)]))] H := hP
  have hD : va_D A [(h0, .inr (2, [.ref h1, .int (Int32.ofInt 0)]))] := hD
  have hP : va_P (gD G) classes [(h0, .inr (2, [.ref h1, .int (Int32.ofInt 0)]))] H := hP
  have hD : va_D A [(h0, .inr (2, [.ref h1, .int (Int32.ofInt 0)]))] := hD
  exact W.vret C.1 C.2.1 hr (fun t ht hW => ⟨rfl, ⟨_, rfl, by rw [ht]; exact hP, by rw [hAe]; exact hD⟩, by rw [hAe]; exact hS.F ht⟩) hS.2.2 nd_HallReader_9 hlocks
def ny_MorningsReader : MethodName := ⟨RX4, "<init>", "(LMurmurHall$Tokens;)V"⟩
theorem nw_MorningsReader_code : Cond.code ny_MorningsReader prog_6_method_1_code 2 none ∈ lw_g := inG_mem (i := 272) (by decide +kernel)
theorem nw_MorningsReader_inst : Cond.instanceMethod ny_MorningsReader ∈ lw_g := inG_mem (i := 271) (by decide +kernel)
theorem nw_MorningsReader_init : Cond.initialized RX4 ∈ lw_g := inG_mem (i := 164) (by decide +kernel)
theorem nw_MorningsReader_par : ny_MorningsReader.name = "<init>" ∧ ny_MorningsReader.cls ≠ "java/lang/invoke/MethodHandle" ∧ ny_MorningsReader.cls ≠ "java/lang/invoke/VarHandle" ∧ (parseMethodDescriptor ny_MorningsReader.desc).map (fun d => d.parameters.length) = some 1 := by decide +kernel
theorem nd_MorningsReader_0 : decode prog_6_method_1_code 0 = .ok (.aload_n 0, 1) := by decide +kernel
theorem nd_MorningsReader_1 : decode prog_6_method_1_code 1 = .ok (.invokespecial 3, 3) := by decide +kernel
theorem nd_MorningsReader_4 : decode prog_6_method_1_code 4 = .ok (.aload_n 0, 1) := by decide +kernel
theorem nd_MorningsReader_5 : decode prog_6_method_1_code 5 = .ok (.iconst (3), 1) := by decide +kernel
theorem nd_MorningsReader_6 : decode prog_6_method_1_code 6 = .ok (.newarray .int, 2) := by decide +kernel
theorem nd_MorningsReader_8 : decode prog_6_method_1_code 8 = .ok (.putfield 11, 3) := by decide +kernel
theorem nd_MorningsReader_11 : decode prog_6_method_1_code 11 = .ok (.aload_n 0, 1) := by decide +kernel
theorem nd_MorningsReader_12 : decode prog_6_method_1_code 12 = .ok (.aload_n 1, 1) := by decide +kernel
theorem nd_MorningsReader_13 : decode prog_6_method_1_code 13 = .ok (.putfield 17, 3) := by decide +kernel
theorem nd_MorningsReader_16 : decode prog_6_method_1_code 16 = .ok (.return_, 1) := by decide +kernel
theorem nw_MorningsReader_obj : Cond.methodLink RX4 3 Lib.objectInit ∈ lw_g := inG_mem (i := 273) (by decide +kernel)
def nB_MorningsReader (G : WG) (h0 : Nat) (h1 : Nat) (w1 : va_W) : Prop := ∃ q1 : Nat, w1 = [(h0, .inr (4, [.ref h1, .ref q1, .int (Int32.ofInt 0)])), (q1, .inl (gIn G, 3, .inl (fun _ => Int32.ofInt 0)))]
set_option maxHeartbeats 4000000 in
set_option maxRecDepth 100000 in
theorem n_MorningsReader (l : Launch) (G : WG) (h0 : Nat) (h1 : Nat) (sz : Nat) : Met l ny_MorningsReader (.code ny_MorningsReader prog_6_method_1_code 2 none :: lw_g) ({ frames := 1, cells := 1, slots := 3, locals := 100 }) (NewP G h0 4 [.null, .null, .int (Int32.ofInt 0)] [.ref h1] sz) (NewQ G h0 4 [.null, .null, .int (Int32.ofInt 0)] sz (nB_MorningsReader G h0 h1)) 1 3 (va_A [(h0, .inr (4, [.null, .null, .int (Int32.ofInt 0)]))] sz) := by
  refine met_openI (by decide) ?_
  intro p e s m args below meth c C hr hlocks hin hv
  obtain ⟨hargs, hsz, hK, hN, hP, hD0⟩ := hv
  subst hargs hsz
  have hD := hD0.self (sz := s.heap.size)
  generalize hAe : va_A [(h0, .inr (4, [.null, .null, .int (Int32.ofInt 0)]))] s.heap.size = A at hD ⊢
  have hA : ∀ q : Nat, s.heap.size ≤ q → A q := fun q h => by rw [← hAe]; exact Or.inr h
  have hS : va_S A s.heap s.heap [] := va_S.rf
  have hl := lv_entry ([.ref h0, .ref h1]) (n := 2) (Nat.le_of_ble_eq_true rfl)
  rw [lg_entry_eq]
  generalize (lg_sl ([.ref h0, .ref h1]) ++ List.replicate (2 - (lg_sl ([.ref h0, .ref h1])).length) Slot.unset).toArray = ls at hl ⊢
  have hl : lv_has ls 2 [(0, .ref h0), (1, .ref h1)] := hl
  refine lv_aload_n C.1 C.2.1 nd_MorningsReader_0 rfl (lv_at hl 0 rfl) ?_
  refine W.objInit C.1 C.2.1 C.2.2.2.1 (C.2.2.2.2 _ nw_MorningsReader_obj) (C.2.2.2.2 _ obj_inst) (C.2.2.2.2 _ obj_code) rfl (by rw [C.2.2.1]; exact hl.1) rfl nd_MorningsReader_1 (Nat.le_of_ble_eq_true rfl) (Nat.le_of_ble_eq_true rfl) ?_
  refine W.eq (g2 := F0 m 4 ls []) rfl ?_
  refine lv_aload_n C.1 C.2.1 nd_MorningsReader_4 rfl (lv_at hl 0 rfl) ?_
  refine lv_iconst (v := Int32.ofInt (3)) C.1 C.2.1 nd_MorningsReader_5 (by decide) ?_
  refine n_arrI C.1 C.2.1 C.2.2.2.2 hK hP hD hS hA (n := Int32.ofInt 3) (N := 3) (by decide) (by decide) (by decide) (by decide) (by decide) nd_MorningsReader_6 (fun q1 H hP hD hS => ?_)
  have hP : va_P (gD G) classes [(h0, .inr (4, [.null, .null, .int (Int32.ofInt 0)])), (q1, .inl (gIn G, 3, .inl (fun _ => Int32.ofInt 0)))] H := hP
  have hD : va_D A [(h0, .inr (4, [.null, .null, .int (Int32.ofInt 0)])), (q1, .inl (gIn G, 3, .inl (fun _ => Int32.ofInt 0)))] := hD
  refine va_putF (D := gD G) (ref := RX4) (index := 11) (ci := 4) (v := .ref q1) (ty := .array .int) (C := RX4) (T := TX4) (N := 3) C.1 C.2.1 C.2.2.2.2 (cls_ws (c := 4) (by decide)) tyX4 tyX4_ok nmX4 C.2.2.2.1 hK hP hD hS 0 rfl rfl 1 (by decide) (C.2.2.2.2 _ (inG_mem (i := 275) (by decide +kernel))) (fun _ h => h) rfl hin rfl (by decide +kernel) rfl rfl (Nat.le_of_ble_eq_true rfl) nd_MorningsReader_8 (fun H locs hP hD hS => ?_)
  have hP : va_P (gD G) classes [(h0, .inr (4, [.null, .ref q1, .int (Int32.ofInt 0)])), (q1, .inl (gIn G, 3, .inl (fun _ => Int32.ofInt 0)))] H := hP
  have hD : va_D A [(h0, .inr (4, [.null, .ref q1, .int (Int32.ofInt 0)])), (q1, .inl (gIn G, 3, .inl (fun _ => Int32.ofInt 0)))] := hD
  refine lv_aload_n C.1 C.2.1 nd_MorningsReader_11 rfl (lv_at hl 0 rfl) ?_
  refine lv_aload_n C.1 C.2.1 nd_MorningsReader_12 rfl (lv_at hl 1 rfl) ?_
  refine va_putF (D := gD G) (ref := RX4) (index := 17) (ci := 4) (v := .ref h1) (ty := .object "MurmurHall$Tokens") (C := RX4) (T := TX4) (N := 3) C.1 C.2.1 C.2.2.2.2 (cls_ws (c := 4) (by decide)) tyX4 tyX4_ok nmX4 C.2.2.2.1 hK hP hD hS 0 rfl rfl 0 (by decide) (C.2.2.2.2 _ (inG_mem (i := 274) (by decide +kernel))) (fun _ h => h) rfl hin rfl (by decide +kernel) rfl rfl (Nat.le_of_ble_eq_true rfl) nd_MorningsReader_13 (fun H locs hP hD hS => ?_)
  have hP : va_P (gD G) classes [(h0, .inr (4, [.ref h1, .ref q1, .int (Int32.ofInt 0)])), (q1, .inl (gIn G, 3, .inl (fun _ => Int32.ofInt 0)))] H := hP
  have hD : va_D A [(h0, .inr (4, [.ref h1, .ref q1, .int (Int32.ofInt 0)])), (q1, .inl (gIn G, 3, .inl (fun _ => Int32.ofInt 0)))] := hD
  have hP : va_P (gD G) classes [(h0, .inr (4, [.ref h1, .ref q1, .int (Int32.ofInt 0)])), (q1, .inl (gIn G, 3, .inl (fun _ => Int32.ofInt 0)))] H := hP
  have hD : va_D A [(h0, .inr (4, [.ref h1, .ref q1, .int (Int32.ofInt 0)])), (q1, .inl (gIn G, 3, .inl (fun _ => Int32.ofInt 0)))] := hD
  exact W.vret C.1 C.2.1 hr (fun t ht hW => ⟨rfl, ⟨_, ⟨q1, rfl⟩, by rw [ht]; exact hP, by rw [hAe]; exact hD⟩, by rw [hAe]; exact hS.F ht⟩) hS.2.2 nd_MorningsReader_16 hlocks
def ny_Life : MethodName := ⟨RX3, "<init>", "()V"⟩
theorem nw_Life_code : Cond.code ny_Life prog_5_method_1_code 1 none ∈ lw_g := inG_mem (i := 288) (by decide +kernel)
theorem nw_Life_inst : Cond.instanceMethod ny_Life ∈ lw_g := inG_mem (i := 287) (by decide +kernel)
theorem nw_Life_init : Cond.initialized RX3 ∈ lw_g := inG_mem (i := 165) (by decide +kernel)
theorem nw_Life_par : ny_Life.name = "<init>" ∧ ny_Life.cls ≠ "java/lang/invoke/MethodHandle" ∧ ny_Life.cls ≠ "java/lang/invoke/VarHandle" ∧ (parseMethodDescriptor ny_Life.desc).map (fun d => d.parameters.length) = some 0 := by decide +kernel
theorem nd_Life_0 : decode prog_5_method_1_code 0 = .ok (.aload_n 0, 1) := by decide +kernel
theorem nd_Life_1 : decode prog_5_method_1_code 1 = .ok (.invokespecial 3, 3) := by decide +kernel
theorem nd_Life_4 : decode prog_5_method_1_code 4 = .ok (.aload_n 0, 1) := by decide +kernel
theorem nd_Life_5 : decode prog_5_method_1_code 5 = .ok (.bipush (60), 2) := by decide +kernel
theorem nd_Life_7 : decode prog_5_method_1_code 7 = .ok (.newarray .int, 2) := by decide +kernel
theorem nd_Life_9 : decode prog_5_method_1_code 9 = .ok (.putfield 11, 3) := by decide +kernel
theorem nd_Life_12 : decode prog_5_method_1_code 12 = .ok (.return_, 1) := by decide +kernel
theorem nw_Life_obj : Cond.methodLink RX3 3 Lib.objectInit ∈ lw_g := inG_mem (i := 289) (by decide +kernel)
def nB_Life (G : WG) (h0 : Nat) (w1 : va_W) : Prop := ∃ q1 : Nat, w1 = [(h0, .inr (3, [.int (Int32.ofInt 0), .int (Int32.ofInt 0), .int (Int32.ofInt 0), .int (Int32.ofInt 0), .int (Int32.ofInt 0), .int (Int32.ofInt 0), .int (Int32.ofInt 0), .ref q1])), (q1, .inl (gIn G, 60, .inl (fun _ => Int32.ofInt 0)))]
set_option maxHeartbeats 4000000 in
set_option maxRecDepth 100000 in
theorem n_Life (l : Launch) (G : WG) (h0 : Nat) (sz : Nat) : Met l ny_Life (.code ny_Life prog_5_method_1_code 1 none :: lw_g) ({ frames := 1, cells := 1, slots := 60, locals := 100 }) (NewP G h0 3 [.int (Int32.ofInt 0), .int (Int32.ofInt 0), .int (Int32.ofInt 0), .int (Int32.ofInt 0), .int (Int32.ofInt 0), .int (Int32.ofInt 0), .int (Int32.ofInt 0), .null] [] sz) (NewQ G h0 3 [.int (Int32.ofInt 0), .int (Int32.ofInt 0), .int (Int32.ofInt 0), .int (Int32.ofInt 0), .int (Int32.ofInt 0), .int (Int32.ofInt 0), .int (Int32.ofInt 0), .null] sz (nB_Life G h0)) 1 60 (va_A [(h0, .inr (3, [.int (Int32.ofInt 0), .int (Int32.ofInt 0), .int (Int32.ofInt 0), .int (Int32.ofInt 0), .int (Int32.ofInt 0), .int (Int32.ofInt 0), .int (Int32.ofInt 0), .null]))] sz) := by
  refine met_openI (by decide) ?_
  intro p e s m args below meth c C hr hlocks hin hv
  obtain ⟨hargs, hsz, hK, hN, hP, hD0⟩ := hv
  subst hargs hsz
  have hD := hD0.self (sz := s.heap.size)
  generalize hAe : va_A [(h0, .inr (3, [.int (Int32.ofInt 0), .int (Int32.ofInt 0), .int (Int32.ofInt 0), .int (Int32.ofInt 0), .int (Int32.ofInt 0), .int (Int32.ofInt 0), .int (Int32.ofInt 0), .null]))] s.heap.size = A at hD ⊢
  have hA : ∀ q : Nat, s.heap.size ≤ q → A q := fun q h => by rw [← hAe]; exact Or.inr h
  have hS : va_S A s.heap s.heap [] := va_S.rf
  have hl := lv_entry ([.ref h0]) (n := 1) (Nat.le_of_ble_eq_true rfl)
  rw [lg_entry_eq]
  generalize (lg_sl ([.ref h0]) ++ List.replicate (1 - (lg_sl ([.ref h0])).length) Slot.unset).toArray = ls at hl ⊢
  have hl : lv_has ls 1 [(0, .ref h0)] := hl
  refine lv_aload_n C.1 C.2.1 nd_Life_0 rfl (lv_at hl 0 rfl) ?_
  refine W.objInit C.1 C.2.1 C.2.2.2.1 (C.2.2.2.2 _ nw_Life_obj) (C.2.2.2.2 _ obj_inst) (C.2.2.2.2 _ obj_code) rfl (by rw [C.2.2.1]; exact hl.1) rfl nd_Life_1 (Nat.le_of_ble_eq_true rfl) (Nat.le_of_ble_eq_true rfl) ?_
  refine W.eq (g2 := F0 m 4 ls []) rfl ?_
  refine lv_aload_n C.1 C.2.1 nd_Life_4 rfl (lv_at hl 0 rfl) ?_
  refine lv_bipush (v := Int32.ofInt (60)) C.1 C.2.1 nd_Life_5 (by decide) ?_
  refine n_arrI C.1 C.2.1 C.2.2.2.2 hK hP hD hS hA (n := Int32.ofInt 60) (N := 60) (by decide) (by decide) (by decide) (by decide) (by decide) nd_Life_7 (fun q1 H hP hD hS => ?_)
  have hP : va_P (gD G) classes [(h0, .inr (3, [.int (Int32.ofInt 0), .int (Int32.ofInt 0), .int (Int32.ofInt 0), .int (Int32.ofInt 0), .int (Int32.ofInt 0), .int (Int32.ofInt 0), .int (Int32.ofInt 0), .null])), (q1, .inl (gIn G, 60, .inl (fun _ => Int32.ofInt 0)))] H := hP
  have hD : va_D A [(h0, .inr (3, [.int (Int32.ofInt 0), .int (Int32.ofInt 0), .int (Int32.ofInt 0), .int (Int32.ofInt 0), .int (Int32.ofInt 0), .int (Int32.ofInt 0), .int (Int32.ofInt 0), .null])), (q1, .inl (gIn G, 60, .inl (fun _ => Int32.ofInt 0)))] := hD
  refine va_putF (D := gD G) (ref := RX3) (index := 11) (ci := 3) (v := .ref q1) (ty := .array .int) (C := RX3) (T := TX3) (N := 8) C.1 C.2.1 C.2.2.2.2 (cls_ws (c := 3) (by decide)) tyX3 tyX3_ok nmX3 C.2.2.2.1 hK hP hD hS 0 rfl rfl 7 (by decide) (C.2.2.2.2 _ (inG_mem (i := 303) (by decide +kernel))) (fun _ h => h) rfl hin rfl (by decide +kernel) rfl rfl (Nat.le_of_ble_eq_true rfl) nd_Life_9 (fun H locs hP hD hS => ?_)
  have hP : va_P (gD G) classes [(h0, .inr (3, [.int (Int32.ofInt 0), .int (Int32.ofInt 0), .int (Int32.ofInt 0), .int (Int32.ofInt 0), .int (Int32.ofInt 0), .int (Int32.ofInt 0), .int (Int32.ofInt 0), .ref q1])), (q1, .inl (gIn G, 60, .inl (fun _ => Int32.ofInt 0)))] H := hP
  have hD : va_D A [(h0, .inr (3, [.int (Int32.ofInt 0), .int (Int32.ofInt 0), .int (Int32.ofInt 0), .int (Int32.ofInt 0), .int (Int32.ofInt 0), .int (Int32.ofInt 0), .int (Int32.ofInt 0), .ref q1])), (q1, .inl (gIn G, 60, .inl (fun _ => Int32.ofInt 0)))] := hD
  have hP : va_P (gD G) classes [(h0, .inr (3, [.int (Int32.ofInt 0), .int (Int32.ofInt 0), .int (Int32.ofInt 0), .int (Int32.ofInt 0), .int (Int32.ofInt 0), .int (Int32.ofInt 0), .int (Int32.ofInt 0), .ref q1])), (q1, .inl (gIn G, 60, .inl (fun _ => Int32.ofInt 0)))] H := hP
  have hD : va_D A [(h0, .inr (3, [.int (Int32.ofInt 0), .int (Int32.ofInt 0), .int (Int32.ofInt 0), .int (Int32.ofInt 0), .int (Int32.ofInt 0), .int (Int32.ofInt 0), .int (Int32.ofInt 0), .ref q1])), (q1, .inl (gIn G, 60, .inl (fun _ => Int32.ofInt 0)))] := hD
  exact W.vret C.1 C.2.1 hr (fun t ht hW => ⟨rfl, ⟨_, ⟨q1, rfl⟩, by rw [ht]; exact hP, by rw [hAe]; exact hD⟩, by rw [hAe]; exact hS.F ht⟩) hS.2.2 nd_Life_12 hlocks
