/-! ===== a block, a method: the machine follows the abstract machine (wip/gen/mk18.py) ===== -/
section Sim
variable {p : Program} {l : Launch} {e : Env} {R : Room} {s0 : State} {m : MethodId} {args : Array Value} {below : List Frame} {meth : Method} {c : Code} {Q : State → Prop} {cc : ByteArray} {own : String} {nL : Nat} {A : Nat → Prop} {G : WG} {sc : Prop} {xs : Int → Int} {L : Int} {kc ks : Nat}
theorem okl_one {t : Nat} {x : Int} {r : List Int} (h : okl sc [t] (x :: r)) : r = [] := by
  cases r with
  | nil => rfl
  | cons a b => exact h.2.elim
theorem e_term (C : Cx p R s0 m args c cc own nL A G sc xs L kc ks) {pc : Nat} {τs τl : List Nat} {st ls : List Int} {s : Mem} {d : Nat} {E : EntB} {h : List Nat} {op : Instr} {ops : List Instr} {q : Int × List Int × List Int × Mem} {ρ : Nat} {ret : Option FieldType} {r : Int} {t : Mem} (hc : ckE cc E ρ ret pc τs τl h op = true) (hr : run (sem d) xs L (op :: ops) st ls s = some q) (hE : ∀ (n : Nat) (a b : List Nat), q.1 = (n : Int) → entO E n = some (a, b) → Wd p l e R s0 m args below meth c Q A G nL sc kc ks n a b q.2.1 q.2.2.1 q.2.2.2) (hF : q.1 = -1 → q.2.1.headD 0 = r ∧ q.2.2.2 = t) (hR : Rt p l e R s0 m args below meth c Q A G sc cc ρ ret r t kc ks) : Wd p l e R s0 m args below meth c Q A G nL sc kc ks pc τs τl st ls s := by
  cases op with
  | goto tg =>
    have hc : (dk cc pc (.goto (tg - pc)) 3 && tgo E tg τs τl) = true := hc
    rw [Bool.and_eq_true] at hc
    have hr : some (tg, st, ls, s) = some q := hr
    cases hr
    obtain ⟨n, b, en, hen, hw⟩ := tgo_of hc.2
    subst en
    exact o_goto C (dk_of hc.1) (by omega) (o_wk hw (hE n τs b rfl hen))
  | jsr tg =>
    have hc : (decide (tg = pc) && tgo E tg τs τl) = true := hc
    rw [Bool.and_eq_true, decide_eq_true_eq] at hc
    have hr : some (tg, st, ls, s) = some q := hr
    cases hr
    obtain ⟨n, b, en, hen, hw⟩ := tgo_of hc.2
    have : n = pc := by have := hc.1; omega
    subst this
    exact o_wk hw (hE n τs b en hen)
  | lookupswitch df ps =>
    obtain ⟨x, r', e1, hr2⟩ := p1_of (show p1 st (fun x st => swk ps.toList df x fun t => some (t, st, ls, s)) = some q from hr)
    subst e1
    rw [swk_swv] at hr2
    cases hr2
    have tgt : ∀ τr, tgo E df τr τl = true → ps.toList.all (fun q => tgo E q.2 τr τl) = true → ∃ n : Nat, swv ps.toList df x = (n : Int) ∧ Wd p l e R s0 m args below meth c Q A G nL sc kc ks n τr τl r' ls s := by
      intro τr h1 h2
      have h3 : tgo E (swv ps.toList df x) τr τl = true := by
        rcases swv_mem (x := x) (d := df) ps.toList with h | ⟨q, hq, h⟩
        · rw [h]; exact h1
        · rw [h]; exact List.all_eq_true.mp h2 q hq
      obtain ⟨n, b, en, hen, hw⟩ := tgo_of h3
      exact ⟨n, en, o_wk hw (hE n τr b en hen)⟩
    have hc : ck_sw cc E pc τs τl h df ps = true := hc
    unfold ck_sw at hc
    split at hc
    · simp only [Bool.and_eq_true, decide_eq_true_eq] at hc
      obtain ⟨⟨⟨h1, h2⟩, h3⟩, h4⟩ := hc
      obtain ⟨n, e, k⟩ := tgt _ h3 h4
      refine o_tsw C (dk_of h1) ?_ ?_ k
      · simp only [List.length_map]; omega
      · show swv (tmk pc _ (List.map _ _)) _ x = _
        rw [h2, show (pc : Int) + (df - pc) = df by omega]; exact e
    · simp only [Bool.and_eq_true, decide_eq_true_eq] at hc
      obtain ⟨⟨⟨⟨h1, h2⟩, h5⟩, h3⟩, h4⟩ := hc
      obtain ⟨n, e, k⟩ := tgt _ h3 h4
      refine o_lsw C (dk_of h1) h5 ?_ k
      show swv (lmk pc (List.map _ _)) _ x = _
      rw [h2, show (pc : Int) + (df - pc) = df by omega]; exact e
    · cases hc
  | ireturn =>
    have hc : ((τs == [0]) && dk cc pc .ireturn 1 && (ρ == 0) && (ret == some .int)) = true := hc
    simp only [Bool.and_eq_true, beq_iff_eq] at hc
    obtain ⟨⟨⟨e1, h1⟩, e2⟩, e3⟩ := hc
    subst e1 e2 e3
    obtain ⟨x, r', e1, hr⟩ := p1_of (show p1 st (fun x _ => some (-1, [x], ls, s)) = some q from hr)
    subst e1
    cases hr
    obtain ⟨f1, f2⟩ := hF rfl
    subst f1 f2
    intro hs hl hm H locs lsC hP hD hS hv
    have hz := okl_one hs
    subst hz
    exact hR pc H locs lsC (dk_of h1) hP hD hS hm (fun _ => hs.1) (fun z => by cases z)
  | freturn =>
    have hc : ((τs == [0]) && dk cc pc .ireturn 1 && (ρ == 0) && (ret == some .boolean)) = true := hc
    simp only [Bool.and_eq_true, beq_iff_eq] at hc
    obtain ⟨⟨⟨e1, h1⟩, e2⟩, e3⟩ := hc
    subst e1 e2 e3
    obtain ⟨x, r', e1, hr⟩ := p1_of (show p1 st (fun x _ => if x = 0 ∨ x = 1 then some (-1, [x], ls, s) else none) = some q from hr)
    subst e1
    obtain ⟨hb, hr⟩ := ite_of hr
    cases hr
    obtain ⟨f1, f2⟩ := hF rfl
    subst f1 f2
    intro hs hl hm H locs lsC hP hD hS hv
    have hz := okl_one hs
    subst hz
    exact hR pc H locs lsC (dk_of h1) hP hD hS hm (fun _ => hs.1) (fun _ => hb)
  | lreturn =>
    have hc : ((τs == [1]) && dk cc pc .lreturn 1 && (ρ == 1) && (ret == some .long)) = true := hc
    simp only [Bool.and_eq_true, beq_iff_eq] at hc
    obtain ⟨⟨⟨e1, h1⟩, e2⟩, e3⟩ := hc
    subst e1 e2 e3
    obtain ⟨x, r', e1, hr⟩ := p1_of (show p1 st (fun x _ => some (-1, [x], ls, s)) = some q from hr)
    subst e1
    cases hr
    obtain ⟨f1, f2⟩ := hF rfl
    subst f1 f2
    intro hs hl hm H locs lsC hP hD hS hv
    have hz := okl_one hs
    subst hz
    exact hR pc H locs lsC (dk_of h1) hP hD hS hm (fun _ => hs.1) (fun z => by cases z)
  | areturn =>
    have hc : ((τs == [ρ]) && dk cc pc .areturn 1 && isRefTy ρ && decide (ρ ≠ 98) && decide (retI ret = .areturn)) = true := hc
    simp only [Bool.and_eq_true, beq_iff_eq, decide_eq_true_eq] at hc
    obtain ⟨⟨⟨⟨e1, h1⟩, e2⟩, e9⟩, e3⟩ := hc
    subst e1
    have hρ := isRef_of e2
    obtain ⟨x, r', e1, hr⟩ := p1_of (show p1 st (fun x _ => some (-1, [x], ls, s)) = some q from hr)
    subst e1
    cases hr
    obtain ⟨f1, f2⟩ := hF rfl
    subst f1 f2
    intro hs hl hm H locs lsC hP hD hS hv
    have hz := okl_one hs
    subst hz
    have := hR pc H locs lsC (by rw [e3]; exact dk_of h1) hP hD hS hm (fun _ => hs.1) (fun z => by subst z; cases e3)
    rw [if_neg e9] at this
    exact this
  | return_ =>
    have hc : ((τs == []) && dk cc pc .return_ 1 && (ρ == 98) && (ret == none)) = true := hc
    simp only [Bool.and_eq_true, beq_iff_eq] at hc
    obtain ⟨⟨⟨e1, h1⟩, e2⟩, e3⟩ := hc
    subst e1 e2 e3
    have hr : some ((-1 : Int), [(0 : Int)], ls, s) = some q := hr
    cases hr
    obtain ⟨f1, f2⟩ := hF rfl
    subst f2
    intro hs hl hm H locs lsC hP hD hS hv
    cases st with
    | nil => exact hR pc H locs lsC (dk_of h1) hP hD hS hm (fun z => absurd rfl z) (fun z => by cases z)
    | cons a b => exact hs.elim
  | _ => exact nomatch (show false = true from hc)
theorem sim_ops (C : Cx p R s0 m args c cc own nL A G sc xs L kc ks) {d : Nat} {E : EntB} {ρ : Nat} {ret : Option FieldType} {r : Int} {t : Mem} {q : Int × List Int × List Int × Mem} (hK : ∀ mi, mi < nM → Kt l A G d mi) (hM : ∀ mi, mi < nM → mck mi = true) (hRm : d + 9 ≤ R.frames ∧ 360 + 60 * d ≤ R.locals) (hE : ∀ (n : Nat) (a b : List Nat), q.1 = (n : Int) → entO E n = some (a, b) → Wd p l e R s0 m args below meth c Q A G nL sc kc ks n a b q.2.1 q.2.2.1 q.2.2.2) (hF : q.1 = -1 → q.2.1.headD 0 = r ∧ q.2.2.2 = t) (hR : Rt p l e R s0 m args below meth c Q A G sc cc ρ ret r t kc ks) :
    ∀ (ops : List Instr) (hs : List (List Nat)) (pc : Nat) (τs τl : List Nat) (st ls : List Int) (s : Mem), ckB own cc nL E ρ ret pc τs τl hs ops = true → run (sem d) xs L ops st ls s = some q → Wd p l e R s0 m args below meth c Q A G nL sc kc ks pc τs τl st ls s := by
  intro ops
  induction ops with
  | nil => intro hs pc τs τl st ls s hc; exact nomatch (show false = true from hc)
  | cons op ops ih =>
    intro hs pc τs τl st ls s hc hr
    have hc : (ckE cc E ρ ret pc τs τl (hs.headD []) op || (match ck1 own cc nL E pc τs τl (hs.headD []) op with
      | some (pc', τs', τl') => ckB own cc nL E ρ ret pc' τs' τl' hs.tail ops
      | none => false)) = true := hc
    rw [Bool.or_eq_true] at hc
    rcases hc with hc | hc
    · exact e_term C hc hr hE hF hR
    · cases h1 : ck1 own cc nL E pc τs τl (hs.headD []) op with
      | none => rw [h1] at hc; cases hc
      | some z =>
        obtain ⟨pc', τs', τl'⟩ := z
        rw [h1] at hc
        have k : ∀ (st' ls' : List Int) (s' : Mem), run (sem d) xs L ops st' ls' s' = some q → Wd p l e R s0 m args below meth c Q A G nL sc kc ks pc' τs' τl' st' ls' s' := fun st' ls' s' hr' => ih hs.tail pc' τs' τl' st' ls' s' hc hr'
        have h4 : 4 ≤ R.frames := by omega
        cases op with
        | sipush v => exact k_sipush C h1 hr k
        | bipush v => exact k_bipush C h1 hr k
        | ldc z => exact k_ldc C h1 hr k
        | getstatic z => exact k_getstatic C h1 hr k
        | iload j => exact k_iload C h1 hr k
        | lload j => exact k_lload C h1 hr k
        | aload j => exact k_aload C h1 hr k
        | istore j => exact k_istore C h1 hr k
        | lstore j => exact k_lstore C h1 hr k
        | astore j => exact k_astore C h1 hr k
        | iinc j n => exact k_iinc C h1 hr k
        | iadd => exact k_iadd C h1 hr k
        | isub => exact k_isub C h1 hr k
        | imul => exact k_imul C h1 hr k
        | idiv => exact k_idiv C h1 hr k
        | irem => exact k_irem C h1 hr k
        | iand => exact k_iand C h1 hr k
        | ior => exact k_ior C h1 hr k
        | ixor => exact k_ixor C h1 hr k
        | ishl => exact k_ishl C h1 hr k
        | ishr => exact k_ishr C h1 hr k
        | iushr => exact k_iushr C h1 hr k
        | ladd => exact k_ladd C h1 hr k
        | lsub => exact k_lsub C h1 hr k
        | lmul => exact k_lmul C h1 hr k
        | ldiv => exact k_ldiv C h1 hr k
        | lrem => exact k_lrem C h1 hr k
        | land => exact k_land C h1 hr k
        | lor => exact k_lor C h1 hr k
        | lshl => exact k_lshl C h1 hr k
        | lcmp => exact k_lcmp C h1 hr k
        | ineg => exact k_ineg C h1 hr k
        | i2l => exact k_i2l C h1 hr k
        | l2i => exact k_l2i C h1 hr k
        | i2b => exact k_i2b C h1 hr k
        | i2s => exact k_i2s C h1 hr k
        | pop => exact k_pop C h1 hr k
        | dup => exact k_dup C h1 hr k
        | dup_x1 => exact k_dup_x1 C h1 hr k
        | dup2 => exact k_dup2 C h1 hr k
        | iaload => exact k_iaload C h1 hr k
        | laload => exact k_laload C h1 hr k
        | baload => exact k_baload C h1 hr k
        | saload => exact k_saload C h1 hr k
        | faload => exact k_faload C h1 hr k
        | iastore => exact k_iastore C h1 hr k
        | lastore => exact k_lastore C h1 hr k
        | bastore => exact k_bastore C h1 hr k
        | arraylength => exact k_arraylength C h1 hr k
        | i2f => exact k_i2f C h1 hr k
        | fneg => exact k_fneg C h1 hr k
        | fmul => exact k_fmul C h1 hr k
        | fadd => exact k_fadd C h1 hr k
        | fdiv => exact k_fdiv C h1 hr k
        | aastore => exact k_aastore C h1 hr k
        | getfield j => exact k_getfield C h1 hr k
        | goto_w j => exact k_goto_w C h1 hr k
        | putfield j => exact k_putfield C h1 hr k
        | putstatic j => exact k_putstatic C h1 hr k
        | l2f => exact k_l2f C h4 h1 hr k
        | f2d => exact k_f2d C h4 h1 hr k
        | invokeinterface mi n => exact k_call C hK hM hRm h1 hr k
        | ifCond c t => exact k_ifCond C hE h1 hr k
        | if_icmp c t => exact k_if_icmp C hE h1 hr k
        | _ => exact nomatch (show (none : Ck) = some _ from h1)
theorem sim_steps (C : Cx p R s0 m args c cc own nL A G sc xs L kc ks) {d : Nat} {E : EntB} {ρ : Nat} {ret : Option FieldType} {r : Int} {t : Mem} {o : Ops} (hK : ∀ mi, mi < nM → Kt l A G d mi) (hM : ∀ mi, mi < nM → mck mi = true) (hRm : d + 9 ≤ R.frames ∧ 360 + 60 * d ≤ R.locals) (hB : ∀ (n : Nat) (a b : List Nat), entO E n = some (a, b) → ∃ hs, ckB own cc nL E ρ ret n a b hs (blk o n) = true) (hR : Rt p l e R s0 m args below meth c Q A G sc cc ρ ret r t kc ks) :
    ∀ (k : Nat) (st ls : List Int) (s : Mem) (n : Nat) (a b : List Nat), steps (sem d) xs L o k (n : Int) st ls s = some (r, t) → entO E n = some (a, b) → Wd p l e R s0 m args below meth c Q A G nL sc kc ks n a b st ls s := by
  intro k
  induction k with
  | zero => intro st ls s n a b h; cases h
  | succ k ih =>
    intro st ls s n a b h hen
    unfold steps at h
    rw [if_neg (by omega)] at h
    cases hr : run (sem d) xs L (blk o n) st ls s with
    | none => rw [hr] at h; cases h
    | some q =>
      obtain ⟨pc', st', ls', s'⟩ := q
      rw [hr] at h
      obtain ⟨hs, hck⟩ := hB n a b hen
      refine sim_ops C hK hM hRm (q := (pc', st', ls', s')) ?_ ?_ hR _ hs n a b st ls s hck hr
      · intro n' a' b' e1 e2
        have e1 : pc' = (n' : Int) := e1
        subst e1
        exact ih st' ls' s' n' a' b' h e2
      · intro e1
        have e1 : pc' = -1 := e1
        subst e1
        cases k with
        | zero => cases h
        | succ k =>
          have h : (if (-1 : Int) = -1 then some (st'.headD 0, s') else _) = some (r, t) := h
          rw [if_pos rfl] at h
          cases h
          exact ⟨rfl, rfl⟩
end Sim
/-- the argument types of a method: a long is followed by its second half -/
def wfT : List Nat → Bool
  | [] => true
  | t :: [] => t != 1 && t != 99
  | t :: u :: ts => if t = 1 then u == 99 && wfT ts else t != 99 && wfT (u :: ts)
theorem lvL_pad {G : WG} {n : Nat} : ∀ (ts : List Nat) (vs : List Int) (i : Nat), ts.length = vs.length → lvL G i (ts ++ List.replicate n 99) (vs ++ List.replicate n 0) = lvL G i ts vs
  | [], [], i, _ => by
    rw [List.nil_append, List.nil_append]
    show lvL G i _ _ = []
    induction n generalizing i with
    | zero => rfl
    | succ n ih =>
      rw [List.replicate_succ, List.replicate_succ]
      show (if 99 = 99 then lvL G (i + 1) _ _ else _) = []
      rw [if_pos rfl]; exact ih (i + 1)
  | t :: ts, v :: vs, i, h => by
    rw [List.cons_append, List.cons_append]
    show (if t = 99 then lvL G (i + 1) _ _ else (i, cv G t v) :: lvL G (i + 1) _ _) = (if t = 99 then lvL G (i + 1) ts vs else (i, cv G t v) :: lvL G (i + 1) ts vs)
    rw [lvL_pad ts vs (i + 1) (by simpa using h)]
  | [], _ :: _, _, h => by simp at h
  | _ :: _, [], _, h => by simp at h
theorem okl_pad {sc : Prop} {n : Nat} {ts : List Nat} {vs : List Int} (h : okl sc ts vs) : okl sc (ts ++ List.replicate n 99) (vs ++ List.replicate n 0) := by
  refine okl_app _ _ h ?_
  induction n with
  | zero => exact trivial
  | succ n ih => rw [List.replicate_succ, List.replicate_succ]; exact ⟨okv99, ih⟩
theorem lexp_cons {t : Nat} {ts : List Nat} {a : Int} {as : List Int} (h : t ≠ 99) : lexp (t :: ts) (a :: as) = a :: lexp ts as := by
  simp [lexp, h]
theorem lexp_args {G : WG} {sc : Prop} : ∀ (ts : List Nat) (as : List Int) (i : Nat), wfT ts = true → okl sc (ts.filter (fun t => t != 99)) as → lvL G i ts (lexp ts as) = lv_args i (stkB G (ts.filter (fun t => t != 99)) as) ∧ okl sc ts (lexp ts as)
  | [], as, i, _, h => by
    cases as with
    | nil => exact ⟨rfl, trivial⟩
    | cons a b => exact h.elim
  | t :: [], as, i, hw, h => by
    have hw : (t != 1 && t != 99) = true := hw
    simp only [Bool.and_eq_true, bne_iff_ne] at hw
    have hf : [t].filter (fun t => t != 99) = [t] := by simp [hw.2]
    rw [hf] at h ⊢
    cases as with
    | nil => exact h.elim
    | cons a as =>
      cases as with
      | cons b c => exact h.2.elim
      | nil =>
        rw [lexp_cons hw.2]
        refine ⟨?_, ⟨h.1, trivial⟩⟩
        show (if t = 99 then lvL G (i + 1) [] _ else (i, cv G t a) :: lvL G (i + 1) [] _) = lv_args i [cv G t a]
        rw [if_neg hw.2]; rfl
  | t :: u :: ts, as, i, hw, h => by
    have hw : (if t = 1 then u == 99 && wfT ts else t != 99 && wfT (u :: ts)) = true := hw
    by_cases h1 : t = 1
    · rw [if_pos h1, Bool.and_eq_true, beq_iff_eq] at hw
      obtain ⟨hu, hw⟩ := hw
      subst h1 hu
      have hf : (1 :: 99 :: ts).filter (fun t => t != 99) = 1 :: ts.filter (fun t => t != 99) := rfl
      rw [hf] at h ⊢
      cases as with
      | nil => exact h.elim
      | cons a as =>
        obtain ⟨h2, h3⟩ := lexp_args (G := G) ts as (i + 2) hw h.2
        rw [lexp_cons (by decide)]
        refine ⟨?_, ⟨h.1, okv99, h3⟩⟩
        show (i, cv G 1 a) :: lvL G (i + 2) ts (lexp ts as) = lv_args i (cv G 1 a :: stkB G _ as)
        rw [h2]; rfl
    · rw [if_neg h1, Bool.and_eq_true, bne_iff_ne] at hw
      have hf : (t :: u :: ts).filter (fun t => t != 99) = t :: (u :: ts).filter (fun t => t != 99) := by rw [List.filter_cons, if_pos (by simpa using hw.1)]
      rw [hf] at h ⊢
      cases as with
      | nil => exact h.elim
      | cons a as =>
        obtain ⟨h2, h3⟩ := lexp_args (G := G) (u :: ts) as (i + 1) hw.2 h.2
        rw [lexp_cons hw.1]
        refine ⟨?_, ⟨h.1, h3⟩⟩
        show (if t = 99 then lvL G (i + 1) (u :: ts) _ else (i, cv G t a) :: lvL G (i + 1) (u :: ts) _) = lv_args i (cv G t a :: stkB G _ as)
        rw [if_neg hw.1, h2]
        show _ = (i, cv G t a) :: lv_args (if (cv G t a).category = 2 then i + 2 else i + 1) _
        rw [cv_cat, if_neg h1, if_neg (by decide)]
/-- a method's blocks: where each begins, with which types, and where the tables say what its operations need -/
abbrev Xt : Type := List (Nat × List Nat × List Nat × List (List Nat))
def xent (x : Xt) : EntB := x.map fun q => (q.1, q.2.1, q.2.2.1)
def xck (own : String) (cc : ByteArray) (nL ρ : Nat) (ret : Option FieldType) (x : Xt) (o : Ops) : Bool := x.all fun q => ckB own cc nL (xent x) ρ ret q.1 q.2.1 q.2.2.1 q.2.2.2 (blk o q.1)
theorem xck_of {own : String} {cc : ByteArray} {nL ρ : Nat} {ret : Option FieldType} {x : Xt} {o : Ops} (h : xck own cc nL ρ ret x o = true) (n : Nat) (a b : List Nat) (he : entO (xent x) n = some (a, b)) : ∃ hs, ckB own cc nL (xent x) ρ ret n a b hs (blk o n) = true := by
  unfold entO at he
  cases hf : (xent x).find? (fun q => q.1 == n) with
  | none => rw [hf] at he; cases he
  | some q =>
    rw [hf] at he
    have hm := List.mem_of_find?_eq_some hf
    have hp := List.find?_some hf
    have hp : q.1 = n := by simpa using hp
    have he : q.2 = (a, b) := by simpa using he
    unfold xent at hm
    obtain ⟨y, hy, e⟩ := List.mem_map.mp hm
    subst e
    have hp : y.1 = n := hp
    have he : (y.2.1, y.2.2.1) = (a, b) := he
    cases he
    subst hp
    exact ⟨y.2.2.2, List.all_eq_true.mp h y hy⟩
/-- the check of method mi over its table x -/
def mchk (mi : Nat) (x : Xt) : Bool := xck (jY mi).cls (jB mi) (jN mi) (jP mi) (jR mi) x (mt mi).1 && wfT (mt mi).2.1 && decide ((mt mi).2.1.length ≤ jN mi) && (match entO (xent x) 0 with
  | some q => (q.1 == []) && wkB ((mt mi).2.1 ++ List.replicate (jN mi - (mt mi).2.1.length) 99) q.2
  | none => false)
theorem sl_len {G : WG} {sc : Prop} : ∀ (ts : List Nat) (as : List Int), wfT ts = true → okl sc (ts.filter (fun t => t != 99)) as → (lg_sl (stkB G (ts.filter (fun t => t != 99)) as)).length = ts.length
  | [], as, _, h => by
    cases as with
    | nil => rfl
    | cons a b => exact h.elim
  | t :: [], as, hw, h => by
    have hw : (t != 1 && t != 99) = true := hw
    simp only [Bool.and_eq_true, bne_iff_ne] at hw
    have hf : [t].filter (fun t => t != 99) = [t] := by simp [hw.2]
    rw [hf] at h ⊢
    cases as with
    | nil => exact h.elim
    | cons a as =>
      cases as with
      | cons b c => exact h.2.elim
      | nil =>
        show (lg_sl [cv G t a]).length = 1
        unfold lg_sl
        rw [List.flatMap_cons, List.flatMap_nil, cv_cat, if_neg hw.1, if_neg (by decide)]; rfl
  | t :: u :: ts, as, hw, h => by
    have hw : (if t = 1 then u == 99 && wfT ts else t != 99 && wfT (u :: ts)) = true := hw
    by_cases h1 : t = 1
    · rw [if_pos h1, Bool.and_eq_true, beq_iff_eq] at hw
      obtain ⟨hu, hw⟩ := hw
      subst h1 hu
      have hf : (1 :: 99 :: ts).filter (fun t => t != 99) = 1 :: ts.filter (fun t => t != 99) := rfl
      rw [hf] at h ⊢
      cases as with
      | nil => exact h.elim
      | cons a as =>
        have h2 := sl_len (G := G) ts as hw h.2
        show (lg_sl (cv G 1 a :: stkB G _ as)).length = _
        unfold lg_sl at h2 ⊢
        rw [List.flatMap_cons, cv_cat, if_pos rfl, if_pos rfl, List.length_append, h2]
        simp only [List.length_cons, List.length_nil]; omega
    · rw [if_neg h1, Bool.and_eq_true, bne_iff_ne] at hw
      have hf : (t :: u :: ts).filter (fun t => t != 99) = t :: (u :: ts).filter (fun t => t != 99) := by rw [List.filter_cons, if_pos (by simpa using hw.1)]
      rw [hf] at h ⊢
      cases as with
      | nil => exact h.elim
      | cons a as =>
        have h2 := sl_len (G := G) (u :: ts) as hw.2 h.2
        show (lg_sl (cv G t a :: stkB G _ as)).length = _
        unfold lg_sl at h2 ⊢
        rw [List.flatMap_cons, cv_cat, if_neg h1, if_neg (by decide), List.length_append, h2]
        simp only [List.length_cons, List.length_nil]; omega
theorem rt_met {p : Program} {l : Launch} {e : Env} {R : Room} {s0 : State} {m : MethodId} {args : Array Value} {below : List Frame} {meth : Method} {c : Code} {A : Nat → Prop} {G : WG} {cc : ByteArray} {ρ : Nat} {ret : Option FieldType} {r : Int} {t : Mem} (hx : p.tables.exec = Jvm.exec) (hb : c.code = cc) (hr : meth.sig.returnType = ret) (hlocks : meth.locks = false) (hok : (ret = none ∧ ρ = 98) ∨ (ret = some .int ∧ ρ = 0) ∨ (ret = some .boolean ∧ ρ = 0) ∨ (ret = some .long ∧ ρ = 1) ∨ (isRefTy ρ = true ∧ ρ ≠ 98 ∧ ∃ n, ret = some (.object n))) : Rt p l e R s0 m args below meth c (MQ below (Qm G A ρ r t) args s0 0 0 A) A G False cc ρ ret r t 0 0 := by
  intro pc H locs lsC hd hP hD hS hm hv hbo
  have hq : ∀ t' : State, t'.heap = H → s0.WarmedH t'.vm → Qm G A ρ r t args s0 (.returned (if ρ = 98 then none else some (cv G ρ r))) t' := fun t' ht _ => ⟨rfl, by rw [ht]; exact hP, hm, hv, hS.F ht⟩
  rcases hok with ⟨e1, e2⟩ | ⟨e1, e2⟩ | ⟨e1, e2⟩ | ⟨e1, e2⟩ | ⟨e1, e2, n, e3⟩
  · subst e1 e2
    rw [if_pos rfl] at hq ⊢
    exact W.vret hx hb hr hq hS.2.2 hd hlocks
  · subst e1 e2
    exact W.iret (v := Int32.ofInt r) hx hb hr hq hS.2.2 hd hlocks
  · subst e1 e2
    refine W.zret (v := Int32.ofInt r) hx hb hr ?_ hq hS.2.2 hd hlocks
    rcases hbo rfl with h | h <;> (rw [h]; decide)
  · subst e1 e2
    exact W.lret (v := Int64.ofInt r) hx hb hr hq hS.2.2 hd hlocks
  · subst e3
    rw [if_neg e2] at hq ⊢
    refine W.aret (v := cv G ρ r) hx hb hr (Or.inl ⟨n, rfl⟩) (Or.inr ?_) hq hS.2.2 hd hlocks
    exact ⟨_, cvr (isRef_of e1)⟩
def rok (ret : Option FieldType) (ρ : Nat) : Bool := match ret with
  | none => ρ == 98
  | some .int => ρ == 0
  | some .boolean => ρ == 0
  | some .long => ρ == 1
  | some (.object _) => isRefTy ρ && (ρ != 98)
  | _ => false
theorem rok_of {ret : Option FieldType} {ρ : Nat} (h : rok ret ρ = true) : (ret = none ∧ ρ = 98) ∨ (ret = some .int ∧ ρ = 0) ∨ (ret = some .boolean ∧ ρ = 0) ∨ (ret = some .long ∧ ρ = 1) ∨ (isRefTy ρ = true ∧ ρ ≠ 98 ∧ ∃ n, ret = some (.object n)) := by
  unfold rok at h
  split at h
  · exact Or.inl ⟨rfl, by simpa using h⟩
  · exact Or.inr (Or.inl ⟨rfl, by simpa using h⟩)
  · exact Or.inr (Or.inr (Or.inl ⟨rfl, by simpa using h⟩))
  · exact Or.inr (Or.inr (Or.inr (Or.inl ⟨rfl, by simpa using h⟩)))
  · rw [Bool.and_eq_true, bne_iff_ne] at h
    exact Or.inr (Or.inr (Or.inr (Or.inr ⟨h.1, h.2, _, rfl⟩)))
  · cases h
theorem sem_steps {d mi : Nat} {as : List Int} {s t : Mem} {r : Int} (hmi : mi < nM) (h : sem (d + 1) mi as s = some (r, t)) : ∃ k, steps (sem d) (fun _ => 0) 0 (mt mi).1 k 0 [] (lpad (jN mi) (lexp (mt mi).2.1 as)) s = some (r, t) := by
  have hm : mtab[mi]? = some (mt mi) := by
    unfold mt
    rw [List.getD_eq_getElem?_getD, List.getElem?_eq_getElem hmi]; rfl
  have h : (match mtab[mi]? with | none => none | some (o, ts, n) => lim fun k => steps (sem d) (fun _ => 0) 0 o k 0 [] (lpad n (lexp ts as)) s) = some (r, t) := h
  rw [hm] at h
  exact lim_some h
theorem kt_step {l : Launch} {A : Nat → Prop} {G : WG} {d : Nat} (hM : ∀ mi, mi < nM → mck mi = true) (hX : ∀ mi, mi < nM → ∃ x : Xt, mchk mi x = true) (hO : ∀ mi, mi < nM → rok (jR mi) (jP mi) = true) (hK : ∀ mi, mi < nM → Kt l A G d mi) : ∀ mi, mi < nM → Kt l A G (d + 1) mi := by
  intro mi hmi as s r t hsem hT hm
  obtain ⟨k, hk⟩ := sem_steps hmi hsem
  obtain ⟨x, hx⟩ := hX mi hmi
  unfold mchk at hx
  simp only [Bool.and_eq_true, decide_eq_true_eq] at hx
  obtain ⟨⟨⟨x1, x2⟩, x3⟩, x4⟩ := hx
  have hmk := hM mi hmi
  unfold mck at hmk
  simp only [Bool.and_eq_true] at hmk
  refine met_open (rm := rmd (d + 1)) hmk.1.1.2 ?_
  intro p e s0 m args below meth c C0 hr hlocks hv
  obtain ⟨hargs, hWf, hP, hD⟩ := hv
  subst hargs
  have C : Cx p (rmd (d + 1)) s0 m _ c (jB mi) (jY mi).cls (jN mi) A G False (fun _ => 0) 0 0 0 := ⟨C0, hWf, fun h => h.elim, by show 1 ≤ d + 1 + 8; omega, by show 200 ≤ 300 + 60 * (d + 1); omega, Nat.le_refl _, Nat.le_refl _⟩
  cases he : entO (xent x) 0 with
  | none => rw [he] at x4; cases x4
  | some z =>
    obtain ⟨a, b⟩ := z
    rw [he] at x4
    dsimp only at x4
    rw [Bool.and_eq_true, beq_iff_eq] at x4
    obtain ⟨x4, x5⟩ := x4
    subst x4
    obtain ⟨l1, l2⟩ := lexp_args (G := G) (sc := False) (mt mi).2.1 as 0 x2 hT
    have hlen := okl_len _ _ l2
    have hwd := sim_steps (e := e) (below := below) (R := rmd (d + 1)) C hK hM ⟨by show d + 9 ≤ d + 1 + 8; omega, by show 360 + 60 * d ≤ 300 + 60 * (d + 1); omega⟩ (xck_of x1) (rt_met C0.1 C0.2.1 hr hlocks (rok_of (hO mi hmi))) k [] _ s 0 [] b hk he
    have hwd := o_wk (τl := (mt mi).2.1 ++ List.replicate (jN mi - (mt mi).2.1.length) 99) x5 hwd
    have hsl := sl_len (G := G) (sc := False) (mt mi).2.1 as x2 hT
    have hle := lv_entry (stkB G (jT mi) as) (n := jN mi) (by unfold jT; rw [hsl]; exact x3)
    rw [lg_entry_eq]
    have hpad : lpad (jN mi) (lexp (mt mi).2.1 as) = lexp (mt mi).2.1 as ++ List.replicate (jN mi - (mt mi).2.1.length) 0 := by unfold lpad; rw [← hlen]
    rw [hpad] at hwd
    refine hwd trivial (okl_pad l2) hm s0.heap [] _ hP hD va_S.rf ?_
    rw [lvL_pad _ _ _ hlen, l1]
    exact hle
theorem kt_all {l : Launch} {A : Nat → Prop} {G : WG} (hM : ∀ mi, mi < nM → mck mi = true) (hX : ∀ mi, mi < nM → ∃ x : Xt, mchk mi x = true) (hO : ∀ mi, mi < nM → rok (jR mi) (jP mi) = true) : ∀ d mi, mi < nM → Kt l A G d mi := by
  intro d
  induction d with
  | zero => intro mi _ as s r t h; cases h
  | succ d ih => exact kt_step hM hX hO ih
