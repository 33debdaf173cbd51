/-! ===== what a method answers: fuel hidden, depth of calls told ===== -/
noncomputable def lim (f : Nat → Option (Int × Mem)) : Option (Int × Mem) :=
  @dite _ (∃ r : Int × Mem, ∃ n : Nat, f n = some r) (Classical.propDecidable _) (fun h => some (Classical.choose h)) (fun _ => none)
def lexp : List Nat → List Int → List Int
  | 99 :: ts, as => 0 :: lexp ts as
  | _ :: ts, a :: as => a :: lexp ts as
  | _, _ => []
def lpad (n : Nat) (l : List Int) : List Int := l ++ List.replicate (n - l.length) 0
noncomputable def sem : Nat → CS
  | 0, _, _, _ => none
  | d + 1, mi, as, s => match mtab[mi]? with
    | none => none
    | some (o, ts, n) => lim fun k => steps (sem d) (fun _ => 0) 0 o k 0 [] (lpad n (lexp ts as)) s
/-- from this block on the method ends, with the answer r and the memory t -/
def Gx (cs : CS) (xs : Int → Int) (L : Int) (o : Ops) (pc : Int) (st ls : List Int) (s : Mem) (r : Int) (t : Mem) : Prop := ∃ n, steps cs xs L o n pc st ls s = some (r, t)
abbrev G (cs : CS) (o : Ops) (pc : Int) (st ls : List Int) (s : Mem) (r : Int) (t : Mem) : Prop := Gx cs (fun _ => 0) 0 o pc st ls s r t
/-- what a block's end leads to -/
def GR (cs : CS) (xs : Int → Int) (L : Int) (o : Ops) (q : Rs) (r : Int) (t : Mem) : Prop := match q with
  | some (pc, st, ls, s) => Gx cs xs L o pc st ls s r t
  | none => False
theorem steps_mono {cs : CS} {xs : Int → Int} {L : Int} {o : Ops} : ∀ (n m : Nat) (pc : Int) (st ls : List Int) (s : Mem) (r : Int × Mem), steps cs xs L o n pc st ls s = some r → n ≤ m → steps cs xs L o m pc st ls s = some r := by
  intro n
  induction n with
  | zero => intro m pc st ls s r h _; cases h
  | succ n ih =>
    intro m pc st ls s r h hm
    obtain ⟨m, rfl⟩ : ∃ k, m = k + 1 := ⟨m - 1, by omega⟩
    unfold steps at h ⊢
    split
    · rename_i hpc; rw [if_pos hpc] at h; exact h
    · rename_i hpc
      rw [if_neg hpc] at h
      cases hr : run cs xs L (blk o pc) st ls s with
      | none => rw [hr] at h; cases h
      | some q =>
        obtain ⟨a, b, c, e⟩ := q
        rw [hr] at h
        exact ih m _ _ _ _ _ h (by omega)
theorem lim_of {f : Nat → Option (Int × Mem)} {r : Int × Mem} {n : Nat} (hm : ∀ a b q, f a = some q → a ≤ b → f b = some q) (h : f n = some r) : lim f = some r := by
  have hx : ∃ q : Int × Mem, ∃ n : Nat, f n = some q := ⟨r, n, h⟩
  unfold lim
  rw [dif_pos hx]
  obtain ⟨k, hk⟩ := Classical.choose_spec hx
  have h1 := hm _ (max n k) _ h (Nat.le_max_left _ _)
  have h2 := hm _ (max n k) _ hk (Nat.le_max_right _ _)
  rw [h1] at h2
  exact h2.symm
theorem lim_some {f : Nat → Option (Int × Mem)} {r : Int × Mem} (h : lim f = some r) : ∃ n, f n = some r := by
  unfold lim at h
  split at h
  · rename_i hx
    obtain ⟨k, hk⟩ := Classical.choose_spec hx
    cases h
    exact ⟨k, hk⟩
  · cases h
theorem sem_of {d mi n : Nat} {o : Ops} {ts : List Nat} {as ls : List Int} {s t : Mem} {r : Int} (hm : mtab[mi]? = some (o, ts, n)) (hl : lpad n (lexp ts as) = ls) (h : G (sem d) o 0 [] ls s r t) : sem (d + 1) mi as s = some (r, t) := by
  obtain ⟨k, hk⟩ := h
  show (match mtab[mi]? with | none => none | some (o, ts, n) => lim fun k => steps (sem d) (fun _ => 0) 0 o k 0 [] (lpad n (lexp ts as)) s) = some (r, t)
  rw [hm]
  show (lim fun k => steps (sem d) (fun _ => 0) 0 o k 0 [] (lpad n (lexp ts as)) s) = some (r, t)
  rw [hl]
  exact lim_of (fun a b q h1 h2 => steps_mono a b _ _ _ _ _ h1 h2) hk
theorem G_iff {cs : CS} {xs : Int → Int} {L : Int} {o : Ops} {pc : Int} {st ls : List Int} {s t : Mem} {r : Int} (hpc : pc ≠ -1) : Gx cs xs L o pc st ls s r t ↔ GR cs xs L o (run cs xs L (blk o pc) st ls s) r t := by
  constructor
  · rintro ⟨n, h⟩
    cases n with
    | zero => cases h
    | succ n =>
      unfold steps at h
      rw [if_neg hpc] at h
      cases hr : run cs xs L (blk o pc) st ls s with
      | none => rw [hr] at h; cases h
      | some q =>
        obtain ⟨a, b, c, e⟩ := q
        rw [hr] at h
        exact ⟨n, h⟩
  · intro h
    cases hr : run cs xs L (blk o pc) st ls s with
    | none => rw [hr] at h; exact h.elim
    | some q =>
      obtain ⟨a, b, c, e⟩ := q
      rw [hr] at h
      obtain ⟨n, h⟩ := h
      refine ⟨n + 1, ?_⟩
      unfold steps
      rw [if_neg hpc, hr]
      exact h
theorem G_ret {cs : CS} {xs : Int → Int} {L : Int} {o : Ops} {st ls : List Int} {s t : Mem} {r : Int} : Gx cs xs L o (-1) st ls s r t ↔ st.headD 0 = r ∧ s = t := by
  constructor
  · rintro ⟨n, h⟩
    cases n with
    | zero => cases h
    | succ n =>
      unfold steps at h
      rw [if_pos rfl] at h
      cases h
      exact ⟨rfl, rfl⟩
  · rintro ⟨rfl, rfl⟩
    exact ⟨1, by unfold steps; rw [if_pos rfl]⟩
theorem GR_some {cs : CS} {xs : Int → Int} {L : Int} {o : Ops} {pc : Int} {st ls : List Int} {s t : Mem} {r : Int} : GR cs xs L o (some (pc, st, ls, s)) r t = Gx cs xs L o pc st ls s r t := rfl
theorem GR_none {cs : CS} {xs : Int → Int} {L : Int} {o : Ops} {t : Mem} {r : Int} : GR cs xs L o none r t = False := rfl
theorem GR_ite {cs : CS} {xs : Int → Int} {L : Int} {o : Ops} {c : Prop} [Decidable c] {a b : Rs} {t : Mem} {r : Int} : GR cs xs L o (if c then a else b) r t = if c then GR cs xs L o a r t else GR cs xs L o b r t := by split <;> rfl
theorem G_blk {cs : CS} {xs : Int → Int} {L : Int} {o : Ops} {pc : Int} {l : List Instr} {st ls : List Int} {s t : Mem} {r : Int} (hpc : pc ≠ -1) (hl : blk o pc = l) : Gx cs xs L o pc st ls s r t = GR cs xs L o (run cs xs L l st ls s) r t := by
  rw [← hl]
  exact propext (G_iff hpc)
/-! ===== printed by wip/gen/emit.py: lengths of arrays; a method by its first block ===== -/
theorem alen_1 : alen 1 = 5 := rfl
theorem alen_2 : alen 2 = 364 := rfl
theorem alen_4 : alen 4 = 4 := rfl
theorem alen_5 : alen 5 = 4 := rfl
theorem alen_6 : alen 6 = 240 := rfl
theorem alen_8 : alen 8 = 900 := rfl
theorem alen_11 : alen 11 = 3 := rfl
theorem alen_13 : alen 13 = 60 := rfl
theorem alen_15 : alen 15 = 4 := rfl
theorem alen_16 : alen 16 = 4 := rfl
theorem alen_17 : alen 17 = 4 := rfl
theorem alen_18 : alen 18 = 364 := rfl
theorem alen_19 : alen 19 = 180 := rfl
theorem alen_20 : alen 20 = 60 := rfl
theorem alen_21 : alen 21 = 60 := rfl
theorem alen_22 : alen 22 = 15 := rfl
theorem alen_23 : alen 23 = 315 := rfl
theorem alen_25 : alen 25 = 49 := rfl
theorem alen_26 : alen 26 = 364 := rfl
theorem alen_27 : alen 27 = 96 := rfl
theorem alen_28 : alen 28 = 96 := rfl
theorem alen_29 : alen 29 = 32 := rfl
theorem alen_30 : alen 30 = 32 := rfl
theorem alen_32 : alen 32 = 105 := rfl
theorem alen_33 : alen 33 = 105 := rfl
theorem alen_34 : alen 34 = 7 := rfl
theorem alen_35 : alen 35 = 128 := rfl
theorem alen_36 : alen 36 = 128 := rfl
theorem alen_38 : alen 38 = 16 := rfl
theorem alen_39 : alen 39 = 20 := rfl
theorem alen_40 : alen 40 = 10 := rfl
theorem alen_41 : alen 41 = 10 := rfl
theorem alen_42 : alen 42 = 4 := rfl
theorem alen_43 : alen 43 = 5 := rfl
theorem alen_44 : alen 44 = 5 := rfl
theorem alen_45 : alen 45 = 45 := rfl
theorem alen_46 : alen 46 = 8 := rfl
theorem alen_47 : alen 47 = 364 := rfl
theorem alen_48 : alen 48 = 49 := rfl
theorem alen_50 : alen 50 = 60 := rfl
theorem alen_51 : alen 51 = 60 := rfl
theorem alen_52 : alen 52 = 60 := rfl
theorem alen_53 : alen 53 = 60 := rfl
theorem alen_54 : alen 54 = 60 := rfl
theorem alen_55 : alen 55 = 60 := rfl
theorem alen_56 : alen 56 = 60 := rfl
theorem alen_58 : alen 58 = 16 := rfl
theorem alen_59 : alen 59 = 20 := rfl
theorem alen_60 : alen 60 = 10 := rfl
theorem alen_61 : alen 61 = 10 := rfl
theorem alen_62 : alen 62 = 4 := rfl
theorem alen_63 : alen 63 = 5 := rfl
theorem alen_64 : alen 64 = 5 := rfl
theorem alen_65 : alen 65 = 45 := rfl
theorem alen_66 : alen 66 = 8 := rfl
theorem alen_67 : alen 67 = 364 := rfl
theorem alen_68 : alen 68 = 49 := rfl
theorem alen_70 : alen 70 = 60 := rfl
theorem alen_71 : alen 71 = 60 := rfl
theorem alen_72 : alen 72 = 60 := rfl
theorem alen_73 : alen 73 = 60 := rfl
theorem alen_74 : alen 74 = 60 := rfl
theorem alen_75 : alen 75 = 60 := rfl
theorem alen_76 : alen 76 = 60 := rfl
theorem alen_78 : alen 78 = 16 := rfl
theorem alen_79 : alen 79 = 20 := rfl
theorem alen_80 : alen 80 = 10 := rfl
theorem alen_81 : alen 81 = 10 := rfl
theorem alen_82 : alen 82 = 4 := rfl
theorem alen_83 : alen 83 = 5 := rfl
theorem alen_84 : alen 84 = 5 := rfl
theorem alen_85 : alen 85 = 45 := rfl
theorem alen_86 : alen 86 = 8 := rfl
theorem alen_87 : alen 87 = 364 := rfl
theorem alen_88 : alen 88 = 49 := rfl
theorem alen_90 : alen 90 = 60 := rfl
theorem alen_91 : alen 91 = 60 := rfl
theorem alen_92 : alen 92 = 60 := rfl
theorem alen_93 : alen 93 = 60 := rfl
theorem alen_94 : alen 94 = 60 := rfl
theorem alen_95 : alen 95 = 60 := rfl
theorem alen_96 : alen 96 = 60 := rfl
theorem alen_98 : alen 98 = 16 := rfl
theorem alen_99 : alen 99 = 20 := rfl
theorem alen_100 : alen 100 = 10 := rfl
theorem alen_101 : alen 101 = 10 := rfl
theorem alen_102 : alen 102 = 4 := rfl
theorem alen_103 : alen 103 = 5 := rfl
theorem alen_104 : alen 104 = 5 := rfl
theorem alen_105 : alen 105 = 45 := rfl
theorem alen_106 : alen 106 = 8 := rfl
theorem alen_107 : alen 107 = 364 := rfl
theorem alen_108 : alen 108 = 49 := rfl
theorem alen_110 : alen 110 = 60 := rfl
theorem alen_111 : alen 111 = 60 := rfl
theorem alen_112 : alen 112 = 60 := rfl
theorem alen_113 : alen 113 = 60 := rfl
theorem alen_114 : alen 114 = 60 := rfl
theorem alen_115 : alen 115 = 60 := rfl
theorem alen_116 : alen 116 = 60 := rfl
theorem alen_118 : alen 118 = 16 := rfl
theorem alen_119 : alen 119 = 20 := rfl
theorem alen_120 : alen 120 = 10 := rfl
theorem alen_121 : alen 121 = 10 := rfl
theorem alen_122 : alen 122 = 4 := rfl
theorem alen_123 : alen 123 = 5 := rfl
theorem alen_124 : alen 124 = 5 := rfl
theorem alen_125 : alen 125 = 45 := rfl
theorem alen_126 : alen 126 = 8 := rfl
theorem alen_127 : alen 127 = 364 := rfl
theorem alen_128 : alen 128 = 49 := rfl
theorem alen_130 : alen 130 = 60 := rfl
theorem alen_131 : alen 131 = 60 := rfl
theorem alen_132 : alen 132 = 60 := rfl
theorem alen_133 : alen 133 = 60 := rfl
theorem alen_134 : alen 134 = 60 := rfl
theorem alen_135 : alen 135 = 60 := rfl
theorem alen_136 : alen 136 = 60 := rfl
theorem alen_138 : alen 138 = 5208 := rfl
theorem alen_139 : alen 139 = 96 := rfl
theorem alen_140 : alen 140 = 4 := rfl
theorem alen_141 : alen 141 = 4 := rfl
theorem alen_142 : alen 142 = 240 := rfl
theorem alen_143 : alen 143 = 900 := rfl
theorem alen_144 : alen 144 = 900 := rfl
theorem alen_145 : alen 145 = 3 := rfl
theorem alen_146 : alen 146 = 49 := rfl
theorem alen_147 : alen 147 = 364 := rfl
theorem alen_148 : alen 148 = 5 := rfl
theorem alen_149 : alen 149 = 5 := rfl
theorem alen_150 : alen 150 = 4 := rfl
theorem alen_151 : alen 151 = 4 := rfl
theorem alen_152 : alen 152 = 80 := rfl
theorem alen_153 : alen 153 = 5 := rfl
theorem alen_154 : alen 154 = 5 := rfl
theorem i_M_status {d : Nat} {x0 : Int} {s t : Mem} {r : Int} (h : G (sem d) o_M_status 0 [] [x0] s r t) : sem (d + 1) 0 [x0] s = some (r, t) := sem_of rfl rfl h
theorem i_M_top {d : Nat} {x0 : Int} {s t : Mem} {r : Int} (h : G (sem d) o_M_top 0 [] [x0] s r t) : sem (d + 1) 1 [x0] s = some (r, t) := sem_of rfl rfl h
theorem i_M_bottom {d : Nat} {x0 : Int} {s t : Mem} {r : Int} (h : G (sem d) o_M_bottom 0 [] [x0] s r t) : sem (d + 1) 2 [x0] s = some (r, t) := sem_of rfl rfl h
theorem i_M_tray {d : Nat} {x0 x1 x2 x3 : Int} {s t : Mem} {r : Int} (h : G (sem d) o_M_tray 0 [] [x0, x1, x2, x3] s r t) : sem (d + 1) 3 [x0, x1, x2, x3] s = some (r, t) := sem_of rfl rfl h
theorem i_Trays_isOne {d : Nat} {x0 x1 : Int} {s t : Mem} {r : Int} (h : G (sem d) o_Trays_isOne 0 [] [x0, x1] s r t) : sem (d + 1) 4 [x0, x1] s = some (r, t) := sem_of rfl rfl h
theorem i_M_deny {d : Nat} {x0 x1 : Int} {s t : Mem} {r : Int} (h : G (sem d) o_M_deny 0 [] [x0, x1] s r t) : sem (d + 1) 5 [x0, x1] s = some (r, t) := sem_of rfl rfl h
theorem i_Trays_lay {d : Nat} {x0 x1 x2 x3 : Int} {s t : Mem} {r : Int} (h : G (sem d) o_Trays_lay 0 [] [x0, x1, x2, x3, 0] s r t) : sem (d + 1) 6 [x0, x1, x2, x3] s = some (r, t) := sem_of rfl rfl h
theorem i_M_grant {d : Nat} {x0 : Int} {s t : Mem} {r : Int} (h : G (sem d) o_M_grant 0 [] [x0] s r t) : sem (d + 1) 7 [x0] s = some (r, t) := sem_of rfl rfl h
theorem i_M_write {d : Nat} {x0 x1 x2 x3 : Int} {s t : Mem} {r : Int} (h : G (sem d) o_M_write 0 [] [x0, x1, x2, x3, 0, 0] s r t) : sem (d + 1) 8 [x0, x1, x2, x3] s = some (r, t) := sem_of rfl rfl h
theorem i_Trays_problemAt {d : Nat} {x0 x1 x2 : Int} {s t : Mem} {r : Int} (h : G (sem d) o_Trays_problemAt 0 [] [x0, x1, x2] s r t) : sem (d + 1) 9 [x0, x1, x2] s = some (r, t) := sem_of rfl rfl h
theorem i_Trays_isMissing {d : Nat} {x0 x1 : Int} {s t : Mem} {r : Int} (h : G (sem d) o_Trays_isMissing 0 [] [x0, x1] s r t) : sem (d + 1) 10 [x0, x1] s = some (r, t) := sem_of rfl rfl h
theorem i_Trays_put {d : Nat} {x0 x1 x2 x3 : Int} {s t : Mem} {r : Int} (h : G (sem d) o_Trays_put 0 [] [x0, x1, x2, x3, 0] s r t) : sem (d + 1) 11 [x0, x1, x2, x3] s = some (r, t) := sem_of rfl rfl h
theorem i_Trays_cut {d : Nat} {x0 x1 : Int} {s t : Mem} {r : Int} (h : G (sem d) o_Trays_cut 0 [] [x0, x1, 0] s r t) : sem (d + 1) 12 [x0, x1] s = some (r, t) := sem_of rfl rfl h
theorem i_M_read {d : Nat} {x0 x1 x2 : Int} {s t : Mem} {r : Int} (h : G (sem d) o_M_read 0 [] [x0, x1, x2, 0] s r t) : sem (d + 1) 13 [x0, x1, x2] s = some (r, t) := sem_of rfl rfl h
theorem i_M_fail {d : Nat} {x0 x1 : Int} {s t : Mem} {r : Int} (h : G (sem d) o_M_fail 0 [] [x0, x1] s r t) : sem (d + 1) 14 [x0, x1] s = some (r, t) := sem_of rfl rfl h
theorem i_M_pour {d : Nat} {x0 x1 x2 x3 x4 x5 : Int} {s t : Mem} {r : Int} (h : G (sem d) o_M_pour 0 [] [x0, x1, x2, x3, x4, x5] s r t) : sem (d + 1) 15 [x0, x1, x2, x3, x4, x5] s = some (r, t) := sem_of rfl rfl h
theorem i_Trays_reaches {d : Nat} {x0 x1 x2 x3 : Int} {s t : Mem} {r : Int} (h : G (sem d) o_Trays_reaches 0 [] [x0, x1, x2, x3] s r t) : sem (d + 1) 16 [x0, x1, x2, x3] s = some (r, t) := sem_of rfl rfl h
theorem i_Trays_move {d : Nat} {x0 x1 x2 x3 x4 x5 : Int} {s t : Mem} {r : Int} (h : G (sem d) o_Trays_move 0 [] [x0, x1, x2, x3, x4, x5] s r t) : sem (d + 1) 17 [x0, x1, x2, x3, x4, x5] s = some (r, t) := sem_of rfl rfl h
theorem i_M_feed {d : Nat} {x0 x1 x2 x3 x4 x5 : Int} {s t : Mem} {r : Int} (h : G (sem d) o_M_feed 0 [] [x0, x1, x2, x3, x4, x5] s r t) : sem (d + 1) 18 [x0, x1, x2, x3, x4, x5] s = some (r, t) := sem_of rfl rfl h
theorem i_Tokens_append {d : Nat} {x0 x1 : Int} {s t : Mem} {r : Int} (h : G (sem d) o_Tokens_append 0 [] [x0, x1, 0] s r t) : sem (d + 1) 19 [x0, x1] s = some (r, t) := sem_of rfl rfl h
theorem i_M_hall {d : Nat} {x0 x1 : Int} {s t : Mem} {r : Int} (h : G (sem d) o_M_hall 0 [] [x0, x1, 0] s r t) : sem (d + 1) 20 [x0, x1] s = some (r, t) := sem_of rfl rfl h
theorem i_Tokens_begin {d : Nat} {x0 x1 : Int} {s t : Mem} {r : Int} (h : G (sem d) o_Tokens_begin 0 [] [x0, x1] s r t) : sem (d + 1) 21 [x0, x1] s = some (r, t) := sem_of rfl rfl h
theorem i_HallReader_readInto {d : Nat} {x0 x1 : Int} {s t : Mem} {r : Int} (h : G (sem d) o_HallReader_readInto 0 [] [x0, x1, 0] s r t) : sem (d + 1) 22 [x0, x1] s = some (r, t) := sem_of rfl rfl h
theorem i_Hall_clear {d : Nat} {x0 : Int} {s t : Mem} {r : Int} (h : G (sem d) o_Hall_clear 0 [] [x0] s r t) : sem (d + 1) 23 [x0] s = some (r, t) := sem_of rfl rfl h
theorem i_Steps_clear {d : Nat} {x0 : Int} {s t : Mem} {r : Int} (h : G (sem d) o_Steps_clear 0 [] [x0] s r t) : sem (d + 1) 24 [x0] s = some (r, t) := sem_of rfl rfl h
theorem i_Tokens_advance {d : Nat} {x0 : Int} {s t : Mem} {r : Int} (h : G (sem d) o_Tokens_advance 0 [] [x0] s r t) : sem (d + 1) 25 [x0] s = some (r, t) := sem_of rfl rfl h
theorem i_Tokens_kindOf {d : Nat} {x0 : Int} {s t : Mem} {r : Int} (h : G (sem d) o_Tokens_kindOf 0 [] [x0] s r t) : sem (d + 1) 26 [x0] s = some (r, t) := sem_of rfl rfl h
theorem i_Tokens_readLetters {d : Nat} {x0 : Int} {s t : Mem} {r : Int} (h : G (sem d) o_Tokens_readLetters 0 [] [x0] s r t) : sem (d + 1) 27 [x0] s = some (r, t) := sem_of rfl rfl h
theorem i_Tokens_wordNumber {d : Nat} {x0 : Int} {s t : Mem} {r : Int} (h : G (sem d) o_Tokens_wordNumber 0 [] [x0, 0] s r t) : sem (d + 1) 28 [x0] s = some (r, t) := sem_of rfl rfl h
theorem i_Tokens_readDigits {d : Nat} {x0 : Int} {s t : Mem} {r : Int} (h : G (sem d) o_Tokens_readDigits 0 [] [x0] s r t) : sem (d + 1) 29 [x0] s = some (r, t) := sem_of rfl rfl h
theorem i_Hall_measure {d : Nat} {x0 x1 x2 : Int} {s t : Mem} {r : Int} (h : G (sem d) o_Hall_measure 0 [] [x0, x1, x2, 0, 0] s r t) : sem (d + 1) 30 [x0, x1, x2] s = some (r, t) := sem_of rfl rfl h
theorem i_Arrays_fill {d : Nat} {x0 x1 : Int} {s t : Mem} {r : Int} (h : G (sem d) o_Arrays_fill 0 [] [x0, x1, 0, 0] s r t) : sem (d + 1) 31 [x0, x1] s = some (r, t) := sem_of rfl rfl h
theorem i_Hall_shorten {d : Nat} {x0 x1 x2 x3 : Int} {s t : Mem} {r : Int} (h : G (sem d) o_Hall_shorten 0 [] [x0, x1, x2, x3, 0] s r t) : sem (d + 1) 32 [x0, x1, x2, x3] s = some (r, t) := sem_of rfl rfl h
theorem i_Hall_measureBy {d : Nat} {x0 x1 x2 : Int} {s t : Mem} {r : Int} (h : G (sem d) o_Hall_measureBy 0 [] [x0, x1, x2, 0, 0, 0] s r t) : sem (d + 1) 33 [x0, x1, x2] s = some (r, t) := sem_of rfl rfl h
theorem i_HallReader_readPart {d : Nat} {x0 x1 : Int} {s t : Mem} {r : Int} (h : G (sem d) o_HallReader_readPart 0 [] [x0, x1] s r t) : sem (d + 1) 34 [x0, x1] s = some (r, t) := sem_of rfl rfl h
theorem i_Tokens_word {d : Nat} {x0 : Int} {s t : Mem} {r : Int} (h : G (sem d) o_Tokens_word 0 [] [x0] s r t) : sem (d + 1) 35 [x0] s = some (r, t) := sem_of rfl rfl h
theorem i_HallReader_readOdds {d : Nat} {x0 x1 : Int} {s t : Mem} {r : Int} (h : G (sem d) o_HallReader_readOdds 0 [] [x0, x1] s r t) : sem (d + 1) 36 [x0, x1] s = some (r, t) := sem_of rfl rfl h
theorem i_Tokens_refuse {d : Nat} {x0 x1 : Int} {s t : Mem} {r : Int} (h : G (sem d) o_Tokens_refuse 0 [] [x0, x1] s r t) : sem (d + 1) 37 [x0, x1] s = some (r, t) := sem_of rfl rfl h
theorem i_Tokens_numberNext {d : Nat} {x0 x1 x2 : Int} {s t : Mem} {r : Int} (h : G (sem d) o_Tokens_numberNext 0 [] [x0, x1, x2] s r t) : sem (d + 1) 38 [x0, x1, x2] s = some (r, t) := sem_of rfl rfl h
theorem i_Tokens_numberHere {d : Nat} {x0 x1 x2 : Int} {s t : Mem} {r : Int} (h : G (sem d) o_Tokens_numberHere 0 [] [x0, x1, x2] s r t) : sem (d + 1) 39 [x0, x1, x2] s = some (r, t) := sem_of rfl rfl h
theorem i_Tokens_closeNext {d : Nat} {x0 : Int} {s t : Mem} {r : Int} (h : G (sem d) o_Tokens_closeNext 0 [] [x0] s r t) : sem (d + 1) 40 [x0] s = some (r, t) := sem_of rfl rfl h
theorem i_Tokens_closeHere {d : Nat} {x0 : Int} {s t : Mem} {r : Int} (h : G (sem d) o_Tokens_closeHere 0 [] [x0] s r t) : sem (d + 1) 41 [x0] s = some (r, t) := sem_of rfl rfl h
theorem i_HallReader_readPlace {d : Nat} {x0 x1 : Int} {s t : Mem} {r : Int} (h : G (sem d) o_HallReader_readPlace 0 [] [x0, x1] s r t) : sem (d + 1) 42 [x0, x1] s = some (r, t) := sem_of rfl rfl h
theorem i_HallReader_newNameNext {d : Nat} {x0 x1 : Int} {s t : Mem} {r : Int} (h : G (sem d) o_HallReader_newNameNext 0 [] [x0, x1] s r t) : sem (d + 1) 43 [x0, x1] s = some (r, t) := sem_of rfl rfl h
theorem i_Tokens_nameNext {d : Nat} {x0 : Int} {s t : Mem} {r : Int} (h : G (sem d) o_Tokens_nameNext 0 [] [x0, 0] s r t) : sem (d + 1) 44 [x0] s = some (r, t) := sem_of rfl rfl h
theorem i_Hall_isTaken {d : Nat} {x0 x1 : Int} {s t : Mem} {r : Int} (h : G (sem d) o_Hall_isTaken 0 [] [x0, x1, 0] s r t) : sem (d + 1) 45 [x0, x1] s = some (r, t) := sem_of rfl rfl h
theorem i_Hall_placeNamed {d : Nat} {x0 x1 : Int} {s t : Mem} {r : Int} (h : G (sem d) o_Hall_placeNamed 0 [] [x0, x1, 0] s r t) : sem (d + 1) 46 [x0, x1] s = some (r, t) := sem_of rfl rfl h
theorem i_Hall_indexOf {d : Nat} {x0 x1 x3 x4 : Int} {s t : Mem} {r : Int} (h : G (sem d) o_Hall_indexOf 0 [] [x0, x1, 0, x3, x4, 0] s r t) : sem (d + 1) 47 [x0, x1, x3, x4] s = some (r, t) := sem_of rfl rfl h
theorem i_Hall_slateNamed {d : Nat} {x0 x1 : Int} {s t : Mem} {r : Int} (h : G (sem d) o_Hall_slateNamed 0 [] [x0, x1, 0] s r t) : sem (d + 1) 48 [x0, x1] s = some (r, t) := sem_of rfl rfl h
theorem i_Hall_callerNamed {d : Nat} {x0 x1 : Int} {s t : Mem} {r : Int} (h : G (sem d) o_Hall_callerNamed 0 [] [x0, x1, 0] s r t) : sem (d + 1) 49 [x0, x1] s = some (r, t) := sem_of rfl rfl h
theorem i_Hall_addPlace {d : Nat} {x0 x1 : Int} {s t : Mem} {r : Int} (h : G (sem d) o_Hall_addPlace 0 [] [x0, x1, 0] s r t) : sem (d + 1) 50 [x0, x1] s = some (r, t) := sem_of rfl rfl h
theorem i_HallReader_readWay {d : Nat} {x0 x1 : Int} {s t : Mem} {r : Int} (h : G (sem d) o_HallReader_readWay 0 [] [x0, x1, 0, 0, 0, 0] s r t) : sem (d + 1) 51 [x0, x1] s = some (r, t) := sem_of rfl rfl h
theorem i_HallReader_placeNext {d : Nat} {x0 x1 : Int} {s t : Mem} {r : Int} (h : G (sem d) o_HallReader_placeNext 0 [] [x0, x1, 0] s r t) : sem (d + 1) 52 [x0, x1] s = some (r, t) := sem_of rfl rfl h
theorem i_Tokens_wordNext {d : Nat} {x0 x1 : Int} {s t : Mem} {r : Int} (h : G (sem d) o_Tokens_wordNext 0 [] [x0, x1] s r t) : sem (d + 1) 53 [x0, x1] s = some (r, t) := sem_of rfl rfl h
theorem i_Hall_addWay {d : Nat} {x0 x1 x2 x3 x4 : Int} {s t : Mem} {r : Int} (h : G (sem d) o_Hall_addWay 0 [] [x0, x1, x2, x3, x4] s r t) : sem (d + 1) 54 [x0, x1, x2, x3, x4] s = some (r, t) := sem_of rfl rfl h
theorem i_HallReader_readSlate {d : Nat} {x0 x1 : Int} {s t : Mem} {r : Int} (h : G (sem d) o_HallReader_readSlate 0 [] [x0, x1, 0, 0, 0] s r t) : sem (d + 1) 55 [x0, x1] s = some (r, t) := sem_of rfl rfl h
theorem i_Hall_addSlate {d : Nat} {x0 x1 x3 : Int} {s t : Mem} {r : Int} (h : G (sem d) o_Hall_addSlate 0 [] [x0, x1, 0, x3] s r t) : sem (d + 1) 56 [x0, x1, x3] s = some (r, t) := sem_of rfl rfl h
theorem i_HallReader_readCaller {d : Nat} {x0 x1 : Int} {s t : Mem} {r : Int} (h : G (sem d) o_HallReader_readCaller 0 [] [x0, x1, 0, 0, 0] s r t) : sem (d + 1) 57 [x0, x1] s = some (r, t) := sem_of rfl rfl h
theorem i_Hall_addCaller {d : Nat} {x0 x1 x3 : Int} {s t : Mem} {r : Int} (h : G (sem d) o_Hall_addCaller 0 [] [x0, x1, 0, x3] s r t) : sem (d + 1) 58 [x0, x1, x3] s = some (r, t) := sem_of rfl rfl h
theorem i_HallReader_readCry {d : Nat} {x0 x1 : Int} {s t : Mem} {r : Int} (h : G (sem d) o_HallReader_readCry 0 [] [x0, x1, 0, 0, 0, 0] s r t) : sem (d + 1) 59 [x0, x1] s = some (r, t) := sem_of rfl rfl h
theorem i_HallReader_callerNext {d : Nat} {x0 x1 : Int} {s t : Mem} {r : Int} (h : G (sem d) o_HallReader_callerNext 0 [] [x0, x1, 0] s r t) : sem (d + 1) 60 [x0, x1] s = some (r, t) := sem_of rfl rfl h
theorem i_HallReader_perhapsNumberNext {d : Nat} {x0 : Int} {s t : Mem} {r : Int} (h : G (sem d) o_HallReader_perhapsNumberNext 0 [] [x0] s r t) : sem (d + 1) 61 [x0] s = some (r, t) := sem_of rfl rfl h
theorem i_Hall_addCry {d : Nat} {x0 x1 x2 x3 x4 : Int} {s t : Mem} {r : Int} (h : G (sem d) o_Hall_addCry 0 [] [x0, x1, x2, x3, x4, 0, 0] s r t) : sem (d + 1) 62 [x0, x1, x2, x3, x4] s = some (r, t) := sem_of rfl rfl h
theorem i_HallReader_readCall {d : Nat} {x0 x1 : Int} {s t : Mem} {r : Int} (h : G (sem d) o_HallReader_readCall 0 [] [x0, x1, 0, 0] s r t) : sem (d + 1) 63 [x0, x1] s = some (r, t) := sem_of rfl rfl h
theorem i_Hall_addCall {d : Nat} {x0 x1 x2 x3 : Int} {s t : Mem} {r : Int} (h : G (sem d) o_Hall_addCall 0 [] [x0, x1, x2, x3, 0] s r t) : sem (d + 1) 64 [x0, x1, x2, x3] s = some (r, t) := sem_of rfl rfl h
theorem i_Hall_hasCry {d : Nat} {x0 x1 x2 : Int} {s t : Mem} {r : Int} (h : G (sem d) o_Hall_hasCry 0 [] [x0, x1, x2] s r t) : sem (d + 1) 65 [x0, x1, x2] s = some (r, t) := sem_of rfl rfl h
theorem i_Hall_callNumber {d : Nat} {x0 x1 x2 : Int} {s t : Mem} {r : Int} (h : G (sem d) o_Hall_callNumber 0 [] [x0, x1, x2] s r t) : sem (d + 1) 66 [x0, x1, x2] s = some (r, t) := sem_of rfl rfl h
theorem i_Hall_isSpoken {d : Nat} {x0 x1 : Int} {s t : Mem} {r : Int} (h : G (sem d) o_Hall_isSpoken 0 [] [x0, x1, 0] s r t) : sem (d + 1) 67 [x0, x1] s = some (r, t) := sem_of rfl rfl h
theorem i_Hall_takeFrom {d : Nat} {x0 x1 : Int} {s t : Mem} {r : Int} (h : G (sem d) o_Hall_takeFrom 0 [] [x0, x1] s r t) : sem (d + 1) 68 [x0, x1] s = some (r, t) := sem_of rfl rfl h
theorem i_Steps_takeFrom {d : Nat} {x0 x1 : Int} {s t : Mem} {r : Int} (h : G (sem d) o_Steps_takeFrom 0 [] [x0, x1] s r t) : sem (d + 1) 69 [x0, x1] s = some (r, t) := sem_of rfl rfl h
theorem i_M_pass {d : Nat} {x0 x1 : Int} {s t : Mem} {r : Int} (h : G (sem d) o_M_pass 0 [] [x0, x1] s r t) : sem (d + 1) 70 [x0, x1] s = some (r, t) := sem_of rfl rfl h
theorem i_M_mornings {d : Nat} {x0 x1 : Int} {s t : Mem} {r : Int} (h : G (sem d) o_M_mornings 0 [] [x0, x1, 0] s r t) : sem (d + 1) 71 [x0, x1] s = some (r, t) := sem_of rfl rfl h
theorem i_MorningsReader_readInto {d : Nat} {x0 x1 x2 : Int} {s t : Mem} {r : Int} (h : G (sem d) o_MorningsReader_readInto 0 [] [x0, x1, x2, 0, 0, 0] s r t) : sem (d + 1) 72 [x0, x1, x2] s = some (r, t) := sem_of rfl rfl h
theorem i_MorningsReader_readEnd {d : Nat} {x0 x1 : Int} {s t : Mem} {r : Int} (h : G (sem d) o_MorningsReader_readEnd 0 [] [x0, x1, 0] s r t) : sem (d + 1) 73 [x0, x1] s = some (r, t) := sem_of rfl rfl h
theorem i_MorningsReader_beginStep {d : Nat} {x0 x1 : Int} {s t : Mem} {r : Int} (h : G (sem d) o_MorningsReader_beginStep 0 [] [x0, x1, 0, 0, 0] s r t) : sem (d + 1) 74 [x0, x1] s = some (r, t) := sem_of rfl rfl h
theorem i_MorningsReader_isPlainStep {d : Nat} {x0 : Int} {s t : Mem} {r : Int} (h : G (sem d) o_MorningsReader_isPlainStep 0 [] [x0] s r t) : sem (d + 1) 75 [x0] s = some (r, t) := sem_of rfl rfl h
theorem i_MorningsReader_readRest {d : Nat} {x0 x1 x2 : Int} {s t : Mem} {r : Int} (h : G (sem d) o_MorningsReader_readRest 0 [] [x0, x1, x2, 0] s r t) : sem (d + 1) 76 [x0, x1, x2] s = some (r, t) := sem_of rfl rfl h
theorem i_MorningsReader_readCaller {d : Nat} {x0 x1 x2 x3 : Int} {s t : Mem} {r : Int} (h : G (sem d) o_MorningsReader_readCaller 0 [] [x0, x1, x2, x3] s r t) : sem (d + 1) 77 [x0, x1, x2, x3] s = some (r, t) := sem_of rfl rfl h
theorem i_MorningsReader_readWhere {d : Nat} {x0 x1 x2 x3 : Int} {s t : Mem} {r : Int} (h : G (sem d) o_MorningsReader_readWhere 0 [] [x0, x1, x2, x3] s r t) : sem (d + 1) 78 [x0, x1, x2, x3] s = some (r, t) := sem_of rfl rfl h
theorem i_MorningsReader_readNumber {d : Nat} {x0 x1 x2 x3 x4 : Int} {s t : Mem} {r : Int} (h : G (sem d) o_MorningsReader_readNumber 0 [] [x0, x1, x2, x3, x4] s r t) : sem (d + 1) 79 [x0, x1, x2, x3, x4] s = some (r, t) := sem_of rfl rfl h
theorem i_MorningsReader_readPlace {d : Nat} {x0 x1 x2 x3 : Int} {s t : Mem} {r : Int} (h : G (sem d) o_MorningsReader_readPlace 0 [] [x0, x1, x2, x3] s r t) : sem (d + 1) 80 [x0, x1, x2, x3] s = some (r, t) := sem_of rfl rfl h
theorem i_MorningsReader_readTest {d : Nat} {x0 x1 x2 x3 : Int} {s t : Mem} {r : Int} (h : G (sem d) o_MorningsReader_readTest 0 [] [x0, x1, x2, x3] s r t) : sem (d + 1) 81 [x0, x1, x2, x3] s = some (r, t) := sem_of rfl rfl h
theorem i_MorningsReader_readSlate {d : Nat} {x0 x1 x2 x3 : Int} {s t : Mem} {r : Int} (h : G (sem d) o_MorningsReader_readSlate 0 [] [x0, x1, x2, x3] s r t) : sem (d + 1) 82 [x0, x1, x2, x3] s = some (r, t) := sem_of rfl rfl h
theorem i_MorningsReader_readSign {d : Nat} {x0 x1 x2 : Int} {s t : Mem} {r : Int} (h : G (sem d) o_MorningsReader_readSign 0 [] [x0, x1, x2] s r t) : sem (d + 1) 83 [x0, x1, x2] s = some (r, t) := sem_of rfl rfl h
theorem i_Tokens_compareNext {d : Nat} {x0 : Int} {s t : Mem} {r : Int} (h : G (sem d) o_Tokens_compareNext 0 [] [x0] s r t) : sem (d + 1) 84 [x0] s = some (r, t) := sem_of rfl rfl h
theorem i_M_fault {d : Nat} {x0 x1 : Int} {s t : Mem} {r : Int} (h : G (sem d) o_M_fault 0 [] [x0, x1] s r t) : sem (d + 1) 85 [x0, x1] s = some (r, t) := sem_of rfl rfl h
theorem i_M_told {d : Nat} {x0 x1 : Int} {s t : Mem} {r : Int} (h : G (sem d) o_M_told 0 [] [x0, x1] s r t) : sem (d + 1) 86 [x0, x1] s = some (r, t) := sem_of rfl rfl h
theorem i_Hall_allCries {d : Nat} {x0 : Int} {s t : Mem} {r : Int} (h : G (sem d) o_Hall_allCries 0 [] [x0, 0, 0] s r t) : sem (d + 1) 87 [x0] s = some (r, t) := sem_of rfl rfl h
theorem i_M_way {d : Nat} {x0 x1 x2 : Int} {s t : Mem} {r : Int} (h : G (sem d) o_M_way 0 [] [x0, x1, x2] s r t) : sem (d + 1) 88 [x0, x1, x2] s = some (r, t) := sem_of rfl rfl h
theorem i_Hall_hasWay {d : Nat} {x0 x1 : Int} {s t : Mem} {r : Int} (h : G (sem d) o_Hall_hasWay 0 [] [x0, x1] s r t) : sem (d + 1) 89 [x0, x1] s = some (r, t) := sem_of rfl rfl h
theorem i_M_slate {d : Nat} {x0 x1 : Int} {s t : Mem} {r : Int} (h : G (sem d) o_M_slate 0 [] [x0, x1] s r t) : sem (d + 1) 90 [x0, x1] s = some (r, t) := sem_of rfl rfl h
theorem i_Hall_hasSlate {d : Nat} {x0 x1 : Int} {s t : Mem} {r : Int} (h : G (sem d) o_Hall_hasSlate 0 [] [x0, x1] s r t) : sem (d + 1) 91 [x0, x1] s = some (r, t) := sem_of rfl rfl h
theorem i_M_caller {d : Nat} {x0 x1 x2 : Int} {s t : Mem} {r : Int} (h : G (sem d) o_M_caller 0 [] [x0, x1, x2] s r t) : sem (d + 1) 92 [x0, x1, x2] s = some (r, t) := sem_of rfl rfl h
theorem i_Hall_hasCaller {d : Nat} {x0 x1 : Int} {s t : Mem} {r : Int} (h : G (sem d) o_Hall_hasCaller 0 [] [x0, x1] s r t) : sem (d + 1) 93 [x0, x1] s = some (r, t) := sem_of rfl rfl h
theorem i_M_cry {d : Nat} {x0 x1 x2 x3 : Int} {s t : Mem} {r : Int} (h : G (sem d) o_M_cry 0 [] [x0, x1, x2, x3, 0] s r t) : sem (d + 1) 94 [x0, x1, x2, x3] s = some (r, t) := sem_of rfl rfl h
theorem i_Hall_numberOf {d : Nat} {x0 x1 x2 : Int} {s t : Mem} {r : Int} (h : G (sem d) o_Hall_numberOf 0 [] [x0, x1, x2] s r t) : sem (d + 1) 95 [x0, x1, x2] s = some (r, t) := sem_of rfl rfl h
theorem i_M_call {d : Nat} {x0 x1 x2 : Int} {s t : Mem} {r : Int} (h : G (sem d) o_M_call 0 [] [x0, x1, x2] s r t) : sem (d + 1) 96 [x0, x1, x2] s = some (r, t) := sem_of rfl rfl h
theorem i_Hall_hasCall {d : Nat} {x0 x1 : Int} {s t : Mem} {r : Int} (h : G (sem d) o_Hall_hasCall 0 [] [x0, x1] s r t) : sem (d + 1) 97 [x0, x1] s = some (r, t) := sem_of rfl rfl h
theorem i_Hall_callerOf {d : Nat} {x0 x1 : Int} {s t : Mem} {r : Int} (h : G (sem d) o_Hall_callerOf 0 [] [x0, x1] s r t) : sem (d + 1) 98 [x0, x1] s = some (r, t) := sem_of rfl rfl h
theorem i_Hall_kindOf {d : Nat} {x0 x1 : Int} {s t : Mem} {r : Int} (h : G (sem d) o_Hall_kindOf 0 [] [x0, x1] s r t) : sem (d + 1) 99 [x0, x1] s = some (r, t) := sem_of rfl rfl h
theorem i_Hall_startOf {d : Nat} {x0 x1 : Int} {s t : Mem} {r : Int} (h : G (sem d) o_Hall_startOf 0 [] [x0, x1] s r t) : sem (d + 1) 100 [x0, x1] s = some (r, t) := sem_of rfl rfl h
theorem i_M_say {d : Nat} {x0 x1 x2 x3 : Int} {s t : Mem} {r : Int} (h : G (sem d) o_M_say 0 [] [x0, x1, x2, x3, 0] s r t) : sem (d + 1) 101 [x0, x1, x2, x3] s = some (r, t) := sem_of rfl rfl h
theorem i_M_hush {d : Nat} {x0 x1 : Int} {s t : Mem} {r : Int} (h : G (sem d) o_M_hush 0 [] [x0, x1] s r t) : sem (d + 1) 102 [x0, x1] s = some (r, t) := sem_of rfl rfl h
theorem i_Hall_strike {d : Nat} {x0 x1 : Int} {s t : Mem} {r : Int} (h : G (sem d) o_Hall_strike 0 [] [x0, x1, 0] s r t) : sem (d + 1) 103 [x0, x1] s = some (r, t) := sem_of rfl rfl h
theorem i_M_walk {d : Nat} {x0 x1 x2 : Int} {s t : Mem} {r : Int} (h : G (sem d) o_M_walk 0 [] [x0, x1, x2, 0] s r t) : sem (d + 1) 104 [x0, x1, x2] s = some (r, t) := sem_of rfl rfl h
theorem i_Hall_hasPlace {d : Nat} {x0 x1 : Int} {s t : Mem} {r : Int} (h : G (sem d) o_Hall_hasPlace 0 [] [x0, x1] s r t) : sem (d + 1) 105 [x0, x1] s = some (r, t) := sem_of rfl rfl h
theorem i_M_hang {d : Nat} {x0 x1 x2 : Int} {s t : Mem} {r : Int} (h : G (sem d) o_M_hang 0 [] [x0, x1, x2, 0] s r t) : sem (d + 1) 106 [x0, x1, x2] s = some (r, t) := sem_of rfl rfl h
theorem i_M_pave {d : Nat} {x0 x1 x2 x3 : Int} {s t : Mem} {r : Int} (h : G (sem d) o_M_pave 0 [] [x0, x1, x2, x3, 0, 0] s r t) : sem (d + 1) 107 [x0, x1, x2, x3] s = some (r, t) := sem_of rfl rfl h
theorem i_M_teach {d : Nat} {x0 x1 x2 x3 x4 : Int} {s t : Mem} {r : Int} (h : G (sem d) o_M_teach 0 [] [x0, x1, x2, x3, x4, 0] s r t) : sem (d + 1) 108 [x0, x1, x2, x3, x4] s = some (r, t) := sem_of rfl rfl h
theorem i_M_isNumber {d : Nat} {x0 x1 : Int} {s t : Mem} {r : Int} (h : G (sem d) o_M_isNumber 0 [] [x0, x1] s r t) : sem (d + 1) 109 [x0, x1] s = some (r, t) := sem_of rfl rfl h
theorem i_M_rule {d : Nat} {x0 x1 : Int} {s t : Mem} {r : Int} (h : G (sem d) o_M_rule 0 [] [x0, x1] s r t) : sem (d + 1) 110 [x0, x1] s = some (r, t) := sem_of rfl rfl h
theorem i_M_record {d : Nat} {x0 : Int} {s t : Mem} {r : Int} (h : G (sem d) o_M_record 0 [] [x0] s r t) : sem (d + 1) 111 [x0] s = some (r, t) := sem_of rfl rfl h
theorem i_Hall_keepSums {d : Nat} {x0 : Int} {s t : Mem} {r : Int} (h : G (sem d) o_Hall_keepSums 0 [] [x0] s r t) : sem (d + 1) 112 [x0] s = some (r, t) := sem_of rfl rfl h
theorem i_Hall_writeSums {d : Nat} {x0 x1 : Int} {s t : Mem} {r : Int} (h : G (sem d) o_Hall_writeSums 0 [] [x0, x1, 0, 0, 0, 0, 0] s r t) : sem (d + 1) 113 [x0, x1] s = some (r, t) := sem_of rfl rfl h
theorem i_Hall_distanceToSlate {d : Nat} {x0 x1 x2 : Int} {s t : Mem} {r : Int} (h : G (sem d) o_Hall_distanceToSlate 0 [] [x0, x1, x2] s r t) : sem (d + 1) 114 [x0, x1, x2] s = some (r, t) := sem_of rfl rfl h
theorem i_Hall_distance {d : Nat} {x0 x1 x2 : Int} {s t : Mem} {r : Int} (h : G (sem d) o_Hall_distance 0 [] [x0, x1, x2] s r t) : sem (d + 1) 115 [x0, x1, x2] s = some (r, t) := sem_of rfl rfl h
theorem i_Hall_beatsOf {d : Nat} {x0 : Int} {s t : Mem} {r : Int} (h : G (sem d) o_Hall_beatsOf 0 [] [x0] s r t) : sem (d + 1) 116 [x0] s = some (r, t) := sem_of rfl rfl h
theorem i_Hall_cellOf {d : Nat} {x0 x1 : Int} {s t : Mem} {r : Int} (h : G (sem d) o_Hall_cellOf 0 [] [x0, x1] s r t) : sem (d + 1) 117 [x0, x1] s = some (r, t) := sem_of rfl rfl h
theorem i_Hall_lossOf {d : Nat} {x0 : Int} {s t : Mem} {r : Int} (h : G (sem d) o_Hall_lossOf 0 [] [x0] s r t) : sem (d + 1) 118 [x0] s = some (r, t) := sem_of rfl rfl h
theorem i_Hall_amount {d : Nat} {x0 x1 x2 x3 : Int} {s t : Mem} {r : Int} (h : G (sem d) o_Hall_amount 0 [] [x0, x1, x2, x3] s r t) : sem (d + 1) 119 [x0, x1, x2, x3] s = some (r, t) := sem_of rfl rfl h
theorem i_Hall_total {d : Nat} {x0 : Int} {s t : Mem} {r : Int} (h : G (sem d) o_Hall_total 0 [] [x0, 0, 0] s r t) : sem (d + 1) 120 [x0] s = some (r, t) := sem_of rfl rfl h
theorem i_Hall_totalOn {d : Nat} {x0 x1 : Int} {s t : Mem} {r : Int} (h : G (sem d) o_Hall_totalOn 0 [] [x0, x1, 0, 0] s r t) : sem (d + 1) 121 [x0, x1] s = some (r, t) := sem_of rfl rfl h
theorem i_Hall_allOfCall {d : Nat} {x0 x1 x2 : Int} {s t : Mem} {r : Int} (h : G (sem d) o_Hall_allOfCall 0 [] [x0, x1, x2, 0, 0, 0] s r t) : sem (d + 1) 122 [x0, x1, x2] s = some (r, t) := sem_of rfl rfl h
theorem i_M_scrawl {d : Nat} {x0 x1 x2 x3 : Int} {s t : Mem} {r : Int} (h : G (sem d) o_M_scrawl 0 [] [x0, x1, x2, x3, 0, 0] s r t) : sem (d + 1) 123 [x0, x1, x2, x3] s = some (r, t) := sem_of rfl rfl h
theorem i_M_isBeat {d : Nat} {x0 : Int} {s t : Mem} {r : Int} (h : G (sem d) o_M_isBeat 0 [] [x0] s r t) : sem (d + 1) 124 [x0] s = some (r, t) := sem_of rfl rfl h
theorem i_M_far {d : Nat} {x0 x1 x2 : Int} {s t : Mem} {r : Int} (h : G (sem d) o_M_far 0 [] [x0, x1, x2, 0] s r t) : sem (d + 1) 125 [x0, x1, x2] s = some (r, t) := sem_of rfl rfl h
theorem i_M_lost {d : Nat} {x0 x1 x2 : Int} {s t : Mem} {r : Int} (h : G (sem d) o_M_lost 0 [] [x0, x1, x2, 0] s r t) : sem (d + 1) 126 [x0, x1, x2] s = some (r, t) := sem_of rfl rfl h
theorem i_M_heard {d : Nat} {x0 x1 x2 : Int} {s t : Mem} {r : Int} (h : G (sem d) o_M_heard 0 [] [x0, x1, x2] s r t) : sem (d + 1) 127 [x0, x1, x2] s = some (r, t) := sem_of rfl rfl h
theorem i_Hall_sumAt {d : Nat} {x0 x1 x2 : Int} {s t : Mem} {r : Int} (h : G (sem d) o_Hall_sumAt 0 [] [x0, x1, x2, 0, 0] s r t) : sem (d + 1) 128 [x0, x1, x2] s = some (r, t) := sem_of rfl rfl h
theorem i_Hall_amountAt {d : Nat} {x0 x1 x2 x3 : Int} {s t : Mem} {r : Int} (h : G (sem d) o_Hall_amountAt 0 [] [x0, x1, x2, x3, 0, 0] s r t) : sem (d + 1) 129 [x0, x1, x2, x3] s = some (r, t) := sem_of rfl rfl h
theorem i_M_from {d : Nat} {x0 x1 x2 : Int} {s t : Mem} {r : Int} (h : G (sem d) o_M_from 0 [] [x0, x1, x2, 0, 0] s r t) : sem (d + 1) 130 [x0, x1, x2] s = some (r, t) := sem_of rfl rfl h
theorem i_M_first {d : Nat} {x0 x1 : Int} {s t : Mem} {r : Int} (h : G (sem d) o_M_first 0 [] [x0, x1, 0] s r t) : sem (d + 1) 131 [x0, x1] s = some (r, t) := sem_of rfl rfl h
theorem i_M_last {d : Nat} {x0 x1 : Int} {s t : Mem} {r : Int} (h : G (sem d) o_M_last 0 [] [x0, x1, 0] s r t) : sem (d + 1) 132 [x0, x1] s = some (r, t) := sem_of rfl rfl h
theorem i_M_loudest {d : Nat} {x0 x1 : Int} {s t : Mem} {r : Int} (h : G (sem d) o_M_loudest 0 [] [x0, x1, 0, 0, 0, 0] s r t) : sem (d + 1) 133 [x0, x1] s = some (r, t) := sem_of rfl rfl h
theorem i_M_all {d : Nat} {x0 x1 : Int} {s t : Mem} {r : Int} (h : G (sem d) o_M_all 0 [] [x0, x1] s r t) : sem (d + 1) 134 [x0, x1] s = some (r, t) := sem_of rfl rfl h
theorem i_M_recorded {d : Nat} {x0 x1 x2 : Int} {s t : Mem} {r : Int} (h : G (sem d) o_M_recorded 0 [] [x0, x1, x2] s r t) : sem (d + 1) 135 [x0, x1, x2] s = some (r, t) := sem_of rfl rfl h
theorem i_M_differs {d : Nat} {x0 : Int} {s t : Mem} {r : Int} (h : G (sem d) o_M_differs 0 [] [x0, 0, 0] s r t) : sem (d + 1) 136 [x0] s = some (r, t) := sem_of rfl rfl h
theorem i_M_copyHeard {d : Nat} {x0 x1 x2 x3 x4 : Int} {s t : Mem} {r : Int} (h : G (sem d) o_M_copyHeard 0 [] [x0, x1, x2, x3, x4, 0, 0, 0, 0] s r t) : sem (d + 1) 137 [x0, x1, x2, x3, x4] s = some (r, t) := sem_of rfl rfl h
theorem i_M_answers {d : Nat} {x0 x1 : Int} {s t : Mem} {r : Int} (h : G (sem d) o_M_answers 0 [] [x0, x1, 0] s r t) : sem (d + 1) 138 [x0, x1] s = some (r, t) := sem_of rfl rfl h
theorem i_M_problemOfGuess {d : Nat} {x0 x1 x2 : Int} {s t : Mem} {r : Int} (h : G (sem d) o_M_problemOfGuess 0 [] [x0, x1, x2] s r t) : sem (d + 1) 139 [x0, x1, x2] s = some (r, t) := sem_of rfl rfl h
theorem i_Guess_findAnswers {d : Nat} {x0 x1 x2 x3 : Int} {s t : Mem} {r : Int} (h : G (sem d) o_Guess_findAnswers 0 [] [x0, x1, x2, x3] s r t) : sem (d + 1) 140 [x0, x1, x2, x3] s = some (r, t) := sem_of rfl rfl h
theorem i_Guess_listen {d : Nat} {x0 x1 : Int} {s t : Mem} {r : Int} (h : G (sem d) o_Guess_listen 0 [] [x0, x1, 0, 0, 0, 0] s r t) : sem (d + 1) 141 [x0, x1] s = some (r, t) := sem_of rfl rfl h
theorem i_Hall_totalKept {d : Nat} {x0 : Int} {s t : Mem} {r : Int} (h : G (sem d) o_Hall_totalKept 0 [] [x0, 0, 0] s r t) : sem (d + 1) 142 [x0] s = some (r, t) := sem_of rfl rfl h
theorem i_Guess_listenOn {d : Nat} {x0 x1 x2 x3 : Int} {s t : Mem} {r : Int} (h : G (sem d) o_Guess_listenOn 0 [] [x0, x1, x2, x3, 0, 0, 0, 0, 0] s r t) : sem (d + 1) 143 [x0, x1, x2, x3] s = some (r, t) := sem_of rfl rfl h
theorem i_Guess_search {d : Nat} {x0 x1 x2 x3 : Int} {s t : Mem} {r : Int} (h : G (sem d) o_Guess_search 0 [] [x0, x1, x2, x3, 0, 0, 0] s r t) : sem (d + 1) 144 [x0, x1, x2, x3] s = some (r, t) := sem_of rfl rfl h
theorem i_Guess_note {d : Nat} {x0 x1 : Int} {s t : Mem} {r : Int} (h : G (sem d) o_Guess_note 0 [] [x0, x1, 0] s r t) : sem (d + 1) 145 [x0, x1] s = some (r, t) := sem_of rfl rfl h
theorem i_Guess_sortChosen {d : Nat} {x0 x1 : Int} {s t : Mem} {r : Int} (h : G (sem d) o_Guess_sortChosen 0 [] [x0, x1, 0, 0] s r t) : sem (d + 1) 146 [x0, x1] s = some (r, t) := sem_of rfl rfl h
theorem i_Guess_comesFirst {d : Nat} {x0 x1 : Int} {s t : Mem} {r : Int} (h : G (sem d) o_Guess_comesFirst 0 [] [x0, x1, 0] s r t) : sem (d + 1) 147 [x0, x1] s = some (r, t) := sem_of rfl rfl h
theorem i_Guess_firstLeft {d : Nat} {x0 x1 : Int} {s t : Mem} {r : Int} (h : G (sem d) o_Guess_firstLeft 0 [] [x0, x1, 0] s r t) : sem (d + 1) 148 [x0, x1] s = some (r, t) := sem_of rfl rfl h
theorem i_Guess_beginFor {d : Nat} {x0 x1 x2 : Int} {s t : Mem} {r : Int} (h : G (sem d) o_Guess_beginFor 0 [] [x0, x1, x2, 0, 0] s r t) : sem (d + 1) 149 [x0, x1, x2] s = some (r, t) := sem_of rfl rfl h
theorem i_Guess_fits {d : Nat} {x0 x1 x2 : Int} {s t : Mem} {r : Int} (h : G (sem d) o_Guess_fits 0 [] [x0, x1, x2, 0, 0, 0] s r t) : sem (d + 1) 150 [x0, x1, x2] s = some (r, t) := sem_of rfl rfl h
theorem i_Guess_take {d : Nat} {x0 x1 x2 x3 : Int} {s t : Mem} {r : Int} (h : G (sem d) o_Guess_take 0 [] [x0, x1, x2, x3, 0, 0, 0, 0] s r t) : sem (d + 1) 151 [x0, x1, x2, x3] s = some (r, t) := sem_of rfl rfl h
theorem i_M_answerAt {d : Nat} {x0 x1 x2 : Int} {s t : Mem} {r : Int} (h : G (sem d) o_M_answerAt 0 [] [x0, x1, x2, 0] s r t) : sem (d + 1) 152 [x0, x1, x2] s = some (r, t) := sem_of rfl rfl h
theorem i_M_with {d : Nat} {x0 x1 x2 x3 x4 : Int} {s t : Mem} {r : Int} (h : G (sem d) o_M_with 0 [] [x0, x1, x2, x3, x4, 0, 0] s r t) : sem (d + 1) 153 [x0, x1, x2, x3, x4] s = some (r, t) := sem_of rfl rfl h
theorem i_M_fewest {d : Nat} {x0 : Int} {s t : Mem} {r : Int} (h : G (sem d) o_M_fewest 0 [] [x0] s r t) : sem (d + 1) 154 [x0] s = some (r, t) := sem_of rfl rfl h
theorem i_M_slips {d : Nat} {x0 x1 : Int} {s t : Mem} {r : Int} (h : G (sem d) o_M_slips 0 [] [x0, x1, 0] s r t) : sem (d + 1) 155 [x0, x1] s = some (r, t) := sem_of rfl rfl h
theorem i_Guess_findSlips {d : Nat} {x0 x1 x2 : Int} {s t : Mem} {r : Int} (h : G (sem d) o_Guess_findSlips 0 [] [x0, x1, x2, 0, 0, 0] s r t) : sem (d + 1) 156 [x0, x1, x2] s = some (r, t) := sem_of rfl rfl h
theorem i_Guess_weighEach {d : Nat} {x0 : Int} {s t : Mem} {r : Int} (h : G (sem d) o_Guess_weighEach 0 [] [x0, 0, 0] s r t) : sem (d + 1) 157 [x0] s = some (r, t) := sem_of rfl rfl h
theorem i_Guess_changeBy {d : Nat} {x0 x1 : Int} {s t : Mem} {r : Int} (h : G (sem d) o_Guess_changeBy 0 [] [x0, x1, 0, 0, 0, 0, 0, 0, 0] s r t) : sem (d + 1) 158 [x0, x1] s = some (r, t) := sem_of rfl rfl h
theorem i_Guess_findSecond {d : Nat} {x0 x1 x2 : Int} {s t : Mem} {r : Int} (h : G (sem d) o_Guess_findSecond 0 [] [x0, x1, x2, 0, 0, 0, 0, 0] s r t) : sem (d + 1) 159 [x0, x1, x2] s = some (r, t) := sem_of rfl rfl h
theorem i_M_slipsAt {d : Nat} {x0 x1 x2 : Int} {s t : Mem} {r : Int} (h : G (sem d) o_M_slipsAt 0 [] [x0, x1, x2, 0] s r t) : sem (d + 1) 160 [x0, x1, x2] s = some (r, t) := sem_of rfl rfl h
theorem i_M_moved {d : Nat} {x0 : Int} {s t : Mem} {r : Int} (h : G (sem d) o_M_moved 0 [] [x0] s r t) : sem (d + 1) 161 [x0] s = some (r, t) := sem_of rfl rfl h
theorem i_Moves_find {d : Nat} {x0 x1 x2 : Int} {s t : Mem} {r : Int} (h : G (sem d) o_Moves_find 0 [] [x0, x1, x2, 0] s r t) : sem (d + 1) 162 [x0, x1, x2] s = some (r, t) := sem_of rfl rfl h
theorem i_Moves_measurePairs {d : Nat} {x0 x1 x2 x3 : Int} {s t : Mem} {r : Int} (h : G (sem d) o_Moves_measurePairs 0 [] [x0, x1, x2, x3, 0, 0, 0, 0, 0, 0] s r t) : sem (d + 1) 163 [x0, x1, x2, x3] s = some (r, t) := sem_of rfl rfl h
theorem i_Moves_findOf {d : Nat} {x0 x1 x2 x3 : Int} {s t : Mem} {r : Int} (h : G (sem d) o_Moves_findOf 0 [] [x0, x1, x2, x3, 0, 0, 0, 0, 0] s r t) : sem (d + 1) 164 [x0, x1, x2, x3] s = some (r, t) := sem_of rfl rfl h
theorem i_Moves_explains {d : Nat} {x0 x1 x2 : Int} {s t : Mem} {r : Int} (h : G (sem d) o_Moves_explains 0 [] [x0, x1, x2, 0, 0, 0, 0, 0] s r t) : sem (d + 1) 165 [x0, x1, x2] s = some (r, t) := sem_of rfl rfl h
theorem i_Moves_takes {d : Nat} {x0 x1 x2 x3 x4 : Int} {s t : Mem} {r : Int} (h : G (sem d) o_Moves_takes 0 [] [x0, x1, x2, x3, x4, 0, 0, 0, 0, 0] s r t) : sem (d + 1) 166 [x0, x1, x2, x3, x4] s = some (r, t) := sem_of rfl rfl h
theorem i_Moves_giveBack {d : Nat} {x0 : Int} {s t : Mem} {r : Int} (h : G (sem d) o_Moves_giveBack 0 [] [x0, 0] s r t) : sem (d + 1) 167 [x0] s = some (r, t) := sem_of rfl rfl h
theorem i_Moves_isUsed {d : Nat} {x0 x1 x2 : Int} {s t : Mem} {r : Int} (h : G (sem d) o_Moves_isUsed 0 [] [x0, x1, x2, 0, 0, 0] s r t) : sem (d + 1) 168 [x0, x1, x2] s = some (r, t) := sem_of rfl rfl h
theorem i_Moves_note {d : Nat} {x0 x1 x2 x3 x4 : Int} {s t : Mem} {r : Int} (h : G (sem d) o_Moves_note 0 [] [x0, x1, x2, x3, x4] s r t) : sem (d + 1) 169 [x0, x1, x2, x3, x4] s = some (r, t) := sem_of rfl rfl h
theorem i_M_movedAt {d : Nat} {x0 x1 x2 : Int} {s t : Mem} {r : Int} (h : G (sem d) o_M_movedAt 0 [] [x0, x1, x2] s r t) : sem (d + 1) 170 [x0, x1, x2] s = some (r, t) := sem_of rfl rfl h
theorem i_M_alike {d : Nat} {x0 x1 x2 x3 x4 : Int} {s t : Mem} {r : Int} (h : G (sem d) o_M_alike 0 [] [x0, x1, x2, x3, x4, 0, 0] s r t) : sem (d + 1) 171 [x0, x1, x2, x3, x4] s = some (r, t) := sem_of rfl rfl h
theorem i_Parting_listen {d : Nat} {x0 x1 : Int} {s t : Mem} {r : Int} (h : G (sem d) o_Parting_listen 0 [] [x0, x1, 0, 0, 0] s r t) : sem (d + 1) 172 [x0, x1] s = some (r, t) := sem_of rfl rfl h
theorem i_Parting_listenAt {d : Nat} {x0 x1 x2 x3 x4 : Int} {s t : Mem} {r : Int} (h : G (sem d) o_Parting_listenAt 0 [] [x0, x1, x2, x3, x4, 0, 0, 0, 0, 0] s r t) : sem (d + 1) 173 [x0, x1, x2, x3, x4] s = some (r, t) := sem_of rfl rfl h
theorem i_Parting_leftAligned {d : Nat} {x0 : Int} {s t : Mem} {r : Int} (h : G (sem d) o_Parting_leftAligned 0 [] [x0, 0, 0] s r t) : sem (d + 1) 174 [x0] s = some (r, t) := sem_of rfl rfl h
theorem i_Hall_slatePlaces {d : Nat} {x0 : Int} {s t : Mem} {r : Int} (h : G (sem d) o_Hall_slatePlaces 0 [] [x0, 0, 0] s r t) : sem (d + 1) 175 [x0] s = some (r, t) := sem_of rfl rfl h
theorem i_Parting_laterBy {d : Nat} {x0 x1 x2 x3 : Int} {s t : Mem} {r : Int} (h : G (sem d) o_Parting_laterBy 0 [] [x0, x1, x2, x3, 0, 0] s r t) : sem (d + 1) 176 [x0, x1, x2, x3] s = some (r, t) := sem_of rfl rfl h
theorem i_Parting_laterAt {d : Nat} {x0 x1 x2 x3 : Int} {s t : Mem} {r : Int} (h : G (sem d) o_Parting_laterAt 0 [] [x0, x1, x2, x3, 0, 0, 0] s r t) : sem (d + 1) 177 [x0, x1, x2, x3] s = some (r, t) := sem_of rfl rfl h
theorem i_Parting_both {d : Nat} {x0 x1 : Int} {s t : Mem} {r : Int} (h : G (sem d) o_Parting_both 0 [] [x0, x1] s r t) : sem (d + 1) 178 [x0, x1] s = some (r, t) := sem_of rfl rfl h
theorem i_M_parts {d : Nat} {x0 x1 : Int} {s t : Mem} {r : Int} (h : G (sem d) o_M_parts 0 [] [x0, x1] s r t) : sem (d + 1) 179 [x0, x1] s = some (r, t) := sem_of rfl rfl h
theorem i_Parting_partsAll {d : Nat} {x0 x1 x2 : Int} {s t : Mem} {r : Int} (h : G (sem d) o_Parting_partsAll 0 [] [x0, x1, x2, 0, 0] s r t) : sem (d + 1) 180 [x0, x1, x2] s = some (r, t) := sem_of rfl rfl h
theorem i_Parting_isThere {d : Nat} {x0 x1 : Int} {s t : Mem} {r : Int} (h : G (sem d) o_Parting_isThere 0 [] [x0, x1] s r t) : sem (d + 1) 181 [x0, x1] s = some (r, t) := sem_of rfl rfl h
theorem i_M_hanging {d : Nat} {x0 : Int} {s t : Mem} {r : Int} (h : G (sem d) o_M_hanging 0 [] [x0, 0] s r t) : sem (d + 1) 182 [x0] s = some (r, t) := sem_of rfl rfl h
theorem i_Parting_leastSet {d : Nat} {x0 x1 : Int} {s t : Mem} {r : Int} (h : G (sem d) o_Parting_leastSet 0 [] [x0, x1, 0, 0, 0, 0] s r t) : sem (d + 1) 183 [x0, x1] s = some (r, t) := sem_of rfl rfl h
theorem i_Parting_markUnparted {d : Nat} {x0 x1 x2 x3 : Int} {s t : Mem} {r : Int} (h : G (sem d) o_Parting_markUnparted 0 [] [x0, x1, x2, x3, 0, 0] s r t) : sem (d + 1) 184 [x0, x1, x2, x3] s = some (r, t) := sem_of rfl rfl h
theorem i_Integer_numberOfTrailingZeros {d : Nat} {x0 : Int} {s t : Mem} {r : Int} (h : G (sem d) o_Integer_numberOfTrailingZeros 0 [] [x0, 0] s r t) : sem (d + 1) 185 [x0] s = some (r, t) := sem_of rfl rfl h
theorem i_Integer_bitCount {d : Nat} {x0 : Int} {s t : Mem} {r : Int} (h : G (sem d) o_Integer_bitCount 0 [] [x0] s r t) : sem (d + 1) 186 [x0] s = some (r, t) := sem_of rfl rfl h
theorem i_M_hangingSet {d : Nat} {x0 : Int} {s t : Mem} {r : Int} (h : G (sem d) o_M_hangingSet 0 [] [x0, 0] s r t) : sem (d + 1) 187 [x0] s = some (r, t) := sem_of rfl rfl h
theorem i_M_chance {d : Nat} {x0 x1 x2 x3 : Int} {s t : Mem} {r : Int} (h : G (sem d) o_M_chance 0 [] [x0, x1, x2, x3] s r t) : sem (d + 1) 188 [x0, x1, x2, x3] s = some (r, t) := sem_of rfl rfl h
theorem i_Hall_weightOfAtLeast {d : Nat} {x0 x1 x2 x3 : Int} {s t : Mem} {r : Int} (h : G (sem d) o_Hall_weightOfAtLeast 0 [] [x0, x1, x2, x3, 0, 0, 0, 0, 0, 0, 0, 0] s r t) : sem (d + 1) 189 [x0, x1, x2, x3] s = some (r, t) := sem_of rfl rfl h
theorem i_Hall_sixteens {d : Nat} {x0 : Int} {s t : Mem} {r : Int} (h : G (sem d) o_Hall_sixteens 0 [] [x0] s r t) : sem (d + 1) 190 [x0] s = some (r, t) := sem_of rfl rfl h
theorem i_M_tell {d : Nat} {x0 x1 x3 : Int} {s t : Mem} {r : Int} (h : G (sem d) o_M_tell 0 [] [x0, x1, 0, x3, 0, 0, 0] s r t) : sem (d + 1) 191 [x0, x1, x3] s = some (r, t) := sem_of rfl rfl h
theorem i_M_commonDivisor {d : Nat} {x0 x2 : Int} {s t : Mem} {r : Int} (h : G (sem d) o_M_commonDivisor 0 [] [x0, 0, x2, 0, 0, 0, 0, 0, 0, 0, 0] s r t) : sem (d + 1) 192 [x0, x2] s = some (r, t) := sem_of rfl rfl h
theorem i_M_quiet {d : Nat} {x0 x1 : Int} {s t : Mem} {r : Int} (h : G (sem d) o_M_quiet 0 [] [x0, x1, 0, 0, 0, 0] s r t) : sem (d + 1) 193 [x0, x1] s = some (r, t) := sem_of rfl rfl h
theorem i_Hall_isLoudOn {d : Nat} {x0 x1 x2 : Int} {s t : Mem} {r : Int} (h : G (sem d) o_Hall_isLoudOn 0 [] [x0, x1, x2] s r t) : sem (d + 1) 194 [x0, x1, x2] s = some (r, t) := sem_of rfl rfl h
theorem i_M_live {d : Nat} {x0 x1 : Int} {s t : Mem} {r : Int} (h : G (sem d) o_M_live 0 [] [x0, x1] s r t) : sem (d + 1) 195 [x0, x1] s = some (r, t) := sem_of rfl rfl h
theorem i_Life_run {d : Nat} {x0 x1 x2 : Int} {s t : Mem} {r : Int} (h : G (sem d) o_Life_run 0 [] [x0, x1, x2, 0, 0, 0] s r t) : sem (d + 1) 196 [x0, x1, x2] s = some (r, t) := sem_of rfl rfl h
theorem i_Life_behindEnd {d : Nat} {x0 x1 x2 : Int} {s t : Mem} {r : Int} (h : G (sem d) o_Life_behindEnd 0 [] [x0, x1, x2, 0] s r t) : sem (d + 1) 197 [x0, x1, x2] s = some (r, t) := sem_of rfl rfl h
theorem i_Life_behindStep {d : Nat} {x0 x1 x2 x3 : Int} {s t : Mem} {r : Int} (h : G (sem d) o_Life_behindStep 0 [] [x0, x1, x2, x3] s r t) : sem (d + 1) 198 [x0, x1, x2, x3] s = some (r, t) := sem_of rfl rfl h
theorem i_Life_holds {d : Nat} {x0 x1 x2 x3 : Int} {s t : Mem} {r : Int} (h : G (sem d) o_Life_holds 0 [] [x0, x1, x2, x3, 0, 0] s r t) : sem (d + 1) 199 [x0, x1, x2, x3] s = some (r, t) := sem_of rfl rfl h
theorem i_Life_compares {d : Nat} {x0 x1 x2 : Int} {s t : Mem} {r : Int} (h : G (sem d) o_Life_compares 0 [] [x0, x1, x2] s r t) : sem (d + 1) 200 [x0, x1, x2] s = some (r, t) := sem_of rfl rfl h
theorem i_Life_act {d : Nat} {x0 x1 x2 x3 : Int} {s t : Mem} {r : Int} (h : G (sem d) o_Life_act 0 [] [x0, x1, x2, x3] s r t) : sem (d + 1) 201 [x0, x1, x2, x3] s = some (r, t) := sem_of rfl rfl h
theorem i_Life_speak {d : Nat} {x0 x1 x2 x3 x4 : Int} {s t : Mem} {r : Int} (h : G (sem d) o_Life_speak 0 [] [x0, x1, x2, x3, x4] s r t) : sem (d + 1) 202 [x0, x1, x2, x3, x4] s = some (r, t) := sem_of rfl rfl h
theorem i_Life_speakByDraws {d : Nat} {x0 x1 : Int} {s t : Mem} {r : Int} (h : G (sem d) o_Life_speakByDraws 0 [] [x0, x1, 0, 0, 0] s r t) : sem (d + 1) 203 [x0, x1] s = some (r, t) := sem_of rfl rfl h
theorem i_Life_draw {d : Nat} {x0 x1 : Int} {s t : Mem} {r : Int} (h : G (sem d) o_Life_draw 0 [] [x0, x1] s r t) : sem (d + 1) 204 [x0, x1] s = some (r, t) := sem_of rfl rfl h
theorem i_Life_strikeLast {d : Nat} {x0 x1 : Int} {s t : Mem} {r : Int} (h : G (sem d) o_Life_strikeLast 0 [] [x0, x1] s r t) : sem (d + 1) 205 [x0, x1] s = some (r, t) := sem_of rfl rfl h
theorem i_Life_go {d : Nat} {x0 x1 x2 x3 : Int} {s t : Mem} {r : Int} (h : G (sem d) o_Life_go 0 [] [x0, x1, x2, x3] s r t) : sem (d + 1) 206 [x0, x1, x2, x3] s = some (r, t) := sem_of rfl rfl h
theorem i_M_lived {d : Nat} {x0 x1 : Int} {s t : Mem} {r : Int} (h : G (sem d) o_M_lived 0 [] [x0, x1] s r t) : sem (d + 1) 207 [x0, x1] s = some (r, t) := sem_of rfl rfl h
theorem i_M_mean {d : Nat} {x0 x1 x2 : Int} {s t : Mem} {r : Int} (h : G (sem d) o_M_mean 0 [] [x0, x1, x2, 0, 0, 0, 0, 0] s r t) : sem (d + 1) 208 [x0, x1, x2] s = some (r, t) := sem_of rfl rfl h
theorem i_M_mark {d : Nat} {x0 : Int} {s t : Mem} {r : Int} (h : G (sem d) o_M_mark 0 [] [x0] s r t) : sem (d + 1) 209 [x0] s = some (r, t) := sem_of rfl rfl h
theorem i_M_markAt {d : Nat} {x0 x1 : Int} {s t : Mem} {r : Int} (h : G (sem d) o_M_markAt 0 [] [x0, x1] s r t) : sem (d + 1) 210 [x0, x1] s = some (r, t) := sem_of rfl rfl h
theorem i_M_undo {d : Nat} {x0 : Int} {s t : Mem} {r : Int} (h : G (sem d) o_M_undo 0 [] [x0] s r t) : sem (d + 1) 211 [x0] s = some (r, t) := sem_of rfl rfl h
theorem i_R_plain {d : Nat} {x0 x1 : Int} {s t : Mem} {r : Int} (h : G (sem d) o_R_plain 0 [] [x0, x1, 0] s r t) : sem (d + 1) 212 [x0, x1] s = some (r, t) := sem_of rfl rfl h
theorem i_R_status {d : Nat} {x0 : Int} {s t : Mem} {r : Int} (h : G (sem d) o_R_status 0 [] [x0] s r t) : sem (d + 1) 213 [x0] s = some (r, t) := sem_of rfl rfl h
theorem i_R_top {d : Nat} {x0 : Int} {s t : Mem} {r : Int} (h : G (sem d) o_R_top 0 [] [x0] s r t) : sem (d + 1) 214 [x0] s = some (r, t) := sem_of rfl rfl h
theorem i_R_bottom {d : Nat} {x0 : Int} {s t : Mem} {r : Int} (h : G (sem d) o_R_bottom 0 [] [x0] s r t) : sem (d + 1) 215 [x0] s = some (r, t) := sem_of rfl rfl h
theorem i_R_tray {d : Nat} {x0 x1 x2 x3 : Int} {s t : Mem} {r : Int} (h : G (sem d) o_R_tray 0 [] [x0, x1, x2, x3, 0] s r t) : sem (d + 1) 216 [x0, x1, x2, x3] s = some (r, t) := sem_of rfl rfl h
theorem i_R_isTray {d : Nat} {x0 : Int} {s t : Mem} {r : Int} (h : G (sem d) o_R_isTray 0 [] [x0] s r t) : sem (d + 1) 217 [x0] s = some (r, t) := sem_of rfl rfl h
theorem i_R_is {d : Nat} {x0 x1 : Int} {s t : Mem} {r : Int} (h : G (sem d) o_R_is 0 [] [x0, x1] s r t) : sem (d + 1) 218 [x0, x1] s = some (r, t) := sem_of rfl rfl h
theorem i_R_write {d : Nat} {x0 x1 x2 x3 : Int} {s t : Mem} {r : Int} (h : G (sem d) o_R_write 0 [] [x0, x1, x2, x3, 0, 0] s r t) : sem (d + 1) 219 [x0, x1, x2, x3] s = some (r, t) := sem_of rfl rfl h
theorem i_R_wrongPlace {d : Nat} {x0 x1 x2 : Int} {s t : Mem} {r : Int} (h : G (sem d) o_R_wrongPlace 0 [] [x0, x1, x2] s r t) : sem (d + 1) 220 [x0, x1, x2] s = some (r, t) := sem_of rfl rfl h
theorem i_R_cut {d : Nat} {x0 x2 : Int} {s t : Mem} {r : Int} (h : G (sem d) o_R_cut 0 [] [x0, 0, x2] s r t) : sem (d + 1) 221 [x0, x2] s = some (r, t) := sem_of rfl rfl h
theorem i_R_read {d : Nat} {x0 x1 x2 : Int} {s t : Mem} {r : Int} (h : G (sem d) o_R_read 0 [] [x0, x1, x2] s r t) : sem (d + 1) 222 [x0, x1, x2] s = some (r, t) := sem_of rfl rfl h
theorem i_R_pour {d : Nat} {x0 x1 x2 x3 x4 x5 : Int} {s t : Mem} {r : Int} (h : G (sem d) o_R_pour 0 [] [x0, x1, x2, x3, x4, x5, 0, 0] s r t) : sem (d + 1) 223 [x0, x1, x2, x3, x4, x5] s = some (r, t) := sem_of rfl rfl h
theorem i_R_feed {d : Nat} {x0 x1 x2 x3 x4 x5 : Int} {s t : Mem} {r : Int} (h : G (sem d) o_R_feed 0 [] [x0, x1, x2, x3, x4, x5] s r t) : sem (d + 1) 224 [x0, x1, x2, x3, x4, x5] s = some (r, t) := sem_of rfl rfl h
theorem i_R_four {d : Nat} {x0 x1 : Int} {s t : Mem} {r : Int} (h : G (sem d) o_R_four 0 [] [x0, x1, 0] s r t) : sem (d + 1) 225 [x0, x1] s = some (r, t) := sem_of rfl rfl h
theorem i_R_fault {d : Nat} {x0 x1 : Int} {s t : Mem} {r : Int} (h : G (sem d) o_R_fault 0 [] [x0, x1] s r t) : sem (d + 1) 226 [x0, x1] s = some (r, t) := sem_of rfl rfl h
theorem i_R_hall {d : Nat} {x0 x1 : Int} {s t : Mem} {r : Int} (h : G (sem d) o_R_hall 0 [] [x0, x1, 0, 0] s r t) : sem (d + 1) 227 [x0, x1] s = some (r, t) := sem_of rfl rfl h
theorem i_R_begins {d : Nat} {x0 x1 x2 : Int} {s t : Mem} {r : Int} (h : G (sem d) o_R_begins 0 [] [x0, x1, x2, 0] s r t) : sem (d + 1) 228 [x0, x1, x2] s = some (r, t) := sem_of rfl rfl h
theorem i_R_ahead {d : Nat} {x0 : Int} {s t : Mem} {r : Int} (h : G (sem d) o_R_ahead 0 [] [x0, 0] s r t) : sem (d + 1) 229 [x0] s = some (r, t) := sem_of rfl rfl h
theorem i_R_byteAt {d : Nat} {x0 x1 : Int} {s t : Mem} {r : Int} (h : G (sem d) o_R_byteAt 0 [] [x0, x1] s r t) : sem (d + 1) 230 [x0, x1] s = some (r, t) := sem_of rfl rfl h
theorem i_R_isSmall {d : Nat} {x0 : Int} {s t : Mem} {r : Int} (h : G (sem d) o_R_isSmall 0 [] [x0] s r t) : sem (d + 1) 231 [x0] s = some (r, t) := sem_of rfl rfl h
theorem i_R_isDigit {d : Nat} {x0 : Int} {s t : Mem} {r : Int} (h : G (sem d) o_R_isDigit 0 [] [x0] s r t) : sem (d + 1) 232 [x0] s = some (r, t) := sem_of rfl rfl h
theorem i_R_refuse {d : Nat} {x0 x1 : Int} {s t : Mem} {r : Int} (h : G (sem d) o_R_refuse 0 [] [x0, x1] s r t) : sem (d + 1) 233 [x0, x1] s = some (r, t) := sem_of rfl rfl h
theorem i_R_hallPart {d : Nat} {x0 : Int} {s t : Mem} {r : Int} (h : G (sem d) o_R_hallPart 0 [] [x0, 0, 0] s r t) : sem (d + 1) 234 [x0] s = some (r, t) := sem_of rfl rfl h
theorem i_R_inWords {d : Nat} {x0 x1 : Int} {s t : Mem} {r : Int} (h : G (sem d) o_R_inWords 0 [] [x0, x1, 0, 0, 0, 0, 0] s r t) : sem (d + 1) 235 [x0, x1] s = some (r, t) := sem_of rfl rfl h
theorem i_R_fails {d : Nat} {x0 x1 : Int} {s t : Mem} {r : Int} (h : G (sem d) o_R_fails 0 [] [x0, x1] s r t) : sem (d + 1) 236 [x0, x1] s = some (r, t) := sem_of rfl rfl h
theorem i_R_number {d : Nat} {x0 x1 x2 x3 : Int} {s t : Mem} {r : Int} (h : G (sem d) o_R_number 0 [] [x0, x1, x2, x3] s r t) : sem (d + 1) 237 [x0, x1, x2, x3] s = some (r, t) := sem_of rfl rfl h
theorem i_R_aPlace {d : Nat} {x0 : Int} {s t : Mem} {r : Int} (h : G (sem d) o_R_aPlace 0 [] [x0] s r t) : sem (d + 1) 238 [x0] s = some (r, t) := sem_of rfl rfl h
theorem i_R_newOne {d : Nat} {x0 x1 x2 x3 : Int} {s t : Mem} {r : Int} (h : G (sem d) o_R_newOne 0 [] [x0, x1, x2, x3] s r t) : sem (d + 1) 239 [x0, x1, x2, x3] s = some (r, t) := sem_of rfl rfl h
theorem i_R_isFull {d : Nat} {x0 x1 x2 : Int} {s t : Mem} {r : Int} (h : G (sem d) o_R_isFull 0 [] [x0, x1, x2] s r t) : sem (d + 1) 240 [x0, x1, x2] s = some (r, t) := sem_of rfl rfl h
theorem i_R_isName {d : Nat} {x0 x1 : Int} {s t : Mem} {r : Int} (h : G (sem d) o_R_isName 0 [] [x0, x1] s r t) : sem (d + 1) 241 [x0, x1] s = some (r, t) := sem_of rfl rfl h
theorem i_R_isOld {d : Nat} {x0 : Int} {s t : Mem} {r : Int} (h : G (sem d) o_R_isOld 0 [] [x0] s r t) : sem (d + 1) 242 [x0] s = some (r, t) := sem_of rfl rfl h
theorem i_R_findHere {d : Nat} {x0 x1 x2 : Int} {s t : Mem} {r : Int} (h : G (sem d) o_R_findHere 0 [] [x0, x1, x2, 0] s r t) : sem (d + 1) 243 [x0, x1, x2] s = some (r, t) := sem_of rfl rfl h
theorem i_R_nameHere {d : Nat} {x0 : Int} {s t : Mem} {r : Int} (h : G (sem d) o_R_nameHere 0 [] [x0, 0, 0, 0] s r t) : sem (d + 1) 244 [x0] s = some (r, t) := sem_of rfl rfl h
theorem i_R_aWay {d : Nat} {x0 : Int} {s t : Mem} {r : Int} (h : G (sem d) o_R_aWay 0 [] [x0, 0] s r t) : sem (d + 1) 245 [x0] s = some (r, t) := sem_of rfl rfl h
theorem i_R_wayRow {d : Nat} {x0 : Int} {s t : Mem} {r : Int} (h : G (sem d) o_R_wayRow 0 [] [x0] s r t) : sem (d + 1) 246 [x0] s = some (r, t) := sem_of rfl rfl h
theorem i_R_newPlaceTo {d : Nat} {x0 x1 : Int} {s t : Mem} {r : Int} (h : G (sem d) o_R_newPlaceTo 0 [] [x0, x1] s r t) : sem (d + 1) 247 [x0, x1] s = some (r, t) := sem_of rfl rfl h
theorem i_R_oldOne {d : Nat} {x0 x1 x2 x3 : Int} {s t : Mem} {r : Int} (h : G (sem d) o_R_oldOne 0 [] [x0, x1, x2, x3] s r t) : sem (d + 1) 248 [x0, x1, x2, x3] s = some (r, t) := sem_of rfl rfl h
theorem i_R_wantWord {d : Nat} {x0 x1 x2 : Int} {s t : Mem} {r : Int} (h : G (sem d) o_R_wantWord 0 [] [x0, x1, x2] s r t) : sem (d + 1) 249 [x0, x1, x2] s = some (r, t) := sem_of rfl rfl h
theorem i_R_isThere {d : Nat} {x0 x1 : Int} {s t : Mem} {r : Int} (h : G (sem d) o_R_isThere 0 [] [x0, x1] s r t) : sem (d + 1) 250 [x0, x1] s = some (r, t) := sem_of rfl rfl h
theorem i_R_aSlate {d : Nat} {x0 : Int} {s t : Mem} {r : Int} (h : G (sem d) o_R_aSlate 0 [] [x0] s r t) : sem (d + 1) 251 [x0] s = some (r, t) := sem_of rfl rfl h
theorem i_R_aCaller {d : Nat} {x0 : Int} {s t : Mem} {r : Int} (h : G (sem d) o_R_aCaller 0 [] [x0] s r t) : sem (d + 1) 252 [x0] s = some (r, t) := sem_of rfl rfl h
theorem i_R_callerRow {d : Nat} {x0 : Int} {s t : Mem} {r : Int} (h : G (sem d) o_R_callerRow 0 [] [x0] s r t) : sem (d + 1) 253 [x0] s = some (r, t) := sem_of rfl rfl h
theorem i_R_aCry {d : Nat} {x0 : Int} {s t : Mem} {r : Int} (h : G (sem d) o_R_aCry 0 [] [x0, 0, 0, 0, 0] s r t) : sem (d + 1) 254 [x0] s = some (r, t) := sem_of rfl rfl h
theorem i_R_newCallerTo {d : Nat} {x0 x1 : Int} {s t : Mem} {r : Int} (h : G (sem d) o_R_newCallerTo 0 [] [x0, x1] s r t) : sem (d + 1) 255 [x0, x1] s = some (r, t) := sem_of rfl rfl h
theorem i_R_aCall {d : Nat} {x0 : Int} {s t : Mem} {r : Int} (h : G (sem d) o_R_aCall 0 [] [x0, 0, 0, 0] s r t) : sem (d + 1) 256 [x0] s = some (r, t) := sem_of rfl rfl h
theorem i_R_callRow {d : Nat} {x0 : Int} {s t : Mem} {r : Int} (h : G (sem d) o_R_callRow 0 [] [x0] s r t) : sem (d + 1) 257 [x0] s = some (r, t) := sem_of rfl rfl h
theorem i_R_wantSign {d : Nat} {x0 x1 : Int} {s t : Mem} {r : Int} (h : G (sem d) o_R_wantSign 0 [] [x0, x1] s r t) : sem (d + 1) 258 [x0, x1] s = some (r, t) := sem_of rfl rfl h
theorem i_R_isSign {d : Nat} {x0 x1 : Int} {s t : Mem} {r : Int} (h : G (sem d) o_R_isSign 0 [] [x0, x1] s r t) : sem (d + 1) 259 [x0, x1] s = some (r, t) := sem_of rfl rfl h
theorem i_R_taken {d : Nat} {x0 x1 : Int} {s t : Mem} {r : Int} (h : G (sem d) o_R_taken 0 [] [x0, x1] s r t) : sem (d + 1) 260 [x0, x1] s = some (r, t) := sem_of rfl rfl h
theorem i_R_gives {d : Nat} {x0 x1 : Int} {s t : Mem} {r : Int} (h : G (sem d) o_R_gives 0 [] [x0, x1] s r t) : sem (d + 1) 261 [x0, x1] s = some (r, t) := sem_of rfl rfl h
theorem i_R_mornings {d : Nat} {x0 x1 : Int} {s t : Mem} {r : Int} (h : G (sem d) o_R_mornings 0 [] [x0, x1, 0, 0] s r t) : sem (d + 1) 262 [x0, x1] s = some (r, t) := sem_of rfl rfl h
theorem i_R_morningStep {d : Nat} {x0 : Int} {s t : Mem} {r : Int} (h : G (sem d) o_R_morningStep 0 [] [x0, 0, 0, 0, 0, 0] s r t) : sem (d + 1) 263 [x0] s = some (r, t) := sem_of rfl rfl h
theorem i_R_morningOrder {d : Nat} {x0 x1 x2 : Int} {s t : Mem} {r : Int} (h : G (sem d) o_R_morningOrder 0 [] [x0, x1, x2] s r t) : sem (d + 1) 264 [x0, x1, x2] s = some (r, t) := sem_of rfl rfl h
theorem i_R_callerTo {d : Nat} {x0 x1 : Int} {s t : Mem} {r : Int} (h : G (sem d) o_R_callerTo 0 [] [x0, x1] s r t) : sem (d + 1) 265 [x0, x1] s = some (r, t) := sem_of rfl rfl h
theorem i_R_placeTo {d : Nat} {x0 x1 : Int} {s t : Mem} {r : Int} (h : G (sem d) o_R_placeTo 0 [] [x0, x1] s r t) : sem (d + 1) 266 [x0, x1] s = some (r, t) := sem_of rfl rfl h
theorem i_R_test {d : Nat} {x0 x1 : Int} {s t : Mem} {r : Int} (h : G (sem d) o_R_test 0 [] [x0, x1, 0] s r t) : sem (d + 1) 267 [x0, x1] s = some (r, t) := sem_of rfl rfl h
theorem i_R_told {d : Nat} {x0 x1 : Int} {s t : Mem} {r : Int} (h : G (sem d) o_R_told 0 [] [x0, x1] s r t) : sem (d + 1) 268 [x0, x1] s = some (r, t) := sem_of rfl rfl h
theorem i_R_allCries {d : Nat} {x0 : Int} {s t : Mem} {r : Int} (h : G (sem d) o_R_allCries 0 [] [x0, 0, 0] s r t) : sem (d + 1) 269 [x0] s = some (r, t) := sem_of rfl rfl h
theorem i_R_way {d : Nat} {x0 x1 x2 : Int} {s t : Mem} {r : Int} (h : G (sem d) o_R_way 0 [] [x0, x1, x2] s r t) : sem (d + 1) 270 [x0, x1, x2] s = some (r, t) := sem_of rfl rfl h
theorem i_R_slate {d : Nat} {x0 x1 : Int} {s t : Mem} {r : Int} (h : G (sem d) o_R_slate 0 [] [x0, x1] s r t) : sem (d + 1) 271 [x0, x1] s = some (r, t) := sem_of rfl rfl h
theorem i_R_isSlate {d : Nat} {x0 x1 : Int} {s t : Mem} {r : Int} (h : G (sem d) o_R_isSlate 0 [] [x0, x1] s r t) : sem (d + 1) 272 [x0, x1] s = some (r, t) := sem_of rfl rfl h
theorem i_R_caller {d : Nat} {x0 x1 x2 : Int} {s t : Mem} {r : Int} (h : G (sem d) o_R_caller 0 [] [x0, x1, x2] s r t) : sem (d + 1) 273 [x0, x1, x2] s = some (r, t) := sem_of rfl rfl h
theorem i_R_isCaller {d : Nat} {x0 x1 : Int} {s t : Mem} {r : Int} (h : G (sem d) o_R_isCaller 0 [] [x0, x1] s r t) : sem (d + 1) 274 [x0, x1] s = some (r, t) := sem_of rfl rfl h
theorem i_R_cry {d : Nat} {x0 x1 x2 x3 : Int} {s t : Mem} {r : Int} (h : G (sem d) o_R_cry 0 [] [x0, x1, x2, x3] s r t) : sem (d + 1) 275 [x0, x1, x2, x3] s = some (r, t) := sem_of rfl rfl h
theorem i_R_isCry {d : Nat} {x0 x1 x2 : Int} {s t : Mem} {r : Int} (h : G (sem d) o_R_isCry 0 [] [x0, x1, x2] s r t) : sem (d + 1) 276 [x0, x1, x2] s = some (r, t) := sem_of rfl rfl h
theorem i_R_numberOf {d : Nat} {x0 x1 x2 x3 : Int} {s t : Mem} {r : Int} (h : G (sem d) o_R_numberOf 0 [] [x0, x1, x2, x3] s r t) : sem (d + 1) 277 [x0, x1, x2, x3] s = some (r, t) := sem_of rfl rfl h
theorem i_R_call {d : Nat} {x0 x1 x2 : Int} {s t : Mem} {r : Int} (h : G (sem d) o_R_call 0 [] [x0, x1, x2] s r t) : sem (d + 1) 278 [x0, x1, x2] s = some (r, t) := sem_of rfl rfl h
theorem i_R_callOf {d : Nat} {x0 x1 x2 : Int} {s t : Mem} {r : Int} (h : G (sem d) o_R_callOf 0 [] [x0, x1, x2] s r t) : sem (d + 1) 279 [x0, x1, x2] s = some (r, t) := sem_of rfl rfl h
theorem i_R_far {d : Nat} {x0 x1 x2 : Int} {s t : Mem} {r : Int} (h : G (sem d) o_R_far 0 [] [x0, x1, x2, 0] s r t) : sem (d + 1) 280 [x0, x1, x2] s = some (r, t) := sem_of rfl rfl h
theorem i_R_isPlace {d : Nat} {x0 x1 : Int} {s t : Mem} {r : Int} (h : G (sem d) o_R_isPlace 0 [] [x0, x1] s r t) : sem (d + 1) 281 [x0, x1] s = some (r, t) := sem_of rfl rfl h
theorem i_R_laysFar {d : Nat} {x0 : Int} {s t : Mem} {r : Int} (h : G (sem d) o_R_laysFar 0 [] [x0, 0, 0, 0, 0, 0, 0] s r t) : sem (d + 1) 282 [x0] s = some (r, t) := sem_of rfl rfl h
theorem i_R_lost {d : Nat} {x0 x1 x2 : Int} {s t : Mem} {r : Int} (h : G (sem d) o_R_lost 0 [] [x0, x1, x2, 0] s r t) : sem (d + 1) 283 [x0, x1, x2] s = some (r, t) := sem_of rfl rfl h
theorem i_R_say {d : Nat} {x0 x1 x2 x3 : Int} {s t : Mem} {r : Int} (h : G (sem d) o_R_say 0 [] [x0, x1, x2, x3, 0] s r t) : sem (d + 1) 284 [x0, x1, x2, x3] s = some (r, t) := sem_of rfl rfl h
theorem i_R_isFrom {d : Nat} {x0 x2 x4 : Int} {s t : Mem} {r : Int} (h : G (sem d) o_R_isFrom 0 [] [x0, 0, x2, 0, x4, 0] s r t) : sem (d + 1) 285 [x0, x2, x4] s = some (r, t) := sem_of rfl rfl h
theorem i_R_says {d : Nat} {x0 x1 x2 x3 : Int} {s t : Mem} {r : Int} (h : G (sem d) o_R_says 0 [] [x0, x1, x2, x3, 0] s r t) : sem (d + 1) 286 [x0, x1, x2, x3] s = some (r, t) := sem_of rfl rfl h
theorem i_R_toldCall {d : Nat} {x0 x1 x2 x3 : Int} {s t : Mem} {r : Int} (h : G (sem d) o_R_toldCall 0 [] [x0, x1, x2, x3, 0] s r t) : sem (d + 1) 287 [x0, x1, x2, x3] s = some (r, t) := sem_of rfl rfl h
theorem i_R_hush {d : Nat} {x0 x1 : Int} {s t : Mem} {r : Int} (h : G (sem d) o_R_hush 0 [] [x0, x1] s r t) : sem (d + 1) 288 [x0, x1] s = some (r, t) := sem_of rfl rfl h
theorem i_R_hushes {d : Nat} {x0 x1 : Int} {s t : Mem} {r : Int} (h : G (sem d) o_R_hushes 0 [] [x0, x1, 0] s r t) : sem (d + 1) 289 [x0, x1] s = some (r, t) := sem_of rfl rfl h
theorem i_R_walk {d : Nat} {x0 x1 x2 : Int} {s t : Mem} {r : Int} (h : G (sem d) o_R_walk 0 [] [x0, x1, x2, 0] s r t) : sem (d + 1) 290 [x0, x1, x2] s = some (r, t) := sem_of rfl rfl h
theorem i_R_goesTo {d : Nat} {x0 x1 x2 : Int} {s t : Mem} {r : Int} (h : G (sem d) o_R_goesTo 0 [] [x0, x1, x2, 0] s r t) : sem (d + 1) 291 [x0, x1, x2] s = some (r, t) := sem_of rfl rfl h
theorem i_R_hang {d : Nat} {x0 x1 x2 : Int} {s t : Mem} {r : Int} (h : G (sem d) o_R_hang 0 [] [x0, x1, x2, 0] s r t) : sem (d + 1) 292 [x0, x1, x2] s = some (r, t) := sem_of rfl rfl h
theorem i_R_pave {d : Nat} {x0 x1 x2 x3 : Int} {s t : Mem} {r : Int} (h : G (sem d) o_R_pave 0 [] [x0, x1, x2, x3] s r t) : sem (d + 1) 293 [x0, x1, x2, x3] s = some (r, t) := sem_of rfl rfl h
theorem i_R_teach {d : Nat} {x0 x1 x2 x3 x4 : Int} {s t : Mem} {r : Int} (h : G (sem d) o_R_teach 0 [] [x0, x1, x2, x3, x4, 0, 0] s r t) : sem (d + 1) 294 [x0, x1, x2, x3, x4] s = some (r, t) := sem_of rfl rfl h
theorem i_R_rule {d : Nat} {x0 x1 : Int} {s t : Mem} {r : Int} (h : G (sem d) o_R_rule 0 [] [x0, x1] s r t) : sem (d + 1) 295 [x0, x1] s = some (r, t) := sem_of rfl rfl h
theorem i_R_record {d : Nat} {x0 : Int} {s t : Mem} {r : Int} (h : G (sem d) o_R_record 0 [] [x0] s r t) : sem (d + 1) 296 [x0] s = some (r, t) := sem_of rfl rfl h
theorem i_R_records {d : Nat} {x0 : Int} {s t : Mem} {r : Int} (h : G (sem d) o_R_records 0 [] [x0, 0, 0] s r t) : sem (d + 1) 297 [x0] s = some (r, t) := sem_of rfl rfl h
theorem i_R_allSums {d : Nat} {x0 : Int} {s t : Mem} {r : Int} (h : G (sem d) o_R_allSums 0 [] [x0, 0, 0] s r t) : sem (d + 1) 298 [x0] s = some (r, t) := sem_of rfl rfl h
theorem i_R_laysSums {d : Nat} {x0 : Int} {s t : Mem} {r : Int} (h : G (sem d) o_R_laysSums 0 [] [x0] s r t) : sem (d + 1) 299 [x0] s = some (r, t) := sem_of rfl rfl h
theorem i_R_laysLeft {d : Nat} {x0 x1 : Int} {s t : Mem} {r : Int} (h : G (sem d) o_R_laysLeft 0 [] [x0, x1, 0] s r t) : sem (d + 1) 300 [x0, x1] s = some (r, t) := sem_of rfl rfl h
theorem i_R_putsAll {d : Nat} {x0 x1 : Int} {s t : Mem} {r : Int} (h : G (sem d) o_R_putsAll 0 [] [x0, x1, 0] s r t) : sem (d + 1) 301 [x0, x1] s = some (r, t) := sem_of rfl rfl h
theorem i_R_puts {d : Nat} {x0 x1 x2 x3 x4 : Int} {s t : Mem} {r : Int} (h : G (sem d) o_R_puts 0 [] [x0, x1, x2, x3, x4, 0, 0, 0, 0] s r t) : sem (d + 1) 302 [x0, x1, x2, x3, x4] s = some (r, t) := sem_of rfl rfl h
theorem i_R_loudAt {d : Nat} {x0 x1 x2 x3 x4 : Int} {s t : Mem} {r : Int} (h : G (sem d) o_R_loudAt 0 [] [x0, x1, x2, x3, x4, 0] s r t) : sem (d + 1) 303 [x0, x1, x2, x3, x4] s = some (r, t) := sem_of rfl rfl h
theorem i_R_behindAt {d : Nat} {x0 x1 x2 : Int} {s t : Mem} {r : Int} (h : G (sem d) o_R_behindAt 0 [] [x0, x1, x2] s r t) : sem (d + 1) 304 [x0, x1, x2] s = some (r, t) := sem_of rfl rfl h
theorem i_R_changes {d : Nat} {x0 x1 x2 : Int} {s t : Mem} {r : Int} (h : G (sem d) o_R_changes 0 [] [x0, x1, x2] s r t) : sem (d + 1) 305 [x0, x1, x2] s = some (r, t) := sem_of rfl rfl h
theorem i_R_scrawl {d : Nat} {x0 x1 x2 x3 : Int} {s t : Mem} {r : Int} (h : G (sem d) o_R_scrawl 0 [] [x0, x1, x2, x3, 0] s r t) : sem (d + 1) 306 [x0, x1, x2, x3] s = some (r, t) := sem_of rfl rfl h
theorem i_R_isBeat {d : Nat} {x0 : Int} {s t : Mem} {r : Int} (h : G (sem d) o_R_isBeat 0 [] [x0] s r t) : sem (d + 1) 307 [x0] s = some (r, t) := sem_of rfl rfl h
theorem i_R_heard {d : Nat} {x0 x1 x2 : Int} {s t : Mem} {r : Int} (h : G (sem d) o_R_heard 0 [] [x0, x1, x2] s r t) : sem (d + 1) 308 [x0, x1, x2] s = some (r, t) := sem_of rfl rfl h
theorem i_R_from {d : Nat} {x0 x1 x2 : Int} {s t : Mem} {r : Int} (h : G (sem d) o_R_from 0 [] [x0, x1, x2, 0, 0] s r t) : sem (d + 1) 309 [x0, x1, x2] s = some (r, t) := sem_of rfl rfl h
theorem i_R_partOf {d : Nat} {x0 x1 x2 x3 : Int} {s t : Mem} {r : Int} (h : G (sem d) o_R_partOf 0 [] [x0, x1, x2, x3, 0, 0, 0] s r t) : sem (d + 1) 310 [x0, x1, x2, x3] s = some (r, t) := sem_of rfl rfl h
theorem i_R_first {d : Nat} {x0 x1 : Int} {s t : Mem} {r : Int} (h : G (sem d) o_R_first 0 [] [x0, x1, 0] s r t) : sem (d + 1) 311 [x0, x1] s = some (r, t) := sem_of rfl rfl h
theorem i_R_last {d : Nat} {x0 x1 : Int} {s t : Mem} {r : Int} (h : G (sem d) o_R_last 0 [] [x0, x1, 0] s r t) : sem (d + 1) 312 [x0, x1] s = some (r, t) := sem_of rfl rfl h
theorem i_R_loudest {d : Nat} {x0 x1 : Int} {s t : Mem} {r : Int} (h : G (sem d) o_R_loudest 0 [] [x0, x1, 0, 0, 0] s r t) : sem (d + 1) 313 [x0, x1] s = some (r, t) := sem_of rfl rfl h
theorem i_R_orNone {d : Nat} {x0 x1 : Int} {s t : Mem} {r : Int} (h : G (sem d) o_R_orNone 0 [] [x0, x1] s r t) : sem (d + 1) 314 [x0, x1] s = some (r, t) := sem_of rfl rfl h
theorem i_R_all {d : Nat} {x0 x1 : Int} {s t : Mem} {r : Int} (h : G (sem d) o_R_all 0 [] [x0, x1, 0, 0] s r t) : sem (d + 1) 315 [x0, x1] s = some (r, t) := sem_of rfl rfl h
theorem i_R_recorded {d : Nat} {x0 x1 x2 : Int} {s t : Mem} {r : Int} (h : G (sem d) o_R_recorded 0 [] [x0, x1, x2] s r t) : sem (d + 1) 316 [x0, x1, x2] s = some (r, t) := sem_of rfl rfl h
theorem i_R_differs {d : Nat} {x0 : Int} {s t : Mem} {r : Int} (h : G (sem d) o_R_differs 0 [] [x0] s r t) : sem (d + 1) 317 [x0] s = some (r, t) := sem_of rfl rfl h
theorem i_R_differing {d : Nat} {x0 : Int} {s t : Mem} {r : Int} (h : G (sem d) o_R_differing 0 [] [x0] s r t) : sem (d + 1) 318 [x0] s = some (r, t) := sem_of rfl rfl h
theorem i_R_copyHeard {d : Nat} {x0 x1 x2 x3 x4 : Int} {s t : Mem} {r : Int} (h : G (sem d) o_R_copyHeard 0 [] [x0, x1, x2, x3, x4, 0, 0, 0] s r t) : sem (d + 1) 319 [x0, x1, x2, x3, x4] s = some (r, t) := sem_of rfl rfl h
theorem i_R_answers {d : Nat} {x0 x1 : Int} {s t : Mem} {r : Int} (h : G (sem d) o_R_answers 0 [] [x0, x1] s r t) : sem (d + 1) 320 [x0, x1] s = some (r, t) := sem_of rfl rfl h
theorem i_R_laysAnswers {d : Nat} {x0 x1 x2 : Int} {s t : Mem} {r : Int} (h : G (sem d) o_R_laysAnswers 0 [] [x0, x1, x2, 0, 0] s r t) : sem (d + 1) 321 [x0, x1, x2] s = some (r, t) := sem_of rfl rfl h
theorem i_R_opensAt {d : Nat} {x0 x1 x2 : Int} {s t : Mem} {r : Int} (h : G (sem d) o_R_opensAt 0 [] [x0, x1, x2, 0] s r t) : sem (d + 1) 322 [x0, x1, x2] s = some (r, t) := sem_of rfl rfl h
theorem i_R_finds {d : Nat} {x0 x1 : Int} {s t : Mem} {r : Int} (h : G (sem d) o_R_finds 0 [] [x0, x1, 0, 0, 0, 0] s r t) : sem (d + 1) 323 [x0, x1] s = some (r, t) := sem_of rfl rfl h
theorem i_R_putsOf {d : Nat} {x0 x1 x2 : Int} {s t : Mem} {r : Int} (h : G (sem d) o_R_putsOf 0 [] [x0, x1, x2] s r t) : sem (d + 1) 324 [x0, x1, x2] s = some (r, t) := sem_of rfl rfl h
theorem i_R_mayBe {d : Nat} {x0 x1 x2 : Int} {s t : Mem} {r : Int} (h : G (sem d) o_R_mayBe 0 [] [x0, x1, x2, 0] s r t) : sem (d + 1) 325 [x0, x1, x2] s = some (r, t) := sem_of rfl rfl h
theorem i_R_isCall {d : Nat} {x0 x1 : Int} {s t : Mem} {r : Int} (h : G (sem d) o_R_isCall 0 [] [x0, x1] s r t) : sem (d + 1) 326 [x0, x1] s = some (r, t) := sem_of rfl rfl h
theorem i_R_inCell {d : Nat} {x0 x1 x2 : Int} {s t : Mem} {r : Int} (h : G (sem d) o_R_inCell 0 [] [x0, x1, x2, 0, 0, 0] s r t) : sem (d + 1) 327 [x0, x1, x2] s = some (r, t) := sem_of rfl rfl h
theorem i_R_answerAt {d : Nat} {x0 x1 x2 : Int} {s t : Mem} {r : Int} (h : G (sem d) o_R_answerAt 0 [] [x0, x1, x2] s r t) : sem (d + 1) 328 [x0, x1, x2] s = some (r, t) := sem_of rfl rfl h
theorem i_R_with {d : Nat} {x0 x1 x2 x3 x4 : Int} {s t : Mem} {r : Int} (h : G (sem d) o_R_with 0 [] [x0, x1, x2, x3, x4] s r t) : sem (d + 1) 329 [x0, x1, x2, x3, x4] s = some (r, t) := sem_of rfl rfl h
theorem i_R_fewest {d : Nat} {x0 : Int} {s t : Mem} {r : Int} (h : G (sem d) o_R_fewest 0 [] [x0] s r t) : sem (d + 1) 330 [x0] s = some (r, t) := sem_of rfl rfl h
theorem i_R_slips {d : Nat} {x0 x1 : Int} {s t : Mem} {r : Int} (h : G (sem d) o_R_slips 0 [] [x0, x1] s r t) : sem (d + 1) 331 [x0, x1] s = some (r, t) := sem_of rfl rfl h
theorem i_R_laysSlips {d : Nat} {x0 x1 : Int} {s t : Mem} {r : Int} (h : G (sem d) o_R_laysSlips 0 [] [x0, x1, 0, 0] s r t) : sem (d + 1) 332 [x0, x1] s = some (r, t) := sem_of rfl rfl h
theorem i_R_slipsBy {d : Nat} {x0 x1 x2 x3 : Int} {s t : Mem} {r : Int} (h : G (sem d) o_R_slipsBy 0 [] [x0, x1, x2, x3] s r t) : sem (d + 1) 333 [x0, x1, x2, x3] s = some (r, t) := sem_of rfl rfl h
theorem i_R_isLoud {d : Nat} {x0 x1 : Int} {s t : Mem} {r : Int} (h : G (sem d) o_R_isLoud 0 [] [x0, x1, 0, 0] s r t) : sem (d + 1) 334 [x0, x1] s = some (r, t) := sem_of rfl rfl h
theorem i_R_slipsAt {d : Nat} {x0 x1 x2 : Int} {s t : Mem} {r : Int} (h : G (sem d) o_R_slipsAt 0 [] [x0, x1, x2] s r t) : sem (d + 1) 335 [x0, x1, x2] s = some (r, t) := sem_of rfl rfl h
theorem i_R_moved {d : Nat} {x0 : Int} {s t : Mem} {r : Int} (h : G (sem d) o_R_moved 0 [] [x0] s r t) : sem (d + 1) 336 [x0] s = some (r, t) := sem_of rfl rfl h
theorem i_R_movedOf {d : Nat} {x0 x1 : Int} {s t : Mem} {r : Int} (h : G (sem d) o_R_movedOf 0 [] [x0, x1, 0, 0, 0, 0, 0, 0, 0] s r t) : sem (d + 1) 337 [x0, x1] s = some (r, t) := sem_of rfl rfl h
theorem i_R_movedAt {d : Nat} {x0 x1 x2 : Int} {s t : Mem} {r : Int} (h : G (sem d) o_R_movedAt 0 [] [x0, x1, x2, 0] s r t) : sem (d + 1) 338 [x0, x1, x2] s = some (r, t) := sem_of rfl rfl h
theorem i_R_alike {d : Nat} {x0 x1 x2 x3 x4 : Int} {s t : Mem} {r : Int} (h : G (sem d) o_R_alike 0 [] [x0, x1, x2, x3, x4, 0] s r t) : sem (d + 1) 339 [x0, x1, x2, x3, x4] s = some (r, t) := sem_of rfl rfl h
theorem i_R_slatePlaces {d : Nat} {x0 : Int} {s t : Mem} {r : Int} (h : G (sem d) o_R_slatePlaces 0 [] [x0, 0, 0] s r t) : sem (d + 1) 340 [x0] s = some (r, t) := sem_of rfl rfl h
theorem i_R_laterOf {d : Nat} {x0 x1 x2 x3 : Int} {s t : Mem} {r : Int} (h : G (sem d) o_R_laterOf 0 [] [x0, x1, x2, x3, 0] s r t) : sem (d + 1) 341 [x0, x1, x2, x3] s = some (r, t) := sem_of rfl rfl h
theorem i_R_areAlikeBy {d : Nat} {x0 x1 x2 x3 x4 : Int} {s t : Mem} {r : Int} (h : G (sem d) o_R_areAlikeBy 0 [] [x0, x1, x2, x3, x4, 0, 0] s r t) : sem (d + 1) 342 [x0, x1, x2, x3, x4] s = some (r, t) := sem_of rfl rfl h
theorem i_R_isIn {d : Nat} {x0 x1 x2 : Int} {s t : Mem} {r : Int} (h : G (sem d) o_R_isIn 0 [] [x0, x1, x2] s r t) : sem (d + 1) 343 [x0, x1, x2] s = some (r, t) := sem_of rfl rfl h
theorem i_R_inBeat {d : Nat} {x0 x1 x2 x3 : Int} {s t : Mem} {r : Int} (h : G (sem d) o_R_inBeat 0 [] [x0, x1, x2, x3, 0, 0] s r t) : sem (d + 1) 344 [x0, x1, x2, x3] s = some (r, t) := sem_of rfl rfl h
theorem i_R_parts {d : Nat} {x0 x1 : Int} {s t : Mem} {r : Int} (h : G (sem d) o_R_parts 0 [] [x0, x1] s r t) : sem (d + 1) 345 [x0, x1] s = some (r, t) := sem_of rfl rfl h
theorem i_R_doesPart {d : Nat} {x0 x1 : Int} {s t : Mem} {r : Int} (h : G (sem d) o_R_doesPart 0 [] [x0, x1, 0, 0] s r t) : sem (d + 1) 346 [x0, x1] s = some (r, t) := sem_of rfl rfl h
theorem i_R_isCryOf {d : Nat} {x0 x1 : Int} {s t : Mem} {r : Int} (h : G (sem d) o_R_isCryOf 0 [] [x0, x1] s r t) : sem (d + 1) 347 [x0, x1] s = some (r, t) := sem_of rfl rfl h
theorem i_R_hanging {d : Nat} {x0 : Int} {s t : Mem} {r : Int} (h : G (sem d) o_R_hanging 0 [] [x0, 0] s r t) : sem (d + 1) 348 [x0] s = some (r, t) := sem_of rfl rfl h
theorem i_R_hangingOf {d : Nat} {x0 : Int} {s t : Mem} {r : Int} (h : G (sem d) o_R_hangingOf 0 [] [x0, 0, 0] s r t) : sem (d + 1) 349 [x0] s = some (r, t) := sem_of rfl rfl h
theorem i_R_bits {d : Nat} {x0 : Int} {s t : Mem} {r : Int} (h : G (sem d) o_R_bits 0 [] [x0, 0, 0] s r t) : sem (d + 1) 350 [x0] s = some (r, t) := sem_of rfl rfl h
theorem i_R_hangingSet {d : Nat} {x0 : Int} {s t : Mem} {r : Int} (h : G (sem d) o_R_hangingSet 0 [] [x0] s r t) : sem (d + 1) 351 [x0] s = some (r, t) := sem_of rfl rfl h
theorem i_R_chance {d : Nat} {x0 x1 x2 x3 : Int} {s t : Mem} {r : Int} (h : G (sem d) o_R_chance 0 [] [x0, x1, x2, x3, 0, 0, 0, 0, 0, 0, 0, 0] s r t) : sem (d + 1) 352 [x0, x1, x2, x3] s = some (r, t) := sem_of rfl rfl h
theorem i_R_tellsBy {d : Nat} {x0 x1 x3 : Int} {s t : Mem} {r : Int} (h : G (sem d) o_R_tellsBy 0 [] [x0, x1, 0, x3, 0, 0, 0, 0, 0, 0, 0] s r t) : sem (d + 1) 353 [x0, x1, x3] s = some (r, t) := sem_of rfl rfl h
theorem i_R_quiet {d : Nat} {x0 x1 : Int} {s t : Mem} {r : Int} (h : G (sem d) o_R_quiet 0 [] [x0, x1, 0, 0, 0, 0, 0] s r t) : sem (d + 1) 354 [x0, x1] s = some (r, t) := sem_of rfl rfl h
theorem i_R_isHeardOn {d : Nat} {x0 x1 x2 : Int} {s t : Mem} {r : Int} (h : G (sem d) o_R_isHeardOn 0 [] [x0, x1, x2, 0] s r t) : sem (d + 1) 355 [x0, x1, x2] s = some (r, t) := sem_of rfl rfl h
theorem i_R_live {d : Nat} {x0 x1 : Int} {s t : Mem} {r : Int} (h : G (sem d) o_R_live 0 [] [x0, x1, 0] s r t) : sem (d + 1) 356 [x0, x1] s = some (r, t) := sem_of rfl rfl h
theorem i_R_lives {d : Nat} {x0 x1 : Int} {s t : Mem} {r : Int} (h : G (sem d) o_R_lives 0 [] [x0, x1, 0, 0] s r t) : sem (d + 1) 357 [x0, x1] s = some (r, t) := sem_of rfl rfl h
theorem i_R_does {d : Nat} {x0 x1 : Int} {s t : Mem} {r : Int} (h : G (sem d) o_R_does 0 [] [x0, x1, 0, 0] s r t) : sem (d + 1) 358 [x0, x1] s = some (r, t) := sem_of rfl rfl h
theorem i_R_countsIf {d : Nat} {x0 x1 x2 : Int} {s t : Mem} {r : Int} (h : G (sem d) o_R_countsIf 0 [] [x0, x1, x2] s r t) : sem (d + 1) 359 [x0, x1, x2] s = some (r, t) := sem_of rfl rfl h
theorem i_R_recordsIt {d : Nat} {x0 : Int} {s t : Mem} {r : Int} (h : G (sem d) o_R_recordsIt 0 [] [x0] s r t) : sem (d + 1) 360 [x0] s = some (r, t) := sem_of rfl rfl h
theorem i_R_saysAny {d : Nat} {x0 : Int} {s t : Mem} {r : Int} (h : G (sem d) o_R_saysAny 0 [] [x0, 0, 0] s r t) : sem (d + 1) 361 [x0] s = some (r, t) := sem_of rfl rfl h
theorem i_R_draw {d : Nat} {x0 x1 : Int} {s t : Mem} {r : Int} (h : G (sem d) o_R_draw 0 [] [x0, x1] s r t) : sem (d + 1) 362 [x0, x1] s = some (r, t) := sem_of rfl rfl h
theorem i_R_holds {d : Nat} {x0 x1 : Int} {s t : Mem} {r : Int} (h : G (sem d) o_R_holds 0 [] [x0, x1, 0, 0, 0] s r t) : sem (d + 1) 363 [x0, x1] s = some (r, t) := sem_of rfl rfl h
theorem i_R_sumOn {d : Nat} {x0 x1 x2 : Int} {s t : Mem} {r : Int} (h : G (sem d) o_R_sumOn 0 [] [x0, x1, x2] s r t) : sem (d + 1) 364 [x0, x1, x2] s = some (r, t) := sem_of rfl rfl h
theorem i_R_behindEnds {d : Nat} {x0 x1 : Int} {s t : Mem} {r : Int} (h : G (sem d) o_R_behindEnds 0 [] [x0, x1, 0, 0, 0] s r t) : sem (d + 1) 365 [x0, x1] s = some (r, t) := sem_of rfl rfl h
theorem i_R_lived {d : Nat} {x0 x1 : Int} {s t : Mem} {r : Int} (h : G (sem d) o_R_lived 0 [] [x0, x1] s r t) : sem (d + 1) 366 [x0, x1] s = some (r, t) := sem_of rfl rfl h
theorem i_R_mean {d : Nat} {x0 x1 x2 : Int} {s t : Mem} {r : Int} (h : G (sem d) o_R_mean 0 [] [x0, x1, x2, 0, 0, 0, 0] s r t) : sem (d + 1) 367 [x0, x1, x2] s = some (r, t) := sem_of rfl rfl h
theorem i_R_mark {d : Nat} {x0 : Int} {s t : Mem} {r : Int} (h : G (sem d) o_R_mark 0 [] [x0] s r t) : sem (d + 1) 368 [x0] s = some (r, t) := sem_of rfl rfl h
theorem i_R_copies {d : Nat} {x0 x1 x2 : Int} {s t : Mem} {r : Int} (h : G (sem d) o_R_copies 0 [] [x0, x1, x2, 0] s r t) : sem (d + 1) 369 [x0, x1, x2] s = some (r, t) := sem_of rfl rfl h
theorem i_R_undo {d : Nat} {x0 : Int} {s t : Mem} {r : Int} (h : G (sem d) o_R_undo 0 [] [x0] s r t) : sem (d + 1) 370 [x0] s = some (r, t) := sem_of rfl rfl h
