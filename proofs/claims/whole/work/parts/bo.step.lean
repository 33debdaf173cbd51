/-! ===== H2: mornings, a step of the reference from a boundary on ===== -/
theorem MI_s {T : Int → Int} {n p : Int} {s t u0 u : Mem} (hf : ∀ c i, c ≠ 7 → t c i = s c i) (h : MI T n s u0 u p) : MI T n t u0 u p := by
  have e : ∀ c, c ≠ 7 → t c = s c := fun c hc => funext (fun i => hf c i hc)
  unfold MI MRow RowP NmU at h ⊢
  rw [e 37 (by omega), e 38 (by omega), e 69 (by omega), e 10 (by omega), e 11 (by omega), e 70 (by omega), e 71 (by omega), e 72 (by omega), e 73 (by omega), e 74 (by omega), e 75 (by omega), e 76 (by omega)]
  exact h
theorem RowP_s {s t u : Mem} {k W : Int} (h1 : t 37 1 = s 37 1) (h3 : t 37 3 = s 37 3) (h4 : t 37 4 = s 37 4) (h : RowP s t u k W) : RowP t t u k W := by
  unfold RowP at h ⊢
  rw [h1, h3, h4]
  exact h
theorem st_all (D : Nat) {T : Int → Int} {n p : Int} (hT : TX T n) {s u0 u : Mem} (h : MI T n s u0 u p) (k m op : Int) (hk : kw T n p = k) (hkb : 10 ≤ k ∧ k ≤ 18) (hm : s 69 2 = m) (hmb : m < 60) (h17 : k = 17 → s 10 2 ≠ 0) (h30 : k ≠ 17 → s 69 1 ≠ 30) (h3 : k = 15 ∨ k = 16 → s 10 2 ≠ 3) (hop : op = if k = 15 ∨ k = 16 then 1 else 0) (G : Int → Mem → Prop) (K : ∀ v, (∀ c i, ¬ (c = 137 ∧ ((12 ≤ i ∧ i ≤ 15) ∨ i = 23)) → ¬ (c = 138 ∧ (i = 3479 ∨ (3972 + 6 * m ≤ i ∧ i ≤ 3972 + 6 * m + 5))) → v c i = u c i) → v 138 (3972 + 6 * m) = k → v 138 3479 = m + 1 → v 137 23 = (if k = 17 then u 137 23 else u 137 23 + 1) → Rs_ T n (tke T n p) v → CV (D + 7) 264 [137, k, 3972 + 6 * m] v (fun r x => (r = 0 ∧ G 0 x) ∨ (r = 1 ∧ EV (D + 7) o_R_morningStep 197 [] [137, k, m, 3972 + 6 * m, op, 6] x G))) : CV (D + 8) 263 [137] u G := by
  obtain ⟨-, hr, -, hc, hu, -, -⟩ := h
  rw [hm] at hc hu
  refine st_go (D + 4) hT hr m (u 137 23) (u 137 22) k op hu.1 (by omega) rfl (by rw [hu.2.1]; omega) rfl hk hkb (fun e => by rw [hu.2.2.1]; exact h17 e) (fun e => by rw [hu.2.1]; exact h30 e) (fun e => by rw [hu.2.2.1]; exact h3 e) hop G (fun w wf w0 wz w23 => ?_)
  refine st_170 D hT (p := p) (Rs_w (fun i _ => wf _ _ (by omega) (by omega)) (fun i => wf _ _ (by omega) (by omega)) hr) k m (3972 + 6 * m) op (by rw [wf _ _ (by omega) (by omega)]; exact hu.1) (by omega) G (fun v vf v9 vr => ?_)
  exact K v (fun c i g1 g2 => by rw [vf c i (by omega) (by omega)]; exact wf c i (by omega) (by omega)) (by rw [vf _ _ (by omega) (by omega)]; exact w0) v9 (by rw [vf _ _ (by omega) (by omega)]; exact w23) vr
def OkM (T : Int → Int) (n : Int) (t u0 : Mem) (p' r : Int) (w : Mem) : Prop := r = 1 ∧ MI T n t u0 w p'
theorem kw_of {T : Int → Int} {n p w : Int} (hw : wOk T n p w) : kw T n p = pm w := by unfold kw; rw [if_pos hw.1, hw.2]
theorem pm_pl {w : Int} (h : plW w) : (10 ≤ pm w ∧ pm w ≤ 18) ∧ pm w ≠ 17 ∧ ¬ (pm w = 15 ∨ pm w = 16) := by
  unfold plW at h
  rcases h with e | e | e | e | e | e
  all_goals (subst e; decide)
theorem pm_op {w : Int} (h : w = 15 ∨ w = 18) : (10 ≤ pm w ∧ pm w ≤ 18) ∧ pm w ≠ 17 ∧ (pm w = 15 ∨ pm w = 16) := by
  rcases h with e | e
  all_goals (subst e; decide)
theorem pm_bad {w : Int} (hw : -1 ≤ w ∧ w ≤ 20) (h : ¬ (w = 15 ∨ w = 18)) (h2 : ¬ plW w) (h3 : w ≠ 19) : pm w < 10 ∨ 18 < pm w := by
  unfold plW at h2
  obtain rfl | rfl | rfl | rfl | rfl | rfl | rfl | rfl | rfl | rfl | rfl | rfl | rfl : w = -1 ∨ w = 0 ∨ w = 1 ∨ w = 2 ∨ w = 3 ∨ w = 4 ∨ w = 5 ∨ w = 6 ∨ w = 7 ∨ w = 8 ∨ w = 9 ∨ w = 16 ∨ w = 17 := by omega
  all_goals decide
/-- a plain step: the order, then the sign that closes it -/
theorem rf_plain (D : Nat) {T : Int → Int} {n p p1 m w : Int} (hT : TX T n) {s u0 u s1 t : Mem} (h : MI T n s u0 u p) (hm : s 69 2 = m) (hw : wOk T n p w) (hp : plW w) (h30 : s 69 1 < 30) (s1c : ∀ c i, 37 ≤ c ∧ c ≤ 38 → s1 c i = s c i) (ref : ∀ v, NmU s1 v → Rs_ T n (tke T n p) v → v 138 (3972 + 6 * m) = pm w → CV (D + 7) 264 [137, pm w, 3972 + 6 * m] v (RgR T n s1 t v m w p1)) (G : Int → Mem → Prop) (K : ∀ x r y, (∀ c i, ¬ (c = 137 ∧ ((12 ≤ i ∧ i ≤ 15) ∨ i = 23)) → ¬ (c = 138 ∧ (i = 3479 ∨ (3972 + 6 * m ≤ i ∧ i ≤ 3972 + 6 * m + 5))) → x c i = u c i) → x 138 3479 = m + 1 → x 137 23 = u 137 23 + 1 → RowP s1 t x m w → RkP T n p1 x (cOk T n p1) 2 r y → G r y) : CV (D + 8) 263 [137] u G := by
  obtain ⟨k1, k2, k3⟩ := pm_pl hp
  have hc := h.2.2.2.1
  have hn := h.1
  rw [hm] at hc
  refine st_all D hT h (pm w) m 0 (kw_of hw) k1 hm (by omega) (fun e => absurd e k2) (fun _ => by omega) (fun e => absurd e k3) (by rw [if_neg k3]) G (fun v vf v0 v9 v23 vr => ?_)
  rw [if_neg k2] at v23
  refine CV_mono (ref v (NmU_c s1c (fun i _ => vf _ _ (by omega) (by omega)) (fun i => vf _ _ (by omega) (by omega)) hn) vr v0) ?_
  rintro r x ⟨e, xr, xf, xrow⟩
  refine Or.inr ⟨e, st_197p D (pm w) m _ x G k2 (st_279 D hT xr (pm w) m _ 0 G (fun r2 y hy => ?_))⟩
  exact K x r2 y (fun c i g1 g2 => by rw [xf c i (by omega) (by omega)]; exact vf c i g1 g2) (by rw [xf _ _ (by omega) (by omega)]; exact v9) (by rw [xf _ _ (by omega) (by omega)]; exact v23) xrow hy
/-- a step that holds others -/
theorem rf_open (D : Nat) {T : Int → Int} {n p p1 m w : Int} (hT : TX T n) {s u0 u s1 t : Mem} (h : MI T n s u0 u p) (hm : s 69 2 = m) (hw : wOk T n p w) (hp : w = 15 ∨ w = 18) (h30 : s 69 1 < 30) (h3 : s 10 2 < 3) (s1c : ∀ c i, 37 ≤ c ∧ c ≤ 38 → s1 c i = s c i) (ref : ∀ v, NmU s1 v → Rs_ T n (tke T n p) v → v 138 (3972 + 6 * m) = pm w → CV (D + 7) 264 [137, pm w, 3972 + 6 * m] v (RgR T n s1 t v m w p1)) (G : Int → Mem → Prop) (K : ∀ x r y, (∀ c i, ¬ (c = 137 ∧ ((12 ≤ i ∧ i ≤ 15) ∨ i = 22 ∨ i = 23)) → ¬ (c = 138 ∧ (i = 3479 ∨ (3972 + 6 * m ≤ i ∧ i ≤ 3972 + 6 * m + 5))) → ¬ (c = 145 ∧ i = s 10 2) → x c i = u c i) → x 138 3479 = m + 1 → x 137 23 = u 137 23 + 1 → x 137 22 = s 10 2 + 1 → x 145 (s 10 2) = m → RowP s1 t x m w → RkP T n p1 x (cOk T n p1) 2 r y → G r y) : CV (D + 8) 263 [137] u G := by
  obtain ⟨k1, k2, k3⟩ := pm_op hp
  have hc := h.2.2.2.1
  have hn := h.1
  have hu := h.2.2.2.2.1
  rw [hm] at hc
  obtain ⟨e, he⟩ : ∃ e, e = s 10 2 := ⟨_, rfl⟩
  rw [← he] at hc hu h3 K
  refine st_all D hT h (pm w) m 1 (kw_of hw) k1 hm (by omega) (fun e => absurd e k2) (fun _ => by omega) (fun _ => by omega) (by rw [if_pos k3]) G (fun v vf v0 v9 v23 vr => ?_)
  rw [if_neg k2] at v23
  refine CV_mono (ref v (NmU_c s1c (fun i _ => vf _ _ (by omega) (by omega)) (fun i => vf _ _ (by omega) (by omega)) hn) vr v0) ?_
  rintro r x ⟨er, xr, xf, xrow⟩
  have x22 : x 137 22 = e := by rw [xf _ _ (by omega) (by omega), vf _ _ (by omega) (by omega)]; exact hu.2.2.1
  obtain ⟨x2, hx2⟩ : ∃ x2, x2 = mset (mset x 145 e m) 137 22 (e + 1) := ⟨_, rfl⟩
  have x2f : ∀ c i, ¬ (c = 145 ∧ i = e) → ¬ (c = 137 ∧ i = 22) → x2 c i = x c i := fun c i g1 g2 => by rw [hx2, mset_ne (by omega), mset_ne (by omega)]
  have x2r : Rs_ T n p1 x2 := Rs_w (fun i _ => x2f _ _ (by omega) (by omega)) (fun i => x2f _ _ (by omega) (by omega)) xr
  refine Or.inr ⟨er, st_197o D (pm w) m _ e x G k3 x22 (by omega) ?_⟩
  rw [← hx2]
  refine st_279 D hT x2r (pm w) m _ 1 G (fun r2 y hy => ?_)
  refine K x2 r2 y (fun c i g1 g2 g3 => by rw [x2f c i g3 (by omega), xf c i (by omega) (by omega)]; exact vf c i (by omega) g2) (by rw [x2f _ _ (by omega) (by omega), xf _ _ (by omega) (by omega)]; exact v9) (by rw [x2f _ _ (by omega) (by omega), xf _ _ (by omega) (by omega)]; exact v23) (by rw [hx2, mset_eq rfl rfl]) (by rw [hx2, mset_ne (by omega), mset_eq rfl rfl]) ?_ hy
  unfold RowP at xrow ⊢
  rw [x2f _ _ (by omega) (by omega), x2f _ _ (by omega) (by omega), x2f _ _ (by omega) (by omega), x2f _ _ (by omega) (by omega), x2f _ _ (by omega) (by omega)]
  exact xrow
/-- an end -/
theorem rf_end (D : Nat) {T : Int → Int} {n p m l : Int} (hT : TX T n) {s u0 u : Mem} (h : MI T n s u0 u p) (hm : s 69 2 = m) (hw : wOk T n p 19) (h0 : 0 < s 10 2) (hl : s 11 (s 10 2 - 1) = l) (G : Int → Mem → Prop) (K : ∀ x r y, (∀ c i, ¬ (c = 137 ∧ ((12 ≤ i ∧ i ≤ 15) ∨ i = 22 ∨ i = 23)) → ¬ (c = 138 ∧ (i = 3479 ∨ (3972 + 6 * m ≤ i ∧ i ≤ 3972 + 6 * m + 5) ∨ i = 3972 + 6 * l + 4)) → x c i = u c i) → x 138 3479 = m + 1 → x 137 22 = s 10 2 - 1 → x 137 23 = u 137 23 → x 138 (3972 + 6 * m) = 17 → x 138 (3972 + 6 * m + 4) = l → x 138 (3972 + 6 * l + 4) = m → RkP T n (tke T n p) x (cOk T n (tke T n p)) 2 r y → G r y) : CV (D + 8) 263 [137] u G := by
  have hc := h.2.2.2.1
  have hn := h.1
  have hu := h.2.2.2.2.1
  have lb := (h.2.2.2.2.2.1.1 (s 10 2 - 1) (by omega)).1
  rw [hm] at hc lb
  rw [hl] at lb
  have ul : u 145 (s 10 2 - 1) = l := by rw [hu.2.2.2 _ (by omega)]; exact hl
  obtain ⟨e, he⟩ : ∃ e, e = s 10 2 := ⟨_, rfl⟩
  rw [← he] at hc hu h0 hl ul K
  refine st_all D hT h 17 m 0 (kw_of hw) (by omega) hm (by omega) (fun _ => by omega) (fun e => absurd rfl e) (fun e => by omega) rfl G (fun v vf v0 v9 v23 vr => ?_)
  rw [if_pos rfl] at v23
  have qo : sem (D + 7) 264 [137, 17, 3972 + 6 * m] v = some (1, v) := o_none (D + 6) 17 _ v (by decide)
  have v22 : v 137 22 = e := by rw [vf _ _ (by omega) (by omega)]; exact hu.2.2.1
  have vl : v 145 (e - 1) = l := by rw [vf _ _ (by omega) (by omega)]; exact ul
  obtain ⟨x, hx⟩ : ∃ x, x = mset (mset (mset v 137 22 (e - 1)) 138 (3972 + 6 * m + 4) l) 138 (3972 + 6 * l + 4) m := ⟨_, rfl⟩
  have xf : ∀ c i, ¬ (c = 137 ∧ i = 22) → ¬ (c = 138 ∧ (i = 3972 + 6 * m + 4 ∨ i = 3972 + 6 * l + 4)) → x c i = v c i := fun c i g1 g2 => by rw [hx, mset_ne (by omega), mset_ne (by omega), mset_ne (by omega)]
  have xr : Rs_ T n (tke T n p) x := Rs_w (fun i _ => xf _ _ (by omega) (by omega)) (fun i => xf _ _ (by omega) (by omega)) vr
  refine CV_of qo (Or.inr ⟨rfl, st_197e D m _ e l v G (by omega) v22 (by omega) vl (by omega) ?_⟩)
  rw [← hx]
  refine st_279 D hT xr 17 m _ 0 G (fun r2 y hy => ?_)
  exact K x r2 y (fun c i g1 g2 => by rw [xf c i (by omega) (by omega)]; exact vf c i (by omega) (by omega)) (by rw [xf _ _ (by omega) (by omega)]; exact v9) (by rw [hx, mset_ne (by omega), mset_ne (by omega), mset_eq rfl rfl]) (by rw [xf _ _ (by omega) (by omega)]; exact v23) (by rw [xf _ _ (by omega) (by omega)]; exact v0) (by rw [hx, mset_ne (by omega), mset_eq rfl rfl]) (by rw [hx, mset_eq rfl rfl]) hy
/-- an order that fails -/
theorem rf_no (D : Nat) {T : Int → Int} {n p m w a b : Int} (hT : TX T n) {s u0 u s1 : Mem} (h : MI T n s u0 u p) (hm : s 69 2 = m) (hw : wOk T n p w) (hp : plW w ∨ ((w = 15 ∨ w = 18) ∧ s 10 2 < 3)) (h30 : s 69 1 < 30) (s1c : ∀ c i, 37 ≤ c ∧ c ≤ 38 → s1 c i = s c i) (ref : ∀ v, NmU s1 v → Rs_ T n (tke T n p) v → v 138 (3972 + 6 * m) = pm w → CV (D + 7) 264 [137, pm w, 3972 + 6 * m] v (NoR v a b)) : CV (D + 8) 263 [137] u (NoM u0 a b) := by
  have hc := h.2.2.2.1
  have hn := h.1
  have hf := h.2.2.1
  rw [hm] at hc
  have k1 : (10 ≤ pm w ∧ pm w ≤ 18) ∧ pm w ≠ 17 := by
    rcases hp with g | ⟨g, -⟩
    · exact ⟨(pm_pl g).1, (pm_pl g).2.1⟩
    · exact ⟨(pm_op g).1, (pm_op g).2.1⟩
  refine st_all D hT h (pm w) m _ (kw_of hw) k1.1 hm (by omega) (fun e => absurd e k1.2) (fun _ => by omega) (fun e => ?_) rfl _ (fun v vf v0 v9 v23 vr => ?_)
  · rcases hp with g | ⟨-, g⟩
    · exact absurd e (pm_pl g).2.2
    · omega
  refine CV_mono (ref v (NmU_c s1c (fun i _ => vf _ _ (by omega) (by omega)) (fun i => vf _ _ (by omega) (by omega)) hn) vr v0) ?_
  intro r x hx
  have hx0 := hx.1
  rw [hx0] at hx
  refine Or.inl ⟨hx0, NoM_of (fun c i g1 g2 g3 g4 => ?_) hx⟩
  rw [vf c i (by omega) (by omega)]; exact hf c i g1 g2 g3 g4
