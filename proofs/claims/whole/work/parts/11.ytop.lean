def sx_out (x : Int32) (n : Nat) : Prop := x < 0 ∨ ∃ j, n ≤ j ∧ j < 2 ^ 31 ∧ x = nI j
theorem sx_ix (x : Int32) (n : Nat) : sx_out x n ∨ ∃ j, j < n ∧ x = nI j := by
  by_cases h : x < 0
  · exact Or.inl (Or.inl h)
  · obtain ⟨j, hj, e⟩ := nI_of h
    rcases Nat.lt_or_ge j n with g | g
    · exact Or.inr ⟨j, g, e⟩
    · exact Or.inl (Or.inr ⟨j, g, hj, e⟩)
theorem sx_outL {x : Int32} {n : Nat} {A : Prop} (hn : n < 2 ^ 31) {y : Int32} (ey : y = nI n) (hx : sx_out x n) (h : A) {B : Prop} : (x < 0 → A) ∧ (¬ x < 0 → ((y ≤ x → A) ∧ (¬ y ≤ x → B))) := by
  subst ey
  rcases hx with g | ⟨j, h1, h2, e⟩
  · exact br_t g h
  · exact br_c (fun _ => h) (fun _ => br_t (by rw [e]; exact nI_le h1 h2) h)
theorem sx_outG {x : Int32} {n : Nat} {A : Prop} (hn : n + 1 < 2 ^ 31) {y : Int32} (ey : y = nI n) (hx : sx_out x (n + 1)) (h : A) {B : Prop} : (x < 0 → A) ∧ (¬ x < 0 → ((y < x → A) ∧ (¬ y < x → B))) := by
  subst ey
  rcases hx with g | ⟨j, h1, h2, e⟩
  · exact br_t g h
  · exact br_c (fun _ => h) (fun _ => br_t (by rw [e]; exact nI_lt h1 h2) h)
theorem sq_dep_neg {T B : Nat → Nat → Nat} (hT : sq_ok T) {s : Nat} (hs : s < 16) : sq_dep T B s < 0 ↔ ¬ sq_ev T B s := by
  rw [← sq_ev_dep hT hs]
  rcases sq_dep_n (T := T) (B := B) (s := s) with e | ⟨d, hd, e⟩
  · rw [e]
    exact ⟨fun _ => rfl, fun _ => by decide⟩
  · rw [e]
    exact ⟨fun z => absurd z (nI_pos (by omega)), fun z => absurd z (sq_n3 hd)⟩
section
variable {p : sq_P} {sz st sh : Int32} {gs nx va : Nat → Int32}
theorem sy_engine {post : Int32 → Prop} {x : Int32} {e : Nat} (he : e < 4) (ex : x = nI e) (h : post 1) : wpY_engine post (sz, st, sh, gs, nx, va) x := by
  subst ex
  exact br_f (nI_pos (by omega)) (br_f (nI_nlt (a := 3) (by omega) (by decide)) h)
theorem sy_isSet {post : Int32 → Prop} {x : Int32} {e : Nat} (he : e < 16) (ex : x = nI e) (h : post 1) : wpY_isSet post (sz, st, sh, gs, nx, va) x := by
  subst ex
  exact br_f (nI_pos (by omega)) (br_f (nI_nlt (a := 15) (by omega) (by decide)) h)
theorem sy_notSet {post : Int32 → Prop} {x : Int32} (hx : sx_out x 16) (h : post 0) : wpY_isSet post (sz, st, sh, gs, nx, va) x := sx_outG (n := 15) (by decide) rfl hx h
theorem sy_notEngine {post : Int32 → Prop} {x : Int32} (hx : sx_out x 4) (h : post 0) : wpY_engine post (sz, st, sh, gs, nx, va) x := sx_outG (n := 3) (by decide) rfl hx h
theorem sy_has {post : Int32 → Prop} {x y t : Int32} {s o z : Nat} (hs : s < 16) (ho : o < 16) (hz : z < 16) (ex : x = nI s) (ey : y = nI o) (et : t = nI z)
    (h1 : sq_has s o z = true → post 1) (h0 : ¬ sq_has s o z = true → post 0) : wpY_has post (sz, st, sh, gs, nx, va) x y t := by
  subst ex ey et
  have e1 : nI s &&& nI o = 0 ↔ s &&& o = 0 := sq_and0 (by omega) (by omega)
  have e2 := sq_nhas s hs z hz
  refine br_c (fun g => br_c (fun g2 => h0 ?_) (fun g2 => h1 ?_)) (fun g => h1 ?_)
  · intro w
    exact (of_decide_eq_true w).elim (fun q => q (e1.mp g)) (fun q => q (e2.mp g2))
  · exact decide_eq_true (Or.inr fun q => g2 (e2.mpr q))
  · exact decide_eq_true (Or.inl fun q => g (e1.mpr q))
theorem sy_ever (H : sy_C p sz st sh gs nx) {post : Int32 → SY → Prop} {x : Int32} {e : Nat} (he : e < 4) (ex : x = nI e)
    (h : ∀ va' : Nat → Int32, post (sq_ei (sq_T p) (sq_B p) (sq_s p)) (sz, st, sh, gs, nx, va')) : wpY_ever post (sz, st, sh, gs, nx, va) x := by
  have wf := H.1
  have hT := sq_T_ok wf
  have hs := wf.2.1
  unfold wpY_ever
  refine sy_engine he ex (br_f sx_8 ?_)
  refine sy_bad H (fun va1 => sy_found H sq_bad_lt rfl (fun va2 => ?_))
  exact sq_ei_if (P := fun r => post r (sz, st, sh, gs, nx, va2)) hT hs (sq_dep_neg hT hs) (h va2)
theorem sy_depth (H : sy_C p sz st sh gs nx) {post : Int32 → SY → Prop} {x : Int32} {e : Nat} (he : e < 2) (ex : x = nI e)
    (h : ∀ va' : Nat → Int32, post (sq_dep (sq_T p) (sq_B p) (sq_s p)) (sz, st, sh, gs, nx, va')) : wpY_depth post (sz, st, sh, gs, nx, va) x := by
  subst ex
  have w : wY_depth_9 post sz st sh gs nx va := by
    unfold wY_depth_9
    exact sy_bad H (fun va1 => sy_found H sq_bad_lt rfl (fun va2 => h va2))
  unfold wpY_depth
  match e, he with
  | 0, _ => exact br_t (by decide +kernel) w
  | 1, _ => exact br_f (by decide +kernel) (br_t (by decide +kernel) w)
theorem sy_before (H : sy_C p sz st sh gs nx) {post : Int32 → SY → Prop} {x : Int32} {m : Nat} (hm : m < 16) (ex : x = nI m)
    (h : ∀ va' : Nat → Int32, post (nI (sq_Q (sq_T p) (sq_bad (sq_B p)) m)) (sz, st, sh, gs, nx, va')) : wpY_before post (sz, st, sh, gs, nx, va) x := by
  subst ex
  unfold wpY_before
  refine sy_bad H (fun va1 => ?_)
  have hQ := sq_Q_lt (T := sq_T p) (S := sq_bad (sq_B p)) sq_bad_lt
  refine pk_loop (fun n i (q : Int32 × (Nat → Int32)) => wY_before_7 post (nI m) n q.1 (nI i) sz st sh gs nx q.2)
    (fun i q => q.1 = nI (sq_Q (sq_T p) (sq_bad (sq_B p)) i)) m 0 (nI (sq_bad (sq_B p)), va1) (by omega) rfl ?_ ?_
  · rintro n ⟨y, va'⟩ hy
    have hy' : y = nI (sq_Q (sq_T p) (sq_bad (sq_B p)) m) := hy
    subst hy'
    exact br_t (nI_le (Nat.le_refl _) (by omega)) (h va')
  · rintro n i ⟨y, va'⟩ hi hy ih
    exact br_f (nI_ge hi (by omega)) (sy_lead H (hQ i) hy (fun va2 => nm_r (nI_1 i) (ih (nI (sq_Q (sq_T p) (sq_bad (sq_B p)) (i + 1)), va2) rfl)))
theorem sy_in118 (H : sy_C p sz st sh gs nx) {post : Int32 → SY → Prop} {J : Int32 → Int32 → Int32 → Int32 → Int32 → Int32 → (Nat → Int32) → (Nat → Int32) → (Nat → Int32) → Prop} {x1 x2 x3 x4 : Int32} {s l i : Nat} (hs : s < 16) (hl : l < 8) (e3 : x3 = nI s) (e4 : x4 = nI l)
    (h : ∀ va' : Nat → Int32, J (nI (sq_T p s l)) x4 (nI (i + 1)) sz st sh gs nx va') : wY_input_118 post J x1 x2 x3 x4 (nI i) sz st sh gs nx va := by
  unfold wY_input_118
  exact sy_step H hs hl e3 e4 (fun va2 => nm_r (nI_1 i) (h va2))
theorem sy_in69a (H : sy_C p sz st sh gs nx) {post : Int32 → SY → Prop} {J : Int32 → Int32 → Int32 → Int32 → Int32 → Int32 → (Nat → Int32) → (Nat → Int32) → (Nat → Int32) → Prop} {x1 x3 x6 : Int32} {s i d Q : Nat} (hs : s < 16) (hi : i < d) (hd : d < 16) (hQ : Q < 2 ^ 16) (e3 : x3 = nI s) (e6 : x6 = nI Q)
    (h : ∀ va' : Nat → Int32, J (nI (sq_T p s (sq_lv (fun l => Q.testBit (sq_T p s l)) 7 0))) (nI (sq_lv (fun l => Q.testBit (sq_T p s l)) 7 0)) (nI (i + 1)) sz st sh gs nx va') : ∃ n, wY_input_69 post J x1 (nI d) x3 (nI i) x6 n 0 sz st sh gs nx va := by
  subst e3 e6
  have wf := H.1
  refine pk_loop (fun n l (va : Nat → Int32) => wY_input_69 post J x1 (nI d) (nI s) (nI i) (nI Q) n (nI l) sz st sh gs nx va)
    (fun l va => sq_lv (fun l => Q.testBit (sq_T p s l)) (7 - l) l = sq_lv (fun l => Q.testBit (sq_T p s l)) 7 0) 7 0 va (by omega) rfl ?_ ?_
  · intro n va hv
    refine br_t (by decide +kernel) (sy_in118 H hs (l := 7) (by omega) rfl rfl (fun va2 => ?_))
    have z := h va2
    rw [← hv] at z
    exact z
  · intro n l va hl hv ih
    have e := sq_bit1 (a := Q) (s := sq_T p s l) (by omega) (by have := sq_T_lt wf s l; omega)
    rw [show 7 - l = (7 - (l + 1)) + 1 by omega] at hv
    refine br_f (nI_ge (b := 7) hl (by decide)) (br_f (nI_ge hi (by omega)) (sy_step H hs (l := l) (by omega) rfl rfl (fun va2 => br_c (fun g => sy_in118 H hs (l := l) (by omega) rfl rfl (fun va3 => ?_)) (fun g => nm_r (nI_1 l) (ih va2 ?_)))))
    · rw [sq_lv_t (P := fun l => Q.testBit (sq_T p s l)) (e.mp g)] at hv
      have z := h va3
      rw [← hv] at z
      exact z
    · rw [sq_lv_f (P := fun l => Q.testBit (sq_T p s l)) (fun z => g (e.mpr z))] at hv
      exact hv
theorem sy_in69b (H : sy_C p sz st sh gs nx) {post : Int32 → SY → Prop} {J : Int32 → Int32 → Int32 → Int32 → Int32 → Int32 → (Nat → Int32) → (Nat → Int32) → (Nat → Int32) → Prop} {x1 x3 x6 : Int32} {s i d : Nat} (hs : s < 16) (hi : d ≤ i) (hd : i < 17) (e3 : x3 = nI s)
    (h : ∀ va' : Nat → Int32, J (nI (sq_T p s (sq_ll (sq_B p) s))) (nI (sq_ll (sq_B p) s)) (nI (i + 1)) sz st sh gs nx va') : ∃ n, wY_input_69 post J x1 (nI d) x3 (nI i) x6 n 0 sz st sh gs nx va := by
  subst e3
  have wf := H.1
  refine pk_loop (fun n l (va : Nat → Int32) => wY_input_69 post J x1 (nI d) (nI s) (nI i) x6 n (nI l) sz st sh gs nx va)
    (fun l va => sq_lv (fun l => decide (sq_B p s l = 1)) (7 - l) l = sq_ll (sq_B p) s) 7 0 va (by omega) rfl ?_ ?_
  · intro n va hv
    refine br_t (by decide +kernel) (sy_in118 H hs (l := 7) (by omega) rfl rfl (fun va2 => ?_))
    have z := h va2
    rw [← hv] at z
    exact z
  · intro n l va hl hv ih
    have hB := sq_B_lt wf s l
    have e : nI (sq_B p s l) = 1 ↔ sq_B p s l = 1 := by
      show _ = nI 1 ↔ _
      rw [nI_eq (by omega) (by omega)]
    rw [show 7 - l = (7 - (l + 1)) + 1 by omega] at hv
    refine br_f (nI_ge (b := 7) hl (by decide)) (br_t (nI_le hi (by omega)) (sy_watched H hs (l := l) (by omega) rfl rfl (fun va2 => br_c (fun g => sy_in118 H hs (l := l) (by omega) rfl rfl (fun va3 => ?_)) (fun g => nm_r (nI_1 l) (ih va2 ?_)))))
    · rw [sq_lv_t (P := fun l => decide (sq_B p s l = 1)) (decide_eq_true (e.mp g))] at hv
      have z := h va3
      rw [← hv] at z
      exact z
    · rw [sq_lv_f (P := fun l => decide (sq_B p s l = 1)) (fun z => g (e.mpr (of_decide_eq_true z)))] at hv
      exact hv
theorem sy_input38 (H : sy_C p sz st sh gs nx) {post : Int32 → SY → Prop} {k d : Nat} (hd : d < 16) (hk : k ≤ d)
    (h : ∀ va' : Nat → Int32, post (nI (sq_in (sq_T p) (sq_B p) (sq_s p) d k)) (sz, st, sh, gs, nx, va')) : ∃ n, wY_input_38 post (nI k) (nI d) n st 0 0 sz st sh gs nx va := by
  have wf := H.1
  have hT := sq_T_ok wf
  have hs := wf.2.1
  have st16 := sq_st_16 (B := sq_B p) (d := d) hT hs
  refine pk_loop (fun n i (q : Int32 × Int32 × (Nat → Int32)) => wY_input_38 post (nI k) (nI d) n q.1 q.2.1 (nI i) sz st sh gs nx q.2.2)
    (fun i q => (i ≤ d → q.1 = nI (sq_st (sq_T p) (sq_B p) (sq_s p) d i)) ∧ ∀ j, i = j + 1 → q.2.1 = nI (sq_in (sq_T p) (sq_B p) (sq_s p) d j)) (k + 1) 0 (st, (0 : Int32), va) (by omega) ⟨fun _ => H.2.2.1, fun j hj => by omega⟩ ?_ ?_
  · rintro n ⟨y, l, va'⟩ ⟨h1, h2⟩
    refine br_t (nI_lt (by omega) (by omega)) ?_
    have h2' : l = nI (sq_in (sq_T p) (sq_B p) (sq_s p) d k) := h2 k rfl
    subst h2'
    exact h va'
  · rintro n i ⟨y, l, va'⟩ hi ⟨h1, h2⟩ ih
    have hy : y = nI (sq_st (sq_T p) (sq_B p) (sq_s p) d i) := h1 (by omega)
    refine br_f (nI_nlt (by omega) (by omega)) ?_
    rcases Nat.lt_or_ge i d with g | g
    · refine br_f (nI_ge g (by omega)) ?_
      have e : nI d - nI i - 1 = nI (d - i - 1) := by
        rw [pk_sub (by omega)]
        exact pk_sub (b := 1) (by omega)
      refine sy_before H (m := d - i - 1) (by omega) e (fun va2 => ?_)
      refine sy_in69a H (st16 i) g hd (sq_Q_lt sq_bad_lt _) hy rfl (fun va3 => ih (nI (sq_st (sq_T p) (sq_B p) (sq_s p) d (i + 1)), nI (sq_lt (sq_T p) (sq_B p) (d - i - 1) (sq_st (sq_T p) (sq_B p) (sq_s p) d i)), va3) ⟨fun _ => rfl, fun j hj => ?_⟩)
      have ej : j = i := by omega
      subst ej
      show nI _ = nI _
      unfold sq_in
      rw [if_pos g]
    · refine br_t (nI_le g (by omega)) ?_
      refine sy_in69b H (st16 i) g (by omega) hy (fun va3 => ih (nI (sq_T p (sq_st (sq_T p) (sq_B p) (sq_s p) d i) (sq_ll (sq_B p) (sq_st (sq_T p) (sq_B p) (sq_s p) d i))), nI (sq_ll (sq_B p) (sq_st (sq_T p) (sq_B p) (sq_s p) d i)), va3) ⟨fun z => by omega, fun j hj => ?_⟩)
      have ej : j = i := by omega
      subst ej
      show nI _ = nI _
      unfold sq_in
      rw [if_neg (by omega)]
theorem sy_reached (H : sy_C p sz st sh gs nx) {post : Int32 → SY → Prop}
    (h : ∀ va' : Nat → Int32, post (nI (sq_R (sq_T p) (2 ^ sq_s p) 15)) (sz, st, sh, gs, nx, va')) : wpY_reached post (sz, st, sh, gs, nx, va) := by
  have wf := H.1
  have hT := sq_T_ok wf
  have hs := wf.2.1
  have hb := H.2.2.1
  have hR := sq_R_lt hT (sq_p2lt hs)
  refine nm_r (e' := nI (2 ^ sq_s p)) (by rw [hb]; exact sq_one _ hs) ?_
  refine pk_loop (fun n i (q : Int32 × (Nat → Int32)) => wY_reached_9 post n q.1 (nI i) sz st sh gs nx q.2)
    (fun i q => q.1 = nI (sq_R (sq_T p) (2 ^ sq_s p) i)) 16 0 (nI (2 ^ sq_s p), va) (by omega) rfl ?_ ?_
  · rintro n ⟨y, va'⟩ hy
    have hy' : y = nI (sq_R (sq_T p) (2 ^ sq_s p) 15) := by
      rw [← sq_R_fix hT hs]
      exact hy
    subst hy'
    exact br_t (by decide +kernel) (h va')
  · rintro n i ⟨y, va'⟩ hi hy ih
    have hy' : y = nI (sq_R (sq_T p) (2 ^ sq_s p) i) := hy
    refine br_f (nI_ge (b := 16) hi (by decide)) (sy_foll H (hR i) hy' (fun va2 => nm_e (nm_r (nI_1 i) (ih (_, va2) ?_))))
    show y ||| _ = _
    rw [hy', sq_nor]
    rfl
theorem sy_h0 {post : Int32 → SY → Prop} {x1 x2 x3 : Int32} (h : post 0 (sz, st, sh, gs, nx, va)) : ∃ n, wY_holds_31 post x1 x2 x3 sz st sh gs nx va n 0 0 := by
  refine pk_loop (fun n i (y : Int32) => wY_holds_31 post x1 x2 x3 sz st sh gs nx va n y (nI i)) (fun i y => y = 0) 16 0 (0 : Int32) (by omega) rfl ?_ ?_
  · intro n y hy
    subst hy
    exact br_t (by decide +kernel) ⟨rfl, h⟩
  · intro n i y hi hy ih
    exact br_f (nI_ge (b := 16) hi (by decide)) (br_t hy (nm_r (nI_1 i) (ih _ rfl)))
theorem sy_h1 {post : Int32 → SY → Prop} {x1 x2 x3 : Int32} {o z R : Nat} (ho : o < 16) (hz : z < 16) (hR : R < 2 ^ 16) (e1 : x1 = nI o) (e2 : x2 = nI z) (e3 : x3 = nI R) {r : Int32}
    (h1 : (∀ j, R.testBit j = true → (sq_sw o z).testBit j = true) → r = 1) (h0 : ¬ (∀ j, R.testBit j = true → (sq_sw o z).testBit j = true) → r = 0)
    (h : post r (sz, st, sh, gs, nx, va)) : ∃ n, wY_holds_31 post x1 x2 x3 sz st sh gs nx va n 1 0 := by
  subst e1 e2 e3
  refine pk_loop (fun n i (y : Int32) => wY_holds_31 post (nI o) (nI z) (nI R) sz st sh gs nx va n y (nI i))
    (fun i y => (y = 1 ∧ ∀ j, j < i → R.testBit j = true → sq_has j o z = true) ∨ (y = 0 ∧ ∃ j, R.testBit j = true ∧ ¬ sq_has j o z = true)) 16 0 (1 : Int32) (by omega) (Or.inl ⟨rfl, fun j hj => absurd hj (Nat.not_lt_zero j)⟩) ?_ ?_
  · intro n y hy
    refine br_t (by decide +kernel) ?_
    rcases hy with ⟨ey, hy⟩ | ⟨ey, j, g1, g2⟩
    · subst ey
      rw [h1 (fun j hj => sq_sw_b.mpr ⟨sq_big hR hj, hy j (sq_big hR hj) hj⟩)] at h
      exact ⟨rfl, h⟩
    · subst ey
      rw [h0 (fun q => g2 (sq_sw_b.mp (q j g1)).2)] at h
      exact ⟨rfl, h⟩
  · intro n i y hi hy ih
    refine br_f (nI_ge (b := 16) hi (by decide)) ?_
    rcases hy with ⟨ey, hy⟩ | ⟨ey, hy⟩
    · subst ey
      have e := sq_bit0 (a := R) (s := i) (by omega) (by omega)
      refine br_f sx_8 (br_c (fun g => nm_r (nI_1 i) (ih _ (Or.inl ⟨rfl, ?_⟩))) (fun g => sy_has hi ho hz rfl rfl rfl (fun g2 => br_f sx_8 (nm_r (nI_1 i) (ih _ (Or.inl ⟨rfl, ?_⟩)))) (fun g2 => br_t rfl (nm_r (nI_1 i) (ih _ (Or.inr ⟨rfl, i, Classical.byContradiction fun q => g (e.mpr q), g2⟩))))))
      · intro j hj hb
        by_cases q : j = i
        · subst q
          exact absurd hb (e.mp g)
        · exact hy j (by omega) hb
      · intro j hj hb
        by_cases q : j = i
        · subst q
          exact g2
        · exact hy j (by omega) hb
    · exact br_t ey (nm_r (nI_1 i) (ih _ (Or.inr ⟨rfl, hy⟩)))
theorem sy_holds (H : sy_C p sz st sh gs nx) {post : Int32 → SY → Prop} {x y : Int32} {o z : Nat} (ho : o < 16) (hz : z < 16) (ex : x = nI o) (ey : y = nI z) {r : Int32}
    (h1 : (∀ j, (sq_R (sq_T p) (2 ^ sq_s p) 15).testBit j = true → (sq_sw o z).testBit j = true) → r = 1)
    (h0 : ¬ (∀ j, (sq_R (sq_T p) (2 ^ sq_s p) 15).testBit j = true → (sq_sw o z).testBit j = true) → r = 0)
    (h : ∀ va' : Nat → Int32, post r (sz, st, sh, gs, nx, va')) : wpY_holds post (sz, st, sh, gs, nx, va) x y := by
  have wf := H.1
  have hR := sq_R_lt (sq_T_ok wf) (sq_p2lt wf.2.1) 15
  unfold wpY_holds
  exact sy_reached H (fun va' => sy_isSet ho ex (br_f sx_8 (sy_isSet hz ey (br_f sx_8 (sy_h1 ho hz hR ex ey rfl h1 h0 (h va'))))))
theorem sy_k0 {post : Int32 → SY → Prop} {x1 x2 : Int32} (h : post 0 (sz, st, sh, gs, nx, va)) : ∃ n, wY_keeps_38 post x1 x2 n 0 0 sz st sh gs nx va := by
  refine pk_loop (fun n i (y : Int32) => wY_keeps_38 post x1 x2 n y (nI i) sz st sh gs nx va) (fun i y => y = 0) 128 0 (0 : Int32) (by omega) rfl ?_ ?_
  · intro n y hy
    subst hy
    exact br_t (by decide +kernel) ⟨rfl, h⟩
  · intro n i y hi hy ih
    exact br_f (nI_ge (b := 128) hi (by decide)) (br_t hy (nm_r (nI_1 i) (ih _ rfl)))
theorem sy_k1 (H : sy_C p sz st sh gs nx) {post : Int32 → SY → Prop} {x1 x2 : Int32} {o z : Nat} (ho : o < 16) (hz : z < 16) (e1 : x1 = nI o) (e2 : x2 = nI z) {r : Int32}
    (h1 : (∀ j, (sq_img (sq_T p) (sq_sw o z)).testBit j = true → (sq_sw o z).testBit j = true) → r = 1) (h0 : ¬ (∀ j, (sq_img (sq_T p) (sq_sw o z)).testBit j = true → (sq_sw o z).testBit j = true) → r = 0)
    (h : ∀ va' : Nat → Int32, post r (sz, st, sh, gs, nx, va')) : ∃ n, wY_keeps_38 post x1 x2 n 1 0 sz st sh gs nx va := by
  subst e1 e2
  have wf := H.1
  refine pk_loop (fun n i (q : Int32 × (Nat → Int32)) => wY_keeps_38 post (nI o) (nI z) n q.1 (nI i) sz st sh gs nx q.2)
    (fun i q => (q.1 = 1 ∧ ∀ c, c < i → sq_has (c / 8) o z = true → sq_has (sq_T p (c / 8) (c % 8)) o z = true) ∨ (q.1 = 0 ∧ ∃ c, c < 128 ∧ sq_has (c / 8) o z = true ∧ ¬ sq_has (sq_T p (c / 8) (c % 8)) o z = true)) 128 0 ((1 : Int32), va) (by omega) (Or.inl ⟨rfl, fun j hj => absurd hj (Nat.not_lt_zero j)⟩) ?_ ?_
  · rintro n ⟨y, va'⟩ hy
    have h' := h va'
    refine br_t (by decide +kernel) ?_
    rcases hy with ⟨ey, hy⟩ | ⟨ey, c, hc, g1, g2⟩
    · have ey' : y = 1 := ey
      subst ey'
      have q : r = 1 := by
        apply h1
        intro j hj
        obtain ⟨s, hs1, hs, l, hl, e⟩ := sq_img_b.mp hj
        have t := hy (8 * s + l) (by omega)
        rw [show (8 * s + l) / 8 = s by omega, show (8 * s + l) % 8 = l by omega, e] at t
        exact sq_sw_b.mpr ⟨by rw [← e]; exact sq_T_lt wf s l, t (sq_sw_b.mp hs1).2⟩
      rw [q] at h'
      exact ⟨(rfl : narrow .boolean (.int 1) = .int 1), h'⟩
    · have ey' : y = 0 := ey
      subst ey'
      have q : r = 0 := by
        apply h0
        intro w
        exact g2 (sq_sw_b.mp (w _ (sq_img_b.mpr ⟨c / 8, sq_sw_b.mpr ⟨by omega, g1⟩, by omega, c % 8, by omega, rfl⟩))).2
      rw [q] at h'
      exact ⟨(rfl : narrow .boolean (.int 0) = .int 0), h'⟩
  · rintro n c ⟨y, va'⟩ hc hy ih
    have d8 : nI c / 8 = nI (c / 8) := pk_div (d := 8) (by omega) (by decide) (by decide)
    have r8 : nI c - nI c / 8 * 8 = nI (c % 8) := pk_rem (d := 8) (by omega) (by decide) (by decide)
    have hT := sq_T_lt wf (c / 8) (c % 8)
    refine br_f (nI_ge (b := 128) hc (by decide)) ?_
    rcases hy with ⟨ey, hy⟩ | ⟨ey, hy⟩
    · have ey' : y = 1 := ey
      subst ey'
      refine br_f sx_8 ⟨by decide, sy_has (s := c / 8) (by omega) ho hz d8 rfl rfl (fun g1 => br_f sx_8 ⟨by decide, by decide, sy_step H (by omega) (by omega) d8 r8 (fun va2 => sy_has hT ho hz rfl rfl rfl (fun g2 => br_f sx_8 (nm_r (nI_1 c) (ih ((1 : Int32), va2) (Or.inl ⟨rfl, ?_⟩)))) (fun g2 => br_t rfl (nm_r (nI_1 c) (ih ((0 : Int32), va2) (Or.inr ⟨rfl, c, hc, g1, g2⟩)))))⟩) (fun g1 => br_t rfl (nm_r (nI_1 c) (ih ((1 : Int32), va') (Or.inl ⟨rfl, ?_⟩))))⟩
      · intro j hj hb
        by_cases q : j = c
        · subst q
          exact g2
        · exact hy j (by omega) hb
      · intro j hj hb
        by_cases q : j = c
        · subst q
          exact absurd hb g1
        · exact hy j (by omega) hb
    · exact br_t ey (nm_r (nI_1 c) (ih ((0 : Int32), va') (Or.inr ⟨rfl, hy⟩)))
theorem sy_keeps (H : sy_C p sz st sh gs nx) {post : Int32 → SY → Prop} {x y : Int32} {o z : Nat} (ho : o < 16) (hz : z < 16) (ex : x = nI o) (ey : y = nI z) {r : Int32}
    (h1 : (sq_sw o z).testBit (sq_s p) = true → (∀ j, (sq_img (sq_T p) (sq_sw o z)).testBit j = true → (sq_sw o z).testBit j = true) → r = 1)
    (h0 : ¬ ((sq_sw o z).testBit (sq_s p) = true ∧ ∀ j, (sq_img (sq_T p) (sq_sw o z)).testBit j = true → (sq_sw o z).testBit j = true) → r = 0)
    (h : ∀ va' : Nat → Int32, post r (sz, st, sh, gs, nx, va')) : wpY_keeps post (sz, st, sh, gs, nx, va) x y := by
  have wf := H.1
  have hs := wf.2.1
  have hb := H.2.2.1
  unfold wpY_keeps
  refine sy_isSet ho ex (br_f sx_8 (sy_isSet hz ey (br_f sx_8 (sy_has hs ho hz hb ex ey (fun g => br_f sx_8 ?_) (fun g => br_t rfl ?_)))))
  · exact sy_k1 H ho hz ex ey (h1 (sq_sw_b.mpr ⟨hs, g⟩)) (fun q => h0 fun w => q w.2) h
  · have q : r = 0 := h0 fun w => g (sq_sw_b.mp w.1).2
    have h' := h va
    rw [q] at h'
    exact sy_k0 h'
theorem sy_far (H : sy_C p sz st sh gs nx) {post : Int32 → SY → Prop} {x : Int32} {t : Nat} (ht : t < 16) (ex : x = nI t)
    (h : ∀ va' : Nat → Int32, post (sq_fs (fun n => decide (¬ sq_R (sq_T p) (2 ^ sq_s p) n &&& 2 ^ t = 0)) 16 0) (sz, st, sh, gs, nx, va')) : wpY_far post (sz, st, sh, gs, nx, va) x := by
  subst ex
  unfold wpY_far
  exact sy_isSet ht rfl (br_f sx_8 (sy_found H (sq_p2lt ht) (sq_one t ht) h))
end
