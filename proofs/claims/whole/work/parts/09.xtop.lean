section
variable {p : sq_P} {sc bg ws bs : Int32} {ki fi se th nx va fo pa ke : Nat → Int32}
theorem sx_ever (H : sx_C p sc bg ws ki fi se th nx) {post : Int32 → SX → Prop} {x : Int32} {e : Nat} (he : e < 4) (ex : x = nI e)
    (h : ∀ (bs' : Int32) (va' fo' pa' ke' : Nat → Int32), post (sq_ei (sq_T p) (sq_B p) (sq_s p)) (sc, bg, ws, bs', ki, fi, se, th, nx, va', fo', pa', ke')) : wpX_ever post (sc, bg, ws, bs, ki, fi, se, th, nx, va, fo, pa, ke) x := by
  subst ex
  have wf := H.1
  have hT := sq_T_ok wf
  have hs := wf.2.1
  have hb := H.2.2.1
  unfold wpX_ever
  refine br_f (nI_pos (by omega)) (br_f (nI_ge (b := 4) he (by decide)) (br_f sx_8 ?_))
  refine sx_tabulate H (fun va' fo' hf => ?_)
  match e, he with
  | 0, _ =>
    refine br_f (by decide +kernel) (br_f (by decide +kernel) (br_t (by decide +kernel) ?_))
    refine sx_until hT hs sq_bad_lt hf hb rfl ?_
    refine sq_ei_if (P := fun r => post r (sc, bg, ws, (nI (sq_bad (sq_B p))), ki, fi, se, th, nx, va', fo', pa, ke)) hT hs ?_ (h _ _ _ _ _)
    exact sq_ev_dep hT hs
  | 1, _ =>
    refine br_f (by decide +kernel) (br_f (by decide +kernel) (br_f (by decide +kernel) (br_t (by decide +kernel) ?_)))
    refine sx_toBad hT hs hf rfl hb ?_
    refine sq_ei_if (P := fun r => post r (sc, bg, ws, (nI (sq_bad (sq_B p))), ki, fi, se, th, nx, va', fo', pa, ke)) hT hs ?_ (h _ _ _ _ _)
    rw [← sq_dep_K]
    exact sq_ev_dep hT hs
  | 2, _ =>
    refine br_f (by decide +kernel) (br_f (by decide +kernel) (br_f (by decide +kernel) (br_f (by decide +kernel) (br_t (by decide +kernel) ?_))))
    exact sx_closure hT hs hb rfl hf (fun pa' => ⟨sq_ei_nar, h _ _ _ _ _⟩)
  | 3, _ =>
    refine br_f (by decide +kernel) (br_t (by decide +kernel) ?_)
    exact sx_clauses hT hs hb rfl hf (fun ke' => ⟨sq_ei_nar, h _ _ _ _ _⟩)
theorem sx_depth (H : sx_C p sc bg ws ki fi se th nx) {post : Int32 → SX → Prop} {x : Int32} {e : Nat} (he : e < 2) (ex : x = nI e)
    (h : ∀ (va' fo' : Nat → Int32), (∀ j, j < 16 → fo' j = nI (sq_fol (sq_T p) j)) → post (sq_dep (sq_T p) (sq_B p) (sq_s p)) (sc, bg, ws, (nI (sq_bad (sq_B p))), ki, fi, se, th, nx, va', fo', pa, ke)) : wpX_depth post (sc, bg, ws, bs, ki, fi, se, th, nx, va, fo, pa, ke) x := by
  subst ex
  have wf := H.1
  have hT := sq_T_ok wf
  have hs := wf.2.1
  have hb := H.2.2.1
  unfold wpX_depth
  match e, he with
  | 0, _ =>
    refine br_t (by decide +kernel) ?_
    unfold wX_depth_11
    refine sx_tabulate H (fun va' fo' hf => br_t (by decide +kernel) ?_)
    exact sx_until hT hs sq_bad_lt hf hb rfl (h va' fo' hf)
  | 1, _ =>
    refine br_f (by decide +kernel) (br_t (by decide +kernel) ?_)
    unfold wX_depth_11
    refine sx_tabulate H (fun va' fo' hf => br_f (by decide +kernel) ?_)
    refine sx_toBad hT hs hf rfl hb ?_
    rw [← sq_dep_K]
    exact h va' fo' hf
theorem sx_towards (H : sx_C p sc bg ws ki fi se th nx) {post : Int32 → SX → Prop} {x y : Int32} {s m : Nat} (hs : s < 16) (hm : m < 16) (ex : x = nI s) (ey : y = nI (m + 1))
    (hbs : bs = nI (sq_bad (sq_B p))) (hf : ∀ j, j < 16 → fo j = nI (sq_fol (sq_T p) j)) (hD : sq_D (sq_T p) (sq_B p) (m + 1) s)
    (h : ∀ va' : Nat → Int32, post (nI (sq_lt (sq_T p) (sq_B p) m s)) (sc, bg, ws, bs, ki, fi, se, th, nx, va', fo, pa, ke)) : wpX_leastTowardsBad post (sc, bg, ws, bs, ki, fi, se, th, nx, va, fo, pa, ke) x y := by
  subst ex ey
  have wf := H.1
  have hT := sq_T_ok wf
  have hle := sq_lt_8 (T := sq_T p) (B := sq_B p) (m := m) (s := s)
  have hQ : (fun l => (sq_Q (sq_T p) (sq_bad (sq_B p)) m).testBit (sq_T p s l)) (sq_lt (sq_T p) (sq_B p) m s) = true := sq_lt_Q hD
  refine pk_loop (fun n l (va : Nat → Int32) => wX_leastTowardsBad_2 post (nI s) (nI (m + 1)) n (nI l) sc bg ws bs ki fi se th nx va fo pa ke)
    (fun l va => l < 8 ∧ sq_lv (fun l => (sq_Q (sq_T p) (sq_bad (sq_B p)) m).testBit (sq_T p s l)) (7 - l) l = sq_lt (sq_T p) (sq_B p) m s) 8 0 va (by omega) ⟨by omega, rfl⟩ ?_ ?_
  · rintro n va ⟨h8, _⟩
    exact absurd h8 (by omega)
  · rintro n l va hl ⟨_, hv⟩ ih
    refine br_f (nI_ge (b := 8) hl (by decide)) (sx_stateAfter H hs hl rfl rfl (fun va' _ => ?_))
    refine sx_toBad hT (sq_T_lt wf s l) hf hbs rfl ?_
    have e : sq_fs (fun n => (sq_K (sq_T p) (sq_bad (sq_B p)) n).testBit (sq_T p s l)) 16 0 = nI (m + 1) - 1 ↔ (sq_Q (sq_T p) (sq_bad (sq_B p)) m).testBit (sq_T p s l) = true := by
      rw [nI_pred]
      exact sq_D_lev hm hD ⟨hs, l, hl, rfl⟩
    refine br_c (fun g => ?_) (fun g => nm_r (nI_1 l) (ih va' ?_))
    · have g' := e.mp g
      have z : sq_lt (sq_T p) (sq_B p) m s = l := by
        rw [← hv]
        rcases (by omega : 7 - l = 0 ∨ 7 - l = (6 - l) + 1) with q | q
        · rw [q]; rfl
        · rw [q, sq_lv_t (P := fun l => (sq_Q (sq_T p) (sq_bad (sq_B p)) m).testBit (sq_T p s l)) g']
      rw [← z]
      exact h va'
    · have g' : ¬ (sq_Q (sq_T p) (sq_bad (sq_B p)) m).testBit (sq_T p s l) = true := fun z => g (e.mpr z)
      have l7 : l < 7 := by
        rcases (by omega : l < 7 ∨ l = 7) with q | q
        · exact q
        · exfalso
          subst q
          apply g'
          have z : sq_lt (sq_T p) (sq_B p) m s = 7 := hv.symm
          rw [z] at hQ
          exact hQ
      refine ⟨by omega, ?_⟩
      rw [show 7 - l = (7 - (l + 1)) + 1 by omega, sq_lv_f (P := fun l => (sq_Q (sq_T p) (sq_bad (sq_B p)) m).testBit (sq_T p s l)) g'] at hv
      exact hv
theorem sx_shows (H : sx_C p sc bg ws ki fi se th nx) {post : Int32 → SX → Prop} {x : Int32} {s : Nat} (hs : s < 16) (ex : x = nI s) (hD : sq_b (sq_B p) s)
    (h : ∀ va' : Nat → Int32, post (nI (sq_ll (sq_B p) s)) (sc, bg, ws, bs, ki, fi, se, th, nx, va', fo, pa, ke)) : wpX_leastThatShows post (sc, bg, ws, bs, ki, fi, se, th, nx, va, fo, pa, ke) x := by
  subst ex
  have wf := H.1
  have hc := wf.1
  have hw := wf.2.2.1
  have e3 := H.2.2.2.1
  have hQ : (fun l => decide (sq_B p s l = 1)) (sq_ll (sq_B p) s) = true := by
    obtain ⟨_, l, hl, e⟩ := hD
    exact sq_lv_ok (P := fun l => decide (sq_B p s l = 1)) 7 0 ⟨l, by omega, by omega, decide_eq_true e⟩
  refine pk_loop (fun n l (va : Nat → Int32) => wX_leastThatShows_2 post (nI s) n (nI l) sc bg ws bs ki fi se th nx va fo pa ke)
    (fun l va => l < 8 ∧ sq_lv (fun l => decide (sq_B p s l = 1)) (7 - l) l = sq_ll (sq_B p) s) 8 0 va (by omega) ⟨by omega, rfl⟩ ?_ ?_
  · rintro n va ⟨h8, _⟩
    exact absurd h8 (by omega)
  · rintro n l va hl ⟨_, hv⟩ ih
    refine br_f (nI_ge (b := 8) hl (by decide)) (sx_settle H hs hl rfl rfl (fun va' hva => ?_))
    have g1 : va' ws.toNatClampNeg = nI (sq_B p s l) := sx_cl e3 (by omega) (hva _ hw)
    have hB := sq_B_lt wf s l
    have e : va' ws.toNatClampNeg = 1 ↔ sq_B p s l = 1 := by
      rw [g1]
      show _ = nI 1 ↔ _
      rw [nI_eq (by omega) (by omega)]
    refine ⟨sx_in e3 (by omega) (by omega), br_c (fun g => ?_) (fun g => nm_r (nI_1 l) (ih va' ?_))⟩
    · have g' : decide (sq_B p s l = 1) = true := decide_eq_true (e.mp g)
      have z : sq_ll (sq_B p) s = l := by
        rw [← hv]
        rcases (by omega : 7 - l = 0 ∨ 7 - l = (6 - l) + 1) with q | q
        · rw [q]; rfl
        · rw [q, sq_lv_t (P := fun l => decide (sq_B p s l = 1)) g']
      rw [← z]
      exact h va'
    · have g' : ¬ decide (sq_B p s l = 1) = true := fun z => g (e.mpr (of_decide_eq_true z))
      have l7 : l < 7 := by
        rcases (by omega : l < 7 ∨ l = 7) with q | q
        · exact q
        · exfalso
          subst q
          apply g'
          have z : sq_ll (sq_B p) s = 7 := hv.symm
          rw [z] at hQ
          exact hQ
      refine ⟨by omega, ?_⟩
      rw [show 7 - l = (7 - (l + 1)) + 1 by omega, sq_lv_f (P := fun l => decide (sq_B p s l = 1)) g'] at hv
      exact hv
end
def sq_in (T B : Nat → Nat → Nat) (s d k : Nat) : Nat := if k < d then sq_lt T B (d - k - 1) (sq_st T B s d k) else sq_ll B (sq_st T B s d k)
section
variable {p : sq_P} {sc bg ws bs : Int32} {ki fi se th nx va fo pa ke : Nat → Int32}
theorem sx_input34 (H : sx_C p sc bg ws ki fi se th nx) {post : Int32 → SX → Prop} {k d : Nat} (hd : d < 16) (hk : k ≤ d) (hD : sq_D (sq_T p) (sq_B p) d (sq_s p))
    (hbs : bs = nI (sq_bad (sq_B p))) (hf : ∀ j, j < 16 → fo j = nI (sq_fol (sq_T p) j))
    (h : ∀ va' : Nat → Int32, post (nI (sq_in (sq_T p) (sq_B p) (sq_s p) d k)) (sc, bg, ws, bs, ki, fi, se, th, nx, va', fo, pa, ke)) : ∃ n, wX_input_34 post (nI k) (nI d) n bg 0 sc bg ws bs ki fi se th nx va fo pa ke := by
  have wf := H.1
  have hT := sq_T_ok wf
  have hs := wf.2.1
  have st16 := sq_st_16 (B := sq_B p) (d := d) hT hs
  have stD := sq_st_D hT hs hD
  refine pk_loop (fun n i (q : Int32 × (Nat → Int32)) => wX_input_34 post (nI k) (nI d) n q.1 (nI i) sc bg ws bs ki fi se th nx q.2 fo pa ke)
    (fun i q => q.1 = nI (sq_st (sq_T p) (sq_B p) (sq_s p) d i)) k 0 (bg, va) (by omega) H.2.2.1 ?_ ?_
  · rintro n ⟨y, va'⟩ hy
    have hDk := stD k hk
    refine br_t (nI_le (Nat.le_refl _) (by omega)) ?_
    by_cases e : k = d
    · refine br_t (by rw [e]) ?_
      refine sx_shows H (st16 k) hy ?_ (fun va2 => ?_)
      · rw [show d - k = 0 by omega] at hDk
        exact sq_bad_b.mp hDk.1
      · have z := h va2
        unfold sq_in at z
        rw [if_neg (by omega)] at z
        exact z
    · refine br_f (fun z => e ((nI_eq (by omega) (by omega)).mp z)) ?_
      rw [show d - k = (d - k - 1) + 1 by omega] at hDk
      refine sx_towards H (st16 k) (m := d - k - 1) (by omega) hy ?_ hbs hf hDk (fun va2 => ?_)
      · rw [pk_sub hk, show d - k - 1 + 1 = d - k by omega]
      · have z := h va2
        unfold sq_in at z
        rw [if_pos (by omega)] at z
        exact z
  · rintro n i ⟨y, va'⟩ hi hy ih
    have hDi := stD i (by omega)
    rw [show d - i = (d - i - 1) + 1 by omega] at hDi
    refine br_f (nI_ge hi (by omega)) ?_
    refine sx_towards H (st16 i) (m := d - i - 1) (by omega) hy ?_ hbs hf hDi (fun va2 => ?_)
    · rw [pk_sub (by omega), show d - i - 1 + 1 = d - i by omega]
    · refine sx_stateAfter H (st16 i) sq_lt_8 hy rfl (fun va3 _ => nm_r (nI_1 i) (ih (nI (sq_st (sq_T p) (sq_B p) (sq_s p) d (i + 1)), va3) rfl))
theorem sx_reached (H : sx_C p sc bg ws ki fi se th nx) {post : Int32 → SX → Prop}
    (h : ∀ (bs' : Int32) (va' fo' : Nat → Int32), post (nI (sq_R (sq_T p) (2 ^ sq_s p) 15)) (sc, bg, ws, bs', ki, fi, se, th, nx, va', fo', pa, ke)) : wpX_reached post (sc, bg, ws, bs, ki, fi, se, th, nx, va, fo, pa, ke) := by
  have wf := H.1
  have hT := sq_T_ok wf
  have hs := wf.2.1
  have hb := H.2.2.1
  have hR := sq_R_lt hT (sq_p2lt hs)
  unfold wpX_reached
  refine sx_tabulate H (fun va' fo' hf => nm_r (e' := nI (2 ^ sq_s p)) (by rw [hb]; exact sq_one _ hs) ?_)
  refine pk_loop (fun n i (y : Int32) => wX_reached_13 post sc bg ws (nI (sq_bad (sq_B p))) ki fi se th nx va' fo' pa ke n y (nI (1 + i)))
    (fun i y => y = nI (sq_R (sq_T p) (2 ^ sq_s p) i)) 15 0 (nI (2 ^ sq_s p)) (by omega) rfl ?_ ?_
  · intro n y hy
    refine br_t (by decide +kernel) ?_
    rw [hy]
    exact h _ _ _
  · intro n i y hi hy ih
    refine br_f (nI_ge (b := 16) (by omega) (by decide)) (sx_allF hT (hR i) hf hy (nm_e (nm_r (nI_1 (1 + i)) (ih _ ?_))))
    rw [hy, sq_nor]
    rfl
theorem sx_isSet {post : Int32 → Prop} {x : Int32} {o : Nat} (ho : o < 16) (ex : x = nI o) (h : post 1) : wpX_isSetOfRegisters post x := by
  subst ex
  exact br_f (nI_pos (by omega)) (br_f (nI_ge (b := 16) ho (by decide)) h)
theorem sx_notSet {post : Int32 → Prop} {x : Int32} (hx : x < 0 ∨ nI 16 ≤ x) (h : post 0) : wpX_isSetOfRegisters post x := by
  rcases hx with g | g
  · exact br_t g h
  · exact br_c (fun _ => h) (fun _ => br_t g h)
theorem sx_holds (H : sx_C p sc bg ws ki fi se th nx) {post : Int32 → SX → Prop} {x y : Int32} {o z : Nat} (ho : o < 16) (hz : z < 16) (ex : x = nI o) (ey : y = nI z) {r : Int32}
    (h1 : (∀ j, (sq_R (sq_T p) (2 ^ sq_s p) 15).testBit j = true → (sq_sw o z).testBit j = true) → r = 1)
    (h0 : ¬ (∀ j, (sq_R (sq_T p) (2 ^ sq_s p) 15).testBit j = true → (sq_sw o z).testBit j = true) → r = 0)
    (h : ∀ (bs' : Int32) (va' fo' : Nat → Int32), post r (sc, bg, ws, bs', ki, fi, se, th, nx, va', fo', pa, ke)) : wpX_holds post (sc, bg, ws, bs, ki, fi, se, th, nx, va, fo, pa, ke) x y := by
  have wf := H.1
  have hR := sq_R_lt (sq_T_ok wf) (sq_p2lt wf.2.1) 15
  unfold wpX_holds
  refine sx_isSet ho ex (br_f sx_8 (sx_isSet hz ey (br_f sx_8 ?_)))
  refine sx_reached H (fun bs' va' fo' => sx_sw ho hz ex ey (br_c (fun g => ?_) (fun g => ?_)))
  · rw [← h1 ((sq_sub0 hR).mp g)]
    exact h _ _ _
  · rw [← h0 (fun q => g ((sq_sub0 hR).mpr q))]
    exact h _ _ _
theorem sx_keeps (H : sx_C p sc bg ws ki fi se th nx) {post : Int32 → SX → Prop} {x y : Int32} {o z : Nat} (ho : o < 16) (hz : z < 16) (ex : x = nI o) (ey : y = nI z) {r : Int32}
    (h1 : (sq_sw o z).testBit (sq_s p) = true → (∀ j, (sq_img (sq_T p) (sq_sw o z)).testBit j = true → (sq_sw o z).testBit j = true) → r = 1)
    (h0 : ¬ ((sq_sw o z).testBit (sq_s p) = true ∧ ∀ j, (sq_img (sq_T p) (sq_sw o z)).testBit j = true → (sq_sw o z).testBit j = true) → r = 0)
    (h : ∀ (bs' : Int32) (va' fo' : Nat → Int32), post r (sc, bg, ws, bs', ki, fi, se, th, nx, va', fo', pa, ke)) : wpX_keeps post (sc, bg, ws, bs, ki, fi, se, th, nx, va, fo, pa, ke) x y := by
  have wf := H.1
  have hT := sq_T_ok wf
  have hs := wf.2.1
  have hb := H.2.2.1
  have hsw := sq_sw_lt (o := o) (z := z)
  unfold wpX_keeps
  refine sx_isSet ho ex (br_f sx_8 (sx_isSet hz ey (br_f sx_8 ?_)))
  refine sx_tabulate H (fun va' fo' hf => sx_sw ho hz ex ey (sx_contains (s := sq_s p) (by omega) (by omega) rfl hb (fun g => br_f sx_8 (sx_allF hT hsw hf rfl (br_c (fun g2 => ?_) (fun g2 => ?_)))) (fun g => br_t rfl ?_)))
  · rw [← h1 g ((sq_sub0 (sq_img_lt hT _)).mp g2)]
    exact h _ _ _
  · rw [← h0 (fun q => g2 ((sq_sub0 (sq_img_lt hT _)).mpr q.2))]
    exact h _ _ _
  · rw [← h0 (fun q => g q.1)]
    exact h _ _ _
theorem sx_far (H : sx_C p sc bg ws ki fi se th nx) {post : Int32 → SX → Prop} {x : Int32} {t : Nat} (ht : t < 16) (ex : x = nI t)
    (h : ∀ (bs' : Int32) (va' fo' : Nat → Int32), post (sq_fs (fun n => decide (¬ sq_R (sq_T p) (2 ^ sq_s p) n &&& 2 ^ t = 0)) 16 0) (sc, bg, ws, bs', ki, fi, se, th, nx, va', fo', pa, ke)) : wpX_far post (sc, bg, ws, bs, ki, fi, se, th, nx, va, fo, pa, ke) x := by
  subst ex
  have wf := H.1
  have hT := sq_T_ok wf
  have hs := wf.2.1
  have hb := H.2.2.1
  unfold wpX_far
  refine br_f (nI_pos (by omega)) (br_f (nI_ge (b := 16) ht (by decide)) (br_f sx_8 ?_))
  exact sx_tabulate H (fun va' fo' hf => sx_until hT hs (sq_p2lt ht) hf hb (sq_one t ht) (h _ _ _))
theorem sx_step (H : sx_C p sc bg ws ki fi se th nx) {post : Int32 → SX → Prop} {x y : Int32} {s l : Nat} (hs : s < 16) (hl : l < 8) (ex : x = nI s) (ey : y = nI l)
    (h : ∀ va' : Nat → Int32, post (nI (sq_T p s l)) (sc, bg, ws, bs, ki, fi, se, th, nx, va', fo, pa, ke)) : wpX_step post (sc, bg, ws, bs, ki, fi, se, th, nx, va, fo, pa, ke) x y := by
  subst ex ey
  unfold wpX_step
  refine br_f (nI_pos (by omega)) (br_f (nI_ge (b := 16) hs (by decide)) (br_f sx_8 ?_))
  refine br_f (nI_pos (by omega)) (br_f (nI_ge (b := 8) hl (by decide)) (br_f sx_8 ?_))
  exact sx_stateAfter H hs hl rfl rfl (fun va' _ => h va')
theorem sx_watched (H : sx_C p sc bg ws ki fi se th nx) {post : Int32 → SX → Prop} {x y : Int32} {s l : Nat} (hs : s < 16) (hl : l < 8) (ex : x = nI s) (ey : y = nI l)
    (h : ∀ va' : Nat → Int32, post (nI (sq_B p s l)) (sc, bg, ws, bs, ki, fi, se, th, nx, va', fo, pa, ke)) : wpX_watched post (sc, bg, ws, bs, ki, fi, se, th, nx, va, fo, pa, ke) x y := by
  subst ex ey
  have wf := H.1
  have hc := wf.1
  have hw := wf.2.2.1
  have e3 := H.2.2.2.1
  unfold wpX_watched
  refine br_f (nI_pos (by omega)) (br_f (nI_ge (b := 16) hs (by decide)) (br_f sx_8 ?_))
  refine br_f (nI_pos (by omega)) (br_f (nI_ge (b := 8) hl (by decide)) (br_f sx_8 ?_))
  refine sx_settle H hs hl rfl rfl (fun va' hv => ⟨sx_in e3 (by omega) (by omega), ?_⟩)
  have g1 : va' ws.toNatClampNeg = nI (sq_B p s l) := sx_cl e3 (by omega) (hv _ hw)
  rw [g1]
  exact h va'
end
