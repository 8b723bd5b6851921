theorem sy_m0 : ∀ a, a < 2 → ∀ b, b < 2 → ∀ c, c < 2 → nI a * nI b = nI (sq_gv 0 a b c) := by decide +kernel
theorem sy_m1t : ∀ a, a < 2 → ∀ b, b < 2 → ∀ c, c < 2 → nI a + nI b ≤ 0 → 0 = nI (sq_gv 1 a b c) := by decide +kernel
theorem sy_m1f : ∀ a, a < 2 → ∀ b, b < 2 → ∀ c, c < 2 → ¬ nI a + nI b ≤ 0 → 1 = nI (sq_gv 1 a b c) := by decide +kernel
theorem sy_m3 : ∀ a, a < 2 → ∀ b, b < 2 → ∀ c, c < 2 → 1 - nI a * nI b = nI (sq_gv 3 a b c) := by decide +kernel
theorem sy_m4t : ∀ a, a < 2 → ∀ b, b < 2 → ∀ c, c < 2 → nI a + nI b ≤ 0 → 1 = nI (sq_gv 4 a b c) := by decide +kernel
theorem sy_m4f : ∀ a, a < 2 → ∀ b, b < 2 → ∀ c, c < 2 → ¬ nI a + nI b ≤ 0 → 0 = nI (sq_gv 4 a b c) := by decide +kernel
theorem sy_m6t : ∀ a, a < 2 → ∀ b, b < 2 → ∀ c, c < 2 → nI a ≤ nI b → 1 = nI (sq_gv 6 a b c) := by decide +kernel
theorem sy_m6f : ∀ a, a < 2 → ∀ b, b < 2 → ∀ c, c < 2 → ¬ nI a ≤ nI b → 0 = nI (sq_gv 6 a b c) := by decide +kernel
theorem sy_m8 : ∀ a, a < 2 → ∀ b, b < 2 → ∀ c, c < 2 → (nI a + nI b + nI c) / 2 = nI (sq_gv 8 a b c) := by decide +kernel
theorem sy_m9 : ∀ a, a < 2 → ∀ b, b < 2 → ∀ c, c < 2 → (nI a + nI b + nI c) - (nI a + nI b + nI c) / 2 * 2 = nI (sq_gv 9 a b c) := by decide +kernel
theorem sy_made {post : Int32 → Prop} {u : SY} {x y z t : Int32} {k a b c : Nat} (hk : k < 10) (ha : a < 2) (hb : b < 2) (hc : c < 2)
    (ex : x = nI k) (ey : y = nI a) (ez : z = nI b) (et : t = nI c) (h : post (nI (sq_gv k a b c))) : wpY_made post u x y z t := by
  subst ex ey ez et
  obtain ⟨sz, st, sh, gs, nx, va⟩ := u
  unfold wpY_made
  refine nm_e ?_
  match k, hk, h with
  | 0, _, h => exact br_t (by decide +kernel) (sx_at (sy_m0 a ha b hb c hc) h)
  | 1, _, h => exact br_f (by decide +kernel) (br_t (by decide +kernel) (br_c (fun g => sx_at (sy_m1t a ha b hb c hc g) h) (fun g => sx_at (sy_m1f a ha b hb c hc g) h)))
  | 2, _, h => exact br_f (by decide +kernel) (br_f (by decide +kernel) (br_t (by decide +kernel) (sx_at (sx_gv2 a ha b hb c hc) h)))
  | 3, _, h => exact br_f (by decide +kernel) (br_f (by decide +kernel) (br_f (by decide +kernel) (br_t (by decide +kernel) (sx_at (sy_m3 a ha b hb c hc) h))))
  | 4, _, h => exact br_f (by decide +kernel) (br_f (by decide +kernel) (br_f (by decide +kernel) (br_f (by decide +kernel) (br_t (by decide +kernel) (br_c (fun g => sx_at (sy_m4t a ha b hb c hc g) h) (fun g => sx_at (sy_m4f a ha b hb c hc g) h))))))
  | 5, _, h => exact br_f (by decide +kernel) (br_f (by decide +kernel) (br_f (by decide +kernel) (br_f (by decide +kernel) (br_f (by decide +kernel) (br_t (by decide +kernel) (sx_at (sx_gv5 a ha b hb c hc) h))))))
  | 6, _, h => exact br_f (by decide +kernel) (br_f (by decide +kernel) (br_f (by decide +kernel) (br_f (by decide +kernel) (br_f (by decide +kernel) (br_f (by decide +kernel) (br_t (by decide +kernel) (br_c (fun g => sx_at (sy_m6t a ha b hb c hc g) h) (fun g => sx_at (sy_m6f a ha b hb c hc g) h))))))))
  | 7, _, h => exact br_f (by decide +kernel) (br_f (by decide +kernel) (br_f (by decide +kernel) (br_f (by decide +kernel) (br_f (by decide +kernel) (br_f (by decide +kernel) (br_f (by decide +kernel) (br_t (by decide +kernel) (br_c (fun g => sx_at (sx_gv7t a ha b hb c hc g) h) (fun g => sx_at (sx_gv7f a ha b hb c hc g) h)))))))))
  | 8, _, h => exact br_f (by decide +kernel) (br_f (by decide +kernel) (br_f (by decide +kernel) (br_f (by decide +kernel) (br_f (by decide +kernel) (br_f (by decide +kernel) (br_f (by decide +kernel) (br_f (by decide +kernel) (br_t (by decide +kernel) ⟨by decide, sx_at (sy_m8 a ha b hb c hc) h⟩))))))))
  | 9, _, h => exact br_f (by decide +kernel) (br_f (by decide +kernel) (br_f (by decide +kernel) (br_f (by decide +kernel) (br_f (by decide +kernel) (br_f (by decide +kernel) (br_f (by decide +kernel) (br_f (by decide +kernel) (br_f (by decide +kernel) ⟨by decide, sx_at (sy_m9 a ha b hb c hc) h⟩))))))))
def sy_C (p : sq_P) (sz st sh : Int32) (gs nx : Nat → Int32) : Prop :=
  sq_wf p ∧ sz = nI (sq_c p) ∧ st = nI (sq_s p) ∧ sh = nI (sq_w p) ∧ (∀ r, r < 4 → nx r = nI (sq_nx p r)) ∧
  ∀ g, g < sq_c p → gs (4 * g) = nI (sq_gk p g) ∧ gs (4 * g + 1) = nI (sq_ga p g) ∧ gs (4 * g + 2) = nI (sq_gb p g) ∧ gs (4 * g + 3) = nI (sq_gc p g)
theorem sy_4 (g : Nat) : (4 : Int32) * nI g = nI (4 * g) := pk_mul 4 g
theorem sy_41 (g : Nat) : (4 : Int32) * nI g + 1 = nI (4 * g + 1) := by rw [sy_4]; exact nI_add _ 1
theorem sy_42 (g : Nat) : (4 : Int32) * nI g + 2 = nI (4 * g + 2) := by rw [sy_4]; exact nI_add _ 2
theorem sy_43 (g : Nat) : (4 : Int32) * nI g + 3 = nI (4 * g + 3) := by rw [sy_4]; exact nI_add _ 3
theorem sy_7 (g : Nat) : (7 : Int32) + nI g = nI (7 + g) := nI_add 7 g
section
variable {p : sq_P} {sz st sh : Int32} {gs nx va : Nat → Int32}
theorem sy_work42 (H : sy_C p sz st sh gs nx) {post : SY → Prop} {s l : Nat}
    (h : ∀ va' : Nat → Int32, (∀ i, i < 7 + sq_c p → va' i = nI (sq_V p s l i)) → post (sz, st, sh, gs, nx, va'))
    (h0 : ∀ i, i < 7 → va i = nI (sq_base s l i)) : ∃ n, wY_work_42 post sz st sh n 0 gs nx va := by
  obtain ⟨wf, e1, e2, e3, e4, e5⟩ := H
  have hc := wf.1
  refine pk_loop (fun n g (va : Nat → Int32) => wY_work_42 post sz st sh n (nI g) gs nx va)
    (fun g va => ∀ i, i < 7 + g → va i = nI (sq_pv p s l g i)) (sq_c p) 0 va (Nat.zero_le _) h0 ?_ ?_
  · intro n va hv
    refine br_t ?_ (h va hv)
    rw [e1]
    exact nI_le (Nat.le_refl _) (by omega)
  · intro n g va hg hv ih
    obtain ⟨k1, k2, k3, k4⟩ := e5 g hg
    obtain ⟨w1, w2, w3, w4⟩ := wf.2.2.2.2 g hg
    have f1 : gs (4 * nI g).toNatClampNeg = nI (sq_gk p g) := sx_cl (sy_4 g) (by omega) k1
    have f2 : gs (4 * nI g + 1).toNatClampNeg = nI (sq_ga p g) := sx_cl (sy_41 g) (by omega) k2
    have f3 : gs (4 * nI g + 2).toNatClampNeg = nI (sq_gb p g) := sx_cl (sy_42 g) (by omega) k3
    have f4 : gs (4 * nI g + 3).toNatClampNeg = nI (sq_gc p g) := sx_cl (sy_43 g) (by omega) k4
    have hpv := sq_pv_lt wf s l g (by omega)
    refine br_f ?_ ⟨sx_in (sy_4 g) (by omega) (by omega), sx_in (sy_41 g) (by omega) (by omega), sx_in f2 (by omega) (by omega), sx_in (sy_42 g) (by omega) (by omega), sx_in f3 (by omega) (by omega), sx_in (sy_43 g) (by omega) (by omega), sx_in f4 (by omega) (by omega), ?_⟩
    · rw [e1]
      exact nI_ge (by omega) (by omega)
    · refine sy_made w1 (hpv _) (hpv _) (hpv _) f1 (sx_cl f2 (by omega) (hv _ w2)) (sx_cl f3 (by omega) (hv _ w3)) (sx_cl f4 (by omega) (hv _ w4)) ?_
      refine ⟨sx_in (sy_7 g) (by omega) (by omega), nm_r (sx_up (sy_7 g) (by omega) rfl) (nm_r (nI_1 g) (ih _ ?_))⟩
      intro i hi
      by_cases e : i = 7 + g
      · rw [e, pk_us, sq_pv_s]
      · rw [pk_un e, sq_pv_n e]
        exact hv i (by omega)
theorem sy_work (H : sy_C p sz st sh gs nx) {post : SY → Prop} {s l : Nat} {x y : Int32} (hs : s < 16) (hl : l < 8) (ex : x = nI s) (ey : y = nI l)
    (h : ∀ va' : Nat → Int32, (∀ i, i < 7 + sq_c p → va' i = nI (sq_V p s l i)) → post (sz, st, sh, gs, nx, va')) : wpY_work post (sz, st, sh, gs, nx, va) x y := by
  subst ex ey
  refine pk_loop (fun n g (va : Nat → Int32) => wY_work_2 post (nI s) (nI l) sz st sh n (nI g) gs nx va)
    (fun g va => ∀ i, i < g → va i = nI (sq_base s l i)) 7 0 va (by omega) (fun i hi => absurd hi (Nat.not_lt_zero i)) ?_ ?_
  · intro n va hv
    exact br_t (by decide +kernel) (sy_work42 H h hv)
  · intro n g va hg hv ih
    refine br_f (nI_ge (b := 7) hg (by decide)) (pk_le 3 g (fun g3 => ⟨vp_in_nI (by omega) (by omega), nm_r (e' := upd va g (nI (sq_base s l g))) ?_ (nm_r (nI_1 g) (ih _ ?_))⟩) (fun g3 => ⟨vp_in_nI (by omega) (by omega), nm_r (e' := upd va g (nI (sq_base s l g))) ?_ (nm_r (nI_1 g) (ih _ ?_))⟩))
    · refine sx_up rfl (by omega) ?_
      have e : nI g - 3 = nI (g - 3) := pk_sub (b := 3) g3
      rw [e, sq_bit (by omega) (by omega)]
      unfold sq_base
      rw [if_neg (by omega)]
    · intro i hi
      by_cases e : i = g
      · rw [e, pk_us]
      · rw [pk_un e]
        exact hv i (by omega)
    · refine sx_up rfl (by omega) ?_
      rw [sq_bit (by omega) (by omega)]
      unfold sq_base
      rw [if_pos g3]
    · intro i hi
      by_cases e : i = g
      · rw [e, pk_us]
      · rw [pk_un e]
        exact hv i (by omega)
theorem sy_inRange {post : Int32 → Prop} {x y : Int32} {s l : Nat} (hs : s < 16) (hl : l < 8) (ex : x = nI s) (ey : y = nI l) (h : post 1) : wpY_inRange post (sz, st, sh, gs, nx, va) x y := by
  subst ex ey
  exact br_f (nI_pos (by omega)) (br_f (nI_nlt (a := 15) (by omega) (by decide)) (br_f (nI_pos (by omega)) (br_f (nI_nlt (a := 7) (by omega) (by decide)) h)))
theorem sy_watched (H : sy_C p sz st sh gs nx) {post : Int32 → SY → Prop} {s l : Nat} {x y : Int32} (hs : s < 16) (hl : l < 8) (ex : x = nI s) (ey : y = nI l)
    (h : ∀ va' : Nat → Int32, post (nI (sq_B p s l)) (sz, st, sh, gs, nx, va')) : wpY_watched post (sz, st, sh, gs, nx, va) x y := by
  have wf := H.1
  have hc := wf.1
  have hw := wf.2.2.1
  have e3 := H.2.2.2.1
  unfold wpY_watched
  refine sy_inRange hs hl ex ey (br_f sx_8 ?_)
  refine sy_work H hs hl ex ey (fun va' hv => ⟨sx_in e3 (by omega) (by omega), ?_⟩)
  have g1 : va' sh.toNatClampNeg = nI (sq_B p s l) := sx_cl e3 (by omega) (hv _ hw)
  rw [g1]
  exact h va'
theorem sy_or4 : ∀ a, a < 2 → ∀ b, b < 2 → ∀ c, c < 2 → ∀ d, d < 2 → ((nI a ||| (nI b <<< ((1 : Int32) &&& 31))) ||| (nI c <<< ((2 : Int32) &&& 31))) ||| (nI d <<< ((3 : Int32) &&& 31)) = nI (0 + a * 2 ^ 0 + b * 2 ^ 1 + c * 2 ^ 2 + d * 2 ^ 3) := by decide +kernel
theorem sy_step (H : sy_C p sz st sh gs nx) {post : Int32 → SY → Prop} {s l : Nat} {x y : Int32} (hs : s < 16) (hl : l < 8) (ex : x = nI s) (ey : y = nI l)
    (h : ∀ va' : Nat → Int32, post (nI (sq_T p s l)) (sz, st, sh, gs, nx, va')) : wpY_step post (sz, st, sh, gs, nx, va) x y := by
  have wf := H.1
  have hc := wf.1
  have e4 := H.2.2.2.2.1
  have w := wf.2.2.2.1
  unfold wpY_step
  refine sy_inRange hs hl ex ey (br_f sx_8 ?_)
  refine sy_work H hs hl ex ey (fun va' hv => ?_)
  have w0 := w 0 (by omega)
  have w1 := w 1 (by omega)
  have w2 := w 2 (by omega)
  have w3 := w 3 (by omega)
  have n0 := e4 0 (by omega)
  have n1 := e4 1 (by omega)
  have n2 := e4 2 (by omega)
  have n3 := e4 3 (by omega)
  have g0 : va' (nx 0).toNatClampNeg = nI (sq_V p s l (sq_nx p 0)) := sx_cl n0 (by omega) (hv _ w0)
  have g1 : va' (nx 1).toNatClampNeg = nI (sq_V p s l (sq_nx p 1)) := sx_cl n1 (by omega) (hv _ w1)
  have g2 : va' (nx 2).toNatClampNeg = nI (sq_V p s l (sq_nx p 2)) := sx_cl n2 (by omega) (hv _ w2)
  have g3 : va' (nx 3).toNatClampNeg = nI (sq_V p s l (sq_nx p 3)) := sx_cl n3 (by omega) (hv _ w3)
  refine ⟨sx_in n0 (by omega) (by omega), sx_in n1 (by omega) (by omega), sx_in n2 (by omega) (by omega), sx_in n3 (by omega) (by omega), ?_⟩
  rw [g0, g1, g2, g3, sy_or4 _ (sq_V_lt wf s l _) _ (sq_V_lt wf s l _) _ (sq_V_lt wf s l _) _ (sq_V_lt wf s l _)]
  exact h va'
theorem sy_bad (H : sy_C p sz st sh gs nx) {post : Int32 → SY → Prop} (h : ∀ va' : Nat → Int32, post (nI (sq_bad (sq_B p))) (sz, st, sh, gs, nx, va')) : wpY_badStates post (sz, st, sh, gs, nx, va) := by
  have wf := H.1
  refine pk_loop (fun n c (q : Int32 × (Nat → Int32)) => wY_badStates_4 post n q.1 (nI c) sz st sh gs nx q.2)
    (fun c q => q.1 = nI (sq_or 0 (fun c => decide (sq_B p (c / 8) (c % 8) = 1)) (fun c => 2 ^ (c / 8)) c)) 128 0 ((0 : Int32), va) (by omega) rfl ?_ ?_
  · rintro n ⟨y, va'⟩ hy
    have hy' : y = nI (sq_bad (sq_B p)) := hy
    subst hy'
    exact br_t (by decide +kernel) (h va')
  · rintro n c ⟨y, va'⟩ hc hy ih
    have hy' : y = nI (sq_or 0 (fun c => decide (sq_B p (c / 8) (c % 8) = 1)) (fun c => 2 ^ (c / 8)) c) := hy
    have d8 : nI c / 8 = nI (c / 8) := pk_div (d := 8) (by omega) (by decide) (by decide)
    have r8 : nI c - nI c / 8 * 8 = nI (c % 8) := pk_rem (d := 8) (by omega) (by decide) (by decide)
    have hB := sq_B_lt wf (c / 8) (c % 8)
    have e : nI (sq_B p (c / 8) (c % 8)) = 1 ↔ sq_B p (c / 8) (c % 8) = 1 := by
      show _ = nI 1 ↔ _
      rw [nI_eq (by omega) (by omega)]
    refine br_f (nI_ge (b := 128) hc (by decide)) ⟨by decide, by decide, sy_watched H (by omega) (by omega) d8 r8 (fun va2 => br_c (fun g => ⟨by decide, nm_e (nm_r (nI_1 c) (ih (_, va2) ?_))⟩) (fun g => nm_r (nI_1 c) (ih (_, va2) ?_)))⟩
    · show _ ||| _ = _
      rw [hy', d8, sq_one _ (by omega), sq_nor, sq_or_t]
      exact decide_eq_true (e.mp g)
    · show y = _
      rw [hy', sq_or_f]
      exact fun z => g (e.mpr (of_decide_eq_true z))
theorem sy_lead (H : sy_C p sz st sh gs nx) {post : Int32 → SY → Prop} {S : Nat} {x : Int32} (hS : S < 2 ^ 16) (ex : x = nI S) (h : ∀ va' : Nat → Int32, post (nI (sq_pre (sq_T p) S)) (sz, st, sh, gs, nx, va')) : wpY_leading post (sz, st, sh, gs, nx, va) x := by
  subst ex
  have wf := H.1
  refine pk_loop (fun n c (q : Int32 × (Nat → Int32)) => wY_leading_4 post (nI S) n q.1 (nI c) sz st sh gs nx q.2)
    (fun c q => q.1 = nI (sq_or 0 (fun c => S.testBit (sq_T p (c / 8) (c % 8))) (fun c => 2 ^ (c / 8)) c)) 128 0 ((0 : Int32), va) (by omega) rfl ?_ ?_
  · rintro n ⟨y, va'⟩ hy
    have hy' : y = nI (sq_pre (sq_T p) S) := hy
    subst hy'
    exact br_t (by decide +kernel) (h va')
  · rintro n c ⟨y, va'⟩ hc hy ih
    have hy' : y = nI (sq_or 0 (fun c => S.testBit (sq_T p (c / 8) (c % 8))) (fun c => 2 ^ (c / 8)) c) := hy
    have d8 : nI c / 8 = nI (c / 8) := pk_div (d := 8) (by omega) (by decide) (by decide)
    have r8 : nI c - nI c / 8 * 8 = nI (c % 8) := pk_rem (d := 8) (by omega) (by decide) (by decide)
    have hT := sq_T_lt wf (c / 8) (c % 8)
    have e := sq_bit1 (a := S) (s := sq_T p (c / 8) (c % 8)) (by omega) (by omega)
    refine br_f (nI_ge (b := 128) hc (by decide)) ⟨by decide, by decide, sy_step H (by omega) (by omega) d8 r8 (fun va2 => br_c (fun g => ⟨by decide, nm_e (nm_r (nI_1 c) (ih (_, va2) ?_))⟩) (fun g => nm_r (nI_1 c) (ih (_, va2) ?_)))⟩
    · show _ ||| _ = _
      rw [hy', d8, sq_one _ (by omega), sq_nor, sq_or_t]
      exact e.mp g
    · show y = _
      rw [hy', sq_or_f]
      exact fun z => g (e.mpr z)
theorem sy_foll (H : sy_C p sz st sh gs nx) {post : Int32 → SY → Prop} {S : Nat} {x : Int32} (hS : S < 2 ^ 16) (ex : x = nI S) (h : ∀ va' : Nat → Int32, post (nI (sq_img (sq_T p) S)) (sz, st, sh, gs, nx, va')) : wpY_following post (sz, st, sh, gs, nx, va) x := by
  subst ex
  have wf := H.1
  refine pk_loop (fun n c (q : Int32 × (Nat → Int32)) => wY_following_4 post (nI S) n q.1 (nI c) sz st sh gs nx q.2)
    (fun c q => q.1 = nI (sq_or 0 (fun c => S.testBit (c / 8)) (fun c => 2 ^ sq_T p (c / 8) (c % 8)) c)) 128 0 ((0 : Int32), va) (by omega) rfl ?_ ?_
  · rintro n ⟨y, va'⟩ hy
    have hy' : y = nI (sq_img (sq_T p) S) := hy
    subst hy'
    exact br_t (by decide +kernel) (h va')
  · rintro n c ⟨y, va'⟩ hc hy ih
    have hy' : y = nI (sq_or 0 (fun c => S.testBit (c / 8)) (fun c => 2 ^ sq_T p (c / 8) (c % 8)) c) := hy
    have d8 : nI c / 8 = nI (c / 8) := pk_div (d := 8) (by omega) (by decide) (by decide)
    have r8 : nI c - nI c / 8 * 8 = nI (c % 8) := pk_rem (d := 8) (by omega) (by decide) (by decide)
    have hT := sq_T_lt wf (c / 8) (c % 8)
    have e : (nI S >>> ((nI c / 8) &&& 31)) &&& 1 = 1 ↔ S.testBit (c / 8) = true := by
      rw [d8]
      exact sq_bit1 (by omega) (by omega)
    refine br_f (nI_ge (b := 128) hc (by decide)) ⟨by decide, br_c (fun g => ⟨by decide, by decide, sy_step H (by omega) (by omega) d8 r8 (fun va2 => nm_e (nm_r (nI_1 c) (ih (_, va2) ?_)))⟩) (fun g => nm_r (nI_1 c) (ih (_, va') ?_))⟩
    · show _ ||| _ = _
      rw [hy', sq_one _ hT, sq_nor, sq_or_t]
      exact e.mp g
    · show y = _
      rw [hy', sq_or_f]
      exact fun z => g (e.mpr z)
theorem sy_found (H : sy_C p sz st sh gs nx) {post : Int32 → SY → Prop} {G : Nat} {x : Int32} (hG : G < 2 ^ 16) (ex : x = nI G)
    (h : ∀ va' : Nat → Int32, post (sq_fs (fun n => decide (¬ sq_R (sq_T p) (2 ^ sq_s p) n &&& G = 0)) 16 0) (sz, st, sh, gs, nx, va')) : wpY_found post (sz, st, sh, gs, nx, va) x := by
  subst ex
  have wf := H.1
  have hT := sq_T_ok wf
  have hs := wf.2.1
  have hb := H.2.2.1
  have hR := sq_R_lt hT (sq_p2lt hs)
  refine nm_r (e' := nI (2 ^ sq_s p)) (by rw [hb]; exact sq_one _ hs) ?_
  refine pk_loop (fun n i (q : Int32 × (Nat → Int32)) => wY_found_9 post (nI G) n q.1 (nI i) sz st sh gs nx q.2)
    (fun i q => q.1 = nI (sq_R (sq_T p) (2 ^ sq_s p) i) ∧ sq_fs (fun n => decide (¬ sq_R (sq_T p) (2 ^ sq_s p) n &&& G = 0)) (16 - i) i = sq_fs (fun n => decide (¬ sq_R (sq_T p) (2 ^ sq_s p) n &&& G = 0)) 16 0) 16 0 (nI (2 ^ sq_s p), va) (by omega) ⟨rfl, rfl⟩ ?_ ?_
  · rintro n ⟨y, va'⟩ ⟨hy, hv⟩
    refine br_t (by decide +kernel) ?_
    have z := h va'
    rw [← hv] at z
    exact z
  · rintro n i ⟨y, va'⟩ hi ⟨hy, hv⟩ ih
    have hy' : y = nI (sq_R (sq_T p) (2 ^ sq_s p) i) := hy
    have e : y &&& nI G = 0 ↔ sq_R (sq_T p) (2 ^ sq_s p) i &&& G = 0 := by
      rw [hy']
      exact sq_and0 (hR i) hG
    rw [show 16 - i = (16 - (i + 1)) + 1 by omega] at hv
    refine br_f (nI_ge (b := 16) hi (by decide)) (br_c (fun g => ?_) (fun g => ?_))
    · refine sy_foll H (hR i) hy' (fun va2 => nm_e (nm_r (nI_1 i) (ih (_, va2) ⟨?_, ?_⟩)))
      · show y ||| _ = _
        rw [hy', sq_nor]
        rfl
      · rw [← hv, sq_fs_f]
        exact fun z => (of_decide_eq_true z) (e.mp g)
    · have g' : ¬ sq_R (sq_T p) (2 ^ sq_s p) i &&& G = 0 := fun z => g (e.mpr z)
      rw [sq_fs_t (P := fun n => decide (¬ sq_R (sq_T p) (2 ^ sq_s p) n &&& G = 0)) (decide_eq_true g')] at hv
      have z := h va'
      rw [← hv] at z
      exact z
end
