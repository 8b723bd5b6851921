def sx_R (p : sq_P) (u : SX) : Prop := match u with
  | (sc, bg, ws, bs, ki, fi, se, th, nx, va, fo, pa, ke) => sx_C p sc bg ws ki fi se th nx
def sy_R (p : sq_P) (v : SY) : Prop := match v with
  | (sz, st, sh, gs, nx, va) => sy_C p sz st sh gs nx
def i_Rel (_ : Nat) (u : SX) (v : SY) : Prop := ∃ p, sx_R p u ∧ sy_R p v
theorem i_up {k : Nat} {u : SX} {v : SY} (h : i_Rel k u v) : i_Rel (k + 5) u v := h
theorem i_vc0 : wpX_init (fun u => wpY_init (fun v => i_Rel 0 u v)) :=
  sx_init (fun _ hx => sy_init (fun _ hy => ⟨sq_nil, hx, hy⟩))
theorem i_vc_gate {k : Nat} {u : SX} {v : SY} (I : i_Rel k u v) (hk : k + 5 ≤ 2560) (v1 : Int32) (v2 : Int32) (v3 : Int32) (v4 : Int32) : wpX_gate (fun r u' => wpY_gate (fun r' v' => r' = r ∧ i_Rel (k + 5) u' v') v v1 v2 v3 v4) u v1 v2 v3 v4 := by
  obtain ⟨p, HX, HY⟩ := I
  obtain ⟨sc, bg, ws, bs, ki, fi, se, th, nx, va, fo, pa, ke⟩ := u
  obtain ⟨sz, st, sh, gs, ny, vb⟩ := v
  have HX' : sx_C p sc bg ws ki fi se th nx := HX
  have HY' : sy_C p sz st sh gs ny := HY
  have J : i_Rel (k + 5) (sc, bg, ws, bs, ki, fi, se, th, nx, va, fo, pa, ke) (sz, st, sh, gs, ny, vb) := ⟨p, HX, HY⟩
  have hc12 := HX'.1.1
  unfold wpX_gate
  rcases sx_ix v1 10 with o1 | ⟨kd, hkd, e1⟩
  · exact sx_outL (n := 10) (by decide) rfl o1 (sx_outG (n := 9) (by decide) rfl o1 ⟨rfl, J⟩)
  subst e1
  have n0 : ¬ nI kd < 0 := nI_pos (by omega)
  have n10 : ¬ (10 : Int32) ≤ nI kd := nI_ge (b := 10) hkd (by decide)
  have n9 : ¬ (9 : Int32) < nI kd := nI_nlt (a := 9) (by omega) (by decide)
  refine br_f n0 (br_f n10 ?_)
  rcases sx_ix v2 (7 + sq_c p) with o2 | ⟨a, ha, e2⟩
  · exact sx_nsig HX' o2 (br_t rfl (br_f n0 (br_f n9 (sy_nsig HY' o2 (br_t rfl ⟨rfl, J⟩)))))
  refine sx_sig HX' ha e2 (br_f sx_8 ?_)
  rcases sx_ix v3 (7 + sq_c p) with o3 | ⟨b, hb, e3⟩
  · exact sx_nsig HX' o3 (br_t rfl (br_f n0 (br_f n9 (sy_sig HY' ha e2 (br_f sx_8 (sy_nsig HY' o3 (br_t rfl ⟨rfl, J⟩)))))))
  refine sx_sig HX' hb e3 (br_f sx_8 ?_)
  subst e2 e3
  rcases Nat.lt_or_ge kd 7 with g7 | g7
  · have l7 : nI kd < 7 := nI_lt (b := 7) g7 (by decide)
    refine br_t l7 (br_t rfl ?_)
    by_cases hc : sq_c p < 12
    · refine sx_g57 HX' (d := 0) hc hkd ha hb (by omega) (Or.inl ⟨rfl, rfl⟩) (fun sc' ki' fi' se' th' hx => ?_)
      refine br_f n0 (br_f n9 (sy_sig HY' ha rfl (br_f sx_8 (sy_sig HY' hb rfl (br_f sx_8 (br_t l7 ?_))))))
      exact sy_g43 HY' (d := 0) hc hkd ha hb (by omega) (Or.inl ⟨g7, rfl⟩) (fun sz' gs' hy => ⟨rfl, _, hx, hy⟩)
    · refine sx_g57f HX' hc ?_
      refine br_f n0 (br_f n9 (sy_sig HY' ha rfl (br_f sx_8 (sy_sig HY' hb rfl (br_f sx_8 (br_t l7 ?_))))))
      exact sy_g43f HY' hc ⟨rfl, J⟩
  · have l7 : ¬ nI kd < 7 := nI_nlt (b := 7) g7 (by omega)
    refine br_f l7 (br_f sx_8 ?_)
    rcases sx_ix v4 (7 + sq_c p) with o4 | ⟨d, hd, e4⟩
    · refine sx_nsig HX' o4 (br_t rfl ?_)
      exact br_f n0 (br_f n9 (sy_sig HY' ha rfl (br_f sx_8 (sy_sig HY' hb rfl (br_f sx_8 (br_f l7 (sy_nsig HY' o4 (br_t rfl ⟨rfl, J⟩))))))))
    · refine sx_sig HX' hd e4 (br_f sx_8 ?_)
      by_cases hc : sq_c p < 12
      · refine sx_g57 HX' (d := d) hc hkd ha hb hd (Or.inr ⟨sx_8, e4⟩) (fun sc' ki' fi' se' th' hx => ?_)
        refine br_f n0 (br_f n9 (sy_sig HY' ha rfl (br_f sx_8 (sy_sig HY' hb rfl (br_f sx_8 (br_f l7 (sy_sig HY' hd e4 (br_f sx_8 ?_))))))))
        exact sy_g43 HY' (d := d) hc hkd ha hb hd (Or.inr ⟨g7, e4⟩) (fun sz' gs' hy => ⟨rfl, _, hx, hy⟩)
      · refine sx_g57f HX' hc ?_
        refine br_f n0 (br_f n9 (sy_sig HY' ha rfl (br_f sx_8 (sy_sig HY' hb rfl (br_f sx_8 (br_f l7 (sy_sig HY' hd e4 (br_f sx_8 ?_))))))))
        exact sy_g43f HY' hc ⟨rfl, J⟩
theorem i_vc_drop {k : Nat} {u : SX} {v : SY} (I : i_Rel k u v) (hk : k + 5 ≤ 2560) : wpX_drop (fun r u' => wpY_drop (fun r' v' => r' = r ∧ i_Rel (k + 5) u' v') v) u := by
  obtain ⟨p, HX, HY⟩ := I
  obtain ⟨sc, bg, ws, bs, ki, fi, se, th, nx, va, fo, pa, ke⟩ := u
  obtain ⟨sz, st, sh, gs, ny, vb⟩ := v
  have HX' : sx_C p sc bg ws ki fi se th nx := HX
  have HY' : sy_C p sz st sh gs ny := HY
  rcases hc : sq_c p with _ | c
  · refine br_f ?_ (br_t ?_ ⟨rfl, p, HX, HY⟩)
    · rw [HX'.2.1, hc]
      decide
    · rw [HY'.2.1, hc]
      rfl
  · exact sx_drop HX' hc (fun ws' nx' hx => sy_drop HY' hc (fun sh' ny' hy => ⟨rfl, _, hx, hy⟩))
theorem i_vc_signals {k : Nat} {u : SX} {v : SY} (I : i_Rel k u v) (hk : k + 5 ≤ 2560) : wpX_signals (fun r => wpY_signals (fun r' => r' = r ∧ i_Rel (k + 5) u v) v) u := by
  obtain ⟨p, HX, HY⟩ := I
  obtain ⟨sc, bg, ws, bs, ki, fi, se, th, nx, va, fo, pa, ke⟩ := u
  obtain ⟨sz, st, sh, gs, ny, vb⟩ := v
  have HX' : sx_C p sc bg ws ki fi se th nx := HX
  have HY' : sy_C p sz st sh gs ny := HY
  show 7 + sz = sc ∧ _
  exact ⟨by rw [HX'.2.1, HY'.2.1]; exact sy_7 _, p, HX, HY⟩
theorem i_vc_next {k : Nat} {u : SX} {v : SY} (I : i_Rel k u v) (hk : k + 5 ≤ 2560) (v1 : Int32) (v2 : Int32) : wpX_next (fun r u' => wpY_next (fun r' v' => r' = r ∧ i_Rel (k + 5) u' v') v v1 v2) u v1 v2 := by
  obtain ⟨p, HX, HY⟩ := I
  obtain ⟨sc, bg, ws, bs, ki, fi, se, th, nx, va, fo, pa, ke⟩ := u
  obtain ⟨sz, st, sh, gs, ny, vb⟩ := v
  have HX' : sx_C p sc bg ws ki fi se th nx := HX
  have HY' : sy_C p sz st sh gs ny := HY
  have J : i_Rel (k + 5) (sc, bg, ws, bs, ki, fi, se, th, nx, va, fo, pa, ke) (sz, st, sh, gs, ny, vb) := ⟨p, HX, HY⟩
  unfold wpX_next
  rcases sx_ix v1 4 with o1 | ⟨r, hr, e1⟩
  · exact sx_outL (n := 4) (by decide) rfl o1 (br_t rfl (sx_outG (n := 3) (by decide) rfl o1 ⟨rfl, J⟩))
  subst e1
  have n0 : ¬ nI r < 0 := nI_pos (by omega)
  have n3 : ¬ (3 : Int32) < nI r := nI_nlt (a := 3) (by omega) (by decide)
  refine br_f n0 (br_f (nI_ge (b := 4) hr (by decide)) (br_f sx_8 ?_))
  rcases sx_ix v2 (7 + sq_c p) with o2 | ⟨a, ha, e2⟩
  · exact sx_nsig HX' o2 (br_t rfl (br_f n0 (br_f n3 (sy_nsig HY' o2 (br_t rfl ⟨rfl, J⟩)))))
  refine sx_sig HX' ha e2 (br_f sx_8 ⟨vp_in_nI hr (by omega), nm_r (sx_up rfl (by omega) e2) ?_⟩)
  refine br_f n0 (br_f n3 (sy_sig HY' ha e2 (br_f sx_8 ⟨vp_in_nI hr (by omega), nm_r (sx_up rfl (by omega) e2) ?_⟩)))
  have q : ∀ f : Nat → Int32, (∀ j, j < 4 → f j = nI (sq_nx p j)) → ∀ j, j < 4 → upd f r (nI a) j = nI (sq_nx (sq_next p r a) j) := by
    intro f hf j hj
    show _ = nI (sq_put (sq_nx p) r a j)
    by_cases e : j = r
    · rw [e, pk_us, sq_put_s]
    · rw [pk_un e, sq_put_n e]
      exact hf j hj
  obtain ⟨wf, x1, x2, x3, x4, x5⟩ := HX'
  obtain ⟨_, y1, y2, y3, y4, y5⟩ := HY'
  have wf' := sq_next_wf (r := r) wf ha
  exact ⟨rfl, sq_next p r a, ⟨wf', x1, x2, x3, q nx x4, x5⟩, ⟨wf', y1, y2, y3, q ny y4, y5⟩⟩
theorem i_vc_begin {k : Nat} {u : SX} {v : SY} (I : i_Rel k u v) (hk : k + 5 ≤ 2560) (v1 : Int32) (v2 : Int32) : wpX_begin (fun r u' => wpY_begin (fun r' v' => r' = r ∧ i_Rel (k + 5) u' v') v v1 v2) u v1 v2 := by
  obtain ⟨p, HX, HY⟩ := I
  obtain ⟨sc, bg, ws, bs, ki, fi, se, th, nx, va, fo, pa, ke⟩ := u
  obtain ⟨sz, st, sh, gs, ny, vb⟩ := v
  have HX' : sx_C p sc bg ws ki fi se th nx := HX
  have HY' : sy_C p sz st sh gs ny := HY
  have J : i_Rel (k + 5) (sc, bg, ws, bs, ki, fi, se, th, nx, va, fo, pa, ke) (sz, st, sh, gs, ny, vb) := ⟨p, HX, HY⟩
  unfold wpX_begin
  rcases sx_ix v1 4 with o1 | ⟨r, hr, e1⟩
  · exact sx_outL (n := 4) (by decide) rfl o1 (br_t rfl (sx_outG (n := 3) (by decide) rfl o1 ⟨rfl, J⟩))
  subst e1
  have n0 : ¬ nI r < 0 := nI_pos (by omega)
  have n3 : ¬ (3 : Int32) < nI r := nI_nlt (a := 3) (by omega) (by decide)
  refine br_f n0 (br_f (nI_ge (b := 4) hr (by decide)) (br_f sx_8 ?_))
  rcases sx_ix v2 2 with o2 | ⟨a, ha, e2⟩
  · rcases o2 with g | ⟨j, h1, h2, e⟩
    · exact br_t g (br_f n0 (br_f n3 (br_t g ⟨rfl, J⟩)))
    · subst e
      have m0 : ¬ nI j < 0 := nI_pos h2
      have m1 : ¬ nI j ≤ 1 := nI_ge (a := 1) (by omega) h2
      exact br_f m0 (br_f m1 (br_f n0 (br_f n3 (br_f m0 (br_f m1 ⟨rfl, J⟩)))))
  · subst e2
    have m0 : ¬ nI a < 0 := nI_pos (by omega)
    have m1 : nI a ≤ 1 := nI_le (b := 1) (by omega) (by decide)
    obtain ⟨wf, x1, x2, x3, x4, x5⟩ := HX'
    obtain ⟨_, y1, y2, y3, y4, y5⟩ := HY'
    subst x2 y2
    obtain ⟨w1, w2, w3⟩ := wf
    have e := sq_bg_e (sq_s p) w2 r hr a ha
    have wf' : sq_wf (sq_begin p (sq_bg (sq_s p) r a)) := ⟨w1, sq_bg_lt _ w2 r hr a ha, w3⟩
    exact br_f m0 (br_t m1 (nm_r e (br_f n0 (br_f n3 (br_f m0 (br_t m1 (nm_r e ⟨rfl, sq_begin p (sq_bg (sq_s p) r a), ⟨wf', x1, rfl, x3, x4, x5⟩, ⟨wf', y1, rfl, y3, y4, y5⟩⟩)))))))
theorem i_vc_watch {k : Nat} {u : SX} {v : SY} (I : i_Rel k u v) (hk : k + 5 ≤ 2560) (v1 : Int32) : wpX_watch (fun r u' => wpY_watch (fun r' v' => r' = r ∧ i_Rel (k + 5) u' v') v v1) u v1 := by
  obtain ⟨p, HX, HY⟩ := I
  obtain ⟨sc, bg, ws, bs, ki, fi, se, th, nx, va, fo, pa, ke⟩ := u
  obtain ⟨sz, st, sh, gs, ny, vb⟩ := v
  have HX' : sx_C p sc bg ws ki fi se th nx := HX
  have HY' : sy_C p sz st sh gs ny := HY
  have J : i_Rel (k + 5) (sc, bg, ws, bs, ki, fi, se, th, nx, va, fo, pa, ke) (sz, st, sh, gs, ny, vb) := ⟨p, HX, HY⟩
  unfold wpX_watch
  rcases sx_ix v1 (7 + sq_c p) with o1 | ⟨a, ha, e1⟩
  · refine sx_nsig HX' o1 (br_t rfl ?_)
    unfold wpY_watch
    exact sy_nsig HY' o1 (br_t rfl ⟨rfl, J⟩)
  · refine sx_sig HX' ha e1 (br_f sx_8 ?_)
    unfold wpY_watch
    refine sy_sig HY' ha e1 (br_f sx_8 ?_)
    obtain ⟨wf, x1, x2, x3, x4, x5⟩ := HX'
    obtain ⟨_, y1, y2, y3, y4, y5⟩ := HY'
    obtain ⟨w1, w2, w3, w4⟩ := wf
    have wf' : sq_wf (sq_watch p a) := ⟨w1, w2, ha, w4⟩
    exact ⟨rfl, sq_watch p a, ⟨wf', x1, x2, e1, x4, x5⟩, ⟨wf', y1, y2, e1, y4, y5⟩⟩
theorem i_vc_ever {k : Nat} {u : SX} {v : SY} (I : i_Rel k u v) (hk : k + 5 ≤ 2560) (v1 : Int32) : wpX_ever (fun r u' => wpY_ever (fun r' v' => r' = r ∧ i_Rel (k + 5) u' v') v v1) u v1 := by
  obtain ⟨p, HX, HY⟩ := I
  obtain ⟨sc, bg, ws, bs, ki, fi, se, th, nx, va, fo, pa, ke⟩ := u
  obtain ⟨sz, st, sh, gs, ny, vb⟩ := v
  have HX' : sx_C p sc bg ws ki fi se th nx := HX
  have HY' : sy_C p sz st sh gs ny := HY
  rcases sx_ix v1 4 with o1 | ⟨e, he, e1⟩
  · unfold wpX_ever
    refine sx_outL (n := 4) (by decide) rfl o1 (br_t rfl ?_)
    unfold wpY_ever
    exact sy_notEngine o1 (br_t rfl ⟨rfl, p, HX, HY⟩)
  · exact sx_ever HX' he e1 (fun bs' va' fo' pa' ke' => sy_ever HY' he e1 (fun vb' => ⟨rfl, p, HX, HY⟩))
theorem i_vc_agree {k : Nat} {u : SX} {v : SY} (I : i_Rel k u v) (hk : k + 5 ≤ 2560) (v1 : Int32) (v2 : Int32) : wpX_agree (fun r u' => wpY_agree (fun r' => r' = r ∧ i_Rel (k + 5) u' v) v v1 v2) u v1 v2 := by
  obtain ⟨p, HX, HY⟩ := I
  obtain ⟨sc, bg, ws, bs, ki, fi, se, th, nx, va, fo, pa, ke⟩ := u
  obtain ⟨sz, st, sh, gs, ny, vb⟩ := v
  have HX' : sx_C p sc bg ws ki fi se th nx := HX
  have HY' : sy_C p sz st sh gs ny := HY
  unfold wpX_agree
  rcases sx_ix v1 4 with o1 | ⟨e, he, e1⟩
  · refine sx_outL (n := 4) (by decide) rfl o1 (br_t rfl ?_)
    unfold wpY_agree
    exact sy_notEngine o1 (br_t rfl ⟨rfl, p, HX, HY⟩)
  refine br_f (by rw [e1]; exact nI_pos (by omega)) (br_f (by rw [e1]; exact nI_ge (b := 4) he (by decide)) (br_f sx_8 ?_))
  rcases sx_ix v2 4 with o2 | ⟨d, hd, e2⟩
  · refine sx_outL (n := 4) (by decide) rfl o2 (br_t rfl ?_)
    unfold wpY_agree
    exact sy_engine he e1 (br_f sx_8 (sy_notEngine o2 (br_t rfl ⟨rfl, p, HX, HY⟩)))
  refine br_f (by rw [e2]; exact nI_pos (by omega)) (br_f (by rw [e2]; exact nI_ge (b := 4) hd (by decide)) (br_f sx_8 ?_))
  refine sx_ever HX' he e1 (fun bs' va' fo' pa' ke' => ?_)
  refine sx_ever HX' hd e2 (fun bs2 va2 fo2 pa2 ke2 => br_t rfl ?_)
  unfold wpY_agree
  exact sy_engine he e1 (br_f sx_8 (sy_engine hd e2 (br_f sx_8 ⟨rfl, p, HX, HY⟩)))
theorem i_vc_depth {k : Nat} {u : SX} {v : SY} (I : i_Rel k u v) (hk : k + 5 ≤ 2560) (v1 : Int32) : wpX_depth (fun r u' => wpY_depth (fun r' v' => r' = r ∧ i_Rel (k + 5) u' v') v v1) u v1 := by
  obtain ⟨p, HX, HY⟩ := I
  obtain ⟨sc, bg, ws, bs, ki, fi, se, th, nx, va, fo, pa, ke⟩ := u
  obtain ⟨sz, st, sh, gs, ny, vb⟩ := v
  have HX' : sx_C p sc bg ws ki fi se th nx := HX
  have HY' : sy_C p sz st sh gs ny := HY
  by_cases h0 : v1 = 0
  · exact sx_depth HX' (e := 0) (by omega) h0 (fun va' fo' _ => sy_depth HY' (e := 0) (by omega) h0 (fun vb' => ⟨rfl, p, HX, HY⟩))
  · by_cases h1 : v1 = 1
    · exact sx_depth HX' (e := 1) (by omega) h1 (fun va' fo' _ => sy_depth HY' (e := 1) (by omega) h1 (fun vb' => ⟨rfl, p, HX, HY⟩))
    · exact br_f h0 (br_f h1 (br_f h0 (br_f h1 ⟨rfl, p, HX, HY⟩)))
theorem i_vc_input {k : Nat} {u : SX} {v : SY} (I : i_Rel k u v) (hk : k + 5 ≤ 2560) (v1 : Int32) : wpX_input (fun r u' => wpY_input (fun r' v' => r' = r ∧ i_Rel (k + 5) u' v') v v1) u v1 := by
  obtain ⟨p, HX, HY⟩ := I
  obtain ⟨sc, bg, ws, bs, ki, fi, se, th, nx, va, fo, pa, ke⟩ := u
  obtain ⟨sz, st, sh, gs, ny, vb⟩ := v
  have HX' : sx_C p sc bg ws ki fi se th nx := HX
  have HY' : sy_C p sz st sh gs ny := HY
  unfold wpX_input
  refine sx_depth HX' (e := 0) (by omega) rfl (fun va' fo' hf => ?_)
  rcases sq_dep_n (T := sq_T p) (B := sq_B p) (s := sq_s p) with eD | ⟨d, hd, eD⟩
  · refine br_t eD ?_
    unfold wpY_input
    refine sy_bad HY' (fun vb1 => sy_found HY' sq_bad_lt rfl (fun vb2 => ?_))
    have z : ¬ 0 ≤ sq_fs (fun n => decide (¬ sq_R (sq_T p) (2 ^ sq_s p) n &&& sq_bad (sq_B p) = 0)) 16 0 := by
      have eD' : sq_fs (fun n => decide (¬ sq_R (sq_T p) (2 ^ sq_s p) n &&& sq_bad (sq_B p) = 0)) 16 0 = -3 := eD
      rw [eD']
      decide
    exact br_f z ⟨rfl, p, HX, HY⟩
  · have eD' : sq_fs (fun n => decide (¬ sq_R (sq_T p) (2 ^ sq_s p) n &&& sq_bad (sq_B p) = 0)) 16 0 = nI d := eD
    have hD := sq_dep_D hd eD
    rw [eD]
    refine br_f (sq_n3 hd) ?_
    have tail : ∀ {post : Int32 → SY → Prop}, (∀ vb2 : Nat → Int32, ((v1 < 0 → post (-1) (sz, st, sh, gs, ny, vb2)) ∧ (¬ v1 < 0 → ((v1 ≤ nI d → ∃ n38 : Nat, wY_input_38 post v1 (nI d) n38 st 0 0 sz st sh gs ny vb2) ∧ (¬ v1 ≤ nI d → post (-1) (sz, st, sh, gs, ny, vb2)))))) → wpY_input post (sz, st, sh, gs, ny, vb) v1 := by
      intro post hp
      unfold wpY_input
      refine sy_bad HY' (fun vb1 => sy_found HY' sq_bad_lt rfl (fun vb2 => ?_))
      rw [eD']
      exact br_t (nI_pos' (by omega)) (hp vb2)
    rcases sx_ix v1 (d + 1) with o1 | ⟨i, hi, e1⟩
    · rcases o1 with g | ⟨j, h1, h2, e⟩
      · exact br_t g (tail (fun vb2 => br_t g ⟨rfl, p, HX, HY⟩))
      · subst e
        have m0 : ¬ nI j < 0 := nI_pos h2
        have m1 : ¬ nI j ≤ nI d := nI_ge (by omega) h2
        exact br_f m0 (br_f m1 (tail (fun vb2 => br_f m0 (br_f m1 ⟨rfl, p, HX, HY⟩))))
    · subst e1
      have m0 : ¬ nI i < 0 := nI_pos (by omega)
      have m1 : nI i ≤ nI d := nI_le (by omega) (by omega)
      refine br_f m0 (br_t m1 (sx_input34 HX' hd (by omega) hD rfl hf (fun va2 => ?_)))
      exact tail (fun vb2 => br_f m0 (br_t m1 (sy_input38 HY' hd (by omega) (fun vb3 => ⟨rfl, p, HX, HY⟩))))
theorem i_vc_holds {k : Nat} {u : SX} {v : SY} (I : i_Rel k u v) (hk : k + 5 ≤ 2560) (v1 : Int32) (v2 : Int32) : wpX_holds (fun r u' => wpY_holds (fun r' v' => r' = r ∧ i_Rel (k + 5) u' v') v v1 v2) u v1 v2 := by
  obtain ⟨p, HX, HY⟩ := I
  obtain ⟨sc, bg, ws, bs, ki, fi, se, th, nx, va, fo, pa, ke⟩ := u
  obtain ⟨sz, st, sh, gs, ny, vb⟩ := v
  have HX' : sx_C p sc bg ws ki fi se th nx := HX
  have HY' : sy_C p sz st sh gs ny := HY
  rcases sx_ix v1 16 with o1 | ⟨o, ho, e1⟩
  · unfold wpX_holds
    refine sx_outL (n := 16) (by decide) rfl o1 (br_t rfl ?_)
    unfold wpY_holds
    exact sy_reached HY' (fun vb' => sy_notSet o1 (br_t rfl (sy_h0 ⟨rfl, p, HX, HY⟩)))
  rcases sx_ix v2 16 with o2 | ⟨z, hz, e2⟩
  · unfold wpX_holds
    refine sx_isSet ho e1 (br_f sx_8 (sx_outL (n := 16) (by decide) rfl o2 (br_t rfl ?_)))
    unfold wpY_holds
    exact sy_reached HY' (fun vb' => sy_isSet ho e1 (br_f sx_8 (sy_notSet o2 (br_t rfl (sy_h0 ⟨rfl, p, HX, HY⟩)))))
  by_cases q : ∀ j, (sq_R (sq_T p) (2 ^ sq_s p) 15).testBit j = true → (sq_sw o z).testBit j = true
  · exact sx_holds HX' ho hz e1 e2 (r := 1) (fun _ => rfl) (fun g => absurd q g) (fun bs' va' fo' => sy_holds HY' ho hz e1 e2 (r := 1) (fun _ => rfl) (fun g => absurd q g) (fun vb' => ⟨rfl, p, HX, HY⟩))
  · exact sx_holds HX' ho hz e1 e2 (r := 0) (fun g => absurd g q) (fun _ => rfl) (fun bs' va' fo' => sy_holds HY' ho hz e1 e2 (r := 0) (fun g => absurd g q) (fun _ => rfl) (fun vb' => ⟨rfl, p, HX, HY⟩))
theorem i_vc_keeps {k : Nat} {u : SX} {v : SY} (I : i_Rel k u v) (hk : k + 5 ≤ 2560) (v1 : Int32) (v2 : Int32) : wpX_keeps (fun r u' => wpY_keeps (fun r' v' => r' = r ∧ i_Rel (k + 5) u' v') v v1 v2) u v1 v2 := by
  obtain ⟨p, HX, HY⟩ := I
  obtain ⟨sc, bg, ws, bs, ki, fi, se, th, nx, va, fo, pa, ke⟩ := u
  obtain ⟨sz, st, sh, gs, ny, vb⟩ := v
  have HX' : sx_C p sc bg ws ki fi se th nx := HX
  have HY' : sy_C p sz st sh gs ny := HY
  rcases sx_ix v1 16 with o1 | ⟨o, ho, e1⟩
  · unfold wpX_keeps
    refine sx_outL (n := 16) (by decide) rfl o1 (br_t rfl ?_)
    unfold wpY_keeps
    exact sy_notSet o1 (br_t rfl (sy_k0 ⟨rfl, p, HX, HY⟩))
  rcases sx_ix v2 16 with o2 | ⟨z, hz, e2⟩
  · unfold wpX_keeps
    refine sx_isSet ho e1 (br_f sx_8 (sx_outL (n := 16) (by decide) rfl o2 (br_t rfl ?_)))
    unfold wpY_keeps
    exact sy_isSet ho e1 (br_f sx_8 (sy_notSet o2 (br_t rfl (sy_k0 ⟨rfl, p, HX, HY⟩))))
  by_cases q : (sq_sw o z).testBit (sq_s p) = true ∧ ∀ j, (sq_img (sq_T p) (sq_sw o z)).testBit j = true → (sq_sw o z).testBit j = true
  · exact sx_keeps HX' ho hz e1 e2 (r := 1) (fun _ _ => rfl) (fun g => absurd q g) (fun bs' va' fo' => sy_keeps HY' ho hz e1 e2 (r := 1) (fun _ _ => rfl) (fun g => absurd q g) (fun vb' => ⟨rfl, p, HX, HY⟩))
  · exact sx_keeps HX' ho hz e1 e2 (r := 0) (fun g1 g2 => absurd ⟨g1, g2⟩ q) (fun _ => rfl) (fun bs' va' fo' => sy_keeps HY' ho hz e1 e2 (r := 0) (fun g1 g2 => absurd ⟨g1, g2⟩ q) (fun _ => rfl) (fun vb' => ⟨rfl, p, HX, HY⟩))
theorem i_vc_reached {k : Nat} {u : SX} {v : SY} (I : i_Rel k u v) (hk : k + 5 ≤ 2560) : wpX_reached (fun r u' => wpY_reached (fun r' v' => r' = r ∧ i_Rel (k + 5) u' v') v) u := by
  obtain ⟨p, HX, HY⟩ := I
  obtain ⟨sc, bg, ws, bs, ki, fi, se, th, nx, va, fo, pa, ke⟩ := u
  obtain ⟨sz, st, sh, gs, ny, vb⟩ := v
  have HX' : sx_C p sc bg ws ki fi se th nx := HX
  have HY' : sy_C p sz st sh gs ny := HY
  exact sx_reached HX' (fun bs' va' fo' => sy_reached HY' (fun vb' => ⟨rfl, p, HX, HY⟩))
theorem i_vc_far {k : Nat} {u : SX} {v : SY} (I : i_Rel k u v) (hk : k + 5 ≤ 2560) (v1 : Int32) : wpX_far (fun r u' => wpY_far (fun r' v' => r' = r ∧ i_Rel (k + 5) u' v') v v1) u v1 := by
  obtain ⟨p, HX, HY⟩ := I
  obtain ⟨sc, bg, ws, bs, ki, fi, se, th, nx, va, fo, pa, ke⟩ := u
  obtain ⟨sz, st, sh, gs, ny, vb⟩ := v
  have HX' : sx_C p sc bg ws ki fi se th nx := HX
  have HY' : sy_C p sz st sh gs ny := HY
  rcases sx_ix v1 16 with o1 | ⟨t, ht, e1⟩
  · unfold wpX_far
    refine sx_outL (n := 16) (by decide) rfl o1 (br_t rfl ?_)
    unfold wpY_far
    exact sy_notSet o1 (br_t rfl ⟨rfl, p, HX, HY⟩)
  · exact sx_far HX' ht e1 (fun bs' va' fo' => sy_far HY' ht e1 (fun vb' => ⟨rfl, p, HX, HY⟩))
theorem sy_outR {post : Int32 → Prop} {sz st sh : Int32} {gs nx va : Nat → Int32} {x y : Int32} (h : sx_out x 16 ∨ (∃ s, s < 16 ∧ x = nI s) ∧ sx_out y 8) (hp : post 0) : wpY_inRange post (sz, st, sh, gs, nx, va) x y := by
  rcases h with h | ⟨⟨s, hs, e⟩, h⟩
  · exact sx_outG (n := 15) (by decide) rfl h hp
  · subst e
    exact br_f (nI_pos (by omega)) (br_f (nI_nlt (a := 15) (by omega) (by decide)) (sx_outG (n := 7) (by decide) rfl h hp))
theorem i_vc_step {k : Nat} {u : SX} {v : SY} (I : i_Rel k u v) (hk : k + 5 ≤ 2560) (v1 : Int32) (v2 : Int32) : wpX_step (fun r u' => wpY_step (fun r' v' => r' = r ∧ i_Rel (k + 5) u' v') v v1 v2) u v1 v2 := by
  obtain ⟨p, HX, HY⟩ := I
  obtain ⟨sc, bg, ws, bs, ki, fi, se, th, nx, va, fo, pa, ke⟩ := u
  obtain ⟨sz, st, sh, gs, ny, vb⟩ := v
  have HX' : sx_C p sc bg ws ki fi se th nx := HX
  have HY' : sy_C p sz st sh gs ny := HY
  rcases sx_ix v1 16 with o1 | ⟨s, hs, e1⟩
  · unfold wpX_step
    refine sx_outL (n := 16) (by decide) rfl o1 (br_t rfl ?_)
    unfold wpY_step
    exact sy_outR (Or.inl o1) (br_t rfl ⟨rfl, p, HX, HY⟩)
  rcases sx_ix v2 8 with o2 | ⟨l, hl, e2⟩
  · unfold wpX_step
    refine br_f (by rw [e1]; exact nI_pos (by omega)) (br_f (by rw [e1]; exact nI_ge (b := 16) hs (by decide)) (br_f sx_8 (sx_outL (n := 8) (by decide) rfl o2 (br_t rfl ?_))))
    unfold wpY_step
    exact sy_outR (Or.inr ⟨⟨s, hs, e1⟩, o2⟩) (br_t rfl ⟨rfl, p, HX, HY⟩)
  · exact sx_step HX' hs hl e1 e2 (fun va' => sy_step HY' hs hl e1 e2 (fun vb' => ⟨rfl, p, HX, HY⟩))
theorem i_vc_watched {k : Nat} {u : SX} {v : SY} (I : i_Rel k u v) (hk : k + 5 ≤ 2560) (v1 : Int32) (v2 : Int32) : wpX_watched (fun r u' => wpY_watched (fun r' v' => r' = r ∧ i_Rel (k + 5) u' v') v v1 v2) u v1 v2 := by
  obtain ⟨p, HX, HY⟩ := I
  obtain ⟨sc, bg, ws, bs, ki, fi, se, th, nx, va, fo, pa, ke⟩ := u
  obtain ⟨sz, st, sh, gs, ny, vb⟩ := v
  have HX' : sx_C p sc bg ws ki fi se th nx := HX
  have HY' : sy_C p sz st sh gs ny := HY
  rcases sx_ix v1 16 with o1 | ⟨s, hs, e1⟩
  · unfold wpX_watched
    refine sx_outL (n := 16) (by decide) rfl o1 (br_t rfl ?_)
    unfold wpY_watched
    exact sy_outR (Or.inl o1) (br_t rfl ⟨rfl, p, HX, HY⟩)
  rcases sx_ix v2 8 with o2 | ⟨l, hl, e2⟩
  · unfold wpX_watched
    refine br_f (by rw [e1]; exact nI_pos (by omega)) (br_f (by rw [e1]; exact nI_ge (b := 16) hs (by decide)) (br_f sx_8 (sx_outL (n := 8) (by decide) rfl o2 (br_t rfl ?_))))
    unfold wpY_watched
    exact sy_outR (Or.inr ⟨⟨s, hs, e1⟩, o2⟩) (br_t rfl ⟨rfl, p, HX, HY⟩)
  · exact sx_watched HX' hs hl e1 e2 (fun va' => sy_watched HY' hs hl e1 e2 (fun vb' => ⟨rfl, p, HX, HY⟩))
