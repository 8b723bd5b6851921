theorem sx_k9 : ∀ k, k < 10 → ¬ nI k < 0 := by decide +kernel
theorem sx_gv0 : ∀ a, a < 2 → ∀ b, b < 2 → ∀ c, c < 2 → nI a &&& nI b = nI (sq_gv 0 a b c) := by decide +kernel
theorem sx_gv1 : ∀ a, a < 2 → ∀ b, b < 2 → ∀ c, c < 2 → nI a ||| nI b = nI (sq_gv 1 a b c) := by decide +kernel
theorem sx_gv2 : ∀ a, a < 2 → ∀ b, b < 2 → ∀ c, c < 2 → nI a ^^^ nI b = nI (sq_gv 2 a b c) := by decide +kernel
theorem sx_gv3 : ∀ a, a < 2 → ∀ b, b < 2 → ∀ c, c < 2 → 1 - (nI a &&& nI b) = nI (sq_gv 3 a b c) := by decide +kernel
theorem sx_gv4 : ∀ a, a < 2 → ∀ b, b < 2 → ∀ c, c < 2 → 1 - (nI a ||| nI b) = nI (sq_gv 4 a b c) := by decide +kernel
theorem sx_gv5 : ∀ a, a < 2 → ∀ b, b < 2 → ∀ c, c < 2 → 1 - (nI a ^^^ nI b) = nI (sq_gv 5 a b c) := by decide +kernel
theorem sx_gv6 : ∀ a, a < 2 → ∀ b, b < 2 → ∀ c, c < 2 → (1 - nI a) ||| nI b = nI (sq_gv 6 a b c) := by decide +kernel
theorem sx_gv7t : ∀ a, a < 2 → ∀ b, b < 2 → ∀ c, c < 2 → nI a = 1 → nI b = nI (sq_gv 7 a b c) := by decide +kernel
theorem sx_gv7f : ∀ a, a < 2 → ∀ b, b < 2 → ∀ c, c < 2 → ¬ nI a = 1 → nI c = nI (sq_gv 7 a b c) := by decide +kernel
theorem sx_gv8t : ∀ a, a < 2 → ∀ b, b < 2 → ∀ c, c < 2 → (nI a + nI b) + nI c < 2 → 0 = nI (sq_gv 8 a b c) := by decide +kernel
theorem sx_gv8f : ∀ a, a < 2 → ∀ b, b < 2 → ∀ c, c < 2 → ¬ (nI a + nI b) + nI c < 2 → 1 = nI (sq_gv 8 a b c) := by decide +kernel
theorem sx_gv9 : ∀ a, a < 2 → ∀ b, b < 2 → ∀ c, c < 2 → (nI a ^^^ nI b) ^^^ nI c = nI (sq_gv 9 a b c) := by decide +kernel
theorem sx_at {P : Int32 → Prop} {x y : Int32} (e : x = y) (h : P y) : P x := by rw [e]; exact h
theorem sx_gateValue {post : Int32 → Prop} {x y z t : Int32} {k a b c : Nat} (hk : k < 10) (ha : a < 2) (hb : b < 2) (hc : c < 2)
    (ex : x = nI k) (ey : y = nI a) (ez : z = nI b) (et : t = nI c) (h : post (nI (sq_gv k a b c))) : wpX_gateValue post x y z t := by
  subst ex ey ez et
  unfold wpX_gateValue
  match k, hk, h with
  | 0, _, h => exact br_f (by decide +kernel) (br_f (by decide +kernel) (br_t (by decide +kernel) (sx_at (sx_gv0 a ha b hb c hc) h)))
  | 1, _, h => exact br_f (by decide +kernel) (br_f (by decide +kernel) (br_f (by decide +kernel) (br_t (by decide +kernel) (sx_at (sx_gv1 a ha b hb c hc) h))))
  | 2, _, h => exact br_f (by decide +kernel) (br_f (by decide +kernel) (br_f (by decide +kernel) (br_f (by decide +kernel) (br_t (by decide +kernel) (sx_at (sx_gv2 a ha b hb c hc) h)))))
  | 3, _, h => exact br_f (by decide +kernel) (br_f (by decide +kernel) (br_f (by decide +kernel) (br_f (by decide +kernel) (br_f (by decide +kernel) (br_t (by decide +kernel) (sx_at (sx_gv3 a ha b hb c hc) h))))))
  | 4, _, h => exact br_f (by decide +kernel) (br_f (by decide +kernel) (br_f (by decide +kernel) (br_f (by decide +kernel) (br_f (by decide +kernel) (br_f (by decide +kernel) (br_t (by decide +kernel) (sx_at (sx_gv4 a ha b hb c hc) h)))))))
  | 5, _, h => exact br_f (by decide +kernel) (br_f (by decide +kernel) (br_f (by decide +kernel) (br_f (by decide +kernel) (br_f (by decide +kernel) (br_f (by decide +kernel) (br_f (by decide +kernel) (br_t (by decide +kernel) (sx_at (sx_gv5 a ha b hb c hc) h))))))))
  | 6, _, h => exact br_f (by decide +kernel) (br_f (by decide +kernel) (br_f (by decide +kernel) (br_f (by decide +kernel) (br_f (by decide +kernel) (br_f (by decide +kernel) (br_f (by decide +kernel) (br_f (by decide +kernel) (br_t (by decide +kernel) (sx_at (sx_gv6 a ha b hb c hc) h)))))))))
  | 7, _, h => exact br_f (by decide +kernel) (br_f (by decide +kernel) (br_f (by decide +kernel) (br_f (by decide +kernel) (br_f (by decide +kernel) (br_f (by decide +kernel) (br_f (by decide +kernel) (br_f (by decide +kernel) (br_f (by decide +kernel) (br_t (by decide +kernel) (br_c (fun g => sx_at (sx_gv7t a ha b hb c hc g) h) (fun g => sx_at (sx_gv7f a ha b hb c hc g) h)))))))))))
  | 8, _, h => exact br_f (by decide +kernel) (br_f (by decide +kernel) (br_f (by decide +kernel) (br_f (by decide +kernel) (br_f (by decide +kernel) (br_f (by decide +kernel) (br_f (by decide +kernel) (br_f (by decide +kernel) (br_f (by decide +kernel) (br_f (by decide +kernel) (br_t (by decide +kernel) (br_c (fun g => sx_at (sx_gv8t a ha b hb c hc g) h) (fun g => sx_at (sx_gv8f a ha b hb c hc g) h))))))))))))
  | 9, _, h => exact br_f (by decide +kernel) (br_t (by decide +kernel) (sx_at (sx_gv9 a ha b hb c hc) h))
def sx_C (p : sq_P) (sc bg ws : Int32) (ki fi se th nx : Nat → Int32) : Prop :=
  sq_wf p ∧ sc = nI (7 + sq_c p) ∧ bg = nI (sq_s p) ∧ ws = nI (sq_w p) ∧ (∀ r, r < 4 → nx r = nI (sq_nx p r)) ∧
  ∀ g, g < sq_c p → ki (7 + g) = nI (sq_gk p g) ∧ fi (7 + g) = nI (sq_ga p g) ∧ se (7 + g) = nI (sq_gb p g) ∧ th (7 + g) = nI (sq_gc p g)
theorem sx_cl {x : Int32} {f : Nat → Int32} {n m : Nat} (ex : x = nI n) (hn : n < 2 ^ 31) (e : f n = nI m) : f x.toNatClampNeg = nI m := by
  subst ex
  rw [nI_clamp hn]
  exact e
theorem sx_in {x : Int32} {m N : Nat} (ex : x = nI m) (h : m < N) (hN : N < 2 ^ 31) : vp_in x N := by
  subst ex
  exact vp_in_nI h hN
theorem sx_up {x : Int32} {f : Nat → Int32} {n : Nat} {y y' : Int32} (ex : x = nI n) (hn : n < 2 ^ 31) (e : y = y') : upd f x.toNatClampNeg y = upd f n y' := by
  subst ex e
  rw [nI_clamp hn]
section
variable {p : sq_P} {sc bg ws bs : Int32} {ki fi se th nx va fo pa ke : Nat → Int32}
theorem sx_settle3 (H : sx_C p sc bg ws ki fi se th nx) {post : SX → Prop} {s l : Nat}
    (h : ∀ va' : Nat → Int32, (∀ i, i < 7 + sq_c p → va' i = nI (sq_V p s l i)) → post (sc, bg, ws, bs, ki, fi, se, th, nx, va', fo, pa, ke))
    (h0 : ∀ i, i < 7 → va i = nI (sq_base s l i)) : ∃ n, wX_settle_53 post sc bg ws bs n 7 ki fi se th nx va fo pa ke := by
  obtain ⟨wf, e1, e2, e3, e4, e5⟩ := H
  have hc := wf.1
  refine pk_loop (fun n g (va : Nat → Int32) => wX_settle_53 post sc bg ws bs n (nI (7 + g)) ki fi se th nx va fo pa ke)
    (fun g va => ∀ i, i < 7 + g → va i = nI (sq_pv p s l g i)) (sq_c p) 0 va (Nat.zero_le _) h0 ?_ ?_
  · intro n va hv
    refine br_t ?_ (h va hv)
    rw [e1]
    exact nI_le (Nat.le_refl _) (by omega)
  · intro n g va hg hv ih
    obtain ⟨k1, k2, k3, k4⟩ := e5 g hg
    obtain ⟨w1, w2, w3, w4⟩ := wf.2.2.2.2 g hg
    have hx : (nI (7 + g)).toNatClampNeg = 7 + g := nI_clamp (by omega)
    have i1 : vp_in (nI (7 + g)) 19 := vp_in_nI (by omega) (by omega)
    have f1 : ki (nI (7 + g)).toNatClampNeg = nI (sq_gk p g) := by rw [hx]; exact k1
    have f2 : fi (nI (7 + g)).toNatClampNeg = nI (sq_ga p g) := by rw [hx]; exact k2
    have f3 : se (nI (7 + g)).toNatClampNeg = nI (sq_gb p g) := by rw [hx]; exact k3
    have f4 : th (nI (7 + g)).toNatClampNeg = nI (sq_gc p g) := by rw [hx]; exact k4
    have hpv := sq_pv_lt wf s l g (by omega)
    refine br_f ?_ ⟨i1, i1, sx_in f2 (by omega) (by omega), i1, sx_in f3 (by omega) (by omega), i1, sx_in f4 (by omega) (by omega), ?_⟩
    · rw [e1]
      exact nI_ge (by omega) (by omega)
    · refine sx_gateValue w1 (hpv _) (hpv _) (hpv _) f1 (sx_cl f2 (by omega) (hv _ w2)) (sx_cl f3 (by omega) (hv _ w3)) (sx_cl f4 (by omega) (hv _ w4)) ?_
      refine ⟨i1, nm_r (sx_up rfl (by omega) rfl) (nm_r (nI_1 (7 + g)) (ih _ ?_))⟩
      intro i hi
      by_cases e : i = 7 + g
      · rw [e, pk_us, sq_pv_s]
      · rw [pk_un e, sq_pv_n e]
        exact hv i (by omega)
theorem sx_settle2 (H : sx_C p sc bg ws ki fi se th nx) {post : SX → Prop} {s l : Nat} (hs : s < 16)
    (h : ∀ va' : Nat → Int32, (∀ i, i < 7 + sq_c p → va' i = nI (sq_V p s l i)) → post (sc, bg, ws, bs, ki, fi, se, th, nx, va', fo, pa, ke))
    (h0 : ∀ i, i < 3 → va i = nI (sq_base s l i)) : ∃ n, wX_settle_26 post (nI s) sc bg ws bs n 0 ki fi se th nx va fo pa ke := by
  refine pk_loop (fun n g (va : Nat → Int32) => wX_settle_26 post (nI s) sc bg ws bs n (nI g) ki fi se th nx va fo pa ke)
    (fun g va => ∀ i, i < 3 + g → va i = nI (sq_base s l i)) 4 0 va (by omega) h0 ?_ ?_
  · intro n va hv
    exact br_t (by decide +kernel) (sx_settle3 H h hv)
  · intro n g va hg hv ih
    have e3 : (3 : Int32) + nI g = nI (3 + g) := nI_add 3 g
    refine br_f (nI_ge (b := 4) hg (by decide)) ⟨sx_in e3 (by omega) (by omega), nm_r (sx_up e3 (by omega) (sq_bit (by omega) (by omega))) (nm_r (nI_1 g) (ih _ ?_))⟩
    intro i hi
    by_cases e : i = 3 + g
    · rw [e, pk_us]
      unfold sq_base
      rw [if_neg (by omega), Nat.add_sub_cancel_left]
    · rw [pk_un e]
      exact hv i (by omega)
theorem sx_settle (H : sx_C p sc bg ws ki fi se th nx) {post : SX → Prop} {s l : Nat} {x y : Int32} (hs : s < 16) (hl : l < 8) (ex : x = nI s) (ey : y = nI l)
    (h : ∀ va' : Nat → Int32, (∀ i, i < 7 + sq_c p → va' i = nI (sq_V p s l i)) → post (sc, bg, ws, bs, ki, fi, se, th, nx, va', fo, pa, ke)) : wpX_settle post (sc, bg, ws, bs, ki, fi, se, th, nx, va, fo, pa, ke) x y := by
  subst ex ey
  refine pk_loop (fun n g (va : Nat → Int32) => wX_settle_2 post (nI s) (nI l) sc bg ws bs n (nI g) ki fi se th nx va fo pa ke)
    (fun g va => ∀ i, i < g → va i = nI (sq_base s l i)) 3 0 va (by omega) (fun i hi => absurd hi (Nat.not_lt_zero i)) ?_ ?_
  · intro n va hv
    exact br_t (by decide +kernel) (sx_settle2 H hs h hv)
  · intro n g va hg hv ih
    refine br_f (nI_ge (b := 3) hg (by decide)) ⟨vp_in_nI (by omega) (by omega), nm_r (sx_up rfl (by omega) (sq_bit (by omega) (by omega))) (nm_r (nI_1 g) (ih _ ?_))⟩
    intro i hi
    by_cases e : i = g
    · rw [e, pk_us]
      unfold sq_base
      rw [if_pos hg]
    · rw [pk_un e]
      exact hv i (by omega)
theorem sx_stateAfter (H : sx_C p sc bg ws ki fi se th nx) {post : Int32 → SX → Prop} {s l : Nat} {x y : Int32} (hs : s < 16) (hl : l < 8) (ex : x = nI s) (ey : y = nI l)
    (h : ∀ va' : Nat → Int32, va' (sq_w p) = nI (sq_B p s l) → post (nI (sq_T p s l)) (sc, bg, ws, bs, ki, fi, se, th, nx, va', fo, pa, ke)) : wpX_stateAfter post (sc, bg, ws, bs, ki, fi, se, th, nx, va, fo, pa, ke) x y := by
  unfold wpX_stateAfter
  refine sx_settle H hs hl ex ey (fun va' hv => ?_)
  have wf := H.1
  have hc := wf.1
  have e4 := H.2.2.2.2.1
  refine pk_loop (fun n r (x : Int32) => wX_stateAfter_11 post sc bg ws bs ki fi se th nx va' fo pa ke n x (nI r))
    (fun r x => x = nI (sq_sum (fun r => sq_V p s l (sq_nx p r)) r)) 4 0 (0 : Int32) (by omega) rfl ?_ ?_
  · intro n x hx
    refine br_t (by decide +kernel) ?_
    rw [hx]
    exact h va' (hv _ wf.2.2.1)
  · intro n r x hr hx ih
    have f1 : nx (nI r).toNatClampNeg = nI (sq_nx p r) := sx_cl rfl (by omega) (e4 r hr)
    have w1 := wf.2.2.2.1 r hr
    have f2 : va' (nx (nI r).toNatClampNeg).toNatClampNeg = nI (sq_V p s l (sq_nx p r)) := sx_cl f1 (by omega) (hv _ w1)
    refine br_f (nI_ge (b := 4) hr (by decide)) ⟨vp_in_nI hr (by omega), sx_in f1 (by omega) (by omega), nm_e (nm_r (nI_1 r) (ih _ ?_))⟩
    rw [hx, f2]
    exact sq_acc r hr _ (sq_sum_lt (f := fun r => sq_V p s l (sq_nx p r)) (fun r => sq_V_lt wf s l _) r) _ (sq_V_lt wf s l _)
end
