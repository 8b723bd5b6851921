theorem sx_8 : ¬ (1 : Int32) = 0 := by decide
section
variable {p : sq_P} {sc bg ws bs : Int32} {ki fi se th nx va fo pa ke : Nat → Int32}
theorem sx_tab22 (H : sx_C p sc bg ws ki fi se th nx) {post : SX → Prop} {J : Int32 → Int32 → Int32 → Int32 → Int32 → (Nat → Int32) → (Nat → Int32) → (Nat → Int32) → (Nat → Int32) → (Nat → Int32) → (Nat → Int32) → (Nat → Int32) → (Nat → Int32) → (Nat → Int32) → Prop}
    {s : Nat} (hs : s < 16) (hbs : bs = nI (sq_xb (sq_B p) s)) (hfo : ∀ j, j < s → fo j = nI (sq_fol (sq_T p) j)) (hf0 : fo s = 0)
    (h : ∀ va' fo' : Nat → Int32, (∀ j, j < s + 1 → fo' j = nI (sq_fol (sq_T p) j)) → J (nI (s + 1)) sc bg ws (nI (sq_xb (sq_B p) (s + 1))) ki fi se th nx va' fo' pa ke) :
    ∃ n, wX_tabulate_22 post J (nI s) n 0 sc bg ws bs ki fi se th nx va fo pa ke := by
  have wf := H.1
  have hc := wf.1
  have hw := wf.2.2.1
  have e3 := H.2.2.2.1
  refine pk_loop (fun n l (q : (Nat → Int32) × (Nat → Int32) × Int32) => wX_tabulate_22 post J (nI s) n (nI l) sc bg ws q.2.2 ki fi se th nx q.1 q.2.1 pa ke)
    (fun l q => q.2.2 = nI (sq_or (sq_xb (sq_B p) s) (fun _ => true) (fun l => sq_B p s l * 2 ^ s) l) ∧ (∀ j, j < s → q.2.1 j = nI (sq_fol (sq_T p) j)) ∧ q.2.1 s = nI (sq_or 0 (fun _ => true) (fun l => 2 ^ sq_T p s l) l))
    8 0 (va, fo, bs) (by omega) ⟨hbs, hfo, hf0⟩ ?_ ?_
  · rintro n ⟨va', fo', bs'⟩ ⟨k1, k2, k3⟩
    have k1' : bs' = nI (sq_xb (sq_B p) (s + 1)) := k1
    subst k1'
    refine br_t (by decide +kernel) (nm_r (nI_1 s) (h va' fo' ?_))
    intro j hj
    by_cases e : j = s
    · rw [e]; exact k3
    · exact k2 j (by omega)
  · rintro n l ⟨va', fo', bs'⟩ hl ⟨k1, k2, k3⟩ ih
    have k1' : bs' = nI (sq_or (sq_xb (sq_B p) s) (fun _ => true) (fun l => sq_B p s l * 2 ^ s) l) := k1
    have k3' : fo' s = nI (sq_or 0 (fun _ => true) (fun l => 2 ^ sq_T p s l) l) := k3
    refine br_f (nI_ge (b := 8) hl (by decide)) ?_
    refine sx_stateAfter H hs hl rfl rfl (fun va2 hv => ?_)
    have g1 : va2 ws.toNatClampNeg = nI (sq_B p s l) := sx_cl e3 (by omega) hv
    have g2 : fo' (nI s).toNatClampNeg = nI (sq_or 0 (fun _ => true) (fun l => 2 ^ sq_T p s l) l) := sx_cl rfl (by omega) k3'
    have e5 : fo' (nI s).toNatClampNeg ||| ((1 : Int32) <<< (nI (sq_T p s l) &&& 31)) = nI (sq_or 0 (fun _ => true) (fun l => 2 ^ sq_T p s l) (l + 1)) := by
      rw [g2, sq_one _ (sq_T_lt wf s l), sq_nor, sq_or_t rfl]
    have e6 : bs' ||| (va2 ws.toNatClampNeg <<< (nI s &&& 31)) = nI (sq_or (sq_xb (sq_B p) s) (fun _ => true) (fun l => sq_B p s l * 2 ^ s) (l + 1)) := by
      rw [k1', g1, sq_shl _ (sq_B_lt wf s l) s hs, sq_nor, sq_or_t rfl]
    have i1 : vp_in (nI s) 16 := vp_in_nI hs (by omega)
    refine ⟨i1, i1, nm_r (sx_up rfl (by omega) e5) ⟨sx_in e3 (by omega) (by omega), nm_r e6 (nm_r (nI_1 l) (ih (va2, upd fo' s (nI (sq_or 0 (fun _ => true) (fun l => 2 ^ sq_T p s l) (l + 1))), nI (sq_or (sq_xb (sq_B p) s) (fun _ => true) (fun l => sq_B p s l * 2 ^ s) (l + 1))) ⟨rfl, ?_, ?_⟩))⟩⟩
    · intro j hj
      show upd fo' s _ j = _
      rw [pk_un (by omega)]
      exact k2 j hj
    · exact pk_us
theorem sx_tabulate (H : sx_C p sc bg ws ki fi se th nx) {post : SX → Prop}
    (h : ∀ va' fo' : Nat → Int32, (∀ j, j < 16 → fo' j = nI (sq_fol (sq_T p) j)) → post (sc, bg, ws, (nI (sq_bad (sq_B p))), ki, fi, se, th, nx, va', fo', pa, ke)) : wpX_tabulate post (sc, bg, ws, bs, ki, fi, se, th, nx, va, fo, pa, ke) := by
  have wf := H.1
  refine pk_loop (fun n s (q : (Nat → Int32) × (Nat → Int32) × Int32) => wX_tabulate_7 post n (nI s) sc bg ws q.2.2 ki fi se th nx q.1 q.2.1 pa ke)
    (fun s q => q.2.2 = nI (sq_xb (sq_B p) s) ∧ ∀ j, j < s → q.2.1 j = nI (sq_fol (sq_T p) j)) 16 0 (va, fo, (0 : Int32)) (by omega) ⟨rfl, fun j hj => absurd hj (Nat.not_lt_zero j)⟩ ?_ ?_
  · rintro n ⟨va', fo', bs'⟩ ⟨k1, k2⟩
    have k1' : bs' = nI (sq_bad (sq_B p)) := by
      rw [← sq_xb_16 (fun s l _ _ => sq_B_lt wf s l)]
      exact k1
    subst k1'
    exact br_t (by decide +kernel) (h va' fo' k2)
  · rintro n s ⟨va', fo', bs'⟩ hs ⟨k1, k2⟩ ih
    refine br_f (nI_ge (b := 16) hs (by decide)) ⟨vp_in_nI hs (by omega), nm_r (sx_up rfl (by omega) rfl) ?_⟩
    refine sx_tab22 H hs k1 ?_ pk_us (fun va2 fo2 hf => ih (va2, fo2, nI (sq_xb (sq_B p) (s + 1))) ⟨rfl, hf⟩)
    intro j hj
    rw [pk_un (by omega)]
    exact k2 j hj
end
theorem sx_contains {post : Int32 → Prop} {x y : Int32} {a s : Nat} (ha : a < 2 ^ 31) (hs : s < 32) (ex : x = nI a) (ey : y = nI s)
    (h1 : a.testBit s = true → post 1) (h0 : ¬ a.testBit s = true → post 0) : wpX_contains post x y := by
  subst ex ey
  exact br_c (fun g => h1 ((sq_bit1 ha hs).mp g)) (fun g => h0 (fun z => g ((sq_bit1 ha hs).mpr z)))
theorem sq_fs_t {P : Nat → Bool} {d i : Nat} (h : P i = true) : sq_fs P (d + 1) i = nI i := if_pos h
theorem sq_fs_f {P : Nat → Bool} {d i : Nat} (h : ¬ P i = true) : sq_fs P (d + 1) i = sq_fs P d (i + 1) := if_neg h
section
variable {sc bg ws bs : Int32} {ki fi se th nx va fo pa ke : Nat → Int32}
theorem sx_allF {T : Nat → Nat → Nat} (hT : sq_ok T) {post : Int32 → Prop} {S : Nat} {x : Int32} (hS : S < 2 ^ 16) (hf : ∀ j, j < 16 → fo j = nI (sq_fol T j)) (ex : x = nI S)
    (h : post (nI (sq_img T S))) : wpX_allFollowers post (sc, bg, ws, bs, ki, fi, se, th, nx, va, fo, pa, ke) x := by
  subst ex
  refine pk_loop (fun n i (y : Int32) => wX_allFollowers_4 post (nI S) sc bg ws bs ki fi se th nx va fo pa ke n y (nI i))
    (fun i y => y = nI (sq_or 0 (fun s => S.testBit s) (sq_fol T) i)) 16 0 (0 : Int32) (by omega) rfl ?_ ?_
  · intro n y hy
    refine br_t (by decide +kernel) ?_
    rw [hy, sq_all]
    exact h
  · intro n i y hi hy ih
    refine br_f (nI_ge (b := 16) hi (by decide)) (sx_contains (a := S) (s := i) (by omega) (by omega) rfl rfl (fun g => br_f sx_8 ⟨vp_in_nI hi (by omega), nm_e (nm_r (nI_1 i) (ih _ ?_))⟩) (fun g => br_t rfl (nm_r (nI_1 i) (ih _ ?_))))
    · rw [hy, sx_cl rfl (by omega) (hf i hi), sq_nor, sq_or_t g]
    · rw [hy, sq_or_f g]
theorem sx_into {T : Nat → Nat → Nat} (hT : sq_ok T) {post : Int32 → Prop} {S : Nat} {x : Int32} (hS : S < 2 ^ 16) (hf : ∀ j, j < 16 → fo j = nI (sq_fol T j)) (ex : x = nI S)
    (h : post (nI (sq_pre T S))) : wpX_allThatLeadInto post (sc, bg, ws, bs, ki, fi, se, th, nx, va, fo, pa, ke) x := by
  subst ex
  refine pk_loop (fun n i (y : Int32) => wX_allThatLeadInto_4 post (nI S) sc bg ws bs ki fi se th nx va fo pa ke n y (nI i))
    (fun i y => y = nI (sq_or 0 (fun s => decide (¬ sq_fol T s &&& S = 0)) (fun s => 2 ^ s) i)) 16 0 (0 : Int32) (by omega) rfl ?_ ?_
  · intro n y hy
    refine br_t (by decide +kernel) ?_
    rw [hy, sq_into]
    exact h
  · intro n i y hi hy ih
    have e : fo (nI i).toNatClampNeg &&& nI S = 0 ↔ sq_fol T i &&& S = 0 := by
      rw [sx_cl rfl (by omega) (hf i hi)]
      exact sq_and0 (sq_fol_lt hT hi) hS
    refine br_f (nI_ge (b := 16) hi (by decide)) ⟨vp_in_nI hi (by omega), br_c (fun g => nm_r (nI_1 i) (ih _ ?_)) (fun g => nm_e (nm_r (nI_1 i) (ih _ ?_)))⟩
    · rw [hy, sq_or_f]
      exact fun z => (of_decide_eq_true z) (e.mp g)
    · rw [hy, sq_one i hi, sq_nor, sq_or_t]
      exact decide_eq_true fun z => g (e.mpr z)
theorem sx_until {T : Nat → Nat → Nat} (hT : sq_ok T) {post : Int32 → Prop} {s G : Nat} {x : Int32} (hs : s < 16) (hG : G < 2 ^ 16) (hf : ∀ j, j < 16 → fo j = nI (sq_fol T j)) (hb : bg = nI s) (ex : x = nI G)
    (h : post (sq_fs (fun n => decide (¬ sq_R T (2 ^ s) n &&& G = 0)) 16 0)) : wpX_cyclesUntil post (sc, bg, ws, bs, ki, fi, se, th, nx, va, fo, pa, ke) x := by
  subst ex hb
  have hR := sq_R_lt hT (sq_p2lt hs)
  refine nm_r (sq_one s hs) ?_
  refine pk_loop (fun n i (y : Int32) => wX_cyclesUntil_9 post (nI G) sc (nI s) ws bs ki fi se th nx va fo pa ke n y (nI i))
    (fun i y => y = nI (sq_R T (2 ^ s) i) ∧ sq_fs (fun n => decide (¬ sq_R T (2 ^ s) n &&& G = 0)) (16 - i) i = sq_fs (fun n => decide (¬ sq_R T (2 ^ s) n &&& G = 0)) 16 0) 16 0 (nI (2 ^ s)) (by omega) ⟨rfl, rfl⟩ ?_ ?_
  · rintro n y ⟨hy, hv⟩
    refine br_t (by decide +kernel) ?_
    rw [← hv] at h
    exact h
  · rintro n i y hi ⟨hy, hv⟩ ih
    have e : y &&& nI G = 0 ↔ sq_R T (2 ^ s) i &&& G = 0 := by
      rw [hy]
      exact sq_and0 (hR i) hG
    rw [show 16 - i = (16 - (i + 1)) + 1 by omega] at hv
    refine br_f (nI_ge (b := 16) hi (by decide)) (br_c (fun g => ?_) (fun g => ?_))
    · refine sx_allF hT (hR i) hf hy (nm_e (nm_r (nI_1 i) (ih _ ⟨?_, ?_⟩)))
      · rw [hy, sq_nor]
        rfl
      · rw [← hv, sq_fs_f]
        exact fun z => (of_decide_eq_true z) (e.mp g)
    · have g' : ¬ sq_R T (2 ^ s) i &&& G = 0 := fun z => g (e.mpr z)
      rw [sq_fs_t (P := fun n => decide (¬ sq_R T (2 ^ s) n &&& G = 0)) (decide_eq_true g')] at hv
      rw [← hv] at h
      exact h
theorem sx_toBad {T B : Nat → Nat → Nat} (hT : sq_ok T) {post : Int32 → Prop} {s : Nat} {x : Int32} (hs : s < 16) (hf : ∀ j, j < 16 → fo j = nI (sq_fol T j)) (hb : bs = nI (sq_bad B)) (ex : x = nI s)
    (h : post (sq_fs (fun n => (sq_K T (sq_bad B) n).testBit s) 16 0)) : wpX_cyclesToBad post (sc, bg, ws, bs, ki, fi, se, th, nx, va, fo, pa, ke) x := by
  subst ex
  have hK := sq_K_lt (T := T) (S := sq_bad B) sq_bad_lt
  refine pk_loop (fun n i (y : Int32) => wX_cyclesToBad_7 post (nI s) sc bg ws bs ki fi se th nx va fo pa ke n y (nI i))
    (fun i y => y = nI (sq_K T (sq_bad B) i) ∧ sq_fs (fun n => (sq_K T (sq_bad B) n).testBit s) (16 - i) i = sq_fs (fun n => (sq_K T (sq_bad B) n).testBit s) 16 0) 16 0 bs (by omega) ⟨hb, rfl⟩ ?_ ?_
  · rintro n y ⟨hy, hv⟩
    refine br_t (by decide +kernel) ?_
    rw [← hv] at h
    exact h
  · rintro n i y hi ⟨hy, hv⟩ ih
    have hKi := hK i
    rw [show 16 - i = (16 - (i + 1)) + 1 by omega] at hv
    refine br_f (nI_ge (b := 16) hi (by decide)) (sx_contains (s := s) (by omega) (by omega) hy rfl (fun g => br_f sx_8 ?_) (fun g => br_t rfl ?_))
    · rw [sq_fs_t (P := fun n => (sq_K T (sq_bad B) n).testBit s) g] at hv
      rw [← hv] at h
      exact h
    · refine sx_into hT hKi hf hy (nm_e (nm_r (nI_1 i) (ih _ ⟨?_, ?_⟩)))
      · rw [hy, sq_nor]
        rfl
      · rw [← hv, sq_fs_f]
        exact g
end
theorem sx_sw {post : Int32 → Prop} {o z : Nat} {x y : Int32} (ho : o < 16) (hz : z < 16) (ex : x = nI o) (ey : y = nI z) (h : post (nI (sq_sw o z))) : wpX_statesWith post x y := by
  subst ex ey
  refine pk_loop (fun n i (y : Int32) => wX_statesWith_4 post (nI o) (nI z) n y (nI i))
    (fun i y => y = nI (sq_or 0 (fun s => sq_has s o z) (fun s => 2 ^ s) i)) 16 0 (0 : Int32) (by omega) rfl ?_ ?_
  · intro n y hy
    refine br_t (by decide +kernel) ?_
    rw [hy]
    exact h
  · intro n i y hi hy ih
    have e1 : nI i &&& nI o = 0 ↔ i &&& o = 0 := sq_and0 (by omega) (by omega)
    have e2 := sq_nhas i hi z hz
    have t : sq_has i o z = true → wX_statesWith_24 post (wX_statesWith_4 post (nI o) (nI z) n) (nI o) (nI z) y (nI i) := by
      intro g
      refine nm_e (nm_r (nI_1 i) (ih _ ?_))
      rw [hy, sq_one i hi, sq_nor, sq_or_t (f := fun s => sq_has s o z) g]
    refine br_f (nI_ge (b := 16) hi (by decide)) (br_c (fun g => br_c (fun g2 => nm_r (nI_1 i) (ih _ ?_)) (fun g2 => t ?_)) (fun g => t ?_))
    · rw [hy, sq_or_f]
      intro w
      exact (of_decide_eq_true w).elim (fun q => q (e1.mp g)) (fun q => q (e2.mp g2))
    · exact decide_eq_true (Or.inr fun q => g2 (e2.mpr q))
    · exact decide_eq_true (Or.inl fun q => g (e1.mpr q))
theorem sx_cla {post : Int32 → Prop} {c : Nat} {x : Int32} (hc : c < 256) (ex : x = nI c) (h : post (nI (sq_cl c))) : wpX_statesWithClause post x := by
  subst ex
  exact ⟨by decide, by decide, sx_sw (o := c % 16) (z := c / 16) (by omega) (by omega) (pk_rem (d := 16) (by omega) (by decide) (by decide)) (pk_div (d := 16) (by omega) (by decide) (by decide)) h⟩
