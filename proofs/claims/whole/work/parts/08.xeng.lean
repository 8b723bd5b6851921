def sq_ei (T B : Nat → Nat → Nat) (s : Nat) : Int32 := if sq_R T (2 ^ s) 15 &&& sq_bad B = 0 then 0 else 1
theorem sq_ei_1 {T B : Nat → Nat → Nat} (hT : sq_ok T) {s : Nat} (hs : s < 16) (h : sq_ev T B s) : sq_ei T B s = 1 := if_neg ((sq_ev_15 hT hs).mpr h)
theorem sq_ei_0 {T B : Nat → Nat → Nat} (hT : sq_ok T) {s : Nat} (hs : s < 16) (h : ¬ sq_ev T B s) : sq_ei T B s = 0 :=
  if_pos (Classical.byContradiction fun z => h ((sq_ev_15 hT hs).mp z))
theorem sq_ei_if {T B : Nat → Nat → Nat} (hT : sq_ok T) {s : Nat} (hs : s < 16) {c : Prop} {P : Int32 → Prop} (e : c ↔ ¬ sq_ev T B s) (h : P (sq_ei T B s)) : (c → P 0) ∧ (¬ c → P 1) := by
  refine br_c (fun g => ?_) (fun g => ?_)
  · rw [sq_ei_0 hT hs (e.mp g)] at h
    exact h
  · rw [sq_ei_1 hT hs (Classical.byContradiction fun z => g (e.mpr z))] at h
    exact h
theorem sq_ei_nar {T B : Nat → Nat → Nat} {s : Nat} : narrow .boolean (.int (sq_ei T B s)) = .int (sq_ei T B s) := by
  unfold sq_ei
  by_cases h : sq_R T (2 ^ s) 15 &&& sq_bad B = 0
  · rw [if_pos h]; rfl
  · rw [if_neg h]; rfl
theorem sx_b1 : vp_nar .boolean 1 = 1 := by decide
theorem sx_b0 : vp_nar .boolean 0 = 0 := by decide
section
variable {sc bg ws bs : Int32} {ki fi se th nx va fo pa ke : Nat → Int32}
theorem sx_clo40 {post : Int32 → SX → Prop} {J : Int32 → (Nat → Int32) → (Nat → Int32) → (Nat → Int32) → (Nat → Int32) → (Nat → Int32) → (Nat → Int32) → (Nat → Int32) → (Nat → Int32) → (Nat → Int32) → Prop}
    {q : Nat → Nat} {k : Nat} (hk : k < 16) (hq : ∀ s, s < 16 → q s < 2 ^ 16) (hpa : ∀ j, j < 16 → pa j = nI (q j))
    (h : ∀ pa' : Nat → Int32, (∀ j, j < 16 → pa' j = nI (sq_wp q k j)) → J (nI (k + 1)) ki fi se th nx va fo pa' ke) : ∃ n, wX_everByClosure_40 post J (nI k) sc bg ws bs n 0 ki fi se th nx va fo pa ke := by
  refine pk_loop (fun n s (pa : Nat → Int32) => wX_everByClosure_40 post J (nI k) sc bg ws bs n (nI s) ki fi se th nx va fo pa ke)
    (fun s pa => (∀ j, j < s → pa j = nI (sq_wp q k j)) ∧ ∀ j, s ≤ j → j < 16 → pa j = nI (q j)) 16 0 pa (by omega) ⟨fun j hj => absurd hj (Nat.not_lt_zero j), fun j _ hj => hpa j hj⟩ ?_ ?_
  · rintro n pa' ⟨k1, k2⟩
    exact br_t (by decide +kernel) (nm_r (nI_1 k) (h pa' k1))
  · rintro n s pa' hs ⟨k1, k2⟩ ih
    have f1 : pa' (nI s).toNatClampNeg = nI (q s) := sx_cl rfl (by omega) (k2 s (by omega) hs)
    have f2 : pa' (nI k).toNatClampNeg = nI (q k) := by
      refine sx_cl rfl (by omega) ?_
      rcases Nat.lt_or_ge k s with g | g
      · rw [k1 k g, sq_wp_k]
      · exact k2 k g hk
    have i1 : vp_in (nI s) 16 := vp_in_nI hs (by omega)
    have hqs := hq s hs
    refine br_f (nI_ge (b := 16) hs (by decide)) ⟨i1, sx_contains (s := k) (by omega) (by omega) f1 rfl (fun g => br_f sx_8 ⟨i1, vp_in_nI hk (by omega), i1, nm_r (sx_up rfl (by omega) rfl) (nm_r (nI_1 s) (ih _ ⟨?_, ?_⟩))⟩) (fun g => br_t rfl (nm_r (nI_1 s) (ih _ ⟨?_, ?_⟩)))⟩
    · intro j hj
      by_cases e : j = s
      · rw [e, pk_us, f1, f2, sq_nor]
        unfold sq_wp
        rw [if_pos g]
      · rw [pk_un e]
        exact k1 j (by omega)
    · intro j hj hj2
      rw [pk_un (by omega)]
      exact k2 j (by omega) hj2
    · intro j hj
      by_cases e : j = s
      · rw [e, k2 s (by omega) hs]
        unfold sq_wp
        rw [if_neg g]
      · exact k1 j (by omega)
    · exact fun j hj hj2 => k2 j (by omega) hj2
theorem sx_clo32 {T B : Nat → Nat → Nat} (hT : sq_ok T) {post : Int32 → SX → Prop} {s : Nat} (hs : s < 16) (hb : bg = nI s) (hbs : bs = nI (sq_bad B)) (hpa : ∀ j, j < 16 → pa j = nI (sq_p0 T j))
    (h : ∀ pa' : Nat → Int32, post (sq_ei T B s) (sc, bg, ws, bs, ki, fi, se, th, nx, va, fo, pa', ke)) : ∃ n, wX_everByClosure_32 post sc bg ws bs n 0 ki fi se th nx va fo pa ke := by
  have hW := sq_W_lt (fun s hs => sq_p0_lt hT (s := s) hs)
  refine pk_loop (fun n k (pa : Nat → Int32) => wX_everByClosure_32 post sc bg ws bs n (nI k) ki fi se th nx va fo pa ke)
    (fun k pa => ∀ j, j < 16 → pa j = nI (sq_W (sq_p0 T) k j)) 16 0 pa (by omega) hpa ?_ ?_
  · intro n pa' k1
    refine br_t (by decide +kernel) ⟨sx_in hb hs (by omega), sq_ei_if (P := fun r => post r (sc, bg, ws, bs, ki, fi, se, th, nx, va, fo, pa', ke)) hT hs ?_ (h pa')⟩
    rw [sx_cl hb (by omega) (k1 s hs), hbs, sq_and0 (hW 16 (by omega) s hs) sq_bad_lt, ← sq_ev_W (B := B) hs]
    exact ⟨fun a b => b a, fun a => Classical.byContradiction a⟩
  · intro n k pa' hk k1 ih
    exact br_f (nI_ge (b := 16) hk (by decide)) (sx_clo40 hk (hW k (by omega)) k1 (fun pa2 k2 => ih pa2 k2))
theorem sx_closure {T B : Nat → Nat → Nat} (hT : sq_ok T) {post : Int32 → SX → Prop} {s : Nat} (hs : s < 16) (hb : bg = nI s) (hbs : bs = nI (sq_bad B)) (hf : ∀ j, j < 16 → fo j = nI (sq_fol T j))
    (h : ∀ pa' : Nat → Int32, post (sq_ei T B s) (sc, bg, ws, bs, ki, fi, se, th, nx, va, fo, pa', ke)) : wpX_everByClosure post (sc, bg, ws, bs, ki, fi, se, th, nx, va, fo, pa, ke) := by
  refine pk_loop (fun n k (pa : Nat → Int32) => wX_everByClosure_2 post sc bg ws bs n (nI k) ki fi se th nx va fo pa ke)
    (fun k pa => ∀ j, j < k → pa j = nI (sq_p0 T j)) 16 0 pa (by omega) (fun j hj => absurd hj (Nat.not_lt_zero j)) ?_ ?_
  · intro n pa' k1
    exact br_t (by decide +kernel) (sx_clo32 hT hs hb hbs k1 h)
  · intro n k pa' hk k1 ih
    have e : fo (nI k).toNatClampNeg ||| ((1 : Int32) <<< (nI k &&& 31)) = nI (sq_p0 T k) := by
      rw [sx_cl rfl (by omega) (hf k hk), sq_one k hk, sq_nor]
      rfl
    have i1 : vp_in (nI k) 16 := vp_in_nI hk (by omega)
    refine br_f (nI_ge (b := 16) hk (by decide)) ⟨i1, i1, nm_r (sx_up rfl (by omega) e) (nm_r (nI_1 k) (ih _ ?_))⟩
    intro j hj
    by_cases z : j = k
    · rw [z, pk_us]
    · rw [pk_un z]
      exact k1 j (by omega)
theorem sx_strike {post : SX → Prop} {S : Nat} {x : Int32} (hS : S < 2 ^ 16) (ex : x = nI S)
    (h : ∀ ke' : Nat → Int32, (∀ c, c < 256 → (¬ ke' c = 0 ↔ (¬ ke c = 0 ∧ ∀ j, S.testBit j = true → (sq_cl c).testBit j = true))) → post (sc, bg, ws, bs, ki, fi, se, th, nx, va, fo, pa, ke')) : wpX_strikeOut post (sc, bg, ws, bs, ki, fi, se, th, nx, va, fo, pa, ke) x := by
  subst ex
  refine pk_loop (fun n i (kf : Nat → Int32) => wX_strikeOut_2 post (nI S) sc bg ws bs n (nI i) ki fi se th nx va fo pa kf)
    (fun i kf => (∀ c, c < i → (¬ kf c = 0 ↔ (¬ ke c = 0 ∧ ∀ j, S.testBit j = true → (sq_cl c).testBit j = true))) ∧ ∀ c, i ≤ c → kf c = ke c) 256 0 ke (by omega) ⟨fun j hj => absurd hj (Nat.not_lt_zero j), fun c _ => rfl⟩ ?_ ?_
  · rintro n kf ⟨k1, k2⟩
    exact br_t (by decide +kernel) (h kf k1)
  · rintro n i kf hi ⟨k1, k2⟩ ih
    refine br_f (nI_ge (b := 256) hi (by decide)) (sx_cla hi rfl (br_c (fun g => nm_r (nI_1 i) (ih _ ⟨?_, fun c hc => k2 c (by omega)⟩)) (fun g => ⟨vp_in_nI hi (by omega), nm_r (sx_up rfl (by omega) sx_b0) (nm_r (nI_1 i) (ih _ ⟨?_, ?_⟩))⟩)))
    · intro c hc
      by_cases e : c = i
      · rw [e, k2 i (by omega)]
        exact ⟨fun a => ⟨a, (sq_sub0 hS).mp g⟩, fun a => a.1⟩
      · exact k1 c (by omega)
    · intro c hc
      by_cases e : c = i
      · rw [e, pk_us]
        exact ⟨fun a => absurd rfl a, fun a => absurd ((sq_sub0 hS).mpr a.2) g⟩
      · rw [pk_un e]
        exact k1 c (by omega)
    · intro c hc
      rw [pk_un (by omega)]
      exact k2 c (by omega)
theorem sx_allowed {post : Int32 → Prop} (h : post (nI (sq_and (fun c => decide (¬ ke c = 0)) sq_cl 256))) : wpX_allowedByClauses post (sc, bg, ws, bs, ki, fi, se, th, nx, va, fo, pa, ke) := by
  refine pk_loop (fun n i (y : Int32) => wX_allowedByClauses_5 post sc bg ws bs ki fi se th nx va fo pa ke n y (nI i))
    (fun i y => y = nI (sq_and (fun c => decide (¬ ke c = 0)) sq_cl i)) 256 0 (65535 : Int32) (by omega) rfl ?_ ?_
  · intro n y hy
    refine br_t (by decide +kernel) ?_
    rw [hy]
    exact h
  · intro n i y hi hy ih
    have e : ke (nI i).toNatClampNeg = ke i := by rw [nI_clamp (by omega)]
    refine br_f (nI_ge (b := 256) hi (by decide)) ⟨vp_in_nI hi (by omega), br_c (fun g => nm_r (nI_1 i) (ih _ ?_)) (fun g => sx_cla hi rfl (nm_e (nm_r (nI_1 i) (ih _ ?_))))⟩
    · rw [hy, sq_and_f]
      rw [e] at g
      exact fun z => (of_decide_eq_true z) g
    · rw [hy, nx_and, sq_and_t]
      rw [e] at g
      exact decide_eq_true g
theorem sx_cl31 {T B : Nat → Nat → Nat} (hT : sq_ok T) {post : Int32 → SX → Prop} {s : Nat} {x : Int32} (hs : s < 16) (hbs : bs = nI (sq_bad B)) (hf : ∀ j, j < 16 → fo j = nI (sq_fol T j)) (hk : ∀ c, c < 256 → ¬ ke c = 0) (ex : x = nI (2 ^ s))
    (h : ∀ ke' : Nat → Int32, post (sq_ei T B s) (sc, bg, ws, bs, ki, fi, se, th, nx, va, fo, pa, ke')) : ∃ n, wX_everByClauses_31 post n x 0 sc bg ws bs ki fi se th nx va fo pa ke := by
  have hR := sq_R_lt hT (sq_p2lt hs)
  refine pk_loop (fun n i (q : Int32 × (Nat → Int32)) => wX_everByClauses_31 post n q.1 (nI i) sc bg ws bs ki fi se th nx va fo pa q.2)
    (fun i q => q.1 = nI (sq_R T (2 ^ s) i) ∧ ∀ c, c < 256 → (∀ t, (sq_R T (2 ^ s) i).testBit t = true → (sq_cl c).testBit t = true) → ¬ q.2 c = 0) 16 0 (x, ke) (by omega) ⟨ex, fun c hc _ => hk c hc⟩ ?_ ?_
  · rintro n ⟨y, kf⟩ ⟨k1, k2⟩
    refine br_t (by decide +kernel) (sq_ei_if (P := fun r => post r (sc, bg, ws, bs, ki, fi, se, th, nx, va, fo, pa, kf)) hT hs ?_ (h kf))
    have k1' : y = nI (sq_R T (2 ^ s) 15) := by
      rw [← sq_R_fix hT hs]
      exact k1
    rw [k1', hbs, sq_and0 (hR 15) sq_bad_lt, ← sq_ev_15 (B := B) hT hs]
    exact ⟨fun a b => b a, fun a => Classical.byContradiction a⟩
  · rintro n i ⟨y, kf⟩ hi ⟨k1, k2⟩ ih
    have k1' : y = nI (sq_R T (2 ^ s) i) := k1
    have e : y ||| nI (sq_img T (sq_R T (2 ^ s) i)) = nI (sq_R T (2 ^ s) (i + 1)) := by
      rw [k1', sq_nor]
      rfl
    refine br_f (nI_ge (b := 16) hi (by decide)) (sx_allF hT (hR i) hf k1' (nm_r e (sx_strike (hR (i + 1)) rfl (fun ke' hke => sx_allowed (nm_r (nI_1 i) ?_)))))
    have hk2 : ∀ c, c < 256 → ((decide (¬ ke' c = 0)) = true ↔ ∀ t, (sq_R T (2 ^ s) (i + 1)).testBit t = true → (sq_cl c).testBit t = true) := by
      intro c hc
      rw [decide_eq_true_eq, hke c hc]
      exact ⟨fun a => a.2, fun a => ⟨k2 c hc (sq_R_sub a), a⟩⟩
    rw [sq_cla (hR (i + 1)) hk2]
    exact ih (nI (sq_R T (2 ^ s) (i + 1)), ke') ⟨rfl, fun c hc a => of_decide_eq_true ((hk2 c hc).mpr a)⟩
theorem sx_clauses {T B : Nat → Nat → Nat} (hT : sq_ok T) {post : Int32 → SX → Prop} {s : Nat} (hs : s < 16) (hb : bg = nI s) (hbs : bs = nI (sq_bad B)) (hf : ∀ j, j < 16 → fo j = nI (sq_fol T j))
    (h : ∀ ke' : Nat → Int32, post (sq_ei T B s) (sc, bg, ws, bs, ki, fi, se, th, nx, va, fo, pa, ke')) : wpX_everByClauses post (sc, bg, ws, bs, ki, fi, se, th, nx, va, fo, pa, ke) := by
  subst hb
  refine nm_r (sq_one s hs) ?_
  refine pk_loop (fun n i (kf : Nat → Int32) => wX_everByClauses_9 post (nI (2 ^ s)) sc (nI s) ws bs n (nI i) ki fi se th nx va fo pa kf)
    (fun i kf => ∀ c, c < i → ¬ kf c = 0) 256 0 ke (by omega) (fun j hj => absurd hj (Nat.not_lt_zero j)) ?_ ?_
  · intro n kf k1
    exact br_t (by decide +kernel) (sx_cl31 hT hs hbs hf k1 rfl h)
  · intro n i kf hi k1 ih
    refine br_f (nI_ge (b := 256) hi (by decide)) ⟨vp_in_nI hi (by omega), nm_r (sx_up rfl (by omega) sx_b1) (nm_r (nI_1 i) (ih _ ?_))⟩
    intro c hc
    by_cases e : c = i
    · rw [e, pk_us]
      exact sx_8
    · rw [pk_un e]
      exact k1 c (by omega)
end
