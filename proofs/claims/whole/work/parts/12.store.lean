def sq_put (f : Nat → Nat) (n v : Nat) : Nat → Nat := fun j => if j = n then v else f j
theorem sq_put_s {f : Nat → Nat} {n v : Nat} : sq_put f n v n = v := if_pos rfl
theorem sq_put_n {f : Nat → Nat} {n v j : Nat} (h : j ≠ n) : sq_put f n v j = f j := if_neg h
def sq_gate (p : sq_P) (k a b d : Nat) : sq_P := (sq_c p + 1, sq_s p, sq_w p, sq_nx p, sq_put (sq_gk p) (sq_c p) k, sq_put (sq_ga p) (sq_c p) a, sq_put (sq_gb p) (sq_c p) b, sq_put (sq_gc p) (sq_c p) d)
theorem sq_gate_wf {p : sq_P} {k a b d : Nat} (wf : sq_wf p) (hc : sq_c p < 12) (hk : k < 10) (ha : a < 7 + sq_c p) (hb : b < 7 + sq_c p) (hd : d < 7 + sq_c p) : sq_wf (sq_gate p k a b d) := by
  obtain ⟨w1, w2, w3, w4, w5⟩ := wf
  refine ⟨hc, w2, Nat.lt_succ_of_lt w3, fun r hr => Nat.lt_succ_of_lt (w4 r hr), ?_⟩
  intro g hg
  have hg' : g < sq_c p + 1 := hg
  show sq_put (sq_gk p) (sq_c p) k g < 10 ∧ sq_put (sq_ga p) (sq_c p) a g < 7 + g ∧ sq_put (sq_gb p) (sq_c p) b g < 7 + g ∧ sq_put (sq_gc p) (sq_c p) d g < 7 + g
  by_cases e : g = sq_c p
  · subst e
    rw [sq_put_s, sq_put_s, sq_put_s, sq_put_s]
    exact ⟨hk, ha, hb, hd⟩
  · rw [sq_put_n e, sq_put_n e, sq_put_n e, sq_put_n e]
    exact w5 g (by omega)
def sq_drop (p : sq_P) (c : Nat) : sq_P := (c, sq_s p, if sq_w p = 7 + c then 0 else sq_w p, fun r => if sq_nx p r = 7 + c then 3 + r else sq_nx p r, sq_gk p, sq_ga p, sq_gb p, sq_gc p)
theorem sq_drop_wf {p : sq_P} {c : Nat} (wf : sq_wf p) (hc : sq_c p = c + 1) : sq_wf (sq_drop p c) := by
  obtain ⟨w1, w2, w3, w4, w5⟩ := wf
  refine ⟨show c ≤ 12 by omega, w2, ?_, ?_, fun g hg => w5 g (Nat.lt_trans (show g < c from hg) (by omega))⟩
  · show (if sq_w p = 7 + c then 0 else sq_w p) < 7 + c
    by_cases e : sq_w p = 7 + c
    · rw [if_pos e]; omega
    · rw [if_neg e]; omega
  · intro r hr
    have := w4 r hr
    show (if sq_nx p r = 7 + c then 3 + r else sq_nx p r) < 7 + c
    by_cases e : sq_nx p r = 7 + c
    · rw [if_pos e]; omega
    · rw [if_neg e]; omega
def sq_next (p : sq_P) (r a : Nat) : sq_P := (sq_c p, sq_s p, sq_w p, sq_put (sq_nx p) r a, sq_gk p, sq_ga p, sq_gb p, sq_gc p)
theorem sq_next_wf {p : sq_P} {r a : Nat} (wf : sq_wf p) (ha : a < 7 + sq_c p) : sq_wf (sq_next p r a) := by
  obtain ⟨w1, w2, w3, w4, w5⟩ := wf
  refine ⟨w1, w2, w3, ?_, w5⟩
  intro q hq
  show sq_put (sq_nx p) r a q < 7 + sq_c p
  by_cases e : q = r
  · rw [e, sq_put_s]; exact ha
  · rw [sq_put_n e]; exact w4 q hq
def sq_bg (s r v : Nat) : Nat := s - (s / 2 ^ r % 2) * 2 ^ r + v * 2 ^ r
theorem sq_bg_lt : ∀ s, s < 16 → ∀ r, r < 4 → ∀ v, v < 2 → sq_bg s r v < 16 := by decide +kernel
theorem sq_bg_e : ∀ s, s < 16 → ∀ r, r < 4 → ∀ v, v < 2 → (nI s &&& (((1 : Int32) <<< (nI r &&& 31)) ^^^ (-1))) ||| (nI v <<< (nI r &&& 31)) = nI (sq_bg s r v) := by decide +kernel
def sq_begin (p : sq_P) (s : Nat) : sq_P := (sq_c p, s, sq_w p, sq_nx p, sq_gk p, sq_ga p, sq_gb p, sq_gc p)
def sq_watch (p : sq_P) (w : Nat) : sq_P := (sq_c p, sq_s p, w, sq_nx p, sq_gk p, sq_ga p, sq_gb p, sq_gc p)
def sq_nil : sq_P := (0, 0, 0, fun r => 3 + r, fun _ => 0, fun _ => 0, fun _ => 0, fun _ => 0)
theorem sq_nil_wf : sq_wf sq_nil := ⟨by decide, by decide, by decide, fun r hr => (show 3 + r < 7 by omega), fun g hg => absurd hg (Nat.not_lt_zero g)⟩
section
variable {p : sq_P} {sc bg ws bs : Int32} {ki fi se th nx va fo pa ke : Nat → Int32}
theorem sx_sig (H : sx_C p sc bg ws ki fi se th nx) {post : Int32 → Prop} {x : Int32} {a : Nat} (ha : a < 7 + sq_c p) (ex : x = nI a) (h : post 1) : wpX_isSignal post (sc, bg, ws, bs, ki, fi, se, th, nx, va, fo, pa, ke) x := by
  have wf := H.1
  have hc := wf.1
  have e1 := H.2.1
  subst ex e1
  exact br_f (nI_pos (by omega)) (br_f (nI_ge ha (by omega)) h)
theorem sx_nsig (H : sx_C p sc bg ws ki fi se th nx) {post : Int32 → Prop} {x : Int32} (hx : sx_out x (7 + sq_c p)) (h : post 0) : wpX_isSignal post (sc, bg, ws, bs, ki, fi, se, th, nx, va, fo, pa, ke) x :=
  sx_outL (by have := H.1.1; omega) H.2.1 hx h
theorem sx_gate_C (H : sx_C p sc bg ws ki fi se th nx) {k a b d : Nat} (hc : sq_c p < 12) (hk : k < 10) (ha : a < 7 + sq_c p) (hb : b < 7 + sq_c p) (hd : d < 7 + sq_c p) :
    sx_C (sq_gate p k a b d) (nI (7 + sq_c p + 1)) bg ws (upd ki (7 + sq_c p) (nI k)) (upd fi (7 + sq_c p) (nI a)) (upd se (7 + sq_c p) (nI b)) (upd th (7 + sq_c p) (nI d)) nx := by
  obtain ⟨wf, e1, e2, e3, e4, e5⟩ := H
  refine ⟨sq_gate_wf wf hc hk ha hb hd, rfl, e2, e3, e4, ?_⟩
  intro g hg
  have hg' : g < sq_c p + 1 := hg
  show upd ki (7 + sq_c p) (nI k) (7 + g) = nI (sq_put (sq_gk p) (sq_c p) k g) ∧ upd fi (7 + sq_c p) (nI a) (7 + g) = nI (sq_put (sq_ga p) (sq_c p) a g) ∧ upd se (7 + sq_c p) (nI b) (7 + g) = nI (sq_put (sq_gb p) (sq_c p) b g) ∧ upd th (7 + sq_c p) (nI d) (7 + g) = nI (sq_put (sq_gc p) (sq_c p) d g)
  by_cases e : g = sq_c p
  · subst e
    rw [sq_put_s, sq_put_s, sq_put_s, sq_put_s, pk_us, pk_us, pk_us, pk_us]
    exact ⟨rfl, rfl, rfl, rfl⟩
  · have n : 7 + g ≠ 7 + sq_c p := by omega
    rw [sq_put_n e, sq_put_n e, sq_put_n e, sq_put_n e, pk_un n, pk_un n, pk_un n, pk_un n]
    exact e5 g (by omega)
theorem sx_g57 (H : sx_C p sc bg ws ki fi se th nx) {post : Int32 → SX → Prop} {x4 x5 : Int32} {k a b d : Nat} (hc : sq_c p < 12) (hk : k < 10) (ha : a < 7 + sq_c p) (hb : b < 7 + sq_c p) (hd : d < 7 + sq_c p) (h5 : (x5 = 0 ∧ d = 0) ∨ (¬ x5 = 0 ∧ x4 = nI d))
    (h : ∀ (sc' : Int32) (ki' fi' se' th' : Nat → Int32), sx_C (sq_gate p k a b d) sc' bg ws ki' fi' se' th' nx → post (nI (7 + sq_c p)) (sc', bg, ws, bs, ki', fi', se', th', nx, va, fo, pa, ke)) : wX_gate_57 post (nI k) (nI a) (nI b) x4 x5 sc bg ws bs ki fi se th nx va fo pa ke := by
  have N := h _ _ _ _ _ (sx_gate_C H hc hk ha hb hd)
  have e1 := H.2.1
  subst e1
  have i1 : vp_in (nI (7 + sq_c p)) 19 := vp_in_nI (by omega) (by omega)
  have hn : 7 + sq_c p < 2 ^ 31 := by omega
  refine br_t (nI_lt (b := 19) (by omega) (by decide)) ⟨i1, nm_r (sx_up rfl hn rfl) ⟨i1, nm_r (sx_up rfl hn rfl) ⟨i1, nm_r (sx_up rfl hn rfl) ?_⟩⟩⟩
  rcases h5 with ⟨g1, g2⟩ | ⟨g1, g2⟩
  · subst g2
    exact br_t g1 ⟨i1, nm_r (sx_up rfl hn rfl) (nm_r (nI_1 (7 + sq_c p)) N)⟩
  · subst g2
    exact br_f g1 ⟨i1, nm_r (sx_up rfl hn rfl) (nm_r (nI_1 (7 + sq_c p)) N)⟩
theorem sx_g57f (H : sx_C p sc bg ws ki fi se th nx) {post : Int32 → SX → Prop} {x1 x2 x3 x4 x5 : Int32} (hc : ¬ sq_c p < 12) (h : post (-2) (sc, bg, ws, bs, ki, fi, se, th, nx, va, fo, pa, ke)) : wX_gate_57 post x1 x2 x3 x4 x5 sc bg ws bs ki fi se th nx va fo pa ke := by
  have e1 := H.2.1
  have := H.1.1
  subst e1
  exact br_f (nI_nlt (b := 19) (by omega) (by omega)) h
theorem sx_drop (H : sx_C p sc bg ws ki fi se th nx) {post : Int32 → SX → Prop} {c : Nat} (hc : sq_c p = c + 1)
    (h : ∀ (ws' : Int32) (nx' : Nat → Int32), sx_C (sq_drop p c) (nI (7 + c)) bg ws' ki fi se th nx' → post (nI (7 + c)) ((nI (7 + c)), bg, ws', bs, ki, fi, se, th, nx', va, fo, pa, ke)) : wpX_drop post (sc, bg, ws, bs, ki, fi, se, th, nx, va, fo, pa, ke) := by
  obtain ⟨wf, e1, e2, e3, e4, e5⟩ := H
  have hwf := sq_drop_wf wf hc
  have w1 := wf.1
  have w3 := wf.2.2.1
  have w4 := wf.2.2.2.1
  subst e1
  unfold wpX_drop
  refine br_t (nI_lt (a := 7) (by omega) (by omega)) (nm_r (e' := nI (7 + c)) (by rw [hc]; exact nI_pred (7 + c)) ?_)
  refine pk_loop (fun n r (nx : Nat → Int32) => wX_drop_23 post (nI (7 + c)) bg ws bs n (nI r) ki fi se th nx va fo pa ke)
    (fun r nx' => (∀ j, j < r → nx' j = nI (sq_nx (sq_drop p c) j)) ∧ ∀ j, r ≤ j → j < 4 → nx' j = nI (sq_nx p j)) 4 0 nx (by omega) ⟨fun j hj => absurd hj (Nat.not_lt_zero j), fun j _ hj => e4 j hj⟩ ?_ ?_
  · rintro n nx' ⟨k1, k2⟩
    refine br_t (by decide +kernel) (br_c (fun g => h 0 nx' ⟨hwf, rfl, e2, ?_, k1, fun q hq => e5 q (Nat.lt_trans (show q < c from hq) (by omega))⟩) (fun g => h ws nx' ⟨hwf, rfl, e2, ?_, k1, fun q hq => e5 q (Nat.lt_trans (show q < c from hq) (by omega))⟩))
    · show 0 = nI (if sq_w p = 7 + c then 0 else sq_w p)
      rw [e3] at g
      rw [if_pos ((nI_eq (by omega) (by omega)).mp g)]
      rfl
    · show ws = nI (if sq_w p = 7 + c then 0 else sq_w p)
      rw [if_neg (fun z => g (by rw [e3, z]))]
      exact e3
  · rintro n r nx' hr ⟨k1, k2⟩ ih
    have f1 : nx' (nI r).toNatClampNeg = nI (sq_nx p r) := sx_cl rfl (by omega) (k2 r (by omega) hr)
    have i1 : vp_in (nI r) 4 := vp_in_nI hr (by omega)
    have w := w4 r hr
    refine br_f (nI_ge (b := 4) hr (by decide)) ⟨i1, br_c (fun g => ⟨i1, nm_r (sx_up rfl (by omega) (nI_add 3 r)) (nm_r (nI_1 r) (ih _ ⟨?_, ?_⟩))⟩) (fun g => nm_r (nI_1 r) (ih _ ⟨?_, ?_⟩))⟩
    · intro j hj
      by_cases e : j = r
      · subst e
        rw [pk_us]
        show _ = nI (if sq_nx p j = 7 + c then 3 + j else sq_nx p j)
        rw [f1] at g
        rw [if_pos ((nI_eq (by omega) (by omega)).mp g)]
      · rw [pk_un e]
        exact k1 j (by omega)
    · intro j h1 h2
      rw [pk_un (by omega)]
      exact k2 j (by omega) h2
    · intro j hj
      by_cases e : j = r
      · subst e
        rw [k2 j (by omega) hr]
        show _ = nI (if sq_nx p j = 7 + c then 3 + j else sq_nx p j)
        rw [if_neg (fun z => g (by rw [f1, z]))]
      · exact k1 j (by omega)
    · exact fun j h1 h2 => k2 j (by omega) h2
theorem sx_init {post : SX → Prop} (h : ∀ nx' : Nat → Int32, sx_C sq_nil 7 0 0 (fun _ => 0) (fun _ => 0) (fun _ => 0) (fun _ => 0) nx' → post (7, 0, 0, 0, (fun _ => 0), (fun _ => 0), (fun _ => 0), (fun _ => 0), nx', (fun _ => 0), (fun _ => 0), (fun _ => 0), (fun _ => 0))) : wpX_init post := by
  refine pk_loop (fun n r (nx : Nat → Int32) => wX_init_99 post 7 0 0 0 n (nI r) (fun _ => 0) (fun _ => 0) (fun _ => 0) (fun _ => 0) nx (fun _ => 0) (fun _ => 0) (fun _ => 0) (fun _ => 0))
    (fun r nx' => ∀ j, j < r → nx' j = nI (3 + j)) 4 0 (fun _ => 0) (by omega) (fun j hj => absurd hj (Nat.not_lt_zero j)) ?_ ?_
  · intro n nx' k1
    exact br_t (by decide +kernel) (h nx' ⟨sq_nil_wf, rfl, rfl, rfl, k1, fun g hg => absurd hg (Nat.not_lt_zero g)⟩)
  · intro n r nx' hr k1 ih
    refine br_f (nI_ge (b := 4) hr (by decide)) ⟨vp_in_nI hr (by omega), nm_r (sx_up rfl (by omega) (nI_add 3 r)) (nm_r (nI_1 r) (ih _ ?_))⟩
    intro j hj
    by_cases e : j = r
    · rw [e, pk_us]
    · rw [pk_un e]
      exact k1 j (by omega)
end
section
variable {p : sq_P} {sz st sh : Int32} {gs nx va : Nat → Int32}
theorem sy_sig (H : sy_C p sz st sh gs nx) {post : Int32 → Prop} {x : Int32} {a : Nat} (ha : a < 7 + sq_c p) (ex : x = nI a) (h : post 1) : wpY_signal post (sz, st, sh, gs, nx, va) x := by
  have wf := H.1
  have hc := wf.1
  have e1 := H.2.1
  subst ex e1
  exact br_f (nI_pos (by omega)) (br_f (by rw [sy_7]; exact nI_ge ha (by omega)) h)
theorem sy_nsig (H : sy_C p sz st sh gs nx) {post : Int32 → Prop} {x : Int32} (hx : sx_out x (7 + sq_c p)) (h : post 0) : wpY_signal post (sz, st, sh, gs, nx, va) x :=
  sx_outL (by have := H.1.1; omega) (by rw [H.2.1]; exact sy_7 _) hx h
theorem sy_gate_C (H : sy_C p sz st sh gs nx) {k a b d : Nat} (hc : sq_c p < 12) (hk : k < 10) (ha : a < 7 + sq_c p) (hb : b < 7 + sq_c p) (hd : d < 7 + sq_c p) :
    sy_C (sq_gate p k a b d) (nI (sq_c p + 1)) st sh (upd (upd (upd (upd gs (4 * sq_c p) (nI k)) (4 * sq_c p + 1) (nI a)) (4 * sq_c p + 2) (nI b)) (4 * sq_c p + 3) (nI d)) nx := by
  obtain ⟨wf, e1, e2, e3, e4, e5⟩ := H
  refine ⟨sq_gate_wf wf hc hk ha hb hd, rfl, e2, e3, e4, ?_⟩
  intro g hg
  have hg' : g < sq_c p + 1 := hg
  show upd (upd (upd (upd gs (4 * sq_c p) (nI k)) (4 * sq_c p + 1) (nI a)) (4 * sq_c p + 2) (nI b)) (4 * sq_c p + 3) (nI d) (4 * g) = nI (sq_put (sq_gk p) (sq_c p) k g) ∧ upd (upd (upd (upd gs (4 * sq_c p) (nI k)) (4 * sq_c p + 1) (nI a)) (4 * sq_c p + 2) (nI b)) (4 * sq_c p + 3) (nI d) (4 * g + 1) = nI (sq_put (sq_ga p) (sq_c p) a g) ∧ upd (upd (upd (upd gs (4 * sq_c p) (nI k)) (4 * sq_c p + 1) (nI a)) (4 * sq_c p + 2) (nI b)) (4 * sq_c p + 3) (nI d) (4 * g + 2) = nI (sq_put (sq_gb p) (sq_c p) b g) ∧ upd (upd (upd (upd gs (4 * sq_c p) (nI k)) (4 * sq_c p + 1) (nI a)) (4 * sq_c p + 2) (nI b)) (4 * sq_c p + 3) (nI d) (4 * g + 3) = nI (sq_put (sq_gc p) (sq_c p) d g)
  by_cases e : g = sq_c p
  · subst e
    refine ⟨?_, ?_, ?_, ?_⟩
    · rw [sq_put_s, pk_un (by omega), pk_un (by omega), pk_un (by omega), pk_us]
    · rw [sq_put_s, pk_un (by omega), pk_un (by omega), pk_us]
    · rw [sq_put_s, pk_un (by omega), pk_us]
    · rw [sq_put_s, pk_us]
  · obtain ⟨k1, k2, k3, k4⟩ := e5 g (by omega)
    refine ⟨?_, ?_, ?_, ?_⟩
    · rw [sq_put_n e, pk_un (by omega), pk_un (by omega), pk_un (by omega), pk_un (by omega)]; exact k1
    · rw [sq_put_n e, pk_un (by omega), pk_un (by omega), pk_un (by omega), pk_un (by omega)]; exact k2
    · rw [sq_put_n e, pk_un (by omega), pk_un (by omega), pk_un (by omega), pk_un (by omega)]; exact k3
    · rw [sq_put_n e, pk_un (by omega), pk_un (by omega), pk_un (by omega), pk_un (by omega)]; exact k4
theorem sy_g43 (H : sy_C p sz st sh gs nx) {post : Int32 → SY → Prop} {x4 : Int32} {k a b d : Nat} (hc : sq_c p < 12) (hk : k < 10) (ha : a < 7 + sq_c p) (hb : b < 7 + sq_c p) (hd : d < 7 + sq_c p) (h5 : (k < 7 ∧ d = 0) ∨ (7 ≤ k ∧ x4 = nI d))
    (h : ∀ (sz' : Int32) (gs' : Nat → Int32), sy_C (sq_gate p k a b d) sz' st sh gs' nx → post (nI (7 + sq_c p)) (sz', st, sh, gs', nx, va)) : wY_gate_43 post (nI k) (nI a) (nI b) x4 sz st sh gs nx va := by
  have N := h _ _ (sy_gate_C H hc hk ha hb hd)
  have e1 := H.2.1
  subst e1
  have e6 : (6 : Int32) + nI (sq_c p + 1) = nI (7 + sq_c p) := by
    have z : (6 : Int32) + nI (sq_c p + 1) = nI (6 + (sq_c p + 1)) := nI_add 6 _
    rw [z, show 6 + (sq_c p + 1) = 7 + sq_c p by omega]
  have last : ∀ {z0 : Int32}, z0 = nI d → wY_gate_119 post z0 (4 * nI (sq_c p) + 3) (nI (sq_c p)) st sh (upd (upd (upd gs (4 * sq_c p) (nI k)) (4 * sq_c p + 1) (nI a)) (4 * sq_c p + 2) (nI b)) nx va := by
    intro z0 ez
    refine ⟨sx_in (sy_43 _) (by omega) (by omega), nm_r (sx_up (sy_43 _) (by omega) ez) (nm_r (nI_1 (sq_c p)) ?_)⟩
    rw [e6]
    exact N
  refine br_t (nI_lt (b := 12) hc (by decide)) ⟨sx_in (sy_4 _) (by omega) (by omega), nm_r (sx_up (sy_4 _) (by omega) rfl) ⟨sx_in (sy_41 _) (by omega) (by omega), nm_r (sx_up (sy_41 _) (by omega) rfl) ⟨sx_in (sy_42 _) (by omega) (by omega), nm_r (sx_up (sy_42 _) (by omega) rfl) ?_⟩⟩⟩
  rcases h5 with ⟨g1, g2⟩ | ⟨g1, g2⟩
  · exact br_t (nI_lt (b := 7) g1 (by decide)) (last (by rw [g2]; rfl))
  · exact br_f (nI_nlt (b := 7) g1 (by omega)) (last g2)
theorem sy_g43f (H : sy_C p sz st sh gs nx) {post : Int32 → SY → Prop} {x1 x2 x3 x4 : Int32} (hc : ¬ sq_c p < 12) (h : post (-2) (sz, st, sh, gs, nx, va)) : wY_gate_43 post x1 x2 x3 x4 sz st sh gs nx va := by
  have e1 := H.2.1
  have := H.1.1
  subst e1
  exact br_f (nI_nlt (b := 12) (by omega) (by omega)) h
theorem sy_drop (H : sy_C p sz st sh gs nx) {post : Int32 → SY → Prop} {c : Nat} (hc : sq_c p = c + 1)
    (h : ∀ (sh' : Int32) (nx' : Nat → Int32), sy_C (sq_drop p c) (nI c) st sh' gs nx' → post (nI (7 + c)) ((nI c), st, sh', gs, nx', va)) : wpY_drop post (sz, st, sh, gs, nx, va) := by
  obtain ⟨wf, e1, e2, e3, e4, e5⟩ := H
  have hwf := sq_drop_wf wf hc
  have w1 := wf.1
  have w3 := wf.2.2.1
  have w4 := wf.2.2.2.1
  subst e1
  unfold wpY_drop
  refine br_f (by rw [hc]; exact nI_ne0 (by omega) (by omega)) (nm_r (e' := nI c) (by rw [hc]; exact nI_pred c) (nm_r (sy_7 c) ?_))
  refine pk_loop (fun n r (nx : Nat → Int32) => wY_drop_29 post (nI (7 + c)) (nI c) st sh n (nI r) gs nx va)
    (fun r nx' => (∀ j, j < r → nx' j = nI (sq_nx (sq_drop p c) j)) ∧ ∀ j, r ≤ j → j < 4 → nx' j = nI (sq_nx p j)) 4 0 nx (by omega) ⟨fun j hj => absurd hj (Nat.not_lt_zero j), fun j _ hj => e4 j hj⟩ ?_ ?_
  · rintro n nx' ⟨k1, k2⟩
    refine br_t (by decide +kernel) (br_c (fun g => h 0 nx' ⟨hwf, rfl, e2, ?_, k1, fun q hq => e5 q (Nat.lt_trans (show q < c from hq) (by omega))⟩) (fun g => h sh nx' ⟨hwf, rfl, e2, ?_, k1, fun q hq => e5 q (Nat.lt_trans (show q < c from hq) (by omega))⟩))
    · show 0 = nI (if sq_w p = 7 + c then 0 else sq_w p)
      rw [e3] at g
      rw [if_pos ((nI_eq (by omega) (by omega)).mp g)]
      rfl
    · show sh = nI (if sq_w p = 7 + c then 0 else sq_w p)
      rw [if_neg (fun z => g (by rw [e3, z]))]
      exact e3
  · rintro n r nx' hr ⟨k1, k2⟩ ih
    have f1 : nx' (nI r).toNatClampNeg = nI (sq_nx p r) := sx_cl rfl (by omega) (k2 r (by omega) hr)
    have i1 : vp_in (nI r) 4 := vp_in_nI hr (by omega)
    have w := w4 r hr
    refine br_f (nI_ge (b := 4) hr (by decide)) ⟨i1, br_c (fun g => ⟨i1, nm_r (sx_up rfl (by omega) (nI_add 3 r)) (nm_r (nI_1 r) (ih _ ⟨?_, ?_⟩))⟩) (fun g => ⟨i1, i1, nm_r (sx_up rfl (by omega) f1) (nm_r (nI_1 r) (ih _ ⟨?_, ?_⟩))⟩)⟩
    · intro j hj
      by_cases e : j = r
      · subst e
        rw [pk_us]
        show _ = nI (if sq_nx p j = 7 + c then 3 + j else sq_nx p j)
        rw [f1] at g
        rw [if_pos ((nI_eq (by omega) (by omega)).mp g)]
      · rw [pk_un e]
        exact k1 j (by omega)
    · intro j h1 h2
      rw [pk_un (by omega)]
      exact k2 j (by omega) h2
    · intro j hj
      by_cases e : j = r
      · subst e
        rw [pk_us]
        show _ = nI (if sq_nx p j = 7 + c then 3 + j else sq_nx p j)
        rw [if_neg (fun z => g (by rw [f1, z]))]
      · rw [pk_un e]
        exact k1 j (by omega)
    · intro j h1 h2
      rw [pk_un (by omega)]
      exact k2 j (by omega) h2
theorem sy_init {post : SY → Prop} (h : ∀ nx' : Nat → Int32, sy_C sq_nil 0 0 0 (fun _ => 0) nx' → post (0, 0, 0, (fun _ => 0), nx', (fun _ => 0))) : wpY_init post := by
  refine pk_loop (fun n r (nx : Nat → Int32) => wY_init_29 post 0 0 0 n (nI r) (fun _ => 0) nx (fun _ => 0))
    (fun r nx' => ∀ j, j < r → nx' j = nI (3 + j)) 4 0 (fun _ => 0) (by omega) (fun j hj => absurd hj (Nat.not_lt_zero j)) ?_ ?_
  · intro n nx' k1
    exact br_t (by decide +kernel) (h nx' ⟨sq_nil_wf, rfl, rfl, rfl, k1, fun g hg => absurd hg (Nat.not_lt_zero g)⟩)
  · intro n r nx' hr k1 ih
    refine br_f (nI_ge (b := 4) hr (by decide)) ⟨vp_in_nI hr (by omega), nm_r (sx_up rfl (by omega) (nI_add 3 r)) (nm_r (nI_1 r) (ih _ ?_))⟩
    intro j hj
    by_cases e : j = r
    · rw [e, pk_us]
    · rw [pk_un e]
      exact k1 j (by omega)
end
