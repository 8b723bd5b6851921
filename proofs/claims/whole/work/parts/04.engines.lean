def sq_dep (T B : Nat → Nat → Nat) (s : Nat) : Int32 := sq_fs (fun n => decide (¬ sq_R T (2 ^ s) n &&& sq_bad B = 0)) 16 0
def sq_ev (T B : Nat → Nat → Nat) (s : Nat) : Prop := ∃ n t, sq_L T n s t ∧ sq_b B t
theorem sq_dep_K {T B : Nat → Nat → Nat} {s : Nat} : sq_dep T B s = sq_fs (fun n => (sq_K T (sq_bad B) n).testBit s) 16 0 := by
  unfold sq_dep
  congr 1
  funext n
  show decide (¬ sq_R T (2 ^ s) n &&& sq_bad B = 0) = (sq_K T (sq_bad B) n).testBit s
  rcases hb : (sq_K T (sq_bad B) n).testBit s with _ | _
  · apply decide_eq_false
    rw [sq_hit, hb]
    exact Bool.false_ne_true
  · apply decide_eq_true
    rw [sq_hit, hb]
theorem sq_ev_15 {T B : Nat → Nat → Nat} (hT : sq_ok T) {s : Nat} (hs : s < 16) : ¬ sq_R T (2 ^ s) 15 &&& sq_bad B = 0 ↔ sq_ev T B s := by
  rw [sq_nz]
  constructor
  · rintro ⟨t, h1, h2⟩
    obtain ⟨n, h⟩ := (sq_Re hT hs).mp h1
    exact ⟨n, t, h, sq_bad_b.mp h2⟩
  · rintro ⟨n, t, h1, h2⟩
    exact ⟨t, (sq_Re hT hs).mpr ⟨n, h1⟩, sq_bad_b.mpr h2⟩
theorem sq_ev_dep {T B : Nat → Nat → Nat} (hT : sq_ok T) {s : Nat} (hs : s < 16) : sq_dep T B s = -3 ↔ ¬ sq_ev T B s := by
  rw [← sq_ev_15 hT hs]
  unfold sq_dep
  rw [sq_fs_no]
  constructor
  · exact fun h a => h 15 (by omega) (decide_eq_true a)
  · intro h n hn a
    apply h
    obtain ⟨j, h1, h2⟩ := sq_nz.mp (of_decide_eq_true a)
    refine sq_nz.mpr ⟨j, ?_, h2⟩
    have := sq_R_up h1 (15 - n)
    rw [show n + (15 - n) = 15 by omega] at this
    exact this
theorem sq_dep_n {T B : Nat → Nat → Nat} {s : Nat} : sq_dep T B s = -3 ∨ ∃ d, d < 16 ∧ sq_dep T B s = nI d := by
  rcases sq_fs_spec (fun n => decide (¬ sq_R T (2 ^ s) n &&& sq_bad B = 0)) 16 0 with ⟨k, _, h2, _, _, h5⟩ | ⟨_, h2⟩
  · exact Or.inr ⟨k, by omega, h5⟩
  · exact Or.inl h2
def sq_wp (p : Nat → Nat) (k : Nat) : Nat → Nat := fun s => if (p s).testBit k = true then p s ||| p k else p s
def sq_W (p : Nat → Nat) : Nat → Nat → Nat
  | 0 => p
  | k + 1 => sq_wp (sq_W p k) k
theorem sq_wp_b {p : Nat → Nat} {k s t : Nat} : (sq_wp p k s).testBit t = true ↔ ((p s).testBit t = true ∨ ((p s).testBit k = true ∧ (p k).testBit t = true)) := by
  unfold sq_wp
  by_cases h : (p s).testBit k = true
  · rw [if_pos h, Nat.testBit_or, Bool.or_eq_true]
    exact ⟨fun a => a.elim Or.inl fun b => Or.inr ⟨h, b⟩, fun a => a.elim Or.inl fun b => Or.inr b.2⟩
  · rw [if_neg h]
    exact ⟨Or.inl, fun a => a.elim id fun b => absurd b.1 h⟩
theorem sq_wp_k {p : Nat → Nat} {k : Nat} : sq_wp p k k = p k := by
  unfold sq_wp
  by_cases h : (p k).testBit k = true
  · rw [if_pos h, Nat.or_self]
  · rw [if_neg h]
def sq_p0 (T : Nat → Nat → Nat) (s : Nat) : Nat := sq_fol T s ||| 2 ^ s
theorem sq_p0_lt {T : Nat → Nat → Nat} (hT : sq_ok T) {s : Nat} (hs : s < 16) : sq_p0 T s < 2 ^ 16 := Nat.or_lt_two_pow (sq_fol_lt hT hs) (sq_p2lt hs)
theorem sq_W_lt {p : Nat → Nat} (h : ∀ s, s < 16 → p s < 2 ^ 16) : ∀ k, k ≤ 16 → ∀ s, s < 16 → sq_W p k s < 2 ^ 16 := by
  intro k
  induction k with
  | zero => exact fun _ => h
  | succ k ih =>
    intro hk s hs
    show sq_wp (sq_W p k) k s < 2 ^ 16
    unfold sq_wp
    by_cases z : (sq_W p k s).testBit k = true
    · rw [if_pos z]
      exact Nat.or_lt_two_pow (ih (by omega) s hs) (ih (by omega) k (by omega))
    · rw [if_neg z]
      exact ih (by omega) s hs
theorem sq_W_sound {T : Nat → Nat → Nat} : ∀ k, k ≤ 16 → ∀ s t, s < 16 → (sq_W (sq_p0 T) k s).testBit t = true → ∃ n, sq_L T n s t := by
  intro k
  induction k with
  | zero =>
    intro _ s t hs h
    rw [sq_W, sq_p0, Nat.testBit_or, Bool.or_eq_true] at h
    rcases h with h | h
    · exact ⟨1, Or.inr ⟨s, (rfl : s = s), (sq_fol_b hs).mp h⟩⟩
    · exact ⟨0, sq_p2.mp h⟩
  | succ k ih =>
    intro hk s t hs h
    rcases sq_wp_b.mp h with a | ⟨a, b⟩
    · exact ih (by omega) s t hs a
    · obtain ⟨n, h1⟩ := ih (by omega) s k hs a
      obtain ⟨m, h2⟩ := ih (by omega) k t (by omega) b
      exact ⟨n + m, sq_L_trans h1 m t h2⟩
theorem sq_W_up {p : Nat → Nat} {s t : Nat} (h : (p s).testBit t = true) : ∀ k, (sq_W p k s).testBit t = true := by
  intro k
  induction k with
  | zero => exact h
  | succ k ih => exact sq_wp_b.mpr (Or.inl ih)
theorem sq_W_tr {p : Nat → Nat} : ∀ k m s t, m < k → (sq_W p k s).testBit m = true → (sq_W p k m).testBit t = true → (sq_W p k s).testBit t = true := by
  intro k
  induction k with
  | zero => exact fun m s t h => absurd h (Nat.not_lt_zero m)
  | succ k ih =>
    intro m s t hm h1 h2
    apply sq_wp_b.mpr
    by_cases e : m = k
    · subst e
      have h2' : (sq_wp (sq_W p m) m m).testBit t = true := h2
      rw [sq_wp_k] at h2'
      rcases sq_wp_b.mp h1 with a | ⟨a, _⟩
      · exact Or.inr ⟨a, h2'⟩
      · exact Or.inr ⟨a, h2'⟩
    · have hm' : m < k := by omega
      rcases sq_wp_b.mp h1 with a | ⟨a, b⟩
      · rcases sq_wp_b.mp h2 with c | ⟨c, d⟩
        · exact Or.inl (ih m s t hm' a c)
        · exact Or.inr ⟨ih m s k hm' a c, d⟩
      · rcases sq_wp_b.mp h2 with c | ⟨c, d⟩
        · exact Or.inr ⟨a, ih m k t hm' b c⟩
        · exact Or.inr ⟨a, d⟩
theorem sq_W_all {T : Nat → Nat → Nat} {s : Nat} : ∀ n t, sq_L T n s t → (sq_W (sq_p0 T) 16 s).testBit t = true := by
  intro n
  induction n with
  | zero =>
    intro t h
    cases (show s = t from h)
    apply sq_W_up
    rw [sq_p0, Nat.testBit_or, sq_p2.mpr rfl, Bool.or_true]
  | succ n ih =>
    intro t h
    rcases h with h | ⟨m, h1, h2⟩
    · exact ih t h
    · apply sq_W_tr 16 m s t h2.1 (ih m h1)
      apply sq_W_up
      rw [sq_p0, Nat.testBit_or, (sq_fol_b h2.1).mpr h2, Bool.true_or]
theorem sq_ev_W {T B : Nat → Nat → Nat} {s : Nat} (hs : s < 16) : ¬ sq_W (sq_p0 T) 16 s &&& sq_bad B = 0 ↔ sq_ev T B s := by
  rw [sq_nz]
  constructor
  · rintro ⟨t, h1, h2⟩
    obtain ⟨n, h⟩ := sq_W_sound 16 (by omega) s t hs h1
    exact ⟨n, t, h, sq_bad_b.mp h2⟩
  · rintro ⟨n, t, h1, h2⟩
    exact ⟨t, sq_W_all n t h1, sq_bad_b.mpr h2⟩
theorem sq_cla {A : Nat} (hA : A < 2 ^ 16) {kp : Nat → Bool} (h : ∀ c, c < 256 → (kp c = true ↔ ∀ t, A.testBit t = true → (sq_cl c).testBit t = true)) : sq_and kp sq_cl 256 = A := by
  apply sq_ext
  intro j
  rw [sq_and_bit]
  constructor
  · rintro ⟨hj, h2⟩
    apply Classical.byContradiction
    intro hn
    have e1 : ((15 - j) + 16 * j) % 16 = 15 - j := by omega
    have e2 : ((15 - j) + 16 * j) / 16 = j := by omega
    have k1 : kp ((15 - j) + 16 * j) = true := by
      apply (h ((15 - j) + 16 * j) (by omega)).mpr
      intro t ht
      have ht16 := sq_big hA ht
      rw [sq_cl, e1, e2, sq_sw_b]
      exact ⟨ht16, (sq_has_one j hj t ht16).mpr fun e => hn (e ▸ ht)⟩
    have k2 := h2 _ (by omega) k1
    rw [sq_cl, e1, e2, sq_sw_b] at k2
    exact (sq_has_one j hj j hj).mp k2.2 rfl
  · intro hj
    exact ⟨sq_big hA hj, fun i hi hf => (h i hi).mp hf j hj⟩
theorem sq_R_sub {T : Nat → Nat → Nat} {S n c : Nat} (h : ∀ t, (sq_R T S (n + 1)).testBit t = true → c.testBit t = true) : ∀ t, (sq_R T S n).testBit t = true → c.testBit t = true :=
  fun t ht => h t (sq_R_up ht 1)
def sq_D (T B : Nat → Nat → Nat) (n s : Nat) : Prop := (sq_K T (sq_bad B) n).testBit s = true ∧ ∀ i, i < n → ¬ (sq_K T (sq_bad B) i).testBit s = true
theorem sq_Q_K {T : Nat → Nat → Nat} {S : Nat} : ∀ n s, (sq_Q T S n).testBit s = true → (sq_K T S n).testBit s = true := by
  intro n
  induction n with
  | zero => exact fun s h => h
  | succ n ih =>
    intro s h
    rw [sq_Q, sq_pre_b] at h
    obtain ⟨m, h1, h2⟩ := h
    rw [sq_K, Nat.testBit_or, Bool.or_eq_true, sq_pre_b]
    exact Or.inr ⟨m, ih m h1, h2⟩
theorem sq_K_Q {T : Nat → Nat → Nat} {S : Nat} : ∀ n s, (sq_K T S n).testBit s = true → ∃ i, i ≤ n ∧ (sq_Q T S i).testBit s = true := by
  intro n
  induction n with
  | zero => exact fun s h => ⟨0, Nat.le_refl 0, h⟩
  | succ n ih =>
    intro s h
    rw [sq_K, Nat.testBit_or, Bool.or_eq_true, sq_pre_b] at h
    rcases h with h | ⟨m, h1, h2⟩
    · obtain ⟨i, hi, h⟩ := ih s h
      exact ⟨i, by omega, h⟩
    · obtain ⟨i, hi, h⟩ := ih m h1
      exact ⟨i + 1, by omega, by rw [sq_Q, sq_pre_b]; exact ⟨m, h, h2⟩⟩
theorem sq_D_Q {T B : Nat → Nat → Nat} {n s : Nat} (h : sq_D T B n s) : (sq_Q T (sq_bad B) n).testBit s = true := by
  obtain ⟨i, hi, hq⟩ := sq_K_Q n s h.1
  by_cases e : i = n
  · rw [← e]; exact hq
  · exact absurd (sq_Q_K i s hq) (h.2 i (by omega))
theorem sq_D_far {T B : Nat → Nat → Nat} {m s q : Nat} (h : sq_D T B (m + 1) s) (he : sq_E T s q) : ∀ i, i < m → ¬ (sq_K T (sq_bad B) i).testBit q = true := by
  intro i hi hk
  apply h.2 (i + 1) (by omega)
  rw [sq_K, Nat.testBit_or, Bool.or_eq_true, sq_pre_b]
  exact Or.inr ⟨q, hk, he⟩
theorem sq_D_step {T B : Nat → Nat → Nat} {m s q : Nat} (h : sq_D T B (m + 1) s) (he : sq_E T s q) (hq : (sq_Q T (sq_bad B) m).testBit q = true) : sq_D T B m q :=
  ⟨sq_Q_K m q hq, sq_D_far h he⟩
theorem sq_D_lev {T B : Nat → Nat → Nat} {m s q : Nat} (hm : m < 16) (h : sq_D T B (m + 1) s) (he : sq_E T s q) : sq_fs (fun n => (sq_K T (sq_bad B) n).testBit q) 16 0 = nI m ↔ (sq_Q T (sq_bad B) m).testBit q = true := by
  rw [sq_fs_eq hm]
  constructor
  · exact fun a => sq_D_Q a
  · exact fun a => sq_D_step h he a
theorem sq_D_ex {T B : Nat → Nat → Nat} {m s : Nat} (h : sq_D T B (m + 1) s) : ∃ l, l < 8 ∧ (sq_Q T (sq_bad B) m).testBit (T s l) = true := by
  have a := sq_D_Q h
  rw [sq_Q, sq_pre_b] at a
  obtain ⟨q, h1, _, l, hl, e⟩ := a
  exact ⟨l, hl, by rw [e]; exact h1⟩
def sq_lv (P : Nat → Bool) : Nat → Nat → Nat
  | 0, l => l
  | d + 1, l => if P l = true then l else sq_lv P d (l + 1)
theorem sq_lv_t {P : Nat → Bool} {d l : Nat} (h : P l = true) : sq_lv P (d + 1) l = l := if_pos h
theorem sq_lv_f {P : Nat → Bool} {d l : Nat} (h : ¬ P l = true) : sq_lv P (d + 1) l = sq_lv P d (l + 1) := if_neg h
theorem sq_lv_le (P : Nat → Bool) : ∀ d l, l ≤ sq_lv P d l ∧ sq_lv P d l ≤ l + d := by
  intro d
  induction d with
  | zero => exact fun l => ⟨Nat.le_refl l, Nat.le_refl l⟩
  | succ d ih =>
    intro l
    by_cases h : P l = true
    · rw [sq_lv_t h]; omega
    · rw [sq_lv_f h]
      have := ih (l + 1)
      omega
theorem sq_lv_ok {P : Nat → Bool} : ∀ d l, (∃ j, l ≤ j ∧ j ≤ l + d ∧ P j = true) → P (sq_lv P d l) = true := by
  intro d
  induction d with
  | zero =>
    rintro l ⟨j, h1, h2, h3⟩
    have e : j = l := by omega
    subst e
    exact h3
  | succ d ih =>
    rintro l ⟨j, h1, h2, h3⟩
    by_cases h : P l = true
    · rw [sq_lv_t h]; exact h
    · rw [sq_lv_f h]
      have e : j ≠ l := fun e => h (e ▸ h3)
      exact ih (l + 1) ⟨j, by omega, by omega, h3⟩
def sq_lt (T B : Nat → Nat → Nat) (m s : Nat) : Nat := sq_lv (fun l => (sq_Q T (sq_bad B) m).testBit (T s l)) 7 0
def sq_ll (B : Nat → Nat → Nat) (s : Nat) : Nat := sq_lv (fun l => decide (B s l = 1)) 7 0
def sq_st (T B : Nat → Nat → Nat) (s d : Nat) : Nat → Nat
  | 0 => s
  | i + 1 => T (sq_st T B s d i) (sq_lt T B (d - i - 1) (sq_st T B s d i))
theorem sq_lt_8 {T B : Nat → Nat → Nat} {m s : Nat} : sq_lt T B m s < 8 := by
  have := sq_lv_le (fun l => (sq_Q T (sq_bad B) m).testBit (T s l)) 7 0
  unfold sq_lt
  omega
theorem sq_ll_8 {B : Nat → Nat → Nat} {s : Nat} : sq_ll B s < 8 := by
  have := sq_lv_le (fun l => decide (B s l = 1)) 7 0
  unfold sq_ll
  omega
theorem sq_st_16 {T B : Nat → Nat → Nat} (hT : sq_ok T) {s d : Nat} (hs : s < 16) : ∀ i, sq_st T B s d i < 16 := by
  intro i
  induction i with
  | zero => exact hs
  | succ i ih => exact hT _ _ ih sq_lt_8
theorem sq_lt_Q {T B : Nat → Nat → Nat} {m s : Nat} (h : sq_D T B (m + 1) s) : (sq_Q T (sq_bad B) m).testBit (T s (sq_lt T B m s)) = true := by
  obtain ⟨l, hl, hq⟩ := sq_D_ex h
  exact sq_lv_ok (P := fun l => (sq_Q T (sq_bad B) m).testBit (T s l)) 7 0 ⟨l, by omega, by omega, hq⟩
theorem sq_st_D {T B : Nat → Nat → Nat} (hT : sq_ok T) {s d : Nat} (hs : s < 16) (h : sq_D T B d s) : ∀ i, i ≤ d → sq_D T B (d - i) (sq_st T B s d i) := by
  intro i
  induction i with
  | zero => exact fun _ => h
  | succ i ih =>
    intro hi
    have a := ih (by omega)
    rw [show d - i = (d - (i + 1)) + 1 by omega] at a
    have e : d - i - 1 = d - (i + 1) := by omega
    show sq_D T B (d - (i + 1)) (T (sq_st T B s d i) (sq_lt T B (d - i - 1) (sq_st T B s d i)))
    rw [e]
    exact sq_D_step a ⟨sq_st_16 hT hs i, _, sq_lt_8, rfl⟩ (sq_lt_Q a)
theorem sq_dep_D {T B : Nat → Nat → Nat} {s d : Nat} (hd : d < 16) (h : sq_dep T B s = nI d) : sq_D T B d s := by
  rw [sq_dep_K, sq_fs_eq hd] at h
  exact h
