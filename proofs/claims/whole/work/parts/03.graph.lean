def sq_L (T : Nat → Nat → Nat) : Nat → Nat → Nat → Prop
  | 0, s, t => s = t
  | n + 1, s, t => sq_L T n s t ∨ ∃ m, sq_L T n s m ∧ sq_E T m t
theorem sq_L_front {T : Nat → Nat → Nat} : ∀ (n s t : Nat), sq_L T (n + 1) s t ↔ (sq_L T n s t ∨ ∃ m, sq_E T s m ∧ sq_L T n m t) := by
  intro n
  induction n with
  | zero =>
    intro s t
    constructor
    · rintro (h | ⟨m, h1, h2⟩)
      · exact Or.inl h
      · cases (show s = m from h1)
        exact Or.inr ⟨t, h2, (rfl : t = t)⟩
    · rintro (h | ⟨m, h1, h2⟩)
      · exact Or.inl h
      · cases (show m = t from h2)
        exact Or.inr ⟨s, (rfl : s = s), h1⟩
  | succ n ih =>
    intro s t
    constructor
    · rintro (h | ⟨m, h1, h2⟩)
      · exact Or.inl h
      · rcases (ih s m).mp h1 with h | ⟨q, h3, h4⟩
        · exact Or.inl (Or.inr ⟨m, h, h2⟩)
        · exact Or.inr ⟨q, h3, Or.inr ⟨m, h4, h2⟩⟩
    · rintro (h | ⟨q, h1, h2⟩)
      · exact Or.inl h
      · rcases h2 with h | ⟨m, h3, h4⟩
        · exact Or.inl ((ih s t).mpr (Or.inr ⟨q, h1, h⟩))
        · exact Or.inr ⟨m, (ih s m).mpr (Or.inr ⟨q, h1, h3⟩), h4⟩
theorem sq_L_trans {T : Nat → Nat → Nat} {n s m : Nat} (h : sq_L T n s m) : ∀ (k t : Nat), sq_L T k m t → sq_L T (n + k) s t := by
  intro k
  induction k with
  | zero =>
    intro t e
    cases (show m = t from e)
    exact h
  | succ k ih =>
    intro t e
    rcases e with e | ⟨q, h1, h2⟩
    · exact Or.inl (ih t e)
    · exact Or.inr ⟨q, ih q h1, h2⟩
def sq_R (T : Nat → Nat → Nat) (S : Nat) : Nat → Nat
  | 0 => S
  | n + 1 => sq_R T S n ||| sq_img T (sq_R T S n)
def sq_K (T : Nat → Nat → Nat) (S : Nat) : Nat → Nat
  | 0 => S
  | n + 1 => sq_K T S n ||| sq_pre T (sq_K T S n)
def sq_Q (T : Nat → Nat → Nat) (S : Nat) : Nat → Nat
  | 0 => S
  | n + 1 => sq_pre T (sq_Q T S n)
theorem sq_R_lt {T : Nat → Nat → Nat} (hT : sq_ok T) {S : Nat} (hS : S < 2 ^ 16) : ∀ n, sq_R T S n < 2 ^ 16 := by
  intro n
  induction n with
  | zero => exact hS
  | succ n ih => exact Nat.or_lt_two_pow ih (sq_img_lt hT _)
theorem sq_K_lt {T : Nat → Nat → Nat} {S : Nat} (hS : S < 2 ^ 16) : ∀ n, sq_K T S n < 2 ^ 16 := by
  intro n
  induction n with
  | zero => exact hS
  | succ n ih => exact Nat.or_lt_two_pow ih (sq_pre_lt _)
theorem sq_Q_lt {T : Nat → Nat → Nat} {S : Nat} (hS : S < 2 ^ 16) : ∀ n, sq_Q T S n < 2 ^ 16 := by
  intro n
  cases n with
  | zero => exact hS
  | succ n => exact sq_pre_lt _
theorem sq_R_b {T : Nat → Nat → Nat} {s : Nat} : ∀ (n t : Nat), (sq_R T (2 ^ s) n).testBit t = true ↔ sq_L T n s t := by
  intro n
  induction n with
  | zero => exact fun t => sq_p2
  | succ n ih =>
    intro t
    rw [sq_R, Nat.testBit_or, Bool.or_eq_true, ih, sq_img_b]
    constructor
    · rintro (h | ⟨m, h1, h2⟩)
      · exact Or.inl h
      · exact Or.inr ⟨m, (ih m).mp h1, h2⟩
    · rintro (h | ⟨m, h1, h2⟩)
      · exact Or.inl h
      · exact Or.inr ⟨m, (ih m).mpr h1, h2⟩
theorem sq_K_b {T B : Nat → Nat → Nat} : ∀ (n s : Nat), (sq_K T (sq_bad B) n).testBit s = true ↔ ∃ t, sq_L T n s t ∧ sq_b B t := by
  intro n
  induction n with
  | zero =>
    intro s
    rw [sq_K, sq_bad_b]
    constructor
    · exact fun h => ⟨s, (rfl : s = s), h⟩
    · rintro ⟨t, h1, h2⟩
      cases (show s = t from h1)
      exact h2
  | succ n ih =>
    intro s
    rw [sq_K, Nat.testBit_or, Bool.or_eq_true, ih, sq_pre_b]
    constructor
    · rintro (⟨t, h1, h2⟩ | ⟨m, h1, h2⟩)
      · exact ⟨t, Or.inl h1, h2⟩
      · obtain ⟨t, h3, h4⟩ := (ih m).mp h1
        exact ⟨t, (sq_L_front n s t).mpr (Or.inr ⟨m, h2, h3⟩), h4⟩
    · rintro ⟨t, h1, h2⟩
      rcases (sq_L_front n s t).mp h1 with h | ⟨m, h3, h4⟩
      · exact Or.inl ⟨t, h, h2⟩
      · exact Or.inr ⟨m, (ih m).mpr ⟨t, h4, h2⟩, h3⟩
theorem sq_hit {T B : Nat → Nat → Nat} (s n : Nat) : ¬ sq_R T (2 ^ s) n &&& sq_bad B = 0 ↔ (sq_K T (sq_bad B) n).testBit s = true := by
  rw [sq_nz, sq_K_b]
  constructor
  · rintro ⟨t, h1, h2⟩
    exact ⟨t, (sq_R_b n t).mp h1, sq_bad_b.mp h2⟩
  · rintro ⟨t, h1, h2⟩
    exact ⟨t, (sq_R_b n t).mpr h1, sq_bad_b.mpr h2⟩
def sq_fs (P : Nat → Bool) : Nat → Nat → Int32
  | 0, _ => -3
  | d + 1, i => if P i = true then nI i else sq_fs P d (i + 1)
theorem sq_fs_spec (P : Nat → Bool) : ∀ (d i : Nat), (∃ k, i ≤ k ∧ k < i + d ∧ P k = true ∧ (∀ j, i ≤ j → j < k → ¬ P j = true) ∧ sq_fs P d i = nI k) ∨ ((∀ j, i ≤ j → j < i + d → ¬ P j = true) ∧ sq_fs P d i = -3) := by
  intro d
  induction d with
  | zero => exact fun i => Or.inr ⟨fun j h1 h2 => by omega, rfl⟩
  | succ d ih =>
    intro i
    by_cases h : P i = true
    · exact Or.inl ⟨i, by omega, by omega, h, fun j h1 h2 => by omega, if_pos h⟩
    · have e : sq_fs P (d + 1) i = sq_fs P d (i + 1) := if_neg h
      rcases ih (i + 1) with ⟨k, h1, h2, h3, h4, h5⟩ | ⟨h1, h2⟩
      · refine Or.inl ⟨k, by omega, by omega, h3, fun j a b => ?_, e.trans h5⟩
        by_cases z : j = i
        · rw [z]; exact h
        · exact h4 j (by omega) b
      · refine Or.inr ⟨fun j a b => ?_, e.trans h2⟩
        by_cases z : j = i
        · rw [z]; exact h
        · exact h1 j (by omega) (by omega)
theorem sq_n3 {n : Nat} (h : n < 16) : ¬ nI n = -3 := (by decide +kernel : ∀ n, n < 16 → ¬ nI n = -3) n h
theorem sq_fs_eq {P : Nat → Bool} {n : Nat} (hn : n < 16) : sq_fs P 16 0 = nI n ↔ (P n = true ∧ ∀ i, i < n → ¬ P i = true) := by
  rcases sq_fs_spec P 16 0 with ⟨k, _, h2, h3, h4, h5⟩ | ⟨h1, h2⟩
  · rw [h5, nI_eq (by omega) (by omega)]
    constructor
    · rintro rfl
      exact ⟨h3, fun i hi => h4 i (by omega) hi⟩
    · rintro ⟨a, b⟩
      rcases Nat.lt_trichotomy k n with z | z | z
      · exact absurd h3 (b k z)
      · exact z
      · exact absurd a (h4 n (by omega) z)
  · rw [h2]
    constructor
    · exact fun h => absurd h.symm (sq_n3 hn)
    · exact fun h => absurd h.1 (h1 n (by omega) (by omega))
theorem sq_fs_no {P : Nat → Bool} : sq_fs P 16 0 = -3 ↔ ∀ i, i < 16 → ¬ P i = true := by
  rcases sq_fs_spec P 16 0 with ⟨k, _, h2, h3, h4, h5⟩ | ⟨h1, h2⟩
  · rw [h5]
    exact ⟨fun h => absurd h (sq_n3 (by omega)), fun h => absurd h3 (h k (by omega))⟩
  · exact ⟨fun _ i hi => h1 i (by omega) (by omega), fun _ => h2⟩
def sq_cn (S : Nat) : Nat → Nat
  | 0 => 0
  | n + 1 => sq_cn S n + (if S.testBit n = true then 1 else 0)
theorem sq_cn_le (S : Nat) : ∀ n, sq_cn S n ≤ n := by
  intro n
  induction n with
  | zero => exact Nat.le_refl 0
  | succ n ih =>
    rw [sq_cn]
    by_cases h : S.testBit n = true
    · rw [if_pos h]; omega
    · rw [if_neg h]; omega
theorem sq_cn_mono {S S' : Nat} (h : ∀ j, S.testBit j = true → S'.testBit j = true) : ∀ n, sq_cn S n ≤ sq_cn S' n := by
  intro n
  induction n with
  | zero => exact Nat.le_refl 0
  | succ n ih =>
    rw [sq_cn, sq_cn]
    by_cases a : S.testBit n = true
    · rw [if_pos a, if_pos (h n a)]; omega
    · rw [if_neg a]; omega
theorem sq_cn_lt {S S' i : Nat} (h : ∀ j, S.testBit j = true → S'.testBit j = true) (h1 : ¬ S.testBit i = true) (h2 : S'.testBit i = true) : ∀ n, i < n → sq_cn S n < sq_cn S' n := by
  intro n
  induction n with
  | zero => exact fun hi => absurd hi (Nat.not_lt_zero i)
  | succ n ih =>
    intro hi
    rw [sq_cn, sq_cn]
    by_cases e : i = n
    · subst e
      have := sq_cn_mono h i
      rw [if_neg h1, if_pos h2]; omega
    · have := ih (by omega)
      by_cases a : S.testBit n = true
      · rw [if_pos a, if_pos (h n a)]; omega
      · rw [if_neg a]; omega
theorem sq_R_up {T : Nat → Nat → Nat} {S n t : Nat} (h : (sq_R T S n).testBit t = true) : ∀ k, (sq_R T S (n + k)).testBit t = true := by
  intro k
  induction k with
  | zero => exact h
  | succ k ih =>
    show (sq_R T S (n + k) ||| _).testBit t = true
    rw [Nat.testBit_or, ih]; rfl
theorem sq_R_same {T : Nat → Nat → Nat} {S n : Nat} (h : sq_R T S (n + 1) = sq_R T S n) : ∀ k, sq_R T S (n + k) = sq_R T S n := by
  intro k
  induction k with
  | zero => rfl
  | succ k ih =>
    show sq_R T S (n + k) ||| sq_img T (sq_R T S (n + k)) = _
    rw [ih]
    exact h
theorem sq_new {x y : Nat} (h : ¬ x = y) (hs : ∀ j, y.testBit j = true → x.testBit j = true) : ∃ j, x.testBit j = true ∧ ¬ y.testBit j = true := by
  apply Classical.byContradiction
  intro hn
  apply h
  apply sq_ext
  intro j
  constructor
  · intro hx
    apply Classical.byContradiction
    exact fun hy => hn ⟨j, hx, hy⟩
  · exact hs j
theorem sq_R_fix {T : Nat → Nat → Nat} (hT : sq_ok T) {s : Nat} (hs : s < 16) : sq_R T (2 ^ s) 16 = sq_R T (2 ^ s) 15 := by
  apply Classical.byContradiction
  intro h
  have ne : ∀ n, n ≤ 15 → ¬ sq_R T (2 ^ s) (n + 1) = sq_R T (2 ^ s) n := by
    intro n hn e
    apply h
    have a := sq_R_same e (16 - n)
    have b := sq_R_same e (15 - n)
    rw [show n + (16 - n) = 16 by omega] at a
    rw [show n + (15 - n) = 15 by omega] at b
    rw [a, b]
  have c : ∀ n, n ≤ 16 → n + 1 ≤ sq_cn (sq_R T (2 ^ s) n) 16 := by
    intro n
    induction n with
    | zero =>
      intro _
      have z := sq_cn_lt (S := 0) (S' := 2 ^ s) (i := s) (fun j hj => by rw [Nat.zero_testBit] at hj; exact Bool.noConfusion hj) (by rw [Nat.zero_testBit]; exact Bool.false_ne_true) (sq_p2.mpr rfl) 16 hs
      show 0 + 1 ≤ sq_cn (2 ^ s) 16
      omega
    | succ n ih =>
      intro hn
      have up : ∀ j, (sq_R T (2 ^ s) n).testBit j = true → (sq_R T (2 ^ s) (n + 1)).testBit j = true := fun j hj => sq_R_up hj 1
      obtain ⟨j, h1, h2⟩ := sq_new (ne n (by omega)) up
      have hj : j < 16 := sq_big (sq_R_lt hT (sq_p2lt hs) (n + 1)) h1
      have := sq_cn_lt up h2 h1 16 hj
      have := ih (by omega)
      omega
  have a := c 16 (by omega)
  have b := sq_cn_le (sq_R T (2 ^ s) 16) 16
  omega
theorem sq_Re {T : Nat → Nat → Nat} (hT : sq_ok T) {s t : Nat} (hs : s < 16) : (sq_R T (2 ^ s) 15).testBit t = true ↔ ∃ n, sq_L T n s t := by
  constructor
  · exact fun h => ⟨15, (sq_R_b 15 t).mp h⟩
  · rintro ⟨n, h⟩
    have h' := (sq_R_b n t).mpr h
    rcases Nat.lt_or_ge n 16 with a | a
    · have := sq_R_up h' (15 - n)
      rw [show n + (15 - n) = 15 by omega] at this
      exact this
    · have := sq_R_same (sq_R_fix hT hs) (n - 15)
      rw [show 15 + (n - 15) = n by omega] at this
      rw [← this]
      exact h'
