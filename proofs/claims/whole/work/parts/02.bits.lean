def sq_or (a : Nat) (f : Nat → Bool) (g : Nat → Nat) : Nat → Nat
  | 0 => a
  | n + 1 => if f n = true then sq_or a f g n ||| g n else sq_or a f g n
theorem sq_or_t {a : Nat} {f : Nat → Bool} {g : Nat → Nat} {n : Nat} (h : f n = true) : sq_or a f g (n + 1) = sq_or a f g n ||| g n := if_pos h
theorem sq_or_f {a : Nat} {f : Nat → Bool} {g : Nat → Nat} {n : Nat} (h : ¬ f n = true) : sq_or a f g (n + 1) = sq_or a f g n := if_neg h
theorem sq_or_bit (a : Nat) (f : Nat → Bool) (g : Nat → Nat) (j : Nat) : ∀ n, (sq_or a f g n).testBit j = true ↔ (a.testBit j = true ∨ ∃ i, i < n ∧ f i = true ∧ (g i).testBit j = true) := by
  intro n
  induction n with
  | zero =>
    constructor
    · exact fun h => Or.inl h
    · rintro (h | ⟨i, hi, _⟩)
      · exact h
      · exact absurd hi (Nat.not_lt_zero i)
  | succ n ih =>
    by_cases h : f n = true
    · rw [sq_or_t h, Nat.testBit_or, Bool.or_eq_true, ih]
      constructor
      · rintro ((b | ⟨i, hi, x, y⟩) | b)
        · exact Or.inl b
        · exact Or.inr ⟨i, by omega, x, y⟩
        · exact Or.inr ⟨n, by omega, h, b⟩
      · rintro (b | ⟨i, hi, x, y⟩)
        · exact Or.inl (Or.inl b)
        · by_cases e : i = n
          · subst e
            exact Or.inr y
          · exact Or.inl (Or.inr ⟨i, by omega, x, y⟩)
    · rw [sq_or_f h, ih]
      constructor
      · rintro (b | ⟨i, hi, x, y⟩)
        · exact Or.inl b
        · exact Or.inr ⟨i, by omega, x, y⟩
      · rintro (b | ⟨i, hi, x, y⟩)
        · exact Or.inl b
        · have e : i ≠ n := fun e => h (e ▸ x)
          exact Or.inr ⟨i, by omega, x, y⟩
theorem sq_or_lt {a : Nat} {f : Nat → Bool} {g : Nat → Nat} {k : Nat} (ha : a < 2 ^ k) : ∀ n, (∀ i, i < n → g i < 2 ^ k) → sq_or a f g n < 2 ^ k := by
  intro n
  induction n with
  | zero => exact fun _ => ha
  | succ n ih =>
    intro hg
    by_cases h : f n = true
    · rw [sq_or_t h]
      exact Nat.or_lt_two_pow (ih fun i hi => hg i (by omega)) (hg n (by omega))
    · rw [sq_or_f h]
      exact ih fun i hi => hg i (by omega)
theorem sq_ext {x y : Nat} (h : ∀ j, x.testBit j = true ↔ y.testBit j = true) : x = y := by
  apply Nat.eq_of_testBit_eq
  intro j
  have := h j
  cases hx : x.testBit j <;> cases hy : y.testBit j <;> simp_all
theorem sq_nz {x y : Nat} : ¬ x &&& y = 0 ↔ ∃ j, x.testBit j = true ∧ y.testBit j = true := by
  constructor
  · intro h
    obtain ⟨i, hi⟩ := Nat.exists_testBit_of_ne_zero h
    rw [Nat.testBit_and, Bool.and_eq_true] at hi
    exact ⟨i, hi⟩
  · rintro ⟨j, h1, h2⟩ h
    have e : (x &&& y).testBit j = true := by rw [Nat.testBit_and, h1, h2]; rfl
    rw [h, Nat.zero_testBit] at e
    exact Bool.noConfusion e
theorem sq_p2 {a j : Nat} : (2 ^ a).testBit j = true ↔ a = j := by
  rw [Nat.testBit_two_pow, decide_eq_true_eq]
theorem sq_p2lt {a k : Nat} (h : a < k) : 2 ^ a < 2 ^ k := Nat.pow_lt_pow_right (by decide) h
theorem sq_big {x j k : Nat} (h : x < 2 ^ k) (hj : x.testBit j = true) : j < k := by
  rcases Nat.lt_or_ge j k with a | a
  · exact a
  · have : x < 2 ^ j := Nat.lt_of_lt_of_le h (Nat.pow_le_pow_right (by decide) a)
    rw [Nat.testBit_lt_two_pow this] at hj
    exact Bool.noConfusion hj
def sq_img (T : Nat → Nat → Nat) (S : Nat) : Nat := sq_or 0 (fun c => S.testBit (c / 8)) (fun c => 2 ^ T (c / 8) (c % 8)) 128
def sq_pre (T : Nat → Nat → Nat) (S : Nat) : Nat := sq_or 0 (fun c => S.testBit (T (c / 8) (c % 8))) (fun c => 2 ^ (c / 8)) 128
def sq_bad (B : Nat → Nat → Nat) : Nat := sq_or 0 (fun c => decide (B (c / 8) (c % 8) = 1)) (fun c => 2 ^ (c / 8)) 128
def sq_ok (T : Nat → Nat → Nat) : Prop := ∀ s l, s < 16 → l < 8 → T s l < 16
def sq_E (T : Nat → Nat → Nat) (s m : Nat) : Prop := s < 16 ∧ ∃ l, l < 8 ∧ T s l = m
def sq_b (B : Nat → Nat → Nat) (s : Nat) : Prop := s < 16 ∧ ∃ l, l < 8 ∧ B s l = 1
theorem sq_img_b {T : Nat → Nat → Nat} {S j : Nat} : (sq_img T S).testBit j = true ↔ ∃ s, S.testBit s = true ∧ sq_E T s j := by
  unfold sq_img
  rw [sq_or_bit, Nat.zero_testBit]
  constructor
  · rintro (h | ⟨c, hc, x, y⟩)
    · exact Bool.noConfusion h
    · exact ⟨c / 8, x, by omega, c % 8, by omega, sq_p2.mp y⟩
  · rintro ⟨s, hS, hs, l, hl, e⟩
    have e1 : (8 * s + l) / 8 = s := by omega
    have e2 : (8 * s + l) % 8 = l := by omega
    refine Or.inr ⟨8 * s + l, by omega, ?_, ?_⟩
    · rw [e1]; exact hS
    · rw [e1, e2]; exact sq_p2.mpr e
theorem sq_pre_b {T : Nat → Nat → Nat} {S s : Nat} : (sq_pre T S).testBit s = true ↔ ∃ m, S.testBit m = true ∧ sq_E T s m := by
  unfold sq_pre
  rw [sq_or_bit, Nat.zero_testBit]
  constructor
  · rintro (h | ⟨c, hc, x, y⟩)
    · exact Bool.noConfusion h
    · have e := sq_p2.mp y
      rw [e] at x
      exact ⟨_, x, by omega, c % 8, by omega, rfl⟩
  · rintro ⟨m, hS, hs, l, hl, e⟩
    have e1 : (8 * s + l) / 8 = s := by omega
    have e2 : (8 * s + l) % 8 = l := by omega
    refine Or.inr ⟨8 * s + l, by omega, ?_, ?_⟩
    · rw [e1, e2, e]; exact hS
    · rw [e1]; exact sq_p2.mpr rfl
theorem sq_bad_b {B : Nat → Nat → Nat} {s : Nat} : (sq_bad B).testBit s = true ↔ sq_b B s := by
  unfold sq_bad
  rw [sq_or_bit, Nat.zero_testBit]
  constructor
  · rintro (h | ⟨c, hc, x, y⟩)
    · exact Bool.noConfusion h
    · have e := sq_p2.mp y
      have x' := of_decide_eq_true x
      rw [e] at x'
      exact ⟨by omega, c % 8, by omega, x'⟩
  · rintro ⟨hs, l, hl, e⟩
    have e1 : (8 * s + l) / 8 = s := by omega
    have e2 : (8 * s + l) % 8 = l := by omega
    refine Or.inr ⟨8 * s + l, by omega, ?_, ?_⟩
    · rw [e1, e2]; exact decide_eq_true e
    · rw [e1]; exact sq_p2.mpr rfl
theorem sq_img_lt {T : Nat → Nat → Nat} (hT : sq_ok T) (S : Nat) : sq_img T S < 2 ^ 16 :=
  sq_or_lt (by decide) 128 fun i hi => sq_p2lt (hT _ _ (by omega) (by omega))
theorem sq_pre_lt {T : Nat → Nat → Nat} (S : Nat) : sq_pre T S < 2 ^ 16 :=
  sq_or_lt (by decide) 128 fun i hi => sq_p2lt (by omega)
theorem sq_bad_lt {B : Nat → Nat → Nat} : sq_bad B < 2 ^ 16 :=
  sq_or_lt (by decide) 128 fun i hi => sq_p2lt (by omega)
def sq_fol (T : Nat → Nat → Nat) (s : Nat) : Nat := sq_or 0 (fun _ => true) (fun l => 2 ^ T s l) 8
theorem sq_fol_b {T : Nat → Nat → Nat} {s j : Nat} (hs : s < 16) : (sq_fol T s).testBit j = true ↔ sq_E T s j := by
  unfold sq_fol
  rw [sq_or_bit, Nat.zero_testBit]
  constructor
  · rintro (h | ⟨l, hl, _, y⟩)
    · exact Bool.noConfusion h
    · exact ⟨hs, l, hl, sq_p2.mp y⟩
  · rintro ⟨_, l, hl, e⟩
    exact Or.inr ⟨l, hl, rfl, sq_p2.mpr e⟩
theorem sq_fol_lt {T : Nat → Nat → Nat} (hT : sq_ok T) {s : Nat} (hs : s < 16) : sq_fol T s < 2 ^ 16 :=
  sq_or_lt (by decide) 8 fun i hi => sq_p2lt (hT _ _ hs hi)
theorem sq_fol_n {T : Nat → Nat → Nat} (hT : sq_ok T) {s n : Nat} (hs : s < 16) (hn : n ≤ 8) : sq_or 0 (fun _ => true) (fun l => 2 ^ T s l) n < 2 ^ 16 :=
  sq_or_lt (by decide) n fun i hi => sq_p2lt (hT _ _ hs (by omega))
theorem sq_all {T : Nat → Nat → Nat} {S : Nat} : sq_or 0 (fun s => S.testBit s) (sq_fol T) 16 = sq_img T S := by
  apply sq_ext
  intro j
  rw [sq_or_bit, Nat.zero_testBit, sq_img_b]
  constructor
  · rintro (h | ⟨s, hs, x, y⟩)
    · exact Bool.noConfusion h
    · exact ⟨s, x, (sq_fol_b hs).mp y⟩
  · rintro ⟨s, hS, h⟩
    exact Or.inr ⟨s, h.1, hS, (sq_fol_b h.1).mpr h⟩
theorem sq_into {T : Nat → Nat → Nat} {S : Nat} : sq_or 0 (fun s => decide (¬ sq_fol T s &&& S = 0)) (fun s => 2 ^ s) 16 = sq_pre T S := by
  apply sq_ext
  intro j
  rw [sq_or_bit, Nat.zero_testBit, sq_pre_b]
  constructor
  · rintro (h | ⟨s, hs, x, y⟩)
    · exact Bool.noConfusion h
    · have e := sq_p2.mp y
      subst e
      obtain ⟨m, a, b⟩ := sq_nz.mp (of_decide_eq_true x)
      exact ⟨m, b, (sq_fol_b hs).mp a⟩
  · rintro ⟨m, hS, h⟩
    exact Or.inr ⟨j, h.1, decide_eq_true (sq_nz.mpr ⟨m, (sq_fol_b h.1).mpr h, hS⟩), sq_p2.mpr rfl⟩
def sq_xb (B : Nat → Nat → Nat) : Nat → Nat
  | 0 => 0
  | s + 1 => sq_or (sq_xb B s) (fun _ => true) (fun l => B s l * 2 ^ s) 8
theorem sq_xb_b {B : Nat → Nat → Nat} (hB : ∀ s l, s < 16 → l < 8 → B s l < 2) {j : Nat} : ∀ n, n ≤ 16 → ((sq_xb B n).testBit j = true ↔ j < n ∧ sq_b B j) := by
  intro n
  induction n with
  | zero =>
    intro _
    rw [sq_xb, Nat.zero_testBit]
    exact ⟨fun h => Bool.noConfusion h, fun h => absurd h.1 (Nat.not_lt_zero j)⟩
  | succ n ih =>
    intro hn
    rw [sq_xb, sq_or_bit, ih (by omega)]
    constructor
    · rintro (⟨h1, h2⟩ | ⟨l, hl, _, y⟩)
      · exact ⟨by omega, h2⟩
      · have := hB n l (by omega) hl
        rcases (by omega : B n l = 0 ∨ B n l = 1) with e | e
        · rw [e, Nat.zero_mul, Nat.zero_testBit] at y
          exact Bool.noConfusion y
        · rw [e, Nat.one_mul] at y
          have e' := sq_p2.mp y
          subst e'
          exact ⟨by omega, by omega, l, hl, e⟩
    · rintro ⟨h1, h2⟩
      by_cases e : j = n
      · subst e
        obtain ⟨_, l, hl, e⟩ := h2
        refine Or.inr ⟨l, hl, rfl, ?_⟩
        rw [e, Nat.one_mul]
        exact sq_p2.mpr rfl
      · exact Or.inl ⟨by omega, h2⟩
theorem sq_xb_16 {B : Nat → Nat → Nat} (hB : ∀ s l, s < 16 → l < 8 → B s l < 2) : sq_xb B 16 = sq_bad B := by
  apply sq_ext
  intro j
  rw [sq_xb_b hB 16 (by omega), sq_bad_b]
  exact ⟨fun h => h.2, fun h => ⟨h.1, h⟩⟩
theorem sq_mul2 {b s : Nat} (hb : b < 2) (hs : s < 16) : b * 2 ^ s < 2 ^ 16 := by
  rcases (by omega : b = 0 ∨ b = 1) with e | e
  · rw [e, Nat.zero_mul]; decide
  · rw [e, Nat.one_mul]; exact sq_p2lt hs
theorem sq_xb_lt {B : Nat → Nat → Nat} (hB : ∀ s l, s < 16 → l < 8 → B s l < 2) : ∀ n, n ≤ 16 → sq_xb B n < 2 ^ 16 := by
  intro n
  induction n with
  | zero => exact fun _ => (by decide : (0 : Nat) < 2 ^ 16)
  | succ n ih => exact fun hn => sq_or_lt (ih (by omega)) 8 fun l hl => sq_mul2 (hB n l (by omega) hl) (by omega)
def sq_has (s o z : Nat) : Bool := decide (¬ s &&& o = 0 ∨ ¬ (15 - s) &&& z = 0)
def sq_sw (o z : Nat) : Nat := sq_or 0 (fun s => sq_has s o z) (fun s => 2 ^ s) 16
theorem sq_sw_b {o z s : Nat} : (sq_sw o z).testBit s = true ↔ s < 16 ∧ sq_has s o z = true := by
  unfold sq_sw
  rw [sq_or_bit, Nat.zero_testBit]
  constructor
  · rintro (h | ⟨i, hi, x, y⟩)
    · exact Bool.noConfusion h
    · have e := sq_p2.mp y
      subst e
      exact ⟨hi, x⟩
  · rintro ⟨h1, h2⟩
    exact Or.inr ⟨s, h1, h2, sq_p2.mpr rfl⟩
theorem sq_sw_n {o z n : Nat} (hn : n ≤ 16) : sq_or 0 (fun s => sq_has s o z) (fun s => 2 ^ s) n < 2 ^ 16 :=
  sq_or_lt (by decide) n fun i hi => sq_p2lt (by omega)
theorem sq_sw_lt {o z : Nat} : sq_sw o z < 2 ^ 16 := sq_sw_n (Nat.le_refl 16)
theorem sq_has_one : ∀ t, t < 16 → ∀ s, s < 16 → (sq_has s (15 - t) t = true ↔ ¬ s = t) := by decide +kernel
def sq_cl (c : Nat) : Nat := sq_sw (c % 16) (c / 16)
def sq_and (f : Nat → Bool) (g : Nat → Nat) : Nat → Nat
  | 0 => 65535
  | n + 1 => if f n = true then sq_and f g n &&& g n else sq_and f g n
theorem sq_and_t {f : Nat → Bool} {g : Nat → Nat} {n : Nat} (h : f n = true) : sq_and f g (n + 1) = sq_and f g n &&& g n := if_pos h
theorem sq_and_f {f : Nat → Bool} {g : Nat → Nat} {n : Nat} (h : ¬ f n = true) : sq_and f g (n + 1) = sq_and f g n := if_neg h
theorem sq_and_bit (f : Nat → Bool) (g : Nat → Nat) (j : Nat) : ∀ n, (sq_and f g n).testBit j = true ↔ (j < 16 ∧ ∀ i, i < n → f i = true → (g i).testBit j = true) := by
  intro n
  induction n with
  | zero =>
    show (2 ^ 16 - 1).testBit j = true ↔ _
    rw [Nat.testBit_two_pow_sub_one, decide_eq_true_eq]
    exact ⟨fun h => ⟨h, fun i hi => absurd hi (Nat.not_lt_zero i)⟩, fun h => h.1⟩
  | succ n ih =>
    by_cases h : f n = true
    · rw [sq_and_t h, Nat.testBit_and, Bool.and_eq_true, ih]
      constructor
      · rintro ⟨⟨a, b⟩, c⟩
        refine ⟨a, fun i hi hf => ?_⟩
        by_cases e : i = n
        · subst e; exact c
        · exact b i (by omega) hf
      · rintro ⟨a, b⟩
        exact ⟨⟨a, fun i hi hf => b i (by omega) hf⟩, b n (by omega) h⟩
    · rw [sq_and_f h, ih]
      constructor
      · rintro ⟨a, b⟩
        refine ⟨a, fun i hi hf => ?_⟩
        have e : i ≠ n := fun e => h (e ▸ hf)
        exact b i (by omega) hf
      · rintro ⟨a, b⟩
        exact ⟨a, fun i hi hf => b i (by omega) hf⟩
theorem sq_and_lt (f : Nat → Bool) (g : Nat → Nat) : ∀ n, sq_and f g n < 2 ^ 16 := by
  intro n
  induction n with
  | zero => exact (by decide : (65535 : Nat) < 2 ^ 16)
  | succ n ih =>
    by_cases h : f n = true
    · rw [sq_and_t h]
      exact Nat.lt_of_le_of_lt Nat.and_le_left ih
    · rw [sq_and_f h]
      exact ih
