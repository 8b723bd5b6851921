section
theorem pk_us {f : Nat → Int32} {k : Nat} {x : Int32} : upd f k x k = x := if_pos rfl
theorem pk_un {f : Nat → Int32} {k j : Nat} {x : Int32} (h : j ≠ k) : upd f k x j = f j := if_neg h
theorem pk_sub {a b : Nat} (h : b ≤ a) : nI a - nI b = nI (a - b) := by
  obtain ⟨c, rfl⟩ : ∃ c, a = c + b := ⟨a - b, by omega⟩
  rw [← nI_add, Int32.add_sub_cancel, Nat.add_sub_cancel]
theorem pk_m1 (n : Nat) : nI (n + 1) + (-1) = nI n := by
  rw [← nI_1, Int32.add_assoc, show (1 : Int32) + (-1) = 0 from rfl, Int32.add_zero]
theorem pk_mul (a b : Nat) : nI a * nI b = nI (a * b) := (Int32.ofNat_mul a b).symm
theorem pk_div {a d : Nat} (ha : a < 2 ^ 31) (h0 : 0 < d) (hd : d < 2 ^ 31) : nI a / nI d = nI (a / d) := by
  apply Int32.toInt_inj.mp
  rw [lg_idiv_nonneg (by rw [nI_toInt ha]; omega) (by rw [nI_toInt hd]; omega), nI_toInt ha, nI_toInt hd, nI_toInt (Nat.lt_of_le_of_lt (Nat.div_le_self a d) ha)]
  first | rfl | exact (Int.natCast_ediv _ _).symm
theorem pk_rem {a d : Nat} (ha : a < 2 ^ 31) (h0 : 0 < d) (hd : d < 2 ^ 31) : nI a - nI a / nI d * nI d = nI (a % d) := by
  rw [pk_div ha h0 hd, pk_mul, pk_sub (Nat.div_mul_le_self a d)]
  exact congrArg nI (by have := Nat.div_add_mod' a d; omega)
theorem pk_ix (x : Int32) {n : Nat} (hn : n < 2 ^ 31) : x < 0 ∨ nI n ≤ x ∨ ∃ j : Nat, j < n ∧ x = nI j := by
  by_cases h : x < 0
  · exact Or.inl h
  · obtain ⟨j, hj, rfl⟩ := nI_of h
    by_cases h2 : j < n
    · exact Or.inr (Or.inr ⟨j, h2, rfl⟩)
    · exact Or.inr (Or.inl (nI_le (by omega) hj))
theorem pk_le {x y : Int32} {A B : Prop} (a b : Nat) (f : a ≤ b → A) (g : b < a → B) (hx : x = nI a := by rfl) (hy : y = nI b := by rfl) (ha : a < 2 ^ 31 := by omega) (hb : b < 2 ^ 31 := by omega) : (x ≤ y → A) ∧ (¬ x ≤ y → B) := by
  subst hx hy
  rw [nI_leI ha hb]
  exact ⟨f, fun z => g (by omega)⟩
theorem pk_lt {x y : Int32} {A B : Prop} (a b : Nat) (f : a < b → A) (g : b ≤ a → B) (hx : x = nI a := by rfl) (hy : y = nI b := by rfl) (ha : a < 2 ^ 31 := by omega) (hb : b < 2 ^ 31 := by omega) : (x < y → A) ∧ (¬ x < y → B) := by
  subst hx hy
  rw [nI_ltI ha hb]
  exact ⟨f, fun z => g (by omega)⟩
theorem pk_eq {x y : Int32} {A B : Prop} (a b : Nat) (f : a = b → A) (g : a ≠ b → B) (hx : x = nI a := by rfl) (hy : y = nI b := by rfl) (ha : a < 2 ^ 31 := by omega) (hb : b < 2 ^ 31 := by omega) : (x = y → A) ∧ (¬ x = y → B) := by
  subst hx hy
  rw [nI_eq ha hb]
  exact ⟨f, g⟩
theorem pk_in {x : Int32} (n N : Nat) (h : n < N) (hx : x = nI n := by rfl) (hN : N < 2 ^ 31 := by omega) : vp_in x N := by
  subst hx
  exact vp_in_nI h hN
theorem pk_cl {x : Int32} (n : Nat) (hx : x = nI n := by rfl) (h : n < 2 ^ 31 := by omega) : x.toNatClampNeg = n := by
  subst hx
  exact nI_clamp h
theorem pk_tn {n : Nat} (h : n < 2 ^ 32) : (nI n).toBitVec.toNat = n := Nat.mod_eq_of_lt h
theorem pk_and (x : Int32) {m : Int32} (k : Nat) (hm : m.toBitVec.toNat = 2 ^ k - 1) : x &&& m = nI (x.toBitVec.toNat % 2 ^ k) := by
  apply Int32.toBitVec_inj.mp
  apply BitVec.eq_of_toNat_eq
  rw [Int32.toBitVec_and, BitVec.toNat_and, hm, Nat.and_two_pow_sub_one_eq_mod]
  show _ = (BitVec.ofNat 32 _).toNat
  rw [BitVec.toNat_ofNat]
  exact (Nat.mod_eq_of_lt (Nat.lt_of_le_of_lt (Nat.mod_le _ _) x.toBitVec.isLt)).symm
theorem pk_andN {n : Nat} (h : n < 2 ^ 32) {m : Int32} (k : Nat) (hm : m.toBitVec.toNat = 2 ^ k - 1) : nI n &&& m = nI (n % 2 ^ k) := by
  rw [pk_and _ k hm, pk_tn h]
theorem pk_shl (a s : Int32) (k : Nat) (hs : (s.toBitVec.smod 32).toNat = k) : (a <<< s).toBitVec.toNat = a.toBitVec.toNat * 2 ^ k % 2 ^ 32 := by
  show (a.toBitVec <<< (s.toBitVec.smod 32).toNat).toNat = _
  rw [hs, BitVec.toNat_shiftLeft, Nat.shiftLeft_eq]
theorem pk_shlN {n : Nat} (s : Int32) (k : Nat) (hs : (s.toBitVec.smod 32).toNat = k) (h : n * 2 ^ k < 2 ^ 32) : nI n <<< s = nI (n * 2 ^ k) := by
  apply Int32.toBitVec_inj.mp
  apply BitVec.eq_of_toNat_eq
  have hn : n < 2 ^ 32 := Nat.lt_of_le_of_lt (Nat.le_mul_of_pos_right n (Nat.two_pow_pos k)) h
  rw [pk_shl _ _ k hs, pk_tn hn, pk_tn h, Nat.mod_eq_of_lt h]
theorem pk_shr (a s : Int32) (k : Nat) (hs : (s.toBitVec.smod 32).toNat = k) : (a >>> s).toInt = a.toInt >>> k := by
  show (a.toBitVec.sshiftRight (s.toBitVec.smod 32).toNat).toInt = _
  rw [hs, BitVec.toInt_sshiftRight]
  rfl
theorem pk_shrN {n : Nat} (h : n < 2 ^ 31) (s : Int32) (k : Nat) (hs : (s.toBitVec.smod 32).toNat = k) : nI n >>> s = nI (n / 2 ^ k) := by
  apply Int32.toInt_inj.mp
  have h2 : n / 2 ^ k ≤ n := Nat.div_le_self _ _
  rw [pk_shr _ _ k hs, nI_toInt h, nI_toInt (by omega), Int.shiftRight_eq_div_pow]
  rfl
theorem pk_loop {σ : Type} (W : Nat → Nat → σ → Prop) (I : Nat → σ → Prop) (e i0 : Nat) (s : σ) (hi : i0 ≤ e) (h0 : I i0 s) (hx : ∀ n s, I e s → W (n + 1) e s)
    (hs : ∀ n i s, i < e → I i s → (∀ s', I (i + 1) s' → W n (i + 1) s') → W (n + 1) i s) : ∃ n, W n i0 s :=
  ⟨e + 1, loop_i W I e hx hs (e + 1) i0 s hi (by omega) h0⟩
theorem pk_least (P : Nat → Prop) (h : ∃ k, P k) : ∃ k, P k ∧ ∀ j, j < k → ¬ P j := by
  obtain ⟨k, hk⟩ := h
  induction k using Nat.strongRecOn with
  | ind k ih =>
    by_cases e : ∃ j, j < k ∧ P j
    · obtain ⟨j, hj, pj⟩ := e
      exact ih j hj pj
    · exact ⟨k, hk, fun j hj pj => e ⟨j, hj, pj⟩⟩
theorem s_l : ∀ n, n < 32 → ((nI n &&& 31).toBitVec.smod 32).toNat = n := by decide +kernel
theorem nx_and (a b : Nat) : nI a &&& nI b = nI (a &&& b) := by
  apply Int32.toBitVec_inj.1
  show BitVec.ofNat 32 a &&& BitVec.ofNat 32 b = BitVec.ofNat 32 (a &&& b)
  apply BitVec.eq_of_getLsbD_eq
  intro i hi
  simp [hi]
theorem nx_xor (a b : Nat) : nI a ^^^ nI b = nI (a ^^^ b) := by
  apply Int32.toBitVec_inj.1
  show BitVec.ofNat 32 a ^^^ BitVec.ofNat 32 b = BitVec.ofNat 32 (a ^^^ b)
  apply BitVec.eq_of_getLsbD_eq
  intro i hi
  simp [hi]
end
section
def sq_or (a : Nat) (f : Nat → Bool) (g : Nat → Nat) : Nat → Nat
  | 0 => a
  | n + 1 => if f n = true then sq_or a f g n ||| g n else sq_or a f g n
theorem sq_or_t {a : Nat} {f : Nat → Bool} {g : Nat → Nat} {n : Nat} (h : f n = true) : sq_or a f g (n + 1) = sq_or a f g n ||| g n := if_pos h
theorem sq_or_f {a : Nat} {f : Nat → Bool} {g : Nat → Nat} {n : Nat} (h : ¬ f n = true) : sq_or a f g (n + 1) = sq_or a f g n := if_neg h
theorem sq_or_bit (a : Nat) (f : Nat → Bool) (g : Nat → Nat) (j : Nat) : ∀ n, (sq_or a f g n).testBit j = true ↔ (a.testBit j = true ∨ ∃ i, i < n ∧ f i = true ∧ (g i).testBit j = true) := by
  intro n
  induction n with
  | zero =>
    constructor
    · exact fun h => Or.inl h
    · rintro (h | ⟨i, hi, _⟩)
      · exact h
      · exact absurd hi (Nat.not_lt_zero i)
  | succ n ih =>
    by_cases h : f n = true
    · rw [sq_or_t h, Nat.testBit_or, Bool.or_eq_true, ih]
      constructor
      · rintro ((b | ⟨i, hi, x, y⟩) | b)
        · exact Or.inl b
        · exact Or.inr ⟨i, by omega, x, y⟩
        · exact Or.inr ⟨n, by omega, h, b⟩
      · rintro (b | ⟨i, hi, x, y⟩)
        · exact Or.inl (Or.inl b)
        · by_cases e : i = n
          · subst e
            exact Or.inr y
          · exact Or.inl (Or.inr ⟨i, by omega, x, y⟩)
    · rw [sq_or_f h, ih]
      constructor
      · rintro (b | ⟨i, hi, x, y⟩)
        · exact Or.inl b
        · exact Or.inr ⟨i, by omega, x, y⟩
      · rintro (b | ⟨i, hi, x, y⟩)
        · exact Or.inl b
        · have e : i ≠ n := fun e => h (e ▸ x)
          exact Or.inr ⟨i, by omega, x, y⟩
theorem sq_or_lt {a : Nat} {f : Nat → Bool} {g : Nat → Nat} {k : Nat} (ha : a < 2 ^ k) : ∀ n, (∀ i, i < n → g i < 2 ^ k) → sq_or a f g n < 2 ^ k := by
  intro n
  induction n with
  | zero => exact fun _ => ha
  | succ n ih =>
    intro hg
    by_cases h : f n = true
    · rw [sq_or_t h]
      exact Nat.or_lt_two_pow (ih fun i hi => hg i (by omega)) (hg n (by omega))
    · rw [sq_or_f h]
      exact ih fun i hi => hg i (by omega)
theorem sq_ext {x y : Nat} (h : ∀ j, x.testBit j = true ↔ y.testBit j = true) : x = y := by
  apply Nat.eq_of_testBit_eq
  intro j
  have := h j
  cases hx : x.testBit j <;> cases hy : y.testBit j <;> simp_all
theorem sq_nz {x y : Nat} : ¬ x &&& y = 0 ↔ ∃ j, x.testBit j = true ∧ y.testBit j = true := by
  constructor
  · intro h
    obtain ⟨i, hi⟩ := Nat.exists_testBit_of_ne_zero h
    rw [Nat.testBit_and, Bool.and_eq_true] at hi
    exact ⟨i, hi⟩
  · rintro ⟨j, h1, h2⟩ h
    have e : (x &&& y).testBit j = true := by rw [Nat.testBit_and, h1, h2]; rfl
    rw [h, Nat.zero_testBit] at e
    exact Bool.noConfusion e
theorem sq_p2 {a j : Nat} : (2 ^ a).testBit j = true ↔ a = j := by
  rw [Nat.testBit_two_pow, decide_eq_true_eq]
theorem sq_p2lt {a k : Nat} (h : a < k) : 2 ^ a < 2 ^ k := Nat.pow_lt_pow_right (by decide) h
theorem sq_big {x j k : Nat} (h : x < 2 ^ k) (hj : x.testBit j = true) : j < k := by
  rcases Nat.lt_or_ge j k with a | a
  · exact a
  · have : x < 2 ^ j := Nat.lt_of_lt_of_le h (Nat.pow_le_pow_right (by decide) a)
    rw [Nat.testBit_lt_two_pow this] at hj
    exact Bool.noConfusion hj
def sq_img (T : Nat → Nat → Nat) (S : Nat) : Nat := sq_or 0 (fun c => S.testBit (c / 8)) (fun c => 2 ^ T (c / 8) (c % 8)) 128
def sq_pre (T : Nat → Nat → Nat) (S : Nat) : Nat := sq_or 0 (fun c => S.testBit (T (c / 8) (c % 8))) (fun c => 2 ^ (c / 8)) 128
def sq_bad (B : Nat → Nat → Nat) : Nat := sq_or 0 (fun c => decide (B (c / 8) (c % 8) = 1)) (fun c => 2 ^ (c / 8)) 128
def sq_ok (T : Nat → Nat → Nat) : Prop := ∀ s l, s < 16 → l < 8 → T s l < 16
def sq_E (T : Nat → Nat → Nat) (s m : Nat) : Prop := s < 16 ∧ ∃ l, l < 8 ∧ T s l = m
def sq_b (B : Nat → Nat → Nat) (s : Nat) : Prop := s < 16 ∧ ∃ l, l < 8 ∧ B s l = 1
theorem sq_img_b {T : Nat → Nat → Nat} {S j : Nat} : (sq_img T S).testBit j = true ↔ ∃ s, S.testBit s = true ∧ sq_E T s j := by
  unfold sq_img
  rw [sq_or_bit, Nat.zero_testBit]
  constructor
  · rintro (h | ⟨c, hc, x, y⟩)
    · exact Bool.noConfusion h
    · exact ⟨c / 8, x, by omega, c % 8, by omega, sq_p2.mp y⟩
  · rintro ⟨s, hS, hs, l, hl, e⟩
    have e1 : (8 * s + l) / 8 = s := by omega
    have e2 : (8 * s + l) % 8 = l := by omega
    refine Or.inr ⟨8 * s + l, by omega, ?_, ?_⟩
    · rw [e1]; exact hS
    · rw [e1, e2]; exact sq_p2.mpr e
theorem sq_pre_b {T : Nat → Nat → Nat} {S s : Nat} : (sq_pre T S).testBit s = true ↔ ∃ m, S.testBit m = true ∧ sq_E T s m := by
  unfold sq_pre
  rw [sq_or_bit, Nat.zero_testBit]
  constructor
  · rintro (h | ⟨c, hc, x, y⟩)
    · exact Bool.noConfusion h
    · have e := sq_p2.mp y
      rw [e] at x
      exact ⟨_, x, by omega, c % 8, by omega, rfl⟩
  · rintro ⟨m, hS, hs, l, hl, e⟩
    have e1 : (8 * s + l) / 8 = s := by omega
    have e2 : (8 * s + l) % 8 = l := by omega
    refine Or.inr ⟨8 * s + l, by omega, ?_, ?_⟩
    · rw [e1, e2, e]; exact hS
    · rw [e1]; exact sq_p2.mpr rfl
theorem sq_bad_b {B : Nat → Nat → Nat} {s : Nat} : (sq_bad B).testBit s = true ↔ sq_b B s := by
  unfold sq_bad
  rw [sq_or_bit, Nat.zero_testBit]
  constructor
  · rintro (h | ⟨c, hc, x, y⟩)
    · exact Bool.noConfusion h
    · have e := sq_p2.mp y
      have x' := of_decide_eq_true x
      rw [e] at x'
      exact ⟨by omega, c % 8, by omega, x'⟩
  · rintro ⟨hs, l, hl, e⟩
    have e1 : (8 * s + l) / 8 = s := by omega
    have e2 : (8 * s + l) % 8 = l := by omega
    refine Or.inr ⟨8 * s + l, by omega, ?_, ?_⟩
    · rw [e1, e2]; exact decide_eq_true e
    · rw [e1]; exact sq_p2.mpr rfl
theorem sq_img_lt {T : Nat → Nat → Nat} (hT : sq_ok T) (S : Nat) : sq_img T S < 2 ^ 16 :=
  sq_or_lt (by decide) 128 fun i hi => sq_p2lt (hT _ _ (by omega) (by omega))
theorem sq_pre_lt {T : Nat → Nat → Nat} (S : Nat) : sq_pre T S < 2 ^ 16 :=
  sq_or_lt (by decide) 128 fun i hi => sq_p2lt (by omega)
theorem sq_bad_lt {B : Nat → Nat → Nat} : sq_bad B < 2 ^ 16 :=
  sq_or_lt (by decide) 128 fun i hi => sq_p2lt (by omega)
def sq_fol (T : Nat → Nat → Nat) (s : Nat) : Nat := sq_or 0 (fun _ => true) (fun l => 2 ^ T s l) 8
theorem sq_fol_b {T : Nat → Nat → Nat} {s j : Nat} (hs : s < 16) : (sq_fol T s).testBit j = true ↔ sq_E T s j := by
  unfold sq_fol
  rw [sq_or_bit, Nat.zero_testBit]
  constructor
  · rintro (h | ⟨l, hl, _, y⟩)
    · exact Bool.noConfusion h
    · exact ⟨hs, l, hl, sq_p2.mp y⟩
  · rintro ⟨_, l, hl, e⟩
    exact Or.inr ⟨l, hl, rfl, sq_p2.mpr e⟩
theorem sq_fol_lt {T : Nat → Nat → Nat} (hT : sq_ok T) {s : Nat} (hs : s < 16) : sq_fol T s < 2 ^ 16 :=
  sq_or_lt (by decide) 8 fun i hi => sq_p2lt (hT _ _ hs hi)
theorem sq_fol_n {T : Nat → Nat → Nat} (hT : sq_ok T) {s n : Nat} (hs : s < 16) (hn : n ≤ 8) : sq_or 0 (fun _ => true) (fun l => 2 ^ T s l) n < 2 ^ 16 :=
  sq_or_lt (by decide) n fun i hi => sq_p2lt (hT _ _ hs (by omega))
theorem sq_all {T : Nat → Nat → Nat} {S : Nat} : sq_or 0 (fun s => S.testBit s) (sq_fol T) 16 = sq_img T S := by
  apply sq_ext
  intro j
  rw [sq_or_bit, Nat.zero_testBit, sq_img_b]
  constructor
  · rintro (h | ⟨s, hs, x, y⟩)
    · exact Bool.noConfusion h
    · exact ⟨s, x, (sq_fol_b hs).mp y⟩
  · rintro ⟨s, hS, h⟩
    exact Or.inr ⟨s, h.1, hS, (sq_fol_b h.1).mpr h⟩
theorem sq_into {T : Nat → Nat → Nat} {S : Nat} : sq_or 0 (fun s => decide (¬ sq_fol T s &&& S = 0)) (fun s => 2 ^ s) 16 = sq_pre T S := by
  apply sq_ext
  intro j
  rw [sq_or_bit, Nat.zero_testBit, sq_pre_b]
  constructor
  · rintro (h | ⟨s, hs, x, y⟩)
    · exact Bool.noConfusion h
    · have e := sq_p2.mp y
      subst e
      obtain ⟨m, a, b⟩ := sq_nz.mp (of_decide_eq_true x)
      exact ⟨m, b, (sq_fol_b hs).mp a⟩
  · rintro ⟨m, hS, h⟩
    exact Or.inr ⟨j, h.1, decide_eq_true (sq_nz.mpr ⟨m, (sq_fol_b h.1).mpr h, hS⟩), sq_p2.mpr rfl⟩
def sq_xb (B : Nat → Nat → Nat) : Nat → Nat
  | 0 => 0
  | s + 1 => sq_or (sq_xb B s) (fun _ => true) (fun l => B s l * 2 ^ s) 8
theorem sq_xb_b {B : Nat → Nat → Nat} (hB : ∀ s l, s < 16 → l < 8 → B s l < 2) {j : Nat} : ∀ n, n ≤ 16 → ((sq_xb B n).testBit j = true ↔ j < n ∧ sq_b B j) := by
  intro n
  induction n with
  | zero =>
    intro _
    rw [sq_xb, Nat.zero_testBit]
    exact ⟨fun h => Bool.noConfusion h, fun h => absurd h.1 (Nat.not_lt_zero j)⟩
  | succ n ih =>
    intro hn
    rw [sq_xb, sq_or_bit, ih (by omega)]
    constructor
    · rintro (⟨h1, h2⟩ | ⟨l, hl, _, y⟩)
      · exact ⟨by omega, h2⟩
      · have := hB n l (by omega) hl
        rcases (by omega : B n l = 0 ∨ B n l = 1) with e | e
        · rw [e, Nat.zero_mul, Nat.zero_testBit] at y
          exact Bool.noConfusion y
        · rw [e, Nat.one_mul] at y
          have e' := sq_p2.mp y
          subst e'
          exact ⟨by omega, by omega, l, hl, e⟩
    · rintro ⟨h1, h2⟩
      by_cases e : j = n
      · subst e
        obtain ⟨_, l, hl, e⟩ := h2
        refine Or.inr ⟨l, hl, rfl, ?_⟩
        rw [e, Nat.one_mul]
        exact sq_p2.mpr rfl
      · exact Or.inl ⟨by omega, h2⟩
theorem sq_xb_16 {B : Nat → Nat → Nat} (hB : ∀ s l, s < 16 → l < 8 → B s l < 2) : sq_xb B 16 = sq_bad B := by
  apply sq_ext
  intro j
  rw [sq_xb_b hB 16 (by omega), sq_bad_b]
  exact ⟨fun h => h.2, fun h => ⟨h.1, h⟩⟩
theorem sq_mul2 {b s : Nat} (hb : b < 2) (hs : s < 16) : b * 2 ^ s < 2 ^ 16 := by
  rcases (by omega : b = 0 ∨ b = 1) with e | e
  · rw [e, Nat.zero_mul]; decide
  · rw [e, Nat.one_mul]; exact sq_p2lt hs
theorem sq_xb_lt {B : Nat → Nat → Nat} (hB : ∀ s l, s < 16 → l < 8 → B s l < 2) : ∀ n, n ≤ 16 → sq_xb B n < 2 ^ 16 := by
  intro n
  induction n with
  | zero => exact fun _ => (by decide : (0 : Nat) < 2 ^ 16)
  | succ n ih => exact fun hn => sq_or_lt (ih (by omega)) 8 fun l hl => sq_mul2 (hB n l (by omega) hl) (by omega)
def sq_has (s o z : Nat) : Bool := decide (¬ s &&& o = 0 ∨ ¬ (15 - s) &&& z = 0)
def sq_sw (o z : Nat) : Nat := sq_or 0 (fun s => sq_has s o z) (fun s => 2 ^ s) 16
theorem sq_sw_b {o z s : Nat} : (sq_sw o z).testBit s = true ↔ s < 16 ∧ sq_has s o z = true := by
  unfold sq_sw
  rw [sq_or_bit, Nat.zero_testBit]
  constructor
  · rintro (h | ⟨i, hi, x, y⟩)
    · exact Bool.noConfusion h
    · have e := sq_p2.mp y
      subst e
      exact ⟨hi, x⟩
  · rintro ⟨h1, h2⟩
    exact Or.inr ⟨s, h1, h2, sq_p2.mpr rfl⟩
theorem sq_sw_n {o z n : Nat} (hn : n ≤ 16) : sq_or 0 (fun s => sq_has s o z) (fun s => 2 ^ s) n < 2 ^ 16 :=
  sq_or_lt (by decide) n fun i hi => sq_p2lt (by omega)
theorem sq_sw_lt {o z : Nat} : sq_sw o z < 2 ^ 16 := sq_sw_n (Nat.le_refl 16)
theorem sq_has_one : ∀ t, t < 16 → ∀ s, s < 16 → (sq_has s (15 - t) t = true ↔ ¬ s = t) := by decide +kernel
def sq_cl (c : Nat) : Nat := sq_sw (c % 16) (c / 16)
def sq_and (f : Nat → Bool) (g : Nat → Nat) : Nat → Nat
  | 0 => 65535
  | n + 1 => if f n = true then sq_and f g n &&& g n else sq_and f g n
theorem sq_and_t {f : Nat → Bool} {g : Nat → Nat} {n : Nat} (h : f n = true) : sq_and f g (n + 1) = sq_and f g n &&& g n := if_pos h
theorem sq_and_f {f : Nat → Bool} {g : Nat → Nat} {n : Nat} (h : ¬ f n = true) : sq_and f g (n + 1) = sq_and f g n := if_neg h
theorem sq_and_bit (f : Nat → Bool) (g : Nat → Nat) (j : Nat) : ∀ n, (sq_and f g n).testBit j = true ↔ (j < 16 ∧ ∀ i, i < n → f i = true → (g i).testBit j = true) := by
  intro n
  induction n with
  | zero =>
    show (2 ^ 16 - 1).testBit j = true ↔ _
    rw [Nat.testBit_two_pow_sub_one, decide_eq_true_eq]
    exact ⟨fun h => ⟨h, fun i hi => absurd hi (Nat.not_lt_zero i)⟩, fun h => h.1⟩
  | succ n ih =>
    by_cases h : f n = true
    · rw [sq_and_t h, Nat.testBit_and, Bool.and_eq_true, ih]
      constructor
      · rintro ⟨⟨a, b⟩, c⟩
        refine ⟨a, fun i hi hf => ?_⟩
        by_cases e : i = n
        · subst e; exact c
        · exact b i (by omega) hf
      · rintro ⟨a, b⟩
        exact ⟨⟨a, fun i hi hf => b i (by omega) hf⟩, b n (by omega) h⟩
    · rw [sq_and_f h, ih]
      constructor
      · rintro ⟨a, b⟩
        refine ⟨a, fun i hi hf => ?_⟩
        have e : i ≠ n := fun e => h (e ▸ hf)
        exact b i (by omega) hf
      · rintro ⟨a, b⟩
        exact ⟨a, fun i hi hf => b i (by omega) hf⟩
theorem sq_and_lt (f : Nat → Bool) (g : Nat → Nat) : ∀ n, sq_and f g n < 2 ^ 16 := by
  intro n
  induction n with
  | zero => exact (by decide : (65535 : Nat) < 2 ^ 16)
  | succ n ih =>
    by_cases h : f n = true
    · rw [sq_and_t h]
      exact Nat.lt_of_le_of_lt Nat.and_le_left ih
    · rw [sq_and_f h]
      exact ih
end
section
def sq_L (T : Nat → Nat → Nat) : Nat → Nat → Nat → Prop
  | 0, s, t => s = t
  | n + 1, s, t => sq_L T n s t ∨ ∃ m, sq_L T n s m ∧ sq_E T m t
theorem sq_L_front {T : Nat → Nat → Nat} : ∀ (n s t : Nat), sq_L T (n + 1) s t ↔ (sq_L T n s t ∨ ∃ m, sq_E T s m ∧ sq_L T n m t) := by
  intro n
  induction n with
  | zero =>
    intro s t
    constructor
    · rintro (h | ⟨m, h1, h2⟩)
      · exact Or.inl h
      · cases (show s = m from h1)
        exact Or.inr ⟨t, h2, (rfl : t = t)⟩
    · rintro (h | ⟨m, h1, h2⟩)
      · exact Or.inl h
      · cases (show m = t from h2)
        exact Or.inr ⟨s, (rfl : s = s), h1⟩
  | succ n ih =>
    intro s t
    constructor
    · rintro (h | ⟨m, h1, h2⟩)
      · exact Or.inl h
      · rcases (ih s m).mp h1 with h | ⟨q, h3, h4⟩
        · exact Or.inl (Or.inr ⟨m, h, h2⟩)
        · exact Or.inr ⟨q, h3, Or.inr ⟨m, h4, h2⟩⟩
    · rintro (h | ⟨q, h1, h2⟩)
      · exact Or.inl h
      · rcases h2 with h | ⟨m, h3, h4⟩
        · exact Or.inl ((ih s t).mpr (Or.inr ⟨q, h1, h⟩))
        · exact Or.inr ⟨m, (ih s m).mpr (Or.inr ⟨q, h1, h3⟩), h4⟩
theorem sq_L_trans {T : Nat → Nat → Nat} {n s m : Nat} (h : sq_L T n s m) : ∀ (k t : Nat), sq_L T k m t → sq_L T (n + k) s t := by
  intro k
  induction k with
  | zero =>
    intro t e
    cases (show m = t from e)
    exact h
  | succ k ih =>
    intro t e
    rcases e with e | ⟨q, h1, h2⟩
    · exact Or.inl (ih t e)
    · exact Or.inr ⟨q, ih q h1, h2⟩
def sq_R (T : Nat → Nat → Nat) (S : Nat) : Nat → Nat
  | 0 => S
  | n + 1 => sq_R T S n ||| sq_img T (sq_R T S n)
def sq_K (T : Nat → Nat → Nat) (S : Nat) : Nat → Nat
  | 0 => S
  | n + 1 => sq_K T S n ||| sq_pre T (sq_K T S n)
def sq_Q (T : Nat → Nat → Nat) (S : Nat) : Nat → Nat
  | 0 => S
  | n + 1 => sq_pre T (sq_Q T S n)
theorem sq_R_lt {T : Nat → Nat → Nat} (hT : sq_ok T) {S : Nat} (hS : S < 2 ^ 16) : ∀ n, sq_R T S n < 2 ^ 16 := by
  intro n
  induction n with
  | zero => exact hS
  | succ n ih => exact Nat.or_lt_two_pow ih (sq_img_lt hT _)
theorem sq_K_lt {T : Nat → Nat → Nat} {S : Nat} (hS : S < 2 ^ 16) : ∀ n, sq_K T S n < 2 ^ 16 := by
  intro n
  induction n with
  | zero => exact hS
  | succ n ih => exact Nat.or_lt_two_pow ih (sq_pre_lt _)
theorem sq_Q_lt {T : Nat → Nat → Nat} {S : Nat} (hS : S < 2 ^ 16) : ∀ n, sq_Q T S n < 2 ^ 16 := by
  intro n
  cases n with
  | zero => exact hS
  | succ n => exact sq_pre_lt _
theorem sq_R_b {T : Nat → Nat → Nat} {s : Nat} : ∀ (n t : Nat), (sq_R T (2 ^ s) n).testBit t = true ↔ sq_L T n s t := by
  intro n
  induction n with
  | zero => exact fun t => sq_p2
  | succ n ih =>
    intro t
    rw [sq_R, Nat.testBit_or, Bool.or_eq_true, ih, sq_img_b]
    constructor
    · rintro (h | ⟨m, h1, h2⟩)
      · exact Or.inl h
      · exact Or.inr ⟨m, (ih m).mp h1, h2⟩
    · rintro (h | ⟨m, h1, h2⟩)
      · exact Or.inl h
      · exact Or.inr ⟨m, (ih m).mpr h1, h2⟩
theorem sq_K_b {T B : Nat → Nat → Nat} : ∀ (n s : Nat), (sq_K T (sq_bad B) n).testBit s = true ↔ ∃ t, sq_L T n s t ∧ sq_b B t := by
  intro n
  induction n with
  | zero =>
    intro s
    rw [sq_K, sq_bad_b]
    constructor
    · exact fun h => ⟨s, (rfl : s = s), h⟩
    · rintro ⟨t, h1, h2⟩
      cases (show s = t from h1)
      exact h2
  | succ n ih =>
    intro s
    rw [sq_K, Nat.testBit_or, Bool.or_eq_true, ih, sq_pre_b]
    constructor
    · rintro (⟨t, h1, h2⟩ | ⟨m, h1, h2⟩)
      · exact ⟨t, Or.inl h1, h2⟩
      · obtain ⟨t, h3, h4⟩ := (ih m).mp h1
        exact ⟨t, (sq_L_front n s t).mpr (Or.inr ⟨m, h2, h3⟩), h4⟩
    · rintro ⟨t, h1, h2⟩
      rcases (sq_L_front n s t).mp h1 with h | ⟨m, h3, h4⟩
      · exact Or.inl ⟨t, h, h2⟩
      · exact Or.inr ⟨m, (ih m).mpr ⟨t, h4, h2⟩, h3⟩
theorem sq_hit {T B : Nat → Nat → Nat} (s n : Nat) : ¬ sq_R T (2 ^ s) n &&& sq_bad B = 0 ↔ (sq_K T (sq_bad B) n).testBit s = true := by
  rw [sq_nz, sq_K_b]
  constructor
  · rintro ⟨t, h1, h2⟩
    exact ⟨t, (sq_R_b n t).mp h1, sq_bad_b.mp h2⟩
  · rintro ⟨t, h1, h2⟩
    exact ⟨t, (sq_R_b n t).mpr h1, sq_bad_b.mpr h2⟩
def sq_fs (P : Nat → Bool) : Nat → Nat → Int32
  | 0, _ => -3
  | d + 1, i => if P i = true then nI i else sq_fs P d (i + 1)
theorem sq_fs_spec (P : Nat → Bool) : ∀ (d i : Nat), (∃ k, i ≤ k ∧ k < i + d ∧ P k = true ∧ (∀ j, i ≤ j → j < k → ¬ P j = true) ∧ sq_fs P d i = nI k) ∨ ((∀ j, i ≤ j → j < i + d → ¬ P j = true) ∧ sq_fs P d i = -3) := by
  intro d
  induction d with
  | zero => exact fun i => Or.inr ⟨fun j h1 h2 => by omega, rfl⟩
  | succ d ih =>
    intro i
    by_cases h : P i = true
    · exact Or.inl ⟨i, by omega, by omega, h, fun j h1 h2 => by omega, if_pos h⟩
    · have e : sq_fs P (d + 1) i = sq_fs P d (i + 1) := if_neg h
      rcases ih (i + 1) with ⟨k, h1, h2, h3, h4, h5⟩ | ⟨h1, h2⟩
      · refine Or.inl ⟨k, by omega, by omega, h3, fun j a b => ?_, e.trans h5⟩
        by_cases z : j = i
        · rw [z]; exact h
        · exact h4 j (by omega) b
      · refine Or.inr ⟨fun j a b => ?_, e.trans h2⟩
        by_cases z : j = i
        · rw [z]; exact h
        · exact h1 j (by omega) (by omega)
theorem sq_n3 {n : Nat} (h : n < 16) : ¬ nI n = -3 := (by decide +kernel : ∀ n, n < 16 → ¬ nI n = -3) n h
theorem sq_fs_eq {P : Nat → Bool} {n : Nat} (hn : n < 16) : sq_fs P 16 0 = nI n ↔ (P n = true ∧ ∀ i, i < n → ¬ P i = true) := by
  rcases sq_fs_spec P 16 0 with ⟨k, _, h2, h3, h4, h5⟩ | ⟨h1, h2⟩
  · rw [h5, nI_eq (by omega) (by omega)]
    constructor
    · rintro rfl
      exact ⟨h3, fun i hi => h4 i (by omega) hi⟩
    · rintro ⟨a, b⟩
      rcases Nat.lt_trichotomy k n with z | z | z
      · exact absurd h3 (b k z)
      · exact z
      · exact absurd a (h4 n (by omega) z)
  · rw [h2]
    constructor
    · exact fun h => absurd h.symm (sq_n3 hn)
    · exact fun h => absurd h.1 (h1 n (by omega) (by omega))
theorem sq_fs_no {P : Nat → Bool} : sq_fs P 16 0 = -3 ↔ ∀ i, i < 16 → ¬ P i = true := by
  rcases sq_fs_spec P 16 0 with ⟨k, _, h2, h3, h4, h5⟩ | ⟨h1, h2⟩
  · rw [h5]
    exact ⟨fun h => absurd h (sq_n3 (by omega)), fun h => absurd h3 (h k (by omega))⟩
  · exact ⟨fun _ i hi => h1 i (by omega) (by omega), fun _ => h2⟩
def sq_cn (S : Nat) : Nat → Nat
  | 0 => 0
  | n + 1 => sq_cn S n + (if S.testBit n = true then 1 else 0)
theorem sq_cn_le (S : Nat) : ∀ n, sq_cn S n ≤ n := by
  intro n
  induction n with
  | zero => exact Nat.le_refl 0
  | succ n ih =>
    rw [sq_cn]
    by_cases h : S.testBit n = true
    · rw [if_pos h]; omega
    · rw [if_neg h]; omega
theorem sq_cn_mono {S S' : Nat} (h : ∀ j, S.testBit j = true → S'.testBit j = true) : ∀ n, sq_cn S n ≤ sq_cn S' n := by
  intro n
  induction n with
  | zero => exact Nat.le_refl 0
  | succ n ih =>
    rw [sq_cn, sq_cn]
    by_cases a : S.testBit n = true
    · rw [if_pos a, if_pos (h n a)]; omega
    · rw [if_neg a]; omega
theorem sq_cn_lt {S S' i : Nat} (h : ∀ j, S.testBit j = true → S'.testBit j = true) (h1 : ¬ S.testBit i = true) (h2 : S'.testBit i = true) : ∀ n, i < n → sq_cn S n < sq_cn S' n := by
  intro n
  induction n with
  | zero => exact fun hi => absurd hi (Nat.not_lt_zero i)
  | succ n ih =>
    intro hi
    rw [sq_cn, sq_cn]
    by_cases e : i = n
    · subst e
      have := sq_cn_mono h i
      rw [if_neg h1, if_pos h2]; omega
    · have := ih (by omega)
      by_cases a : S.testBit n = true
      · rw [if_pos a, if_pos (h n a)]; omega
      · rw [if_neg a]; omega
theorem sq_R_up {T : Nat → Nat → Nat} {S n t : Nat} (h : (sq_R T S n).testBit t = true) : ∀ k, (sq_R T S (n + k)).testBit t = true := by
  intro k
  induction k with
  | zero => exact h
  | succ k ih =>
    show (sq_R T S (n + k) ||| _).testBit t = true
    rw [Nat.testBit_or, ih]; rfl
theorem sq_R_same {T : Nat → Nat → Nat} {S n : Nat} (h : sq_R T S (n + 1) = sq_R T S n) : ∀ k, sq_R T S (n + k) = sq_R T S n := by
  intro k
  induction k with
  | zero => rfl
  | succ k ih =>
    show sq_R T S (n + k) ||| sq_img T (sq_R T S (n + k)) = _
    rw [ih]
    exact h
theorem sq_new {x y : Nat} (h : ¬ x = y) (hs : ∀ j, y.testBit j = true → x.testBit j = true) : ∃ j, x.testBit j = true ∧ ¬ y.testBit j = true := by
  apply Classical.byContradiction
  intro hn
  apply h
  apply sq_ext
  intro j
  constructor
  · intro hx
    apply Classical.byContradiction
    exact fun hy => hn ⟨j, hx, hy⟩
  · exact hs j
theorem sq_R_fix {T : Nat → Nat → Nat} (hT : sq_ok T) {s : Nat} (hs : s < 16) : sq_R T (2 ^ s) 16 = sq_R T (2 ^ s) 15 := by
  apply Classical.byContradiction
  intro h
  have ne : ∀ n, n ≤ 15 → ¬ sq_R T (2 ^ s) (n + 1) = sq_R T (2 ^ s) n := by
    intro n hn e
    apply h
    have a := sq_R_same e (16 - n)
    have b := sq_R_same e (15 - n)
    rw [show n + (16 - n) = 16 by omega] at a
    rw [show n + (15 - n) = 15 by omega] at b
    rw [a, b]
  have c : ∀ n, n ≤ 16 → n + 1 ≤ sq_cn (sq_R T (2 ^ s) n) 16 := by
    intro n
    induction n with
    | zero =>
      intro _
      have z := sq_cn_lt (S := 0) (S' := 2 ^ s) (i := s) (fun j hj => by rw [Nat.zero_testBit] at hj; exact Bool.noConfusion hj) (by rw [Nat.zero_testBit]; exact Bool.false_ne_true) (sq_p2.mpr rfl) 16 hs
      show 0 + 1 ≤ sq_cn (2 ^ s) 16
      omega
    | succ n ih =>
      intro hn
      have up : ∀ j, (sq_R T (2 ^ s) n).testBit j = true → (sq_R T (2 ^ s) (n + 1)).testBit j = true := fun j hj => sq_R_up hj 1
      obtain ⟨j, h1, h2⟩ := sq_new (ne n (by omega)) up
      have hj : j < 16 := sq_big (sq_R_lt hT (sq_p2lt hs) (n + 1)) h1
      have := sq_cn_lt up h2 h1 16 hj
      have := ih (by omega)
      omega
  have a := c 16 (by omega)
  have b := sq_cn_le (sq_R T (2 ^ s) 16) 16
  omega
theorem sq_Re {T : Nat → Nat → Nat} (hT : sq_ok T) {s t : Nat} (hs : s < 16) : (sq_R T (2 ^ s) 15).testBit t = true ↔ ∃ n, sq_L T n s t := by
  constructor
  · exact fun h => ⟨15, (sq_R_b 15 t).mp h⟩
  · rintro ⟨n, h⟩
    have h' := (sq_R_b n t).mpr h
    rcases Nat.lt_or_ge n 16 with a | a
    · have := sq_R_up h' (15 - n)
      rw [show n + (15 - n) = 15 by omega] at this
      exact this
    · have := sq_R_same (sq_R_fix hT hs) (n - 15)
      rw [show 15 + (n - 15) = n by omega] at this
      rw [← this]
      exact h'
end
section
def sq_dep (T B : Nat → Nat → Nat) (s : Nat) : Int32 := sq_fs (fun n => decide (¬ sq_R T (2 ^ s) n &&& sq_bad B = 0)) 16 0
def sq_ev (T B : Nat → Nat → Nat) (s : Nat) : Prop := ∃ n t, sq_L T n s t ∧ sq_b B t
theorem sq_dep_K {T B : Nat → Nat → Nat} {s : Nat} : sq_dep T B s = sq_fs (fun n => (sq_K T (sq_bad B) n).testBit s) 16 0 := by
  unfold sq_dep
  congr 1
  funext n
  show decide (¬ sq_R T (2 ^ s) n &&& sq_bad B = 0) = (sq_K T (sq_bad B) n).testBit s
  rcases hb : (sq_K T (sq_bad B) n).testBit s with _ | _
  · apply decide_eq_false
    rw [sq_hit, hb]
    exact Bool.false_ne_true
  · apply decide_eq_true
    rw [sq_hit, hb]
theorem sq_ev_15 {T B : Nat → Nat → Nat} (hT : sq_ok T) {s : Nat} (hs : s < 16) : ¬ sq_R T (2 ^ s) 15 &&& sq_bad B = 0 ↔ sq_ev T B s := by
  rw [sq_nz]
  constructor
  · rintro ⟨t, h1, h2⟩
    obtain ⟨n, h⟩ := (sq_Re hT hs).mp h1
    exact ⟨n, t, h, sq_bad_b.mp h2⟩
  · rintro ⟨n, t, h1, h2⟩
    exact ⟨t, (sq_Re hT hs).mpr ⟨n, h1⟩, sq_bad_b.mpr h2⟩
theorem sq_ev_dep {T B : Nat → Nat → Nat} (hT : sq_ok T) {s : Nat} (hs : s < 16) : sq_dep T B s = -3 ↔ ¬ sq_ev T B s := by
  rw [← sq_ev_15 hT hs]
  unfold sq_dep
  rw [sq_fs_no]
  constructor
  · exact fun h a => h 15 (by omega) (decide_eq_true a)
  · intro h n hn a
    apply h
    obtain ⟨j, h1, h2⟩ := sq_nz.mp (of_decide_eq_true a)
    refine sq_nz.mpr ⟨j, ?_, h2⟩
    have := sq_R_up h1 (15 - n)
    rw [show n + (15 - n) = 15 by omega] at this
    exact this
theorem sq_dep_n {T B : Nat → Nat → Nat} {s : Nat} : sq_dep T B s = -3 ∨ ∃ d, d < 16 ∧ sq_dep T B s = nI d := by
  rcases sq_fs_spec (fun n => decide (¬ sq_R T (2 ^ s) n &&& sq_bad B = 0)) 16 0 with ⟨k, _, h2, _, _, h5⟩ | ⟨_, h2⟩
  · exact Or.inr ⟨k, by omega, h5⟩
  · exact Or.inl h2
def sq_wp (p : Nat → Nat) (k : Nat) : Nat → Nat := fun s => if (p s).testBit k = true then p s ||| p k else p s
def sq_W (p : Nat → Nat) : Nat → Nat → Nat
  | 0 => p
  | k + 1 => sq_wp (sq_W p k) k
theorem sq_wp_b {p : Nat → Nat} {k s t : Nat} : (sq_wp p k s).testBit t = true ↔ ((p s).testBit t = true ∨ ((p s).testBit k = true ∧ (p k).testBit t = true)) := by
  unfold sq_wp
  by_cases h : (p s).testBit k = true
  · rw [if_pos h, Nat.testBit_or, Bool.or_eq_true]
    exact ⟨fun a => a.elim Or.inl fun b => Or.inr ⟨h, b⟩, fun a => a.elim Or.inl fun b => Or.inr b.2⟩
  · rw [if_neg h]
    exact ⟨Or.inl, fun a => a.elim id fun b => absurd b.1 h⟩
theorem sq_wp_k {p : Nat → Nat} {k : Nat} : sq_wp p k k = p k := by
  unfold sq_wp
  by_cases h : (p k).testBit k = true
  · rw [if_pos h, Nat.or_self]
  · rw [if_neg h]
def sq_p0 (T : Nat → Nat → Nat) (s : Nat) : Nat := sq_fol T s ||| 2 ^ s
theorem sq_p0_lt {T : Nat → Nat → Nat} (hT : sq_ok T) {s : Nat} (hs : s < 16) : sq_p0 T s < 2 ^ 16 := Nat.or_lt_two_pow (sq_fol_lt hT hs) (sq_p2lt hs)
theorem sq_W_lt {p : Nat → Nat} (h : ∀ s, s < 16 → p s < 2 ^ 16) : ∀ k, k ≤ 16 → ∀ s, s < 16 → sq_W p k s < 2 ^ 16 := by
  intro k
  induction k with
  | zero => exact fun _ => h
  | succ k ih =>
    intro hk s hs
    show sq_wp (sq_W p k) k s < 2 ^ 16
    unfold sq_wp
    by_cases z : (sq_W p k s).testBit k = true
    · rw [if_pos z]
      exact Nat.or_lt_two_pow (ih (by omega) s hs) (ih (by omega) k (by omega))
    · rw [if_neg z]
      exact ih (by omega) s hs
theorem sq_W_sound {T : Nat → Nat → Nat} : ∀ k, k ≤ 16 → ∀ s t, s < 16 → (sq_W (sq_p0 T) k s).testBit t = true → ∃ n, sq_L T n s t := by
  intro k
  induction k with
  | zero =>
    intro _ s t hs h
    rw [sq_W, sq_p0, Nat.testBit_or, Bool.or_eq_true] at h
    rcases h with h | h
    · exact ⟨1, Or.inr ⟨s, (rfl : s = s), (sq_fol_b hs).mp h⟩⟩
    · exact ⟨0, sq_p2.mp h⟩
  | succ k ih =>
    intro hk s t hs h
    rcases sq_wp_b.mp h with a | ⟨a, b⟩
    · exact ih (by omega) s t hs a
    · obtain ⟨n, h1⟩ := ih (by omega) s k hs a
      obtain ⟨m, h2⟩ := ih (by omega) k t (by omega) b
      exact ⟨n + m, sq_L_trans h1 m t h2⟩
theorem sq_W_up {p : Nat → Nat} {s t : Nat} (h : (p s).testBit t = true) : ∀ k, (sq_W p k s).testBit t = true := by
  intro k
  induction k with
  | zero => exact h
  | succ k ih => exact sq_wp_b.mpr (Or.inl ih)
theorem sq_W_tr {p : Nat → Nat} : ∀ k m s t, m < k → (sq_W p k s).testBit m = true → (sq_W p k m).testBit t = true → (sq_W p k s).testBit t = true := by
  intro k
  induction k with
  | zero => exact fun m s t h => absurd h (Nat.not_lt_zero m)
  | succ k ih =>
    intro m s t hm h1 h2
    apply sq_wp_b.mpr
    by_cases e : m = k
    · subst e
      have h2' : (sq_wp (sq_W p m) m m).testBit t = true := h2
      rw [sq_wp_k] at h2'
      rcases sq_wp_b.mp h1 with a | ⟨a, _⟩
      · exact Or.inr ⟨a, h2'⟩
      · exact Or.inr ⟨a, h2'⟩
    · have hm' : m < k := by omega
      rcases sq_wp_b.mp h1 with a | ⟨a, b⟩
      · rcases sq_wp_b.mp h2 with c | ⟨c, d⟩
        · exact Or.inl (ih m s t hm' a c)
        · exact Or.inr ⟨ih m s k hm' a c, d⟩
      · rcases sq_wp_b.mp h2 with c | ⟨c, d⟩
        · exact Or.inr ⟨a, ih m k t hm' b c⟩
        · exact Or.inr ⟨a, d⟩
theorem sq_W_all {T : Nat → Nat → Nat} {s : Nat} : ∀ n t, sq_L T n s t → (sq_W (sq_p0 T) 16 s).testBit t = true := by
  intro n
  induction n with
  | zero =>
    intro t h
    cases (show s = t from h)
    apply sq_W_up
    rw [sq_p0, Nat.testBit_or, sq_p2.mpr rfl, Bool.or_true]
  | succ n ih =>
    intro t h
    rcases h with h | ⟨m, h1, h2⟩
    · exact ih t h
    · apply sq_W_tr 16 m s t h2.1 (ih m h1)
      apply sq_W_up
      rw [sq_p0, Nat.testBit_or, (sq_fol_b h2.1).mpr h2, Bool.true_or]
theorem sq_ev_W {T B : Nat → Nat → Nat} {s : Nat} (hs : s < 16) : ¬ sq_W (sq_p0 T) 16 s &&& sq_bad B = 0 ↔ sq_ev T B s := by
  rw [sq_nz]
  constructor
  · rintro ⟨t, h1, h2⟩
    obtain ⟨n, h⟩ := sq_W_sound 16 (by omega) s t hs h1
    exact ⟨n, t, h, sq_bad_b.mp h2⟩
  · rintro ⟨n, t, h1, h2⟩
    exact ⟨t, sq_W_all n t h1, sq_bad_b.mpr h2⟩
theorem sq_cla {A : Nat} (hA : A < 2 ^ 16) {kp : Nat → Bool} (h : ∀ c, c < 256 → (kp c = true ↔ ∀ t, A.testBit t = true → (sq_cl c).testBit t = true)) : sq_and kp sq_cl 256 = A := by
  apply sq_ext
  intro j
  rw [sq_and_bit]
  constructor
  · rintro ⟨hj, h2⟩
    apply Classical.byContradiction
    intro hn
    have e1 : ((15 - j) + 16 * j) % 16 = 15 - j := by omega
    have e2 : ((15 - j) + 16 * j) / 16 = j := by omega
    have k1 : kp ((15 - j) + 16 * j) = true := by
      apply (h ((15 - j) + 16 * j) (by omega)).mpr
      intro t ht
      have ht16 := sq_big hA ht
      rw [sq_cl, e1, e2, sq_sw_b]
      exact ⟨ht16, (sq_has_one j hj t ht16).mpr fun e => hn (e ▸ ht)⟩
    have k2 := h2 _ (by omega) k1
    rw [sq_cl, e1, e2, sq_sw_b] at k2
    exact (sq_has_one j hj j hj).mp k2.2 rfl
  · intro hj
    exact ⟨sq_big hA hj, fun i hi hf => (h i hi).mp hf j hj⟩
theorem sq_R_sub {T : Nat → Nat → Nat} {S n c : Nat} (h : ∀ t, (sq_R T S (n + 1)).testBit t = true → c.testBit t = true) : ∀ t, (sq_R T S n).testBit t = true → c.testBit t = true :=
  fun t ht => h t (sq_R_up ht 1)
def sq_D (T B : Nat → Nat → Nat) (n s : Nat) : Prop := (sq_K T (sq_bad B) n).testBit s = true ∧ ∀ i, i < n → ¬ (sq_K T (sq_bad B) i).testBit s = true
theorem sq_Q_K {T : Nat → Nat → Nat} {S : Nat} : ∀ n s, (sq_Q T S n).testBit s = true → (sq_K T S n).testBit s = true := by
  intro n
  induction n with
  | zero => exact fun s h => h
  | succ n ih =>
    intro s h
    rw [sq_Q, sq_pre_b] at h
    obtain ⟨m, h1, h2⟩ := h
    rw [sq_K, Nat.testBit_or, Bool.or_eq_true, sq_pre_b]
    exact Or.inr ⟨m, ih m h1, h2⟩
theorem sq_K_Q {T : Nat → Nat → Nat} {S : Nat} : ∀ n s, (sq_K T S n).testBit s = true → ∃ i, i ≤ n ∧ (sq_Q T S i).testBit s = true := by
  intro n
  induction n with
  | zero => exact fun s h => ⟨0, Nat.le_refl 0, h⟩
  | succ n ih =>
    intro s h
    rw [sq_K, Nat.testBit_or, Bool.or_eq_true, sq_pre_b] at h
    rcases h with h | ⟨m, h1, h2⟩
    · obtain ⟨i, hi, h⟩ := ih s h
      exact ⟨i, by omega, h⟩
    · obtain ⟨i, hi, h⟩ := ih m h1
      exact ⟨i + 1, by omega, by rw [sq_Q, sq_pre_b]; exact ⟨m, h, h2⟩⟩
theorem sq_D_Q {T B : Nat → Nat → Nat} {n s : Nat} (h : sq_D T B n s) : (sq_Q T (sq_bad B) n).testBit s = true := by
  obtain ⟨i, hi, hq⟩ := sq_K_Q n s h.1
  by_cases e : i = n
  · rw [← e]; exact hq
  · exact absurd (sq_Q_K i s hq) (h.2 i (by omega))
theorem sq_D_far {T B : Nat → Nat → Nat} {m s q : Nat} (h : sq_D T B (m + 1) s) (he : sq_E T s q) : ∀ i, i < m → ¬ (sq_K T (sq_bad B) i).testBit q = true := by
  intro i hi hk
  apply h.2 (i + 1) (by omega)
  rw [sq_K, Nat.testBit_or, Bool.or_eq_true, sq_pre_b]
  exact Or.inr ⟨q, hk, he⟩
theorem sq_D_step {T B : Nat → Nat → Nat} {m s q : Nat} (h : sq_D T B (m + 1) s) (he : sq_E T s q) (hq : (sq_Q T (sq_bad B) m).testBit q = true) : sq_D T B m q :=
  ⟨sq_Q_K m q hq, sq_D_far h he⟩
theorem sq_D_lev {T B : Nat → Nat → Nat} {m s q : Nat} (hm : m < 16) (h : sq_D T B (m + 1) s) (he : sq_E T s q) : sq_fs (fun n => (sq_K T (sq_bad B) n).testBit q) 16 0 = nI m ↔ (sq_Q T (sq_bad B) m).testBit q = true := by
  rw [sq_fs_eq hm]
  constructor
  · exact fun a => sq_D_Q a
  · exact fun a => sq_D_step h he a
theorem sq_D_ex {T B : Nat → Nat → Nat} {m s : Nat} (h : sq_D T B (m + 1) s) : ∃ l, l < 8 ∧ (sq_Q T (sq_bad B) m).testBit (T s l) = true := by
  have a := sq_D_Q h
  rw [sq_Q, sq_pre_b] at a
  obtain ⟨q, h1, _, l, hl, e⟩ := a
  exact ⟨l, hl, by rw [e]; exact h1⟩
def sq_lv (P : Nat → Bool) : Nat → Nat → Nat
  | 0, l => l
  | d + 1, l => if P l = true then l else sq_lv P d (l + 1)
theorem sq_lv_t {P : Nat → Bool} {d l : Nat} (h : P l = true) : sq_lv P (d + 1) l = l := if_pos h
theorem sq_lv_f {P : Nat → Bool} {d l : Nat} (h : ¬ P l = true) : sq_lv P (d + 1) l = sq_lv P d (l + 1) := if_neg h
theorem sq_lv_le (P : Nat → Bool) : ∀ d l, l ≤ sq_lv P d l ∧ sq_lv P d l ≤ l + d := by
  intro d
  induction d with
  | zero => exact fun l => ⟨Nat.le_refl l, Nat.le_refl l⟩
  | succ d ih =>
    intro l
    by_cases h : P l = true
    · rw [sq_lv_t h]; omega
    · rw [sq_lv_f h]
      have := ih (l + 1)
      omega
theorem sq_lv_ok {P : Nat → Bool} : ∀ d l, (∃ j, l ≤ j ∧ j ≤ l + d ∧ P j = true) → P (sq_lv P d l) = true := by
  intro d
  induction d with
  | zero =>
    rintro l ⟨j, h1, h2, h3⟩
    have e : j = l := by omega
    subst e
    exact h3
  | succ d ih =>
    rintro l ⟨j, h1, h2, h3⟩
    by_cases h : P l = true
    · rw [sq_lv_t h]; exact h
    · rw [sq_lv_f h]
      have e : j ≠ l := fun e => h (e ▸ h3)
      exact ih (l + 1) ⟨j, by omega, by omega, h3⟩
def sq_lt (T B : Nat → Nat → Nat) (m s : Nat) : Nat := sq_lv (fun l => (sq_Q T (sq_bad B) m).testBit (T s l)) 7 0
def sq_ll (B : Nat → Nat → Nat) (s : Nat) : Nat := sq_lv (fun l => decide (B s l = 1)) 7 0
def sq_st (T B : Nat → Nat → Nat) (s d : Nat) : Nat → Nat
  | 0 => s
  | i + 1 => T (sq_st T B s d i) (sq_lt T B (d - i - 1) (sq_st T B s d i))
theorem sq_lt_8 {T B : Nat → Nat → Nat} {m s : Nat} : sq_lt T B m s < 8 := by
  have := sq_lv_le (fun l => (sq_Q T (sq_bad B) m).testBit (T s l)) 7 0
  unfold sq_lt
  omega
theorem sq_ll_8 {B : Nat → Nat → Nat} {s : Nat} : sq_ll B s < 8 := by
  have := sq_lv_le (fun l => decide (B s l = 1)) 7 0
  unfold sq_ll
  omega
theorem sq_st_16 {T B : Nat → Nat → Nat} (hT : sq_ok T) {s d : Nat} (hs : s < 16) : ∀ i, sq_st T B s d i < 16 := by
  intro i
  induction i with
  | zero => exact hs
  | succ i ih => exact hT _ _ ih sq_lt_8
theorem sq_lt_Q {T B : Nat → Nat → Nat} {m s : Nat} (h : sq_D T B (m + 1) s) : (sq_Q T (sq_bad B) m).testBit (T s (sq_lt T B m s)) = true := by
  obtain ⟨l, hl, hq⟩ := sq_D_ex h
  exact sq_lv_ok (P := fun l => (sq_Q T (sq_bad B) m).testBit (T s l)) 7 0 ⟨l, by omega, by omega, hq⟩
theorem sq_st_D {T B : Nat → Nat → Nat} (hT : sq_ok T) {s d : Nat} (hs : s < 16) (h : sq_D T B d s) : ∀ i, i ≤ d → sq_D T B (d - i) (sq_st T B s d i) := by
  intro i
  induction i with
  | zero => exact fun _ => h
  | succ i ih =>
    intro hi
    have a := ih (by omega)
    rw [show d - i = (d - (i + 1)) + 1 by omega] at a
    have e : d - i - 1 = d - (i + 1) := by omega
    show sq_D T B (d - (i + 1)) (T (sq_st T B s d i) (sq_lt T B (d - i - 1) (sq_st T B s d i)))
    rw [e]
    exact sq_D_step a ⟨sq_st_16 hT hs i, _, sq_lt_8, rfl⟩ (sq_lt_Q a)
theorem sq_dep_D {T B : Nat → Nat → Nat} {s d : Nat} (hd : d < 16) (h : sq_dep T B s = nI d) : sq_D T B d s := by
  rw [sq_dep_K, sq_fs_eq hd] at h
  exact h
end
section
def sq_gv (k a b c : Nat) : Nat := match k with
  | 0 => a * b
  | 1 => if 0 < a + b then 1 else 0
  | 2 => (a + b) % 2
  | 3 => 1 - a * b
  | 4 => if 0 < a + b then 0 else 1
  | 5 => 1 - (a + b) % 2
  | 6 => if b < a then 0 else 1
  | 7 => if a = 1 then b else c
  | 8 => (a + b + c) / 2
  | _ => (a + b + c) % 2
theorem sq_gv_lt : ∀ k, k < 10 → ∀ a, a < 2 → ∀ b, b < 2 → ∀ c, c < 2 → sq_gv k a b c < 2 := by decide +kernel
def sq_base (s l i : Nat) : Nat := if i < 3 then l / 2 ^ i % 2 else s / 2 ^ (i - 3) % 2
theorem sq_base_lt (s l i : Nat) : sq_base s l i < 2 := by
  unfold sq_base
  by_cases h : i < 3
  · rw [if_pos h]; omega
  · rw [if_neg h]; omega
abbrev sq_P : Type := Nat × Nat × Nat × (Nat → Nat) × (Nat → Nat) × (Nat → Nat) × (Nat → Nat) × (Nat → Nat)
def sq_c (p : sq_P) : Nat := p.1
def sq_s (p : sq_P) : Nat := p.2.1
def sq_w (p : sq_P) : Nat := p.2.2.1
def sq_nx (p : sq_P) : Nat → Nat := p.2.2.2.1
def sq_gk (p : sq_P) : Nat → Nat := p.2.2.2.2.1
def sq_ga (p : sq_P) : Nat → Nat := p.2.2.2.2.2.1
def sq_gb (p : sq_P) : Nat → Nat := p.2.2.2.2.2.2.1
def sq_gc (p : sq_P) : Nat → Nat := p.2.2.2.2.2.2.2
def sq_pv (p : sq_P) (s l : Nat) : Nat → Nat → Nat
  | 0 => sq_base s l
  | g + 1 => fun i => if i = 7 + g then sq_gv (sq_gk p g) (sq_pv p s l g (sq_ga p g)) (sq_pv p s l g (sq_gb p g)) (sq_pv p s l g (sq_gc p g)) else sq_pv p s l g i
def sq_V (p : sq_P) (s l i : Nat) : Nat := sq_pv p s l (sq_c p) i
def sq_sum (f : Nat → Nat) : Nat → Nat
  | 0 => 0
  | r + 1 => sq_sum f r + f r * 2 ^ r
def sq_T (p : sq_P) (s l : Nat) : Nat := sq_sum (fun r => sq_V p s l (sq_nx p r)) 4
def sq_B (p : sq_P) (s l : Nat) : Nat := sq_V p s l (sq_w p)
def sq_wf (p : sq_P) : Prop := sq_c p ≤ 12 ∧ sq_s p < 16 ∧ sq_w p < 7 + sq_c p ∧ (∀ r, r < 4 → sq_nx p r < 7 + sq_c p) ∧ ∀ g, g < sq_c p → sq_gk p g < 10 ∧ sq_ga p g < 7 + g ∧ sq_gb p g < 7 + g ∧ sq_gc p g < 7 + g
theorem sq_pv_s {p : sq_P} {s l g : Nat} : sq_pv p s l (g + 1) (7 + g) = sq_gv (sq_gk p g) (sq_pv p s l g (sq_ga p g)) (sq_pv p s l g (sq_gb p g)) (sq_pv p s l g (sq_gc p g)) := if_pos rfl
theorem sq_pv_n {p : sq_P} {s l g i : Nat} (h : i ≠ 7 + g) : sq_pv p s l (g + 1) i = sq_pv p s l g i := if_neg h
theorem sq_pv_lt {p : sq_P} (h : sq_wf p) (s l : Nat) : ∀ g, g ≤ sq_c p → ∀ i, sq_pv p s l g i < 2 := by
  intro g
  induction g with
  | zero => exact fun _ i => sq_base_lt s l i
  | succ g ih =>
    intro hg i
    have H := ih (by omega)
    by_cases e : i = 7 + g
    · rw [e, sq_pv_s]
      exact sq_gv_lt _ (h.2.2.2.2 g (by omega)).1 _ (H _) _ (H _) _ (H _)
    · rw [sq_pv_n e]
      exact H i
theorem sq_V_lt {p : sq_P} (h : sq_wf p) (s l i : Nat) : sq_V p s l i < 2 := sq_pv_lt h s l _ (Nat.le_refl _) i
theorem sq_B_lt {p : sq_P} (h : sq_wf p) (s l : Nat) : sq_B p s l < 2 := sq_V_lt h s l _
theorem sq_sum_lt {f : Nat → Nat} (h : ∀ r, f r < 2) : ∀ n, sq_sum f n < 2 ^ n := by
  intro n
  induction n with
  | zero => exact Nat.one_pos
  | succ n ih =>
    rw [sq_sum, Nat.pow_succ]
    have := h n
    rcases (by omega : f n = 0 ∨ f n = 1) with e | e
    · rw [e]; omega
    · rw [e]; omega
theorem sq_T_lt {p : sq_P} (h : sq_wf p) (s l : Nat) : sq_T p s l < 16 := sq_sum_lt (f := fun r => sq_V p s l (sq_nx p r)) (fun _ => sq_V_lt h s l _) 4
theorem sq_T_ok {p : sq_P} (h : sq_wf p) : sq_ok (sq_T p) := fun s l _ _ => sq_T_lt h s l
theorem sq_nor (a b : Nat) : nI a ||| nI b = nI (a ||| b) := by
  apply Int32.toBitVec_inj.1
  show BitVec.ofNat 32 a ||| BitVec.ofNat 32 b = BitVec.ofNat 32 (a ||| b)
  apply BitVec.eq_of_getLsbD_eq
  intro i hi
  simp [hi]
theorem sq_one : ∀ s, s < 16 → (1 : Int32) <<< (nI s &&& 31) = nI (2 ^ s) := by decide +kernel
theorem sq_shl : ∀ v, v < 2 → ∀ s, s < 16 → nI v <<< (nI s &&& 31) = nI (v * 2 ^ s) := by decide +kernel
theorem sq_shr {a s : Nat} (ha : a < 2 ^ 31) (hs : s < 32) : nI a >>> (nI s &&& 31) = nI (a / 2 ^ s) := pk_shrN ha _ s (s_l s hs)
theorem sq_bit {a s : Nat} (ha : a < 2 ^ 31) (hs : s < 32) : (nI a >>> (nI s &&& 31)) &&& 1 = nI (a / 2 ^ s % 2) := by
  have h0 := Nat.div_le_self a (2 ^ s)
  have h1 : a / 2 ^ s < 2 ^ 32 := by omega
  have h2 := pk_andN (n := a / 2 ^ s) h1 (m := 1) 1 (by decide)
  exact (congrArg (fun x => x &&& 1) (sq_shr ha hs)).trans h2
theorem sq_bit1 {a s : Nat} (ha : a < 2 ^ 31) (hs : s < 32) : (nI a >>> (nI s &&& 31)) &&& 1 = 1 ↔ a.testBit s = true := by
  rw [sq_bit ha hs, Nat.testBit_eq_decide_div_mod_eq, decide_eq_true_eq]
  generalize a / 2 ^ s = z
  show nI (z % 2) = nI 1 ↔ _
  rw [nI_eq (by omega) (by omega)]
theorem sq_bit0 {a s : Nat} (ha : a < 2 ^ 31) (hs : s < 32) : (nI a >>> (nI s &&& 31)) &&& 1 = 0 ↔ ¬ a.testBit s = true := by
  rw [sq_bit ha hs, Nat.testBit_eq_decide_div_mod_eq, decide_eq_true_eq]
  generalize a / 2 ^ s = z
  show nI (z % 2) = nI 0 ↔ _
  rw [nI_eq (by omega) (by omega)]
  omega
theorem sq_and0 {a b : Nat} (ha : a < 2 ^ 16) (hb : b < 2 ^ 16) : nI a &&& nI b = 0 ↔ a &&& b = 0 := by
  have : a &&& b ≤ a := Nat.and_le_left
  rw [nx_and]
  show _ = nI 0 ↔ _
  rw [nI_eq (by omega) (by omega)]
theorem sq_not (b : Nat) : nI b ^^^ (-1) = nI (b ^^^ (2 ^ 32 - 1)) := by
  have e : (-1 : Int32) = nI (2 ^ 32 - 1) := by decide +kernel
  rw [e, nx_xor]
theorem sq_sub0 {a b : Nat} (ha : a < 2 ^ 16) : nI a &&& (nI b ^^^ (-1)) = 0 ↔ ∀ j, a.testBit j = true → b.testBit j = true := by
  have : a &&& (b ^^^ (2 ^ 32 - 1)) ≤ a := Nat.and_le_left
  rw [sq_not, nx_and]
  show _ = nI 0 ↔ _
  rw [nI_eq (by omega) (by omega)]
  have e : ∀ j, (b ^^^ (2 ^ 32 - 1)).testBit j = (b.testBit j ^^ decide (j < 32)) := fun j => by
    rw [Nat.testBit_xor, Nat.testBit_two_pow_sub_one]
  constructor
  · intro h j hj
    have hj16 := sq_big ha hj
    apply Classical.byContradiction
    intro hb
    refine sq_nz.mpr ⟨j, hj, ?_⟩ h
    rw [e, decide_eq_true (by omega)]
    cases hz : b.testBit j
    · rfl
    · exact absurd hz hb
  · intro h
    apply Classical.byContradiction
    intro hn
    obtain ⟨j, h1, h2⟩ := sq_nz.mp hn
    have hj16 := sq_big ha h1
    rw [e, decide_eq_true (by omega), h j h1] at h2
    exact Bool.noConfusion h2
theorem sq_nhas : ∀ s, s < 16 → ∀ z, z < 16 → ((nI s ^^^ (-1)) &&& nI z = 0 ↔ (15 - s) &&& z = 0) := by decide +kernel
theorem sq_acc : ∀ r, r < 4 → ∀ x, x < 2 ^ r → ∀ v, v < 2 → nI x ||| (nI v <<< (nI r &&& 31)) = nI (x + v * 2 ^ r) := by decide +kernel
end
section
theorem sx_k9 : ∀ k, k < 10 → ¬ nI k < 0 := by decide +kernel
theorem sx_gv0 : ∀ a, a < 2 → ∀ b, b < 2 → ∀ c, c < 2 → nI a &&& nI b = nI (sq_gv 0 a b c) := by decide +kernel
theorem sx_gv1 : ∀ a, a < 2 → ∀ b, b < 2 → ∀ c, c < 2 → nI a ||| nI b = nI (sq_gv 1 a b c) := by decide +kernel
theorem sx_gv2 : ∀ a, a < 2 → ∀ b, b < 2 → ∀ c, c < 2 → nI a ^^^ nI b = nI (sq_gv 2 a b c) := by decide +kernel
theorem sx_gv3 : ∀ a, a < 2 → ∀ b, b < 2 → ∀ c, c < 2 → 1 - (nI a &&& nI b) = nI (sq_gv 3 a b c) := by decide +kernel
theorem sx_gv4 : ∀ a, a < 2 → ∀ b, b < 2 → ∀ c, c < 2 → 1 - (nI a ||| nI b) = nI (sq_gv 4 a b c) := by decide +kernel
theorem sx_gv5 : ∀ a, a < 2 → ∀ b, b < 2 → ∀ c, c < 2 → 1 - (nI a ^^^ nI b) = nI (sq_gv 5 a b c) := by decide +kernel
theorem sx_gv6 : ∀ a, a < 2 → ∀ b, b < 2 → ∀ c, c < 2 → (1 - nI a) ||| nI b = nI (sq_gv 6 a b c) := by decide +kernel
theorem sx_gv7t : ∀ a, a < 2 → ∀ b, b < 2 → ∀ c, c < 2 → nI a = 1 → nI b = nI (sq_gv 7 a b c) := by decide +kernel
theorem sx_gv7f : ∀ a, a < 2 → ∀ b, b < 2 → ∀ c, c < 2 → ¬ nI a = 1 → nI c = nI (sq_gv 7 a b c) := by decide +kernel
theorem sx_gv8t : ∀ a, a < 2 → ∀ b, b < 2 → ∀ c, c < 2 → (nI a + nI b) + nI c < 2 → 0 = nI (sq_gv 8 a b c) := by decide +kernel
theorem sx_gv8f : ∀ a, a < 2 → ∀ b, b < 2 → ∀ c, c < 2 → ¬ (nI a + nI b) + nI c < 2 → 1 = nI (sq_gv 8 a b c) := by decide +kernel
theorem sx_gv9 : ∀ a, a < 2 → ∀ b, b < 2 → ∀ c, c < 2 → (nI a ^^^ nI b) ^^^ nI c = nI (sq_gv 9 a b c) := by decide +kernel
theorem sx_at {P : Int32 → Prop} {x y : Int32} (e : x = y) (h : P y) : P x := by rw [e]; exact h
theorem sx_gateValue {post : Int32 → Prop} {x y z t : Int32} {k a b c : Nat} (hk : k < 10) (ha : a < 2) (hb : b < 2) (hc : c < 2)
    (ex : x = nI k) (ey : y = nI a) (ez : z = nI b) (et : t = nI c) (h : post (nI (sq_gv k a b c))) : wpX_gateValue post x y z t := by
  subst ex ey ez et
  unfold wpX_gateValue
  match k, hk, h with
  | 0, _, h => exact br_f (by decide +kernel) (br_f (by decide +kernel) (br_t (by decide +kernel) (sx_at (sx_gv0 a ha b hb c hc) h)))
  | 1, _, h => exact br_f (by decide +kernel) (br_f (by decide +kernel) (br_f (by decide +kernel) (br_t (by decide +kernel) (sx_at (sx_gv1 a ha b hb c hc) h))))
  | 2, _, h => exact br_f (by decide +kernel) (br_f (by decide +kernel) (br_f (by decide +kernel) (br_f (by decide +kernel) (br_t (by decide +kernel) (sx_at (sx_gv2 a ha b hb c hc) h)))))
  | 3, _, h => exact br_f (by decide +kernel) (br_f (by decide +kernel) (br_f (by decide +kernel) (br_f (by decide +kernel) (br_f (by decide +kernel) (br_t (by decide +kernel) (sx_at (sx_gv3 a ha b hb c hc) h))))))
  | 4, _, h => exact br_f (by decide +kernel) (br_f (by decide +kernel) (br_f (by decide +kernel) (br_f (by decide +kernel) (br_f (by decide +kernel) (br_f (by decide +kernel) (br_t (by decide +kernel) (sx_at (sx_gv4 a ha b hb c hc) h)))))))
  | 5, _, h => exact br_f (by decide +kernel) (br_f (by decide +kernel) (br_f (by decide +kernel) (br_f (by decide +kernel) (br_f (by decide +kernel) (br_f (by decide +kernel) (br_f (by decide +kernel) (br_t (by decide +kernel) (sx_at (sx_gv5 a ha b hb c hc) h))))))))
  | 6, _, h => exact br_f (by decide +kernel) (br_f (by decide +kernel) (br_f (by decide +kernel) (br_f (by decide +kernel) (br_f (by decide +kernel) (br_f (by decide +kernel) (br_f (by decide +kernel) (br_f (by decide +kernel) (br_t (by decide +kernel) (sx_at (sx_gv6 a ha b hb c hc) h)))))))))
  | 7, _, h => exact br_f (by decide +kernel) (br_f (by decide +kernel) (br_f (by decide +kernel) (br_f (by decide +kernel) (br_f (by decide +kernel) (br_f (by decide +kernel) (br_f (by decide +kernel) (br_f (by decide +kernel) (br_f (by decide +kernel) (br_t (by decide +kernel) (br_c (fun g => sx_at (sx_gv7t a ha b hb c hc g) h) (fun g => sx_at (sx_gv7f a ha b hb c hc g) h)))))))))))
  | 8, _, h => exact br_f (by decide +kernel) (br_f (by decide +kernel) (br_f (by decide +kernel) (br_f (by decide +kernel) (br_f (by decide +kernel) (br_f (by decide +kernel) (br_f (by decide +kernel) (br_f (by decide +kernel) (br_f (by decide +kernel) (br_f (by decide +kernel) (br_t (by decide +kernel) (br_c (fun g => sx_at (sx_gv8t a ha b hb c hc g) h) (fun g => sx_at (sx_gv8f a ha b hb c hc g) h))))))))))))
  | 9, _, h => exact br_f (by decide +kernel) (br_t (by decide +kernel) (sx_at (sx_gv9 a ha b hb c hc) h))
def sx_C (p : sq_P) (sc bg ws : Int32) (ki fi se th nx : Nat → Int32) : Prop :=
  sq_wf p ∧ sc = nI (7 + sq_c p) ∧ bg = nI (sq_s p) ∧ ws = nI (sq_w p) ∧ (∀ r, r < 4 → nx r = nI (sq_nx p r)) ∧
  ∀ g, g < sq_c p → ki (7 + g) = nI (sq_gk p g) ∧ fi (7 + g) = nI (sq_ga p g) ∧ se (7 + g) = nI (sq_gb p g) ∧ th (7 + g) = nI (sq_gc p g)
theorem sx_cl {x : Int32} {f : Nat → Int32} {n m : Nat} (ex : x = nI n) (hn : n < 2 ^ 31) (e : f n = nI m) : f x.toNatClampNeg = nI m := by
  subst ex
  rw [nI_clamp hn]
  exact e
theorem sx_in {x : Int32} {m N : Nat} (ex : x = nI m) (h : m < N) (hN : N < 2 ^ 31) : vp_in x N := by
  subst ex
  exact vp_in_nI h hN
theorem sx_up {x : Int32} {f : Nat → Int32} {n : Nat} {y y' : Int32} (ex : x = nI n) (hn : n < 2 ^ 31) (e : y = y') : upd f x.toNatClampNeg y = upd f n y' := by
  subst ex e
  rw [nI_clamp hn]
section
variable {p : sq_P} {sc bg ws bs : Int32} {ki fi se th nx va fo pa ke : Nat → Int32}
theorem sx_settle3 (H : sx_C p sc bg ws ki fi se th nx) {post : SX → Prop} {s l : Nat}
    (h : ∀ va' : Nat → Int32, (∀ i, i < 7 + sq_c p → va' i = nI (sq_V p s l i)) → post (sc, bg, ws, bs, ki, fi, se, th, nx, va', fo, pa, ke))
    (h0 : ∀ i, i < 7 → va i = nI (sq_base s l i)) : ∃ n, wX_settle_53 post sc bg ws bs n 7 ki fi se th nx va fo pa ke := by
  obtain ⟨wf, e1, e2, e3, e4, e5⟩ := H
  have hc := wf.1
  refine pk_loop (fun n g (va : Nat → Int32) => wX_settle_53 post sc bg ws bs n (nI (7 + g)) ki fi se th nx va fo pa ke)
    (fun g va => ∀ i, i < 7 + g → va i = nI (sq_pv p s l g i)) (sq_c p) 0 va (Nat.zero_le _) h0 ?_ ?_
  · intro n va hv
    refine br_t ?_ (h va hv)
    rw [e1]
    exact nI_le (Nat.le_refl _) (by omega)
  · intro n g va hg hv ih
    obtain ⟨k1, k2, k3, k4⟩ := e5 g hg
    obtain ⟨w1, w2, w3, w4⟩ := wf.2.2.2.2 g hg
    have hx : (nI (7 + g)).toNatClampNeg = 7 + g := nI_clamp (by omega)
    have i1 : vp_in (nI (7 + g)) 19 := vp_in_nI (by omega) (by omega)
    have f1 : ki (nI (7 + g)).toNatClampNeg = nI (sq_gk p g) := by rw [hx]; exact k1
    have f2 : fi (nI (7 + g)).toNatClampNeg = nI (sq_ga p g) := by rw [hx]; exact k2
    have f3 : se (nI (7 + g)).toNatClampNeg = nI (sq_gb p g) := by rw [hx]; exact k3
    have f4 : th (nI (7 + g)).toNatClampNeg = nI (sq_gc p g) := by rw [hx]; exact k4
    have hpv := sq_pv_lt wf s l g (by omega)
    refine br_f ?_ ⟨i1, i1, sx_in f2 (by omega) (by omega), i1, sx_in f3 (by omega) (by omega), i1, sx_in f4 (by omega) (by omega), ?_⟩
    · rw [e1]
      exact nI_ge (by omega) (by omega)
    · refine sx_gateValue w1 (hpv _) (hpv _) (hpv _) f1 (sx_cl f2 (by omega) (hv _ w2)) (sx_cl f3 (by omega) (hv _ w3)) (sx_cl f4 (by omega) (hv _ w4)) ?_
      refine ⟨i1, nm_r (sx_up rfl (by omega) rfl) (nm_r (nI_1 (7 + g)) (ih _ ?_))⟩
      intro i hi
      by_cases e : i = 7 + g
      · rw [e, pk_us, sq_pv_s]
      · rw [pk_un e, sq_pv_n e]
        exact hv i (by omega)
theorem sx_settle2 (H : sx_C p sc bg ws ki fi se th nx) {post : SX → Prop} {s l : Nat} (hs : s < 16)
    (h : ∀ va' : Nat → Int32, (∀ i, i < 7 + sq_c p → va' i = nI (sq_V p s l i)) → post (sc, bg, ws, bs, ki, fi, se, th, nx, va', fo, pa, ke))
    (h0 : ∀ i, i < 3 → va i = nI (sq_base s l i)) : ∃ n, wX_settle_26 post (nI s) sc bg ws bs n 0 ki fi se th nx va fo pa ke := by
  refine pk_loop (fun n g (va : Nat → Int32) => wX_settle_26 post (nI s) sc bg ws bs n (nI g) ki fi se th nx va fo pa ke)
    (fun g va => ∀ i, i < 3 + g → va i = nI (sq_base s l i)) 4 0 va (by omega) h0 ?_ ?_
  · intro n va hv
    exact br_t (by decide +kernel) (sx_settle3 H h hv)
  · intro n g va hg hv ih
    have e3 : (3 : Int32) + nI g = nI (3 + g) := nI_add 3 g
    refine br_f (nI_ge (b := 4) hg (by decide)) ⟨sx_in e3 (by omega) (by omega), nm_r (sx_up e3 (by omega) (sq_bit (by omega) (by omega))) (nm_r (nI_1 g) (ih _ ?_))⟩
    intro i hi
    by_cases e : i = 3 + g
    · rw [e, pk_us]
      unfold sq_base
      rw [if_neg (by omega), Nat.add_sub_cancel_left]
    · rw [pk_un e]
      exact hv i (by omega)
theorem sx_settle (H : sx_C p sc bg ws ki fi se th nx) {post : SX → Prop} {s l : Nat} {x y : Int32} (hs : s < 16) (hl : l < 8) (ex : x = nI s) (ey : y = nI l)
    (h : ∀ va' : Nat → Int32, (∀ i, i < 7 + sq_c p → va' i = nI (sq_V p s l i)) → post (sc, bg, ws, bs, ki, fi, se, th, nx, va', fo, pa, ke)) : wpX_settle post (sc, bg, ws, bs, ki, fi, se, th, nx, va, fo, pa, ke) x y := by
  subst ex ey
  refine pk_loop (fun n g (va : Nat → Int32) => wX_settle_2 post (nI s) (nI l) sc bg ws bs n (nI g) ki fi se th nx va fo pa ke)
    (fun g va => ∀ i, i < g → va i = nI (sq_base s l i)) 3 0 va (by omega) (fun i hi => absurd hi (Nat.not_lt_zero i)) ?_ ?_
  · intro n va hv
    exact br_t (by decide +kernel) (sx_settle2 H hs h hv)
  · intro n g va hg hv ih
    refine br_f (nI_ge (b := 3) hg (by decide)) ⟨vp_in_nI (by omega) (by omega), nm_r (sx_up rfl (by omega) (sq_bit (by omega) (by omega))) (nm_r (nI_1 g) (ih _ ?_))⟩
    intro i hi
    by_cases e : i = g
    · rw [e, pk_us]
      unfold sq_base
      rw [if_pos hg]
    · rw [pk_un e]
      exact hv i (by omega)
theorem sx_stateAfter (H : sx_C p sc bg ws ki fi se th nx) {post : Int32 → SX → Prop} {s l : Nat} {x y : Int32} (hs : s < 16) (hl : l < 8) (ex : x = nI s) (ey : y = nI l)
    (h : ∀ va' : Nat → Int32, va' (sq_w p) = nI (sq_B p s l) → post (nI (sq_T p s l)) (sc, bg, ws, bs, ki, fi, se, th, nx, va', fo, pa, ke)) : wpX_stateAfter post (sc, bg, ws, bs, ki, fi, se, th, nx, va, fo, pa, ke) x y := by
  unfold wpX_stateAfter
  refine sx_settle H hs hl ex ey (fun va' hv => ?_)
  have wf := H.1
  have hc := wf.1
  have e4 := H.2.2.2.2.1
  refine pk_loop (fun n r (x : Int32) => wX_stateAfter_11 post sc bg ws bs ki fi se th nx va' fo pa ke n x (nI r))
    (fun r x => x = nI (sq_sum (fun r => sq_V p s l (sq_nx p r)) r)) 4 0 (0 : Int32) (by omega) rfl ?_ ?_
  · intro n x hx
    refine br_t (by decide +kernel) ?_
    rw [hx]
    exact h va' (hv _ wf.2.2.1)
  · intro n r x hr hx ih
    have f1 : nx (nI r).toNatClampNeg = nI (sq_nx p r) := sx_cl rfl (by omega) (e4 r hr)
    have w1 := wf.2.2.2.1 r hr
    have f2 : va' (nx (nI r).toNatClampNeg).toNatClampNeg = nI (sq_V p s l (sq_nx p r)) := sx_cl f1 (by omega) (hv _ w1)
    refine br_f (nI_ge (b := 4) hr (by decide)) ⟨vp_in_nI hr (by omega), sx_in f1 (by omega) (by omega), nm_e (nm_r (nI_1 r) (ih _ ?_))⟩
    rw [hx, f2]
    exact sq_acc r hr _ (sq_sum_lt (f := fun r => sq_V p s l (sq_nx p r)) (fun r => sq_V_lt wf s l _) r) _ (sq_V_lt wf s l _)
end
end
section
theorem sx_8 : ¬ (1 : Int32) = 0 := by decide
section
variable {p : sq_P} {sc bg ws bs : Int32} {ki fi se th nx va fo pa ke : Nat → Int32}
theorem sx_tab22 (H : sx_C p sc bg ws ki fi se th nx) {post : SX → Prop} {J : Int32 → Int32 → Int32 → Int32 → Int32 → (Nat → Int32) → (Nat → Int32) → (Nat → Int32) → (Nat → Int32) → (Nat → Int32) → (Nat → Int32) → (Nat → Int32) → (Nat → Int32) → (Nat → Int32) → Prop}
    {s : Nat} (hs : s < 16) (hbs : bs = nI (sq_xb (sq_B p) s)) (hfo : ∀ j, j < s → fo j = nI (sq_fol (sq_T p) j)) (hf0 : fo s = 0)
    (h : ∀ va' fo' : Nat → Int32, (∀ j, j < s + 1 → fo' j = nI (sq_fol (sq_T p) j)) → J (nI (s + 1)) sc bg ws (nI (sq_xb (sq_B p) (s + 1))) ki fi se th nx va' fo' pa ke) :
    ∃ n, wX_tabulate_22 post J (nI s) n 0 sc bg ws bs ki fi se th nx va fo pa ke := by
  have wf := H.1
  have hc := wf.1
  have hw := wf.2.2.1
  have e3 := H.2.2.2.1
  refine pk_loop (fun n l (q : (Nat → Int32) × (Nat → Int32) × Int32) => wX_tabulate_22 post J (nI s) n (nI l) sc bg ws q.2.2 ki fi se th nx q.1 q.2.1 pa ke)
    (fun l q => q.2.2 = nI (sq_or (sq_xb (sq_B p) s) (fun _ => true) (fun l => sq_B p s l * 2 ^ s) l) ∧ (∀ j, j < s → q.2.1 j = nI (sq_fol (sq_T p) j)) ∧ q.2.1 s = nI (sq_or 0 (fun _ => true) (fun l => 2 ^ sq_T p s l) l))
    8 0 (va, fo, bs) (by omega) ⟨hbs, hfo, hf0⟩ ?_ ?_
  · rintro n ⟨va', fo', bs'⟩ ⟨k1, k2, k3⟩
    have k1' : bs' = nI (sq_xb (sq_B p) (s + 1)) := k1
    subst k1'
    refine br_t (by decide +kernel) (nm_r (nI_1 s) (h va' fo' ?_))
    intro j hj
    by_cases e : j = s
    · rw [e]; exact k3
    · exact k2 j (by omega)
  · rintro n l ⟨va', fo', bs'⟩ hl ⟨k1, k2, k3⟩ ih
    have k1' : bs' = nI (sq_or (sq_xb (sq_B p) s) (fun _ => true) (fun l => sq_B p s l * 2 ^ s) l) := k1
    have k3' : fo' s = nI (sq_or 0 (fun _ => true) (fun l => 2 ^ sq_T p s l) l) := k3
    refine br_f (nI_ge (b := 8) hl (by decide)) ?_
    refine sx_stateAfter H hs hl rfl rfl (fun va2 hv => ?_)
    have g1 : va2 ws.toNatClampNeg = nI (sq_B p s l) := sx_cl e3 (by omega) hv
    have g2 : fo' (nI s).toNatClampNeg = nI (sq_or 0 (fun _ => true) (fun l => 2 ^ sq_T p s l) l) := sx_cl rfl (by omega) k3'
    have e5 : fo' (nI s).toNatClampNeg ||| ((1 : Int32) <<< (nI (sq_T p s l) &&& 31)) = nI (sq_or 0 (fun _ => true) (fun l => 2 ^ sq_T p s l) (l + 1)) := by
      rw [g2, sq_one _ (sq_T_lt wf s l), sq_nor, sq_or_t rfl]
    have e6 : bs' ||| (va2 ws.toNatClampNeg <<< (nI s &&& 31)) = nI (sq_or (sq_xb (sq_B p) s) (fun _ => true) (fun l => sq_B p s l * 2 ^ s) (l + 1)) := by
      rw [k1', g1, sq_shl _ (sq_B_lt wf s l) s hs, sq_nor, sq_or_t rfl]
    have i1 : vp_in (nI s) 16 := vp_in_nI hs (by omega)
    refine ⟨i1, i1, nm_r (sx_up rfl (by omega) e5) ⟨sx_in e3 (by omega) (by omega), nm_r e6 (nm_r (nI_1 l) (ih (va2, upd fo' s (nI (sq_or 0 (fun _ => true) (fun l => 2 ^ sq_T p s l) (l + 1))), nI (sq_or (sq_xb (sq_B p) s) (fun _ => true) (fun l => sq_B p s l * 2 ^ s) (l + 1))) ⟨rfl, ?_, ?_⟩))⟩⟩
    · intro j hj
      show upd fo' s _ j = _
      rw [pk_un (by omega)]
      exact k2 j hj
    · exact pk_us
theorem sx_tabulate (H : sx_C p sc bg ws ki fi se th nx) {post : SX → Prop}
    (h : ∀ va' fo' : Nat → Int32, (∀ j, j < 16 → fo' j = nI (sq_fol (sq_T p) j)) → post (sc, bg, ws, (nI (sq_bad (sq_B p))), ki, fi, se, th, nx, va', fo', pa, ke)) : wpX_tabulate post (sc, bg, ws, bs, ki, fi, se, th, nx, va, fo, pa, ke) := by
  have wf := H.1
  refine pk_loop (fun n s (q : (Nat → Int32) × (Nat → Int32) × Int32) => wX_tabulate_7 post n (nI s) sc bg ws q.2.2 ki fi se th nx q.1 q.2.1 pa ke)
    (fun s q => q.2.2 = nI (sq_xb (sq_B p) s) ∧ ∀ j, j < s → q.2.1 j = nI (sq_fol (sq_T p) j)) 16 0 (va, fo, (0 : Int32)) (by omega) ⟨rfl, fun j hj => absurd hj (Nat.not_lt_zero j)⟩ ?_ ?_
  · rintro n ⟨va', fo', bs'⟩ ⟨k1, k2⟩
    have k1' : bs' = nI (sq_bad (sq_B p)) := by
      rw [← sq_xb_16 (fun s l _ _ => sq_B_lt wf s l)]
      exact k1
    subst k1'
    exact br_t (by decide +kernel) (h va' fo' k2)
  · rintro n s ⟨va', fo', bs'⟩ hs ⟨k1, k2⟩ ih
    refine br_f (nI_ge (b := 16) hs (by decide)) ⟨vp_in_nI hs (by omega), nm_r (sx_up rfl (by omega) rfl) ?_⟩
    refine sx_tab22 H hs k1 ?_ pk_us (fun va2 fo2 hf => ih (va2, fo2, nI (sq_xb (sq_B p) (s + 1))) ⟨rfl, hf⟩)
    intro j hj
    rw [pk_un (by omega)]
    exact k2 j hj
end
theorem sx_contains {post : Int32 → Prop} {x y : Int32} {a s : Nat} (ha : a < 2 ^ 31) (hs : s < 32) (ex : x = nI a) (ey : y = nI s)
    (h1 : a.testBit s = true → post 1) (h0 : ¬ a.testBit s = true → post 0) : wpX_contains post x y := by
  subst ex ey
  exact br_c (fun g => h1 ((sq_bit1 ha hs).mp g)) (fun g => h0 (fun z => g ((sq_bit1 ha hs).mpr z)))
theorem sq_fs_t {P : Nat → Bool} {d i : Nat} (h : P i = true) : sq_fs P (d + 1) i = nI i := if_pos h
theorem sq_fs_f {P : Nat → Bool} {d i : Nat} (h : ¬ P i = true) : sq_fs P (d + 1) i = sq_fs P d (i + 1) := if_neg h
section
variable {sc bg ws bs : Int32} {ki fi se th nx va fo pa ke : Nat → Int32}
theorem sx_allF {T : Nat → Nat → Nat} (hT : sq_ok T) {post : Int32 → Prop} {S : Nat} {x : Int32} (hS : S < 2 ^ 16) (hf : ∀ j, j < 16 → fo j = nI (sq_fol T j)) (ex : x = nI S)
    (h : post (nI (sq_img T S))) : wpX_allFollowers post (sc, bg, ws, bs, ki, fi, se, th, nx, va, fo, pa, ke) x := by
  subst ex
  refine pk_loop (fun n i (y : Int32) => wX_allFollowers_4 post (nI S) sc bg ws bs ki fi se th nx va fo pa ke n y (nI i))
    (fun i y => y = nI (sq_or 0 (fun s => S.testBit s) (sq_fol T) i)) 16 0 (0 : Int32) (by omega) rfl ?_ ?_
  · intro n y hy
    refine br_t (by decide +kernel) ?_
    rw [hy, sq_all]
    exact h
  · intro n i y hi hy ih
    refine br_f (nI_ge (b := 16) hi (by decide)) (sx_contains (a := S) (s := i) (by omega) (by omega) rfl rfl (fun g => br_f sx_8 ⟨vp_in_nI hi (by omega), nm_e (nm_r (nI_1 i) (ih _ ?_))⟩) (fun g => br_t rfl (nm_r (nI_1 i) (ih _ ?_))))
    · rw [hy, sx_cl rfl (by omega) (hf i hi), sq_nor, sq_or_t g]
    · rw [hy, sq_or_f g]
theorem sx_into {T : Nat → Nat → Nat} (hT : sq_ok T) {post : Int32 → Prop} {S : Nat} {x : Int32} (hS : S < 2 ^ 16) (hf : ∀ j, j < 16 → fo j = nI (sq_fol T j)) (ex : x = nI S)
    (h : post (nI (sq_pre T S))) : wpX_allThatLeadInto post (sc, bg, ws, bs, ki, fi, se, th, nx, va, fo, pa, ke) x := by
  subst ex
  refine pk_loop (fun n i (y : Int32) => wX_allThatLeadInto_4 post (nI S) sc bg ws bs ki fi se th nx va fo pa ke n y (nI i))
    (fun i y => y = nI (sq_or 0 (fun s => decide (¬ sq_fol T s &&& S = 0)) (fun s => 2 ^ s) i)) 16 0 (0 : Int32) (by omega) rfl ?_ ?_
  · intro n y hy
    refine br_t (by decide +kernel) ?_
    rw [hy, sq_into]
    exact h
  · intro n i y hi hy ih
    have e : fo (nI i).toNatClampNeg &&& nI S = 0 ↔ sq_fol T i &&& S = 0 := by
      rw [sx_cl rfl (by omega) (hf i hi)]
      exact sq_and0 (sq_fol_lt hT hi) hS
    refine br_f (nI_ge (b := 16) hi (by decide)) ⟨vp_in_nI hi (by omega), br_c (fun g => nm_r (nI_1 i) (ih _ ?_)) (fun g => nm_e (nm_r (nI_1 i) (ih _ ?_)))⟩
    · rw [hy, sq_or_f]
      exact fun z => (of_decide_eq_true z) (e.mp g)
    · rw [hy, sq_one i hi, sq_nor, sq_or_t]
      exact decide_eq_true fun z => g (e.mpr z)
theorem sx_until {T : Nat → Nat → Nat} (hT : sq_ok T) {post : Int32 → Prop} {s G : Nat} {x : Int32} (hs : s < 16) (hG : G < 2 ^ 16) (hf : ∀ j, j < 16 → fo j = nI (sq_fol T j)) (hb : bg = nI s) (ex : x = nI G)
    (h : post (sq_fs (fun n => decide (¬ sq_R T (2 ^ s) n &&& G = 0)) 16 0)) : wpX_cyclesUntil post (sc, bg, ws, bs, ki, fi, se, th, nx, va, fo, pa, ke) x := by
  subst ex hb
  have hR := sq_R_lt hT (sq_p2lt hs)
  refine nm_r (sq_one s hs) ?_
  refine pk_loop (fun n i (y : Int32) => wX_cyclesUntil_9 post (nI G) sc (nI s) ws bs ki fi se th nx va fo pa ke n y (nI i))
    (fun i y => y = nI (sq_R T (2 ^ s) i) ∧ sq_fs (fun n => decide (¬ sq_R T (2 ^ s) n &&& G = 0)) (16 - i) i = sq_fs (fun n => decide (¬ sq_R T (2 ^ s) n &&& G = 0)) 16 0) 16 0 (nI (2 ^ s)) (by omega) ⟨rfl, rfl⟩ ?_ ?_
  · rintro n y ⟨hy, hv⟩
    refine br_t (by decide +kernel) ?_
    rw [← hv] at h
    exact h
  · rintro n i y hi ⟨hy, hv⟩ ih
    have e : y &&& nI G = 0 ↔ sq_R T (2 ^ s) i &&& G = 0 := by
      rw [hy]
      exact sq_and0 (hR i) hG
    rw [show 16 - i = (16 - (i + 1)) + 1 by omega] at hv
    refine br_f (nI_ge (b := 16) hi (by decide)) (br_c (fun g => ?_) (fun g => ?_))
    · refine sx_allF hT (hR i) hf hy (nm_e (nm_r (nI_1 i) (ih _ ⟨?_, ?_⟩)))
      · rw [hy, sq_nor]
        rfl
      · rw [← hv, sq_fs_f]
        exact fun z => (of_decide_eq_true z) (e.mp g)
    · have g' : ¬ sq_R T (2 ^ s) i &&& G = 0 := fun z => g (e.mpr z)
      rw [sq_fs_t (P := fun n => decide (¬ sq_R T (2 ^ s) n &&& G = 0)) (decide_eq_true g')] at hv
      rw [← hv] at h
      exact h
theorem sx_toBad {T B : Nat → Nat → Nat} (hT : sq_ok T) {post : Int32 → Prop} {s : Nat} {x : Int32} (hs : s < 16) (hf : ∀ j, j < 16 → fo j = nI (sq_fol T j)) (hb : bs = nI (sq_bad B)) (ex : x = nI s)
    (h : post (sq_fs (fun n => (sq_K T (sq_bad B) n).testBit s) 16 0)) : wpX_cyclesToBad post (sc, bg, ws, bs, ki, fi, se, th, nx, va, fo, pa, ke) x := by
  subst ex
  have hK := sq_K_lt (T := T) (S := sq_bad B) sq_bad_lt
  refine pk_loop (fun n i (y : Int32) => wX_cyclesToBad_7 post (nI s) sc bg ws bs ki fi se th nx va fo pa ke n y (nI i))
    (fun i y => y = nI (sq_K T (sq_bad B) i) ∧ sq_fs (fun n => (sq_K T (sq_bad B) n).testBit s) (16 - i) i = sq_fs (fun n => (sq_K T (sq_bad B) n).testBit s) 16 0) 16 0 bs (by omega) ⟨hb, rfl⟩ ?_ ?_
  · rintro n y ⟨hy, hv⟩
    refine br_t (by decide +kernel) ?_
    rw [← hv] at h
    exact h
  · rintro n i y hi ⟨hy, hv⟩ ih
    have hKi := hK i
    rw [show 16 - i = (16 - (i + 1)) + 1 by omega] at hv
    refine br_f (nI_ge (b := 16) hi (by decide)) (sx_contains (s := s) (by omega) (by omega) hy rfl (fun g => br_f sx_8 ?_) (fun g => br_t rfl ?_))
    · rw [sq_fs_t (P := fun n => (sq_K T (sq_bad B) n).testBit s) g] at hv
      rw [← hv] at h
      exact h
    · refine sx_into hT hKi hf hy (nm_e (nm_r (nI_1 i) (ih _ ⟨?_, ?_⟩)))
      · rw [hy, sq_nor]
        rfl
      · rw [← hv, sq_fs_f]
        exact g
end
theorem sx_sw {post : Int32 → Prop} {o z : Nat} {x y : Int32} (ho : o < 16) (hz : z < 16) (ex : x = nI o) (ey : y = nI z) (h : post (nI (sq_sw o z))) : wpX_statesWith post x y := by
  subst ex ey
  refine pk_loop (fun n i (y : Int32) => wX_statesWith_4 post (nI o) (nI z) n y (nI i))
    (fun i y => y = nI (sq_or 0 (fun s => sq_has s o z) (fun s => 2 ^ s) i)) 16 0 (0 : Int32) (by omega) rfl ?_ ?_
  · intro n y hy
    refine br_t (by decide +kernel) ?_
    rw [hy]
    exact h
  · intro n i y hi hy ih
    have e1 : nI i &&& nI o = 0 ↔ i &&& o = 0 := sq_and0 (by omega) (by omega)
    have e2 := sq_nhas i hi z hz
    have t : sq_has i o z = true → wX_statesWith_24 post (wX_statesWith_4 post (nI o) (nI z) n) (nI o) (nI z) y (nI i) := by
      intro g
      refine nm_e (nm_r (nI_1 i) (ih _ ?_))
      rw [hy, sq_one i hi, sq_nor, sq_or_t (f := fun s => sq_has s o z) g]
    refine br_f (nI_ge (b := 16) hi (by decide)) (br_c (fun g => br_c (fun g2 => nm_r (nI_1 i) (ih _ ?_)) (fun g2 => t ?_)) (fun g => t ?_))
    · rw [hy, sq_or_f]
      intro w
      exact (of_decide_eq_true w).elim (fun q => q (e1.mp g)) (fun q => q (e2.mp g2))
    · exact decide_eq_true (Or.inr fun q => g2 (e2.mpr q))
    · exact decide_eq_true (Or.inl fun q => g (e1.mpr q))
theorem sx_cla {post : Int32 → Prop} {c : Nat} {x : Int32} (hc : c < 256) (ex : x = nI c) (h : post (nI (sq_cl c))) : wpX_statesWithClause post x := by
  subst ex
  exact ⟨by decide, by decide, sx_sw (o := c % 16) (z := c / 16) (by omega) (by omega) (pk_rem (d := 16) (by omega) (by decide) (by decide)) (pk_div (d := 16) (by omega) (by decide) (by decide)) h⟩
end
section
def sq_ei (T B : Nat → Nat → Nat) (s : Nat) : Int32 := if sq_R T (2 ^ s) 15 &&& sq_bad B = 0 then 0 else 1
theorem sq_ei_1 {T B : Nat → Nat → Nat} (hT : sq_ok T) {s : Nat} (hs : s < 16) (h : sq_ev T B s) : sq_ei T B s = 1 := if_neg ((sq_ev_15 hT hs).mpr h)
theorem sq_ei_0 {T B : Nat → Nat → Nat} (hT : sq_ok T) {s : Nat} (hs : s < 16) (h : ¬ sq_ev T B s) : sq_ei T B s = 0 :=
  if_pos (Classical.byContradiction fun z => h ((sq_ev_15 hT hs).mp z))
theorem sq_ei_if {T B : Nat → Nat → Nat} (hT : sq_ok T) {s : Nat} (hs : s < 16) {c : Prop} {P : Int32 → Prop} (e : c ↔ ¬ sq_ev T B s) (h : P (sq_ei T B s)) : (c → P 0) ∧ (¬ c → P 1) := by
  refine br_c (fun g => ?_) (fun g => ?_)
  · rw [sq_ei_0 hT hs (e.mp g)] at h
    exact h
  · rw [sq_ei_1 hT hs (Classical.byContradiction fun z => g (e.mpr z))] at h
    exact h
theorem sq_ei_nar {T B : Nat → Nat → Nat} {s : Nat} : narrow .boolean (.int (sq_ei T B s)) = .int (sq_ei T B s) := by
  unfold sq_ei
  by_cases h : sq_R T (2 ^ s) 15 &&& sq_bad B = 0
  · rw [if_pos h]; rfl
  · rw [if_neg h]; rfl
theorem sx_b1 : vp_nar .boolean 1 = 1 := by decide
theorem sx_b0 : vp_nar .boolean 0 = 0 := by decide
section
variable {sc bg ws bs : Int32} {ki fi se th nx va fo pa ke : Nat → Int32}
theorem sx_clo40 {post : Int32 → SX → Prop} {J : Int32 → (Nat → Int32) → (Nat → Int32) → (Nat → Int32) → (Nat → Int32) → (Nat → Int32) → (Nat → Int32) → (Nat → Int32) → (Nat → Int32) → (Nat → Int32) → Prop}
    {q : Nat → Nat} {k : Nat} (hk : k < 16) (hq : ∀ s, s < 16 → q s < 2 ^ 16) (hpa : ∀ j, j < 16 → pa j = nI (q j))
    (h : ∀ pa' : Nat → Int32, (∀ j, j < 16 → pa' j = nI (sq_wp q k j)) → J (nI (k + 1)) ki fi se th nx va fo pa' ke) : ∃ n, wX_everByClosure_40 post J (nI k) sc bg ws bs n 0 ki fi se th nx va fo pa ke := by
  refine pk_loop (fun n s (pa : Nat → Int32) => wX_everByClosure_40 post J (nI k) sc bg ws bs n (nI s) ki fi se th nx va fo pa ke)
    (fun s pa => (∀ j, j < s → pa j = nI (sq_wp q k j)) ∧ ∀ j, s ≤ j → j < 16 → pa j = nI (q j)) 16 0 pa (by omega) ⟨fun j hj => absurd hj (Nat.not_lt_zero j), fun j _ hj => hpa j hj⟩ ?_ ?_
  · rintro n pa' ⟨k1, k2⟩
    exact br_t (by decide +kernel) (nm_r (nI_1 k) (h pa' k1))
  · rintro n s pa' hs ⟨k1, k2⟩ ih
    have f1 : pa' (nI s).toNatClampNeg = nI (q s) := sx_cl rfl (by omega) (k2 s (by omega) hs)
    have f2 : pa' (nI k).toNatClampNeg = nI (q k) := by
      refine sx_cl rfl (by omega) ?_
      rcases Nat.lt_or_ge k s with g | g
      · rw [k1 k g, sq_wp_k]
      · exact k2 k g hk
    have i1 : vp_in (nI s) 16 := vp_in_nI hs (by omega)
    have hqs := hq s hs
    refine br_f (nI_ge (b := 16) hs (by decide)) ⟨i1, sx_contains (s := k) (by omega) (by omega) f1 rfl (fun g => br_f sx_8 ⟨i1, vp_in_nI hk (by omega), i1, nm_r (sx_up rfl (by omega) rfl) (nm_r (nI_1 s) (ih _ ⟨?_, ?_⟩))⟩) (fun g => br_t rfl (nm_r (nI_1 s) (ih _ ⟨?_, ?_⟩)))⟩
    · intro j hj
      by_cases e : j = s
      · rw [e, pk_us, f1, f2, sq_nor]
        unfold sq_wp
        rw [if_pos g]
      · rw [pk_un e]
        exact k1 j (by omega)
    · intro j hj hj2
      rw [pk_un (by omega)]
      exact k2 j (by omega) hj2
    · intro j hj
      by_cases e : j = s
      · rw [e, k2 s (by omega) hs]
        unfold sq_wp
        rw [if_neg g]
      · exact k1 j (by omega)
    · exact fun j hj hj2 => k2 j (by omega) hj2
theorem sx_clo32 {T B : Nat → Nat → Nat} (hT : sq_ok T) {post : Int32 → SX → Prop} {s : Nat} (hs : s < 16) (hb : bg = nI s) (hbs : bs = nI (sq_bad B)) (hpa : ∀ j, j < 16 → pa j = nI (sq_p0 T j))
    (h : ∀ pa' : Nat → Int32, post (sq_ei T B s) (sc, bg, ws, bs, ki, fi, se, th, nx, va, fo, pa', ke)) : ∃ n, wX_everByClosure_32 post sc bg ws bs n 0 ki fi se th nx va fo pa ke := by
  have hW := sq_W_lt (fun s hs => sq_p0_lt hT (s := s) hs)
  refine pk_loop (fun n k (pa : Nat → Int32) => wX_everByClosure_32 post sc bg ws bs n (nI k) ki fi se th nx va fo pa ke)
    (fun k pa => ∀ j, j < 16 → pa j = nI (sq_W (sq_p0 T) k j)) 16 0 pa (by omega) hpa ?_ ?_
  · intro n pa' k1
    refine br_t (by decide +kernel) ⟨sx_in hb hs (by omega), sq_ei_if (P := fun r => post r (sc, bg, ws, bs, ki, fi, se, th, nx, va, fo, pa', ke)) hT hs ?_ (h pa')⟩
    rw [sx_cl hb (by omega) (k1 s hs), hbs, sq_and0 (hW 16 (by omega) s hs) sq_bad_lt, ← sq_ev_W (B := B) hs]
    exact ⟨fun a b => b a, fun a => Classical.byContradiction a⟩
  · intro n k pa' hk k1 ih
    exact br_f (nI_ge (b := 16) hk (by decide)) (sx_clo40 hk (hW k (by omega)) k1 (fun pa2 k2 => ih pa2 k2))
theorem sx_closure {T B : Nat → Nat → Nat} (hT : sq_ok T) {post : Int32 → SX → Prop} {s : Nat} (hs : s < 16) (hb : bg = nI s) (hbs : bs = nI (sq_bad B)) (hf : ∀ j, j < 16 → fo j = nI (sq_fol T j))
    (h : ∀ pa' : Nat → Int32, post (sq_ei T B s) (sc, bg, ws, bs, ki, fi, se, th, nx, va, fo, pa', ke)) : wpX_everByClosure post (sc, bg, ws, bs, ki, fi, se, th, nx, va, fo, pa, ke) := by
  refine pk_loop (fun n k (pa : Nat → Int32) => wX_everByClosure_2 post sc bg ws bs n (nI k) ki fi se th nx va fo pa ke)
    (fun k pa => ∀ j, j < k → pa j = nI (sq_p0 T j)) 16 0 pa (by omega) (fun j hj => absurd hj (Nat.not_lt_zero j)) ?_ ?_
  · intro n pa' k1
    exact br_t (by decide +kernel) (sx_clo32 hT hs hb hbs k1 h)
  · intro n k pa' hk k1 ih
    have e : fo (nI k).toNatClampNeg ||| ((1 : Int32) <<< (nI k &&& 31)) = nI (sq_p0 T k) := by
      rw [sx_cl rfl (by omega) (hf k hk), sq_one k hk, sq_nor]
      rfl
    have i1 : vp_in (nI k) 16 := vp_in_nI hk (by omega)
    refine br_f (nI_ge (b := 16) hk (by decide)) ⟨i1, i1, nm_r (sx_up rfl (by omega) e) (nm_r (nI_1 k) (ih _ ?_))⟩
    intro j hj
    by_cases z : j = k
    · rw [z, pk_us]
    · rw [pk_un z]
      exact k1 j (by omega)
theorem sx_strike {post : SX → Prop} {S : Nat} {x : Int32} (hS : S < 2 ^ 16) (ex : x = nI S)
    (h : ∀ ke' : Nat → Int32, (∀ c, c < 256 → (¬ ke' c = 0 ↔ (¬ ke c = 0 ∧ ∀ j, S.testBit j = true → (sq_cl c).testBit j = true))) → post (sc, bg, ws, bs, ki, fi, se, th, nx, va, fo, pa, ke')) : wpX_strikeOut post (sc, bg, ws, bs, ki, fi, se, th, nx, va, fo, pa, ke) x := by
  subst ex
  refine pk_loop (fun n i (kf : Nat → Int32) => wX_strikeOut_2 post (nI S) sc bg ws bs n (nI i) ki fi se th nx va fo pa kf)
    (fun i kf => (∀ c, c < i → (¬ kf c = 0 ↔ (¬ ke c = 0 ∧ ∀ j, S.testBit j = true → (sq_cl c).testBit j = true))) ∧ ∀ c, i ≤ c → kf c = ke c) 256 0 ke (by omega) ⟨fun j hj => absurd hj (Nat.not_lt_zero j), fun c _ => rfl⟩ ?_ ?_
  · rintro n kf ⟨k1, k2⟩
    exact br_t (by decide +kernel) (h kf k1)
  · rintro n i kf hi ⟨k1, k2⟩ ih
    refine br_f (nI_ge (b := 256) hi (by decide)) (sx_cla hi rfl (br_c (fun g => nm_r (nI_1 i) (ih _ ⟨?_, fun c hc => k2 c (by omega)⟩)) (fun g => ⟨vp_in_nI hi (by omega), nm_r (sx_up rfl (by omega) sx_b0) (nm_r (nI_1 i) (ih _ ⟨?_, ?_⟩))⟩)))
    · intro c hc
      by_cases e : c = i
      · rw [e, k2 i (by omega)]
        exact ⟨fun a => ⟨a, (sq_sub0 hS).mp g⟩, fun a => a.1⟩
      · exact k1 c (by omega)
    · intro c hc
      by_cases e : c = i
      · rw [e, pk_us]
        exact ⟨fun a => absurd rfl a, fun a => absurd ((sq_sub0 hS).mpr a.2) g⟩
      · rw [pk_un e]
        exact k1 c (by omega)
    · intro c hc
      rw [pk_un (by omega)]
      exact k2 c (by omega)
theorem sx_allowed {post : Int32 → Prop} (h : post (nI (sq_and (fun c => decide (¬ ke c = 0)) sq_cl 256))) : wpX_allowedByClauses post (sc, bg, ws, bs, ki, fi, se, th, nx, va, fo, pa, ke) := by
  refine pk_loop (fun n i (y : Int32) => wX_allowedByClauses_5 post sc bg ws bs ki fi se th nx va fo pa ke n y (nI i))
    (fun i y => y = nI (sq_and (fun c => decide (¬ ke c = 0)) sq_cl i)) 256 0 (65535 : Int32) (by omega) rfl ?_ ?_
  · intro n y hy
    refine br_t (by decide +kernel) ?_
    rw [hy]
    exact h
  · intro n i y hi hy ih
    have e : ke (nI i).toNatClampNeg = ke i := by rw [nI_clamp (by omega)]
    refine br_f (nI_ge (b := 256) hi (by decide)) ⟨vp_in_nI hi (by omega), br_c (fun g => nm_r (nI_1 i) (ih _ ?_)) (fun g => sx_cla hi rfl (nm_e (nm_r (nI_1 i) (ih _ ?_))))⟩
    · rw [hy, sq_and_f]
      rw [e] at g
      exact fun z => (of_decide_eq_true z) g
    · rw [hy, nx_and, sq_and_t]
      rw [e] at g
      exact decide_eq_true g
theorem sx_cl31 {T B : Nat → Nat → Nat} (hT : sq_ok T) {post : Int32 → SX → Prop} {s : Nat} {x : Int32} (hs : s < 16) (hbs : bs = nI (sq_bad B)) (hf : ∀ j, j < 16 → fo j = nI (sq_fol T j)) (hk : ∀ c, c < 256 → ¬ ke c = 0) (ex : x = nI (2 ^ s))
    (h : ∀ ke' : Nat → Int32, post (sq_ei T B s) (sc, bg, ws, bs, ki, fi, se, th, nx, va, fo, pa, ke')) : ∃ n, wX_everByClauses_31 post n x 0 sc bg ws bs ki fi se th nx va fo pa ke := by
  have hR := sq_R_lt hT (sq_p2lt hs)
  refine pk_loop (fun n i (q : Int32 × (Nat → Int32)) => wX_everByClauses_31 post n q.1 (nI i) sc bg ws bs ki fi se th nx va fo pa q.2)
    (fun i q => q.1 = nI (sq_R T (2 ^ s) i) ∧ ∀ c, c < 256 → (∀ t, (sq_R T (2 ^ s) i).testBit t = true → (sq_cl c).testBit t = true) → ¬ q.2 c = 0) 16 0 (x, ke) (by omega) ⟨ex, fun c hc _ => hk c hc⟩ ?_ ?_
  · rintro n ⟨y, kf⟩ ⟨k1, k2⟩
    refine br_t (by decide +kernel) (sq_ei_if (P := fun r => post r (sc, bg, ws, bs, ki, fi, se, th, nx, va, fo, pa, kf)) hT hs ?_ (h kf))
    have k1' : y = nI (sq_R T (2 ^ s) 15) := by
      rw [← sq_R_fix hT hs]
      exact k1
    rw [k1', hbs, sq_and0 (hR 15) sq_bad_lt, ← sq_ev_15 (B := B) hT hs]
    exact ⟨fun a b => b a, fun a => Classical.byContradiction a⟩
  · rintro n i ⟨y, kf⟩ hi ⟨k1, k2⟩ ih
    have k1' : y = nI (sq_R T (2 ^ s) i) := k1
    have e : y ||| nI (sq_img T (sq_R T (2 ^ s) i)) = nI (sq_R T (2 ^ s) (i + 1)) := by
      rw [k1', sq_nor]
      rfl
    refine br_f (nI_ge (b := 16) hi (by decide)) (sx_allF hT (hR i) hf k1' (nm_r e (sx_strike (hR (i + 1)) rfl (fun ke' hke => sx_allowed (nm_r (nI_1 i) ?_)))))
    have hk2 : ∀ c, c < 256 → ((decide (¬ ke' c = 0)) = true ↔ ∀ t, (sq_R T (2 ^ s) (i + 1)).testBit t = true → (sq_cl c).testBit t = true) := by
      intro c hc
      rw [decide_eq_true_eq, hke c hc]
      exact ⟨fun a => a.2, fun a => ⟨k2 c hc (sq_R_sub a), a⟩⟩
    rw [sq_cla (hR (i + 1)) hk2]
    exact ih (nI (sq_R T (2 ^ s) (i + 1)), ke') ⟨rfl, fun c hc a => of_decide_eq_true ((hk2 c hc).mpr a)⟩
theorem sx_clauses {T B : Nat → Nat → Nat} (hT : sq_ok T) {post : Int32 → SX → Prop} {s : Nat} (hs : s < 16) (hb : bg = nI s) (hbs : bs = nI (sq_bad B)) (hf : ∀ j, j < 16 → fo j = nI (sq_fol T j))
    (h : ∀ ke' : Nat → Int32, post (sq_ei T B s) (sc, bg, ws, bs, ki, fi, se, th, nx, va, fo, pa, ke')) : wpX_everByClauses post (sc, bg, ws, bs, ki, fi, se, th, nx, va, fo, pa, ke) := by
  subst hb
  refine nm_r (sq_one s hs) ?_
  refine pk_loop (fun n i (kf : Nat → Int32) => wX_everByClauses_9 post (nI (2 ^ s)) sc (nI s) ws bs n (nI i) ki fi se th nx va fo pa kf)
    (fun i kf => ∀ c, c < i → ¬ kf c = 0) 256 0 ke (by omega) (fun j hj => absurd hj (Nat.not_lt_zero j)) ?_ ?_
  · intro n kf k1
    exact br_t (by decide +kernel) (sx_cl31 hT hs hbs hf k1 rfl h)
  · intro n i kf hi k1 ih
    refine br_f (nI_ge (b := 256) hi (by decide)) ⟨vp_in_nI hi (by omega), nm_r (sx_up rfl (by omega) sx_b1) (nm_r (nI_1 i) (ih _ ?_))⟩
    intro c hc
    by_cases e : c = i
    · rw [e, pk_us]
      exact sx_8
    · rw [pk_un e]
      exact k1 c (by omega)
end
end
section
section
variable {p : sq_P} {sc bg ws bs : Int32} {ki fi se th nx va fo pa ke : Nat → Int32}
theorem sx_ever (H : sx_C p sc bg ws ki fi se th nx) {post : Int32 → SX → Prop} {x : Int32} {e : Nat} (he : e < 4) (ex : x = nI e)
    (h : ∀ (bs' : Int32) (va' fo' pa' ke' : Nat → Int32), post (sq_ei (sq_T p) (sq_B p) (sq_s p)) (sc, bg, ws, bs', ki, fi, se, th, nx, va', fo', pa', ke')) : wpX_ever post (sc, bg, ws, bs, ki, fi, se, th, nx, va, fo, pa, ke) x := by
  subst ex
  have wf := H.1
  have hT := sq_T_ok wf
  have hs := wf.2.1
  have hb := H.2.2.1
  unfold wpX_ever
  refine br_f (nI_pos (by omega)) (br_f (nI_ge (b := 4) he (by decide)) (br_f sx_8 ?_))
  refine sx_tabulate H (fun va' fo' hf => ?_)
  match e, he with
  | 0, _ =>
    refine br_f (by decide +kernel) (br_f (by decide +kernel) (br_t (by decide +kernel) ?_))
    refine sx_until hT hs sq_bad_lt hf hb rfl ?_
    refine sq_ei_if (P := fun r => post r (sc, bg, ws, (nI (sq_bad (sq_B p))), ki, fi, se, th, nx, va', fo', pa, ke)) hT hs ?_ (h _ _ _ _ _)
    exact sq_ev_dep hT hs
  | 1, _ =>
    refine br_f (by decide +kernel) (br_f (by decide +kernel) (br_f (by decide +kernel) (br_t (by decide +kernel) ?_)))
    refine sx_toBad hT hs hf rfl hb ?_
    refine sq_ei_if (P := fun r => post r (sc, bg, ws, (nI (sq_bad (sq_B p))), ki, fi, se, th, nx, va', fo', pa, ke)) hT hs ?_ (h _ _ _ _ _)
    rw [← sq_dep_K]
    exact sq_ev_dep hT hs
  | 2, _ =>
    refine br_f (by decide +kernel) (br_f (by decide +kernel) (br_f (by decide +kernel) (br_f (by decide +kernel) (br_t (by decide +kernel) ?_))))
    exact sx_closure hT hs hb rfl hf (fun pa' => ⟨sq_ei_nar, h _ _ _ _ _⟩)
  | 3, _ =>
    refine br_f (by decide +kernel) (br_t (by decide +kernel) ?_)
    exact sx_clauses hT hs hb rfl hf (fun ke' => ⟨sq_ei_nar, h _ _ _ _ _⟩)
theorem sx_depth (H : sx_C p sc bg ws ki fi se th nx) {post : Int32 → SX → Prop} {x : Int32} {e : Nat} (he : e < 2) (ex : x = nI e)
    (h : ∀ (va' fo' : Nat → Int32), (∀ j, j < 16 → fo' j = nI (sq_fol (sq_T p) j)) → post (sq_dep (sq_T p) (sq_B p) (sq_s p)) (sc, bg, ws, (nI (sq_bad (sq_B p))), ki, fi, se, th, nx, va', fo', pa, ke)) : wpX_depth post (sc, bg, ws, bs, ki, fi, se, th, nx, va, fo, pa, ke) x := by
  subst ex
  have wf := H.1
  have hT := sq_T_ok wf
  have hs := wf.2.1
  have hb := H.2.2.1
  unfold wpX_depth
  match e, he with
  | 0, _ =>
    refine br_t (by decide +kernel) ?_
    unfold wX_depth_11
    refine sx_tabulate H (fun va' fo' hf => br_t (by decide +kernel) ?_)
    exact sx_until hT hs sq_bad_lt hf hb rfl (h va' fo' hf)
  | 1, _ =>
    refine br_f (by decide +kernel) (br_t (by decide +kernel) ?_)
    unfold wX_depth_11
    refine sx_tabulate H (fun va' fo' hf => br_f (by decide +kernel) ?_)
    refine sx_toBad hT hs hf rfl hb ?_
    rw [← sq_dep_K]
    exact h va' fo' hf
theorem sx_towards (H : sx_C p sc bg ws ki fi se th nx) {post : Int32 → SX → Prop} {x y : Int32} {s m : Nat} (hs : s < 16) (hm : m < 16) (ex : x = nI s) (ey : y = nI (m + 1))
    (hbs : bs = nI (sq_bad (sq_B p))) (hf : ∀ j, j < 16 → fo j = nI (sq_fol (sq_T p) j)) (hD : sq_D (sq_T p) (sq_B p) (m + 1) s)
    (h : ∀ va' : Nat → Int32, post (nI (sq_lt (sq_T p) (sq_B p) m s)) (sc, bg, ws, bs, ki, fi, se, th, nx, va', fo, pa, ke)) : wpX_leastTowardsBad post (sc, bg, ws, bs, ki, fi, se, th, nx, va, fo, pa, ke) x y := by
  subst ex ey
  have wf := H.1
  have hT := sq_T_ok wf
  have hle := sq_lt_8 (T := sq_T p) (B := sq_B p) (m := m) (s := s)
  have hQ : (fun l => (sq_Q (sq_T p) (sq_bad (sq_B p)) m).testBit (sq_T p s l)) (sq_lt (sq_T p) (sq_B p) m s) = true := sq_lt_Q hD
  refine pk_loop (fun n l (va : Nat → Int32) => wX_leastTowardsBad_2 post (nI s) (nI (m + 1)) n (nI l) sc bg ws bs ki fi se th nx va fo pa ke)
    (fun l va => l < 8 ∧ sq_lv (fun l => (sq_Q (sq_T p) (sq_bad (sq_B p)) m).testBit (sq_T p s l)) (7 - l) l = sq_lt (sq_T p) (sq_B p) m s) 8 0 va (by omega) ⟨by omega, rfl⟩ ?_ ?_
  · rintro n va ⟨h8, _⟩
    exact absurd h8 (by omega)
  · rintro n l va hl ⟨_, hv⟩ ih
    refine br_f (nI_ge (b := 8) hl (by decide)) (sx_stateAfter H hs hl rfl rfl (fun va' _ => ?_))
    refine sx_toBad hT (sq_T_lt wf s l) hf hbs rfl ?_
    have e : sq_fs (fun n => (sq_K (sq_T p) (sq_bad (sq_B p)) n).testBit (sq_T p s l)) 16 0 = nI (m + 1) - 1 ↔ (sq_Q (sq_T p) (sq_bad (sq_B p)) m).testBit (sq_T p s l) = true := by
      rw [nI_pred]
      exact sq_D_lev hm hD ⟨hs, l, hl, rfl⟩
    refine br_c (fun g => ?_) (fun g => nm_r (nI_1 l) (ih va' ?_))
    · have g' := e.mp g
      have z : sq_lt (sq_T p) (sq_B p) m s = l := by
        rw [← hv]
        rcases (by omega : 7 - l = 0 ∨ 7 - l = (6 - l) + 1) with q | q
        · rw [q]; rfl
        · rw [q, sq_lv_t (P := fun l => (sq_Q (sq_T p) (sq_bad (sq_B p)) m).testBit (sq_T p s l)) g']
      rw [← z]
      exact h va'
    · have g' : ¬ (sq_Q (sq_T p) (sq_bad (sq_B p)) m).testBit (sq_T p s l) = true := fun z => g (e.mpr z)
      have l7 : l < 7 := by
        rcases (by omega : l < 7 ∨ l = 7) with q | q
        · exact q
        · exfalso
          subst q
          apply g'
          have z : sq_lt (sq_T p) (sq_B p) m s = 7 := hv.symm
          rw [z] at hQ
          exact hQ
      refine ⟨by omega, ?_⟩
      rw [show 7 - l = (7 - (l + 1)) + 1 by omega, sq_lv_f (P := fun l => (sq_Q (sq_T p) (sq_bad (sq_B p)) m).testBit (sq_T p s l)) g'] at hv
      exact hv
theorem sx_shows (H : sx_C p sc bg ws ki fi se th nx) {post : Int32 → SX → Prop} {x : Int32} {s : Nat} (hs : s < 16) (ex : x = nI s) (hD : sq_b (sq_B p) s)
    (h : ∀ va' : Nat → Int32, post (nI (sq_ll (sq_B p) s)) (sc, bg, ws, bs, ki, fi, se, th, nx, va', fo, pa, ke)) : wpX_leastThatShows post (sc, bg, ws, bs, ki, fi, se, th, nx, va, fo, pa, ke) x := by
  subst ex
  have wf := H.1
  have hc := wf.1
  have hw := wf.2.2.1
  have e3 := H.2.2.2.1
  have hQ : (fun l => decide (sq_B p s l = 1)) (sq_ll (sq_B p) s) = true := by
    obtain ⟨_, l, hl, e⟩ := hD
    exact sq_lv_ok (P := fun l => decide (sq_B p s l = 1)) 7 0 ⟨l, by omega, by omega, decide_eq_true e⟩
  refine pk_loop (fun n l (va : Nat → Int32) => wX_leastThatShows_2 post (nI s) n (nI l) sc bg ws bs ki fi se th nx va fo pa ke)
    (fun l va => l < 8 ∧ sq_lv (fun l => decide (sq_B p s l = 1)) (7 - l) l = sq_ll (sq_B p) s) 8 0 va (by omega) ⟨by omega, rfl⟩ ?_ ?_
  · rintro n va ⟨h8, _⟩
    exact absurd h8 (by omega)
  · rintro n l va hl ⟨_, hv⟩ ih
    refine br_f (nI_ge (b := 8) hl (by decide)) (sx_settle H hs hl rfl rfl (fun va' hva => ?_))
    have g1 : va' ws.toNatClampNeg = nI (sq_B p s l) := sx_cl e3 (by omega) (hva _ hw)
    have hB := sq_B_lt wf s l
    have e : va' ws.toNatClampNeg = 1 ↔ sq_B p s l = 1 := by
      rw [g1]
      show _ = nI 1 ↔ _
      rw [nI_eq (by omega) (by omega)]
    refine ⟨sx_in e3 (by omega) (by omega), br_c (fun g => ?_) (fun g => nm_r (nI_1 l) (ih va' ?_))⟩
    · have g' : decide (sq_B p s l = 1) = true := decide_eq_true (e.mp g)
      have z : sq_ll (sq_B p) s = l := by
        rw [← hv]
        rcases (by omega : 7 - l = 0 ∨ 7 - l = (6 - l) + 1) with q | q
        · rw [q]; rfl
        · rw [q, sq_lv_t (P := fun l => decide (sq_B p s l = 1)) g']
      rw [← z]
      exact h va'
    · have g' : ¬ decide (sq_B p s l = 1) = true := fun z => g (e.mpr (of_decide_eq_true z))
      have l7 : l < 7 := by
        rcases (by omega : l < 7 ∨ l = 7) with q | q
        · exact q
        · exfalso
          subst q
          apply g'
          have z : sq_ll (sq_B p) s = 7 := hv.symm
          rw [z] at hQ
          exact hQ
      refine ⟨by omega, ?_⟩
      rw [show 7 - l = (7 - (l + 1)) + 1 by omega, sq_lv_f (P := fun l => decide (sq_B p s l = 1)) g'] at hv
      exact hv
end
def sq_in (T B : Nat → Nat → Nat) (s d k : Nat) : Nat := if k < d then sq_lt T B (d - k - 1) (sq_st T B s d k) else sq_ll B (sq_st T B s d k)
section
variable {p : sq_P} {sc bg ws bs : Int32} {ki fi se th nx va fo pa ke : Nat → Int32}
theorem sx_input34 (H : sx_C p sc bg ws ki fi se th nx) {post : Int32 → SX → Prop} {k d : Nat} (hd : d < 16) (hk : k ≤ d) (hD : sq_D (sq_T p) (sq_B p) d (sq_s p))
    (hbs : bs = nI (sq_bad (sq_B p))) (hf : ∀ j, j < 16 → fo j = nI (sq_fol (sq_T p) j))
    (h : ∀ va' : Nat → Int32, post (nI (sq_in (sq_T p) (sq_B p) (sq_s p) d k)) (sc, bg, ws, bs, ki, fi, se, th, nx, va', fo, pa, ke)) : ∃ n, wX_input_34 post (nI k) (nI d) n bg 0 sc bg ws bs ki fi se th nx va fo pa ke := by
  have wf := H.1
  have hT := sq_T_ok wf
  have hs := wf.2.1
  have st16 := sq_st_16 (B := sq_B p) (d := d) hT hs
  have stD := sq_st_D hT hs hD
  refine pk_loop (fun n i (q : Int32 × (Nat → Int32)) => wX_input_34 post (nI k) (nI d) n q.1 (nI i) sc bg ws bs ki fi se th nx q.2 fo pa ke)
    (fun i q => q.1 = nI (sq_st (sq_T p) (sq_B p) (sq_s p) d i)) k 0 (bg, va) (by omega) H.2.2.1 ?_ ?_
  · rintro n ⟨y, va'⟩ hy
    have hDk := stD k hk
    refine br_t (nI_le (Nat.le_refl _) (by omega)) ?_
    by_cases e : k = d
    · refine br_t (by rw [e]) ?_
      refine sx_shows H (st16 k) hy ?_ (fun va2 => ?_)
      · rw [show d - k = 0 by omega] at hDk
        exact sq_bad_b.mp hDk.1
      · have z := h va2
        unfold sq_in at z
        rw [if_neg (by omega)] at z
        exact z
    · refine br_f (fun z => e ((nI_eq (by omega) (by omega)).mp z)) ?_
      rw [show d - k = (d - k - 1) + 1 by omega] at hDk
      refine sx_towards H (st16 k) (m := d - k - 1) (by omega) hy ?_ hbs hf hDk (fun va2 => ?_)
      · rw [pk_sub hk, show d - k - 1 + 1 = d - k by omega]
      · have z := h va2
        unfold sq_in at z
        rw [if_pos (by omega)] at z
        exact z
  · rintro n i ⟨y, va'⟩ hi hy ih
    have hDi := stD i (by omega)
    rw [show d - i = (d - i - 1) + 1 by omega] at hDi
    refine br_f (nI_ge hi (by omega)) ?_
    refine sx_towards H (st16 i) (m := d - i - 1) (by omega) hy ?_ hbs hf hDi (fun va2 => ?_)
    · rw [pk_sub (by omega), show d - i - 1 + 1 = d - i by omega]
    · refine sx_stateAfter H (st16 i) sq_lt_8 hy rfl (fun va3 _ => nm_r (nI_1 i) (ih (nI (sq_st (sq_T p) (sq_B p) (sq_s p) d (i + 1)), va3) rfl))
theorem sx_reached (H : sx_C p sc bg ws ki fi se th nx) {post : Int32 → SX → Prop}
    (h : ∀ (bs' : Int32) (va' fo' : Nat → Int32), post (nI (sq_R (sq_T p) (2 ^ sq_s p) 15)) (sc, bg, ws, bs', ki, fi, se, th, nx, va', fo', pa, ke)) : wpX_reached post (sc, bg, ws, bs, ki, fi, se, th, nx, va, fo, pa, ke) := by
  have wf := H.1
  have hT := sq_T_ok wf
  have hs := wf.2.1
  have hb := H.2.2.1
  have hR := sq_R_lt hT (sq_p2lt hs)
  unfold wpX_reached
  refine sx_tabulate H (fun va' fo' hf => nm_r (e' := nI (2 ^ sq_s p)) (by rw [hb]; exact sq_one _ hs) ?_)
  refine pk_loop (fun n i (y : Int32) => wX_reached_13 post sc bg ws (nI (sq_bad (sq_B p))) ki fi se th nx va' fo' pa ke n y (nI (1 + i)))
    (fun i y => y = nI (sq_R (sq_T p) (2 ^ sq_s p) i)) 15 0 (nI (2 ^ sq_s p)) (by omega) rfl ?_ ?_
  · intro n y hy
    refine br_t (by decide +kernel) ?_
    rw [hy]
    exact h _ _ _
  · intro n i y hi hy ih
    refine br_f (nI_ge (b := 16) (by omega) (by decide)) (sx_allF hT (hR i) hf hy (nm_e (nm_r (nI_1 (1 + i)) (ih _ ?_))))
    rw [hy, sq_nor]
    rfl
theorem sx_isSet {post : Int32 → Prop} {x : Int32} {o : Nat} (ho : o < 16) (ex : x = nI o) (h : post 1) : wpX_isSetOfRegisters post x := by
  subst ex
  exact br_f (nI_pos (by omega)) (br_f (nI_ge (b := 16) ho (by decide)) h)
theorem sx_notSet {post : Int32 → Prop} {x : Int32} (hx : x < 0 ∨ nI 16 ≤ x) (h : post 0) : wpX_isSetOfRegisters post x := by
  rcases hx with g | g
  · exact br_t g h
  · exact br_c (fun _ => h) (fun _ => br_t g h)
theorem sx_holds (H : sx_C p sc bg ws ki fi se th nx) {post : Int32 → SX → Prop} {x y : Int32} {o z : Nat} (ho : o < 16) (hz : z < 16) (ex : x = nI o) (ey : y = nI z) {r : Int32}
    (h1 : (∀ j, (sq_R (sq_T p) (2 ^ sq_s p) 15).testBit j = true → (sq_sw o z).testBit j = true) → r = 1)
    (h0 : ¬ (∀ j, (sq_R (sq_T p) (2 ^ sq_s p) 15).testBit j = true → (sq_sw o z).testBit j = true) → r = 0)
    (h : ∀ (bs' : Int32) (va' fo' : Nat → Int32), post r (sc, bg, ws, bs', ki, fi, se, th, nx, va', fo', pa, ke)) : wpX_holds post (sc, bg, ws, bs, ki, fi, se, th, nx, va, fo, pa, ke) x y := by
  have wf := H.1
  have hR := sq_R_lt (sq_T_ok wf) (sq_p2lt wf.2.1) 15
  unfold wpX_holds
  refine sx_isSet ho ex (br_f sx_8 (sx_isSet hz ey (br_f sx_8 ?_)))
  refine sx_reached H (fun bs' va' fo' => sx_sw ho hz ex ey (br_c (fun g => ?_) (fun g => ?_)))
  · rw [← h1 ((sq_sub0 hR).mp g)]
    exact h _ _ _
  · rw [← h0 (fun q => g ((sq_sub0 hR).mpr q))]
    exact h _ _ _
theorem sx_keeps (H : sx_C p sc bg ws ki fi se th nx) {post : Int32 → SX → Prop} {x y : Int32} {o z : Nat} (ho : o < 16) (hz : z < 16) (ex : x = nI o) (ey : y = nI z) {r : Int32}
    (h1 : (sq_sw o z).testBit (sq_s p) = true → (∀ j, (sq_img (sq_T p) (sq_sw o z)).testBit j = true → (sq_sw o z).testBit j = true) → r = 1)
    (h0 : ¬ ((sq_sw o z).testBit (sq_s p) = true ∧ ∀ j, (sq_img (sq_T p) (sq_sw o z)).testBit j = true → (sq_sw o z).testBit j = true) → r = 0)
    (h : ∀ (bs' : Int32) (va' fo' : Nat → Int32), post r (sc, bg, ws, bs', ki, fi, se, th, nx, va', fo', pa, ke)) : wpX_keeps post (sc, bg, ws, bs, ki, fi, se, th, nx, va, fo, pa, ke) x y := by
  have wf := H.1
  have hT := sq_T_ok wf
  have hs := wf.2.1
  have hb := H.2.2.1
  have hsw := sq_sw_lt (o := o) (z := z)
  unfold wpX_keeps
  refine sx_isSet ho ex (br_f sx_8 (sx_isSet hz ey (br_f sx_8 ?_)))
  refine sx_tabulate H (fun va' fo' hf => sx_sw ho hz ex ey (sx_contains (s := sq_s p) (by omega) (by omega) rfl hb (fun g => br_f sx_8 (sx_allF hT hsw hf rfl (br_c (fun g2 => ?_) (fun g2 => ?_)))) (fun g => br_t rfl ?_)))
  · rw [← h1 g ((sq_sub0 (sq_img_lt hT _)).mp g2)]
    exact h _ _ _
  · rw [← h0 (fun q => g2 ((sq_sub0 (sq_img_lt hT _)).mpr q.2))]
    exact h _ _ _
  · rw [← h0 (fun q => g q.1)]
    exact h _ _ _
theorem sx_far (H : sx_C p sc bg ws ki fi se th nx) {post : Int32 → SX → Prop} {x : Int32} {t : Nat} (ht : t < 16) (ex : x = nI t)
    (h : ∀ (bs' : Int32) (va' fo' : Nat → Int32), post (sq_fs (fun n => decide (¬ sq_R (sq_T p) (2 ^ sq_s p) n &&& 2 ^ t = 0)) 16 0) (sc, bg, ws, bs', ki, fi, se, th, nx, va', fo', pa, ke)) : wpX_far post (sc, bg, ws, bs, ki, fi, se, th, nx, va, fo, pa, ke) x := by
  subst ex
  have wf := H.1
  have hT := sq_T_ok wf
  have hs := wf.2.1
  have hb := H.2.2.1
  unfold wpX_far
  refine br_f (nI_pos (by omega)) (br_f (nI_ge (b := 16) ht (by decide)) (br_f sx_8 ?_))
  exact sx_tabulate H (fun va' fo' hf => sx_until hT hs (sq_p2lt ht) hf hb (sq_one t ht) (h _ _ _))
theorem sx_step (H : sx_C p sc bg ws ki fi se th nx) {post : Int32 → SX → Prop} {x y : Int32} {s l : Nat} (hs : s < 16) (hl : l < 8) (ex : x = nI s) (ey : y = nI l)
    (h : ∀ va' : Nat → Int32, post (nI (sq_T p s l)) (sc, bg, ws, bs, ki, fi, se, th, nx, va', fo, pa, ke)) : wpX_step post (sc, bg, ws, bs, ki, fi, se, th, nx, va, fo, pa, ke) x y := by
  subst ex ey
  unfold wpX_step
  refine br_f (nI_pos (by omega)) (br_f (nI_ge (b := 16) hs (by decide)) (br_f sx_8 ?_))
  refine br_f (nI_pos (by omega)) (br_f (nI_ge (b := 8) hl (by decide)) (br_f sx_8 ?_))
  exact sx_stateAfter H hs hl rfl rfl (fun va' _ => h va')
theorem sx_watched (H : sx_C p sc bg ws ki fi se th nx) {post : Int32 → SX → Prop} {x y : Int32} {s l : Nat} (hs : s < 16) (hl : l < 8) (ex : x = nI s) (ey : y = nI l)
    (h : ∀ va' : Nat → Int32, post (nI (sq_B p s l)) (sc, bg, ws, bs, ki, fi, se, th, nx, va', fo, pa, ke)) : wpX_watched post (sc, bg, ws, bs, ki, fi, se, th, nx, va, fo, pa, ke) x y := by
  subst ex ey
  have wf := H.1
  have hc := wf.1
  have hw := wf.2.2.1
  have e3 := H.2.2.2.1
  unfold wpX_watched
  refine br_f (nI_pos (by omega)) (br_f (nI_ge (b := 16) hs (by decide)) (br_f sx_8 ?_))
  refine br_f (nI_pos (by omega)) (br_f (nI_ge (b := 8) hl (by decide)) (br_f sx_8 ?_))
  refine sx_settle H hs hl rfl rfl (fun va' hv => ⟨sx_in e3 (by omega) (by omega), ?_⟩)
  have g1 : va' ws.toNatClampNeg = nI (sq_B p s l) := sx_cl e3 (by omega) (hv _ hw)
  rw [g1]
  exact h va'
end
end
section
theorem sy_m0 : ∀ a, a < 2 → ∀ b, b < 2 → ∀ c, c < 2 → nI a * nI b = nI (sq_gv 0 a b c) := by decide +kernel
theorem sy_m1t : ∀ a, a < 2 → ∀ b, b < 2 → ∀ c, c < 2 → nI a + nI b ≤ 0 → 0 = nI (sq_gv 1 a b c) := by decide +kernel
theorem sy_m1f : ∀ a, a < 2 → ∀ b, b < 2 → ∀ c, c < 2 → ¬ nI a + nI b ≤ 0 → 1 = nI (sq_gv 1 a b c) := by decide +kernel
theorem sy_m3 : ∀ a, a < 2 → ∀ b, b < 2 → ∀ c, c < 2 → 1 - nI a * nI b = nI (sq_gv 3 a b c) := by decide +kernel
theorem sy_m4t : ∀ a, a < 2 → ∀ b, b < 2 → ∀ c, c < 2 → nI a + nI b ≤ 0 → 1 = nI (sq_gv 4 a b c) := by decide +kernel
theorem sy_m4f : ∀ a, a < 2 → ∀ b, b < 2 → ∀ c, c < 2 → ¬ nI a + nI b ≤ 0 → 0 = nI (sq_gv 4 a b c) := by decide +kernel
theorem sy_m6t : ∀ a, a < 2 → ∀ b, b < 2 → ∀ c, c < 2 → nI a ≤ nI b → 1 = nI (sq_gv 6 a b c) := by decide +kernel
theorem sy_m6f : ∀ a, a < 2 → ∀ b, b < 2 → ∀ c, c < 2 → ¬ nI a ≤ nI b → 0 = nI (sq_gv 6 a b c) := by decide +kernel
theorem sy_m8 : ∀ a, a < 2 → ∀ b, b < 2 → ∀ c, c < 2 → (nI a + nI b + nI c) / 2 = nI (sq_gv 8 a b c) := by decide +kernel
theorem sy_m9 : ∀ a, a < 2 → ∀ b, b < 2 → ∀ c, c < 2 → (nI a + nI b + nI c) - (nI a + nI b + nI c) / 2 * 2 = nI (sq_gv 9 a b c) := by decide +kernel
theorem sy_made {post : Int32 → Prop} {u : SY} {x y z t : Int32} {k a b c : Nat} (hk : k < 10) (ha : a < 2) (hb : b < 2) (hc : c < 2)
    (ex : x = nI k) (ey : y = nI a) (ez : z = nI b) (et : t = nI c) (h : post (nI (sq_gv k a b c))) : wpY_made post u x y z t := by
  subst ex ey ez et
  obtain ⟨sz, st, sh, gs, nx, va⟩ := u
  unfold wpY_made
  refine nm_e ?_
  match k, hk, h with
  | 0, _, h => exact br_t (by decide +kernel) (sx_at (sy_m0 a ha b hb c hc) h)
  | 1, _, h => exact br_f (by decide +kernel) (br_t (by decide +kernel) (br_c (fun g => sx_at (sy_m1t a ha b hb c hc g) h) (fun g => sx_at (sy_m1f a ha b hb c hc g) h)))
  | 2, _, h => exact br_f (by decide +kernel) (br_f (by decide +kernel) (br_t (by decide +kernel) (sx_at (sx_gv2 a ha b hb c hc) h)))
  | 3, _, h => exact br_f (by decide +kernel) (br_f (by decide +kernel) (br_f (by decide +kernel) (br_t (by decide +kernel) (sx_at (sy_m3 a ha b hb c hc) h))))
  | 4, _, h => exact br_f (by decide +kernel) (br_f (by decide +kernel) (br_f (by decide +kernel) (br_f (by decide +kernel) (br_t (by decide +kernel) (br_c (fun g => sx_at (sy_m4t a ha b hb c hc g) h) (fun g => sx_at (sy_m4f a ha b hb c hc g) h))))))
  | 5, _, h => exact br_f (by decide +kernel) (br_f (by decide +kernel) (br_f (by decide +kernel) (br_f (by decide +kernel) (br_f (by decide +kernel) (br_t (by decide +kernel) (sx_at (sx_gv5 a ha b hb c hc) h))))))
  | 6, _, h => exact br_f (by decide +kernel) (br_f (by decide +kernel) (br_f (by decide +kernel) (br_f (by decide +kernel) (br_f (by decide +kernel) (br_f (by decide +kernel) (br_t (by decide +kernel) (br_c (fun g => sx_at (sy_m6t a ha b hb c hc g) h) (fun g => sx_at (sy_m6f a ha b hb c hc g) h))))))))
  | 7, _, h => exact br_f (by decide +kernel) (br_f (by decide +kernel) (br_f (by decide +kernel) (br_f (by decide +kernel) (br_f (by decide +kernel) (br_f (by decide +kernel) (br_f (by decide +kernel) (br_t (by decide +kernel) (br_c (fun g => sx_at (sx_gv7t a ha b hb c hc g) h) (fun g => sx_at (sx_gv7f a ha b hb c hc g) h)))))))))
  | 8, _, h => exact br_f (by decide +kernel) (br_f (by decide +kernel) (br_f (by decide +kernel) (br_f (by decide +kernel) (br_f (by decide +kernel) (br_f (by decide +kernel) (br_f (by decide +kernel) (br_f (by decide +kernel) (br_t (by decide +kernel) ⟨by decide, sx_at (sy_m8 a ha b hb c hc) h⟩))))))))
  | 9, _, h => exact br_f (by decide +kernel) (br_f (by decide +kernel) (br_f (by decide +kernel) (br_f (by decide +kernel) (br_f (by decide +kernel) (br_f (by decide +kernel) (br_f (by decide +kernel) (br_f (by decide +kernel) (br_f (by decide +kernel) ⟨by decide, sx_at (sy_m9 a ha b hb c hc) h⟩))))))))
def sy_C (p : sq_P) (sz st sh : Int32) (gs nx : Nat → Int32) : Prop :=
  sq_wf p ∧ sz = nI (sq_c p) ∧ st = nI (sq_s p) ∧ sh = nI (sq_w p) ∧ (∀ r, r < 4 → nx r = nI (sq_nx p r)) ∧
  ∀ g, g < sq_c p → gs (4 * g) = nI (sq_gk p g) ∧ gs (4 * g + 1) = nI (sq_ga p g) ∧ gs (4 * g + 2) = nI (sq_gb p g) ∧ gs (4 * g + 3) = nI (sq_gc p g)
theorem sy_4 (g : Nat) : (4 : Int32) * nI g = nI (4 * g) := pk_mul 4 g
theorem sy_41 (g : Nat) : (4 : Int32) * nI g + 1 = nI (4 * g + 1) := by rw [sy_4]; exact nI_add _ 1
theorem sy_42 (g : Nat) : (4 : Int32) * nI g + 2 = nI (4 * g + 2) := by rw [sy_4]; exact nI_add _ 2
theorem sy_43 (g : Nat) : (4 : Int32) * nI g + 3 = nI (4 * g + 3) := by rw [sy_4]; exact nI_add _ 3
theorem sy_7 (g : Nat) : (7 : Int32) + nI g = nI (7 + g) := nI_add 7 g
section
variable {p : sq_P} {sz st sh : Int32} {gs nx va : Nat → Int32}
theorem sy_work42 (H : sy_C p sz st sh gs nx) {post : SY → Prop} {s l : Nat}
    (h : ∀ va' : Nat → Int32, (∀ i, i < 7 + sq_c p → va' i = nI (sq_V p s l i)) → post (sz, st, sh, gs, nx, va'))
    (h0 : ∀ i, i < 7 → va i = nI (sq_base s l i)) : ∃ n, wY_work_42 post sz st sh n 0 gs nx va := by
  obtain ⟨wf, e1, e2, e3, e4, e5⟩ := H
  have hc := wf.1
  refine pk_loop (fun n g (va : Nat → Int32) => wY_work_42 post sz st sh n (nI g) gs nx va)
    (fun g va => ∀ i, i < 7 + g → va i = nI (sq_pv p s l g i)) (sq_c p) 0 va (Nat.zero_le _) h0 ?_ ?_
  · intro n va hv
    refine br_t ?_ (h va hv)
    rw [e1]
    exact nI_le (Nat.le_refl _) (by omega)
  · intro n g va hg hv ih
    obtain ⟨k1, k2, k3, k4⟩ := e5 g hg
    obtain ⟨w1, w2, w3, w4⟩ := wf.2.2.2.2 g hg
    have f1 : gs (4 * nI g).toNatClampNeg = nI (sq_gk p g) := sx_cl (sy_4 g) (by omega) k1
    have f2 : gs (4 * nI g + 1).toNatClampNeg = nI (sq_ga p g) := sx_cl (sy_41 g) (by omega) k2
    have f3 : gs (4 * nI g + 2).toNatClampNeg = nI (sq_gb p g) := sx_cl (sy_42 g) (by omega) k3
    have f4 : gs (4 * nI g + 3).toNatClampNeg = nI (sq_gc p g) := sx_cl (sy_43 g) (by omega) k4
    have hpv := sq_pv_lt wf s l g (by omega)
    refine br_f ?_ ⟨sx_in (sy_4 g) (by omega) (by omega), sx_in (sy_41 g) (by omega) (by omega), sx_in f2 (by omega) (by omega), sx_in (sy_42 g) (by omega) (by omega), sx_in f3 (by omega) (by omega), sx_in (sy_43 g) (by omega) (by omega), sx_in f4 (by omega) (by omega), ?_⟩
    · rw [e1]
      exact nI_ge (by omega) (by omega)
    · refine sy_made w1 (hpv _) (hpv _) (hpv _) f1 (sx_cl f2 (by omega) (hv _ w2)) (sx_cl f3 (by omega) (hv _ w3)) (sx_cl f4 (by omega) (hv _ w4)) ?_
      refine ⟨sx_in (sy_7 g) (by omega) (by omega), nm_r (sx_up (sy_7 g) (by omega) rfl) (nm_r (nI_1 g) (ih _ ?_))⟩
      intro i hi
      by_cases e : i = 7 + g
      · rw [e, pk_us, sq_pv_s]
      · rw [pk_un e, sq_pv_n e]
        exact hv i (by omega)
theorem sy_work (H : sy_C p sz st sh gs nx) {post : SY → Prop} {s l : Nat} {x y : Int32} (hs : s < 16) (hl : l < 8) (ex : x = nI s) (ey : y = nI l)
    (h : ∀ va' : Nat → Int32, (∀ i, i < 7 + sq_c p → va' i = nI (sq_V p s l i)) → post (sz, st, sh, gs, nx, va')) : wpY_work post (sz, st, sh, gs, nx, va) x y := by
  subst ex ey
  refine pk_loop (fun n g (va : Nat → Int32) => wY_work_2 post (nI s) (nI l) sz st sh n (nI g) gs nx va)
    (fun g va => ∀ i, i < g → va i = nI (sq_base s l i)) 7 0 va (by omega) (fun i hi => absurd hi (Nat.not_lt_zero i)) ?_ ?_
  · intro n va hv
    exact br_t (by decide +kernel) (sy_work42 H h hv)
  · intro n g va hg hv ih
    refine br_f (nI_ge (b := 7) hg (by decide)) (pk_le 3 g (fun g3 => ⟨vp_in_nI (by omega) (by omega), nm_r (e' := upd va g (nI (sq_base s l g))) ?_ (nm_r (nI_1 g) (ih _ ?_))⟩) (fun g3 => ⟨vp_in_nI (by omega) (by omega), nm_r (e' := upd va g (nI (sq_base s l g))) ?_ (nm_r (nI_1 g) (ih _ ?_))⟩))
    · refine sx_up rfl (by omega) ?_
      have e : nI g - 3 = nI (g - 3) := pk_sub (b := 3) g3
      rw [e, sq_bit (by omega) (by omega)]
      unfold sq_base
      rw [if_neg (by omega)]
    · intro i hi
      by_cases e : i = g
      · rw [e, pk_us]
      · rw [pk_un e]
        exact hv i (by omega)
    · refine sx_up rfl (by omega) ?_
      rw [sq_bit (by omega) (by omega)]
      unfold sq_base
      rw [if_pos g3]
    · intro i hi
      by_cases e : i = g
      · rw [e, pk_us]
      · rw [pk_un e]
        exact hv i (by omega)
theorem sy_inRange {post : Int32 → Prop} {x y : Int32} {s l : Nat} (hs : s < 16) (hl : l < 8) (ex : x = nI s) (ey : y = nI l) (h : post 1) : wpY_inRange post (sz, st, sh, gs, nx, va) x y := by
  subst ex ey
  exact br_f (nI_pos (by omega)) (br_f (nI_nlt (a := 15) (by omega) (by decide)) (br_f (nI_pos (by omega)) (br_f (nI_nlt (a := 7) (by omega) (by decide)) h)))
theorem sy_watched (H : sy_C p sz st sh gs nx) {post : Int32 → SY → Prop} {s l : Nat} {x y : Int32} (hs : s < 16) (hl : l < 8) (ex : x = nI s) (ey : y = nI l)
    (h : ∀ va' : Nat → Int32, post (nI (sq_B p s l)) (sz, st, sh, gs, nx, va')) : wpY_watched post (sz, st, sh, gs, nx, va) x y := by
  have wf := H.1
  have hc := wf.1
  have hw := wf.2.2.1
  have e3 := H.2.2.2.1
  unfold wpY_watched
  refine sy_inRange hs hl ex ey (br_f sx_8 ?_)
  refine sy_work H hs hl ex ey (fun va' hv => ⟨sx_in e3 (by omega) (by omega), ?_⟩)
  have g1 : va' sh.toNatClampNeg = nI (sq_B p s l) := sx_cl e3 (by omega) (hv _ hw)
  rw [g1]
  exact h va'
theorem sy_or4 : ∀ a, a < 2 → ∀ b, b < 2 → ∀ c, c < 2 → ∀ d, d < 2 → ((nI a ||| (nI b <<< ((1 : Int32) &&& 31))) ||| (nI c <<< ((2 : Int32) &&& 31))) ||| (nI d <<< ((3 : Int32) &&& 31)) = nI (0 + a * 2 ^ 0 + b * 2 ^ 1 + c * 2 ^ 2 + d * 2 ^ 3) := by decide +kernel
theorem sy_step (H : sy_C p sz st sh gs nx) {post : Int32 → SY → Prop} {s l : Nat} {x y : Int32} (hs : s < 16) (hl : l < 8) (ex : x = nI s) (ey : y = nI l)
    (h : ∀ va' : Nat → Int32, post (nI (sq_T p s l)) (sz, st, sh, gs, nx, va')) : wpY_step post (sz, st, sh, gs, nx, va) x y := by
  have wf := H.1
  have hc := wf.1
  have e4 := H.2.2.2.2.1
  have w := wf.2.2.2.1
  unfold wpY_step
  refine sy_inRange hs hl ex ey (br_f sx_8 ?_)
  refine sy_work H hs hl ex ey (fun va' hv => ?_)
  have w0 := w 0 (by omega)
  have w1 := w 1 (by omega)
  have w2 := w 2 (by omega)
  have w3 := w 3 (by omega)
  have n0 := e4 0 (by omega)
  have n1 := e4 1 (by omega)
  have n2 := e4 2 (by omega)
  have n3 := e4 3 (by omega)
  have g0 : va' (nx 0).toNatClampNeg = nI (sq_V p s l (sq_nx p 0)) := sx_cl n0 (by omega) (hv _ w0)
  have g1 : va' (nx 1).toNatClampNeg = nI (sq_V p s l (sq_nx p 1)) := sx_cl n1 (by omega) (hv _ w1)
  have g2 : va' (nx 2).toNatClampNeg = nI (sq_V p s l (sq_nx p 2)) := sx_cl n2 (by omega) (hv _ w2)
  have g3 : va' (nx 3).toNatClampNeg = nI (sq_V p s l (sq_nx p 3)) := sx_cl n3 (by omega) (hv _ w3)
  refine ⟨sx_in n0 (by omega) (by omega), sx_in n1 (by omega) (by omega), sx_in n2 (by omega) (by omega), sx_in n3 (by omega) (by omega), ?_⟩
  rw [g0, g1, g2, g3, sy_or4 _ (sq_V_lt wf s l _) _ (sq_V_lt wf s l _) _ (sq_V_lt wf s l _) _ (sq_V_lt wf s l _)]
  exact h va'
theorem sy_bad (H : sy_C p sz st sh gs nx) {post : Int32 → SY → Prop} (h : ∀ va' : Nat → Int32, post (nI (sq_bad (sq_B p))) (sz, st, sh, gs, nx, va')) : wpY_badStates post (sz, st, sh, gs, nx, va) := by
  have wf := H.1
  refine pk_loop (fun n c (q : Int32 × (Nat → Int32)) => wY_badStates_4 post n q.1 (nI c) sz st sh gs nx q.2)
    (fun c q => q.1 = nI (sq_or 0 (fun c => decide (sq_B p (c / 8) (c % 8) = 1)) (fun c => 2 ^ (c / 8)) c)) 128 0 ((0 : Int32), va) (by omega) rfl ?_ ?_
  · rintro n ⟨y, va'⟩ hy
    have hy' : y = nI (sq_bad (sq_B p)) := hy
    subst hy'
    exact br_t (by decide +kernel) (h va')
  · rintro n c ⟨y, va'⟩ hc hy ih
    have hy' : y = nI (sq_or 0 (fun c => decide (sq_B p (c / 8) (c % 8) = 1)) (fun c => 2 ^ (c / 8)) c) := hy
    have d8 : nI c / 8 = nI (c / 8) := pk_div (d := 8) (by omega) (by decide) (by decide)
    have r8 : nI c - nI c / 8 * 8 = nI (c % 8) := pk_rem (d := 8) (by omega) (by decide) (by decide)
    have hB := sq_B_lt wf (c / 8) (c % 8)
    have e : nI (sq_B p (c / 8) (c % 8)) = 1 ↔ sq_B p (c / 8) (c % 8) = 1 := by
      show _ = nI 1 ↔ _
      rw [nI_eq (by omega) (by omega)]
    refine br_f (nI_ge (b := 128) hc (by decide)) ⟨by decide, by decide, sy_watched H (by omega) (by omega) d8 r8 (fun va2 => br_c (fun g => ⟨by decide, nm_e (nm_r (nI_1 c) (ih (_, va2) ?_))⟩) (fun g => nm_r (nI_1 c) (ih (_, va2) ?_)))⟩
    · show _ ||| _ = _
      rw [hy', d8, sq_one _ (by omega), sq_nor, sq_or_t]
      exact decide_eq_true (e.mp g)
    · show y = _
      rw [hy', sq_or_f]
      exact fun z => g (e.mpr (of_decide_eq_true z))
theorem sy_lead (H : sy_C p sz st sh gs nx) {post : Int32 → SY → Prop} {S : Nat} {x : Int32} (hS : S < 2 ^ 16) (ex : x = nI S) (h : ∀ va' : Nat → Int32, post (nI (sq_pre (sq_T p) S)) (sz, st, sh, gs, nx, va')) : wpY_leading post (sz, st, sh, gs, nx, va) x := by
  subst ex
  have wf := H.1
  refine pk_loop (fun n c (q : Int32 × (Nat → Int32)) => wY_leading_4 post (nI S) n q.1 (nI c) sz st sh gs nx q.2)
    (fun c q => q.1 = nI (sq_or 0 (fun c => S.testBit (sq_T p (c / 8) (c % 8))) (fun c => 2 ^ (c / 8)) c)) 128 0 ((0 : Int32), va) (by omega) rfl ?_ ?_
  · rintro n ⟨y, va'⟩ hy
    have hy' : y = nI (sq_pre (sq_T p) S) := hy
    subst hy'
    exact br_t (by decide +kernel) (h va')
  · rintro n c ⟨y, va'⟩ hc hy ih
    have hy' : y = nI (sq_or 0 (fun c => S.testBit (sq_T p (c / 8) (c % 8))) (fun c => 2 ^ (c / 8)) c) := hy
    have d8 : nI c / 8 = nI (c / 8) := pk_div (d := 8) (by omega) (by decide) (by decide)
    have r8 : nI c - nI c / 8 * 8 = nI (c % 8) := pk_rem (d := 8) (by omega) (by decide) (by decide)
    have hT := sq_T_lt wf (c / 8) (c % 8)
    have e := sq_bit1 (a := S) (s := sq_T p (c / 8) (c % 8)) (by omega) (by omega)
    refine br_f (nI_ge (b := 128) hc (by decide)) ⟨by decide, by decide, sy_step H (by omega) (by omega) d8 r8 (fun va2 => br_c (fun g => ⟨by decide, nm_e (nm_r (nI_1 c) (ih (_, va2) ?_))⟩) (fun g => nm_r (nI_1 c) (ih (_, va2) ?_)))⟩
    · show _ ||| _ = _
      rw [hy', d8, sq_one _ (by omega), sq_nor, sq_or_t]
      exact e.mp g
    · show y = _
      rw [hy', sq_or_f]
      exact fun z => g (e.mpr z)
theorem sy_foll (H : sy_C p sz st sh gs nx) {post : Int32 → SY → Prop} {S : Nat} {x : Int32} (hS : S < 2 ^ 16) (ex : x = nI S) (h : ∀ va' : Nat → Int32, post (nI (sq_img (sq_T p) S)) (sz, st, sh, gs, nx, va')) : wpY_following post (sz, st, sh, gs, nx, va) x := by
  subst ex
  have wf := H.1
  refine pk_loop (fun n c (q : Int32 × (Nat → Int32)) => wY_following_4 post (nI S) n q.1 (nI c) sz st sh gs nx q.2)
    (fun c q => q.1 = nI (sq_or 0 (fun c => S.testBit (c / 8)) (fun c => 2 ^ sq_T p (c / 8) (c % 8)) c)) 128 0 ((0 : Int32), va) (by omega) rfl ?_ ?_
  · rintro n ⟨y, va'⟩ hy
    have hy' : y = nI (sq_img (sq_T p) S) := hy
    subst hy'
    exact br_t (by decide +kernel) (h va')
  · rintro n c ⟨y, va'⟩ hc hy ih
    have hy' : y = nI (sq_or 0 (fun c => S.testBit (c / 8)) (fun c => 2 ^ sq_T p (c / 8) (c % 8)) c) := hy
    have d8 : nI c / 8 = nI (c / 8) := pk_div (d := 8) (by omega) (by decide) (by decide)
    have r8 : nI c - nI c / 8 * 8 = nI (c % 8) := pk_rem (d := 8) (by omega) (by decide) (by decide)
    have hT := sq_T_lt wf (c / 8) (c % 8)
    have e : (nI S >>> ((nI c / 8) &&& 31)) &&& 1 = 1 ↔ S.testBit (c / 8) = true := by
      rw [d8]
      exact sq_bit1 (by omega) (by omega)
    refine br_f (nI_ge (b := 128) hc (by decide)) ⟨by decide, br_c (fun g => ⟨by decide, by decide, sy_step H (by omega) (by omega) d8 r8 (fun va2 => nm_e (nm_r (nI_1 c) (ih (_, va2) ?_)))⟩) (fun g => nm_r (nI_1 c) (ih (_, va') ?_))⟩
    · show _ ||| _ = _
      rw [hy', sq_one _ hT, sq_nor, sq_or_t]
      exact e.mp g
    · show y = _
      rw [hy', sq_or_f]
      exact fun z => g (e.mpr z)
theorem sy_found (H : sy_C p sz st sh gs nx) {post : Int32 → SY → Prop} {G : Nat} {x : Int32} (hG : G < 2 ^ 16) (ex : x = nI G)
    (h : ∀ va' : Nat → Int32, post (sq_fs (fun n => decide (¬ sq_R (sq_T p) (2 ^ sq_s p) n &&& G = 0)) 16 0) (sz, st, sh, gs, nx, va')) : wpY_found post (sz, st, sh, gs, nx, va) x := by
  subst ex
  have wf := H.1
  have hT := sq_T_ok wf
  have hs := wf.2.1
  have hb := H.2.2.1
  have hR := sq_R_lt hT (sq_p2lt hs)
  refine nm_r (e' := nI (2 ^ sq_s p)) (by rw [hb]; exact sq_one _ hs) ?_
  refine pk_loop (fun n i (q : Int32 × (Nat → Int32)) => wY_found_9 post (nI G) n q.1 (nI i) sz st sh gs nx q.2)
    (fun i q => q.1 = nI (sq_R (sq_T p) (2 ^ sq_s p) i) ∧ sq_fs (fun n => decide (¬ sq_R (sq_T p) (2 ^ sq_s p) n &&& G = 0)) (16 - i) i = sq_fs (fun n => decide (¬ sq_R (sq_T p) (2 ^ sq_s p) n &&& G = 0)) 16 0) 16 0 (nI (2 ^ sq_s p), va) (by omega) ⟨rfl, rfl⟩ ?_ ?_
  · rintro n ⟨y, va'⟩ ⟨hy, hv⟩
    refine br_t (by decide +kernel) ?_
    have z := h va'
    rw [← hv] at z
    exact z
  · rintro n i ⟨y, va'⟩ hi ⟨hy, hv⟩ ih
    have hy' : y = nI (sq_R (sq_T p) (2 ^ sq_s p) i) := hy
    have e : y &&& nI G = 0 ↔ sq_R (sq_T p) (2 ^ sq_s p) i &&& G = 0 := by
      rw [hy']
      exact sq_and0 (hR i) hG
    rw [show 16 - i = (16 - (i + 1)) + 1 by omega] at hv
    refine br_f (nI_ge (b := 16) hi (by decide)) (br_c (fun g => ?_) (fun g => ?_))
    · refine sy_foll H (hR i) hy' (fun va2 => nm_e (nm_r (nI_1 i) (ih (_, va2) ⟨?_, ?_⟩)))
      · show y ||| _ = _
        rw [hy', sq_nor]
        rfl
      · rw [← hv, sq_fs_f]
        exact fun z => (of_decide_eq_true z) (e.mp g)
    · have g' : ¬ sq_R (sq_T p) (2 ^ sq_s p) i &&& G = 0 := fun z => g (e.mpr z)
      rw [sq_fs_t (P := fun n => decide (¬ sq_R (sq_T p) (2 ^ sq_s p) n &&& G = 0)) (decide_eq_true g')] at hv
      have z := h va'
      rw [← hv] at z
      exact z
end
end
section
def sx_out (x : Int32) (n : Nat) : Prop := x < 0 ∨ ∃ j, n ≤ j ∧ j < 2 ^ 31 ∧ x = nI j
theorem sx_ix (x : Int32) (n : Nat) : sx_out x n ∨ ∃ j, j < n ∧ x = nI j := by
  by_cases h : x < 0
  · exact Or.inl (Or.inl h)
  · obtain ⟨j, hj, e⟩ := nI_of h
    rcases Nat.lt_or_ge j n with g | g
    · exact Or.inr ⟨j, g, e⟩
    · exact Or.inl (Or.inr ⟨j, g, hj, e⟩)
theorem sx_outL {x : Int32} {n : Nat} {A : Prop} (hn : n < 2 ^ 31) {y : Int32} (ey : y = nI n) (hx : sx_out x n) (h : A) {B : Prop} : (x < 0 → A) ∧ (¬ x < 0 → ((y ≤ x → A) ∧ (¬ y ≤ x → B))) := by
  subst ey
  rcases hx with g | ⟨j, h1, h2, e⟩
  · exact br_t g h
  · exact br_c (fun _ => h) (fun _ => br_t (by rw [e]; exact nI_le h1 h2) h)
theorem sx_outG {x : Int32} {n : Nat} {A : Prop} (hn : n + 1 < 2 ^ 31) {y : Int32} (ey : y = nI n) (hx : sx_out x (n + 1)) (h : A) {B : Prop} : (x < 0 → A) ∧ (¬ x < 0 → ((y < x → A) ∧ (¬ y < x → B))) := by
  subst ey
  rcases hx with g | ⟨j, h1, h2, e⟩
  · exact br_t g h
  · exact br_c (fun _ => h) (fun _ => br_t (by rw [e]; exact nI_lt h1 h2) h)
theorem sq_dep_neg {T B : Nat → Nat → Nat} (hT : sq_ok T) {s : Nat} (hs : s < 16) : sq_dep T B s < 0 ↔ ¬ sq_ev T B s := by
  rw [← sq_ev_dep hT hs]
  rcases sq_dep_n (T := T) (B := B) (s := s) with e | ⟨d, hd, e⟩
  · rw [e]
    exact ⟨fun _ => rfl, fun _ => by decide⟩
  · rw [e]
    exact ⟨fun z => absurd z (nI_pos (by omega)), fun z => absurd z (sq_n3 hd)⟩
section
variable {p : sq_P} {sz st sh : Int32} {gs nx va : Nat → Int32}
theorem sy_engine {post : Int32 → Prop} {x : Int32} {e : Nat} (he : e < 4) (ex : x = nI e) (h : post 1) : wpY_engine post (sz, st, sh, gs, nx, va) x := by
  subst ex
  exact br_f (nI_pos (by omega)) (br_f (nI_nlt (a := 3) (by omega) (by decide)) h)
theorem sy_isSet {post : Int32 → Prop} {x : Int32} {e : Nat} (he : e < 16) (ex : x = nI e) (h : post 1) : wpY_isSet post (sz, st, sh, gs, nx, va) x := by
  subst ex
  exact br_f (nI_pos (by omega)) (br_f (nI_nlt (a := 15) (by omega) (by decide)) h)
theorem sy_notSet {post : Int32 → Prop} {x : Int32} (hx : sx_out x 16) (h : post 0) : wpY_isSet post (sz, st, sh, gs, nx, va) x := sx_outG (n := 15) (by decide) rfl hx h
theorem sy_notEngine {post : Int32 → Prop} {x : Int32} (hx : sx_out x 4) (h : post 0) : wpY_engine post (sz, st, sh, gs, nx, va) x := sx_outG (n := 3) (by decide) rfl hx h
theorem sy_has {post : Int32 → Prop} {x y t : Int32} {s o z : Nat} (hs : s < 16) (ho : o < 16) (hz : z < 16) (ex : x = nI s) (ey : y = nI o) (et : t = nI z)
    (h1 : sq_has s o z = true → post 1) (h0 : ¬ sq_has s o z = true → post 0) : wpY_has post (sz, st, sh, gs, nx, va) x y t := by
  subst ex ey et
  have e1 : nI s &&& nI o = 0 ↔ s &&& o = 0 := sq_and0 (by omega) (by omega)
  have e2 := sq_nhas s hs z hz
  refine br_c (fun g => br_c (fun g2 => h0 ?_) (fun g2 => h1 ?_)) (fun g => h1 ?_)
  · intro w
    exact (of_decide_eq_true w).elim (fun q => q (e1.mp g)) (fun q => q (e2.mp g2))
  · exact decide_eq_true (Or.inr fun q => g2 (e2.mpr q))
  · exact decide_eq_true (Or.inl fun q => g (e1.mpr q))
theorem sy_ever (H : sy_C p sz st sh gs nx) {post : Int32 → SY → Prop} {x : Int32} {e : Nat} (he : e < 4) (ex : x = nI e)
    (h : ∀ va' : Nat → Int32, post (sq_ei (sq_T p) (sq_B p) (sq_s p)) (sz, st, sh, gs, nx, va')) : wpY_ever post (sz, st, sh, gs, nx, va) x := by
  have wf := H.1
  have hT := sq_T_ok wf
  have hs := wf.2.1
  unfold wpY_ever
  refine sy_engine he ex (br_f sx_8 ?_)
  refine sy_bad H (fun va1 => sy_found H sq_bad_lt rfl (fun va2 => ?_))
  exact sq_ei_if (P := fun r => post r (sz, st, sh, gs, nx, va2)) hT hs (sq_dep_neg hT hs) (h va2)
theorem sy_depth (H : sy_C p sz st sh gs nx) {post : Int32 → SY → Prop} {x : Int32} {e : Nat} (he : e < 2) (ex : x = nI e)
    (h : ∀ va' : Nat → Int32, post (sq_dep (sq_T p) (sq_B p) (sq_s p)) (sz, st, sh, gs, nx, va')) : wpY_depth post (sz, st, sh, gs, nx, va) x := by
  subst ex
  have w : wY_depth_9 post sz st sh gs nx va := by
    unfold wY_depth_9
    exact sy_bad H (fun va1 => sy_found H sq_bad_lt rfl (fun va2 => h va2))
  unfold wpY_depth
  match e, he with
  | 0, _ => exact br_t (by decide +kernel) w
  | 1, _ => exact br_f (by decide +kernel) (br_t (by decide +kernel) w)
theorem sy_before (H : sy_C p sz st sh gs nx) {post : Int32 → SY → Prop} {x : Int32} {m : Nat} (hm : m < 16) (ex : x = nI m)
    (h : ∀ va' : Nat → Int32, post (nI (sq_Q (sq_T p) (sq_bad (sq_B p)) m)) (sz, st, sh, gs, nx, va')) : wpY_before post (sz, st, sh, gs, nx, va) x := by
  subst ex
  unfold wpY_before
  refine sy_bad H (fun va1 => ?_)
  have hQ := sq_Q_lt (T := sq_T p) (S := sq_bad (sq_B p)) sq_bad_lt
  refine pk_loop (fun n i (q : Int32 × (Nat → Int32)) => wY_before_7 post (nI m) n q.1 (nI i) sz st sh gs nx q.2)
    (fun i q => q.1 = nI (sq_Q (sq_T p) (sq_bad (sq_B p)) i)) m 0 (nI (sq_bad (sq_B p)), va1) (by omega) rfl ?_ ?_
  · rintro n ⟨y, va'⟩ hy
    have hy' : y = nI (sq_Q (sq_T p) (sq_bad (sq_B p)) m) := hy
    subst hy'
    exact br_t (nI_le (Nat.le_refl _) (by omega)) (h va')
  · rintro n i ⟨y, va'⟩ hi hy ih
    exact br_f (nI_ge hi (by omega)) (sy_lead H (hQ i) hy (fun va2 => nm_r (nI_1 i) (ih (nI (sq_Q (sq_T p) (sq_bad (sq_B p)) (i + 1)), va2) rfl)))
theorem sy_in118 (H : sy_C p sz st sh gs nx) {post : Int32 → SY → Prop} {J : Int32 → Int32 → Int32 → Int32 → Int32 → Int32 → (Nat → Int32) → (Nat → Int32) → (Nat → Int32) → Prop} {x1 x2 x3 x4 : Int32} {s l i : Nat} (hs : s < 16) (hl : l < 8) (e3 : x3 = nI s) (e4 : x4 = nI l)
    (h : ∀ va' : Nat → Int32, J (nI (sq_T p s l)) x4 (nI (i + 1)) sz st sh gs nx va') : wY_input_118 post J x1 x2 x3 x4 (nI i) sz st sh gs nx va := by
  unfold wY_input_118
  exact sy_step H hs hl e3 e4 (fun va2 => nm_r (nI_1 i) (h va2))
theorem sy_in69a (H : sy_C p sz st sh gs nx) {post : Int32 → SY → Prop} {J : Int32 → Int32 → Int32 → Int32 → Int32 → Int32 → (Nat → Int32) → (Nat → Int32) → (Nat → Int32) → Prop} {x1 x3 x6 : Int32} {s i d Q : Nat} (hs : s < 16) (hi : i < d) (hd : d < 16) (hQ : Q < 2 ^ 16) (e3 : x3 = nI s) (e6 : x6 = nI Q)
    (h : ∀ va' : Nat → Int32, J (nI (sq_T p s (sq_lv (fun l => Q.testBit (sq_T p s l)) 7 0))) (nI (sq_lv (fun l => Q.testBit (sq_T p s l)) 7 0)) (nI (i + 1)) sz st sh gs nx va') : ∃ n, wY_input_69 post J x1 (nI d) x3 (nI i) x6 n 0 sz st sh gs nx va := by
  subst e3 e6
  have wf := H.1
  refine pk_loop (fun n l (va : Nat → Int32) => wY_input_69 post J x1 (nI d) (nI s) (nI i) (nI Q) n (nI l) sz st sh gs nx va)
    (fun l va => sq_lv (fun l => Q.testBit (sq_T p s l)) (7 - l) l = sq_lv (fun l => Q.testBit (sq_T p s l)) 7 0) 7 0 va (by omega) rfl ?_ ?_
  · intro n va hv
    refine br_t (by decide +kernel) (sy_in118 H hs (l := 7) (by omega) rfl rfl (fun va2 => ?_))
    have z := h va2
    rw [← hv] at z
    exact z
  · intro n l va hl hv ih
    have e := sq_bit1 (a := Q) (s := sq_T p s l) (by omega) (by have := sq_T_lt wf s l; omega)
    rw [show 7 - l = (7 - (l + 1)) + 1 by omega] at hv
    refine br_f (nI_ge (b := 7) hl (by decide)) (br_f (nI_ge hi (by omega)) (sy_step H hs (l := l) (by omega) rfl rfl (fun va2 => br_c (fun g => sy_in118 H hs (l := l) (by omega) rfl rfl (fun va3 => ?_)) (fun g => nm_r (nI_1 l) (ih va2 ?_)))))
    · rw [sq_lv_t (P := fun l => Q.testBit (sq_T p s l)) (e.mp g)] at hv
      have z := h va3
      rw [← hv] at z
      exact z
    · rw [sq_lv_f (P := fun l => Q.testBit (sq_T p s l)) (fun z => g (e.mpr z))] at hv
      exact hv
theorem sy_in69b (H : sy_C p sz st sh gs nx) {post : Int32 → SY → Prop} {J : Int32 → Int32 → Int32 → Int32 → Int32 → Int32 → (Nat → Int32) → (Nat → Int32) → (Nat → Int32) → Prop} {x1 x3 x6 : Int32} {s i d : Nat} (hs : s < 16) (hi : d ≤ i) (hd : i < 17) (e3 : x3 = nI s)
    (h : ∀ va' : Nat → Int32, J (nI (sq_T p s (sq_ll (sq_B p) s))) (nI (sq_ll (sq_B p) s)) (nI (i + 1)) sz st sh gs nx va') : ∃ n, wY_input_69 post J x1 (nI d) x3 (nI i) x6 n 0 sz st sh gs nx va := by
  subst e3
  have wf := H.1
  refine pk_loop (fun n l (va : Nat → Int32) => wY_input_69 post J x1 (nI d) (nI s) (nI i) x6 n (nI l) sz st sh gs nx va)
    (fun l va => sq_lv (fun l => decide (sq_B p s l = 1)) (7 - l) l = sq_ll (sq_B p) s) 7 0 va (by omega) rfl ?_ ?_
  · intro n va hv
    refine br_t (by decide +kernel) (sy_in118 H hs (l := 7) (by omega) rfl rfl (fun va2 => ?_))
    have z := h va2
    rw [← hv] at z
    exact z
  · intro n l va hl hv ih
    have hB := sq_B_lt wf s l
    have e : nI (sq_B p s l) = 1 ↔ sq_B p s l = 1 := by
      show _ = nI 1 ↔ _
      rw [nI_eq (by omega) (by omega)]
    rw [show 7 - l = (7 - (l + 1)) + 1 by omega] at hv
    refine br_f (nI_ge (b := 7) hl (by decide)) (br_t (nI_le hi (by omega)) (sy_watched H hs (l := l) (by omega) rfl rfl (fun va2 => br_c (fun g => sy_in118 H hs (l := l) (by omega) rfl rfl (fun va3 => ?_)) (fun g => nm_r (nI_1 l) (ih va2 ?_)))))
    · rw [sq_lv_t (P := fun l => decide (sq_B p s l = 1)) (decide_eq_true (e.mp g))] at hv
      have z := h va3
      rw [← hv] at z
      exact z
    · rw [sq_lv_f (P := fun l => decide (sq_B p s l = 1)) (fun z => g (e.mpr (of_decide_eq_true z)))] at hv
      exact hv
theorem sy_input38 (H : sy_C p sz st sh gs nx) {post : Int32 → SY → Prop} {k d : Nat} (hd : d < 16) (hk : k ≤ d)
    (h : ∀ va' : Nat → Int32, post (nI (sq_in (sq_T p) (sq_B p) (sq_s p) d k)) (sz, st, sh, gs, nx, va')) : ∃ n, wY_input_38 post (nI k) (nI d) n st 0 0 sz st sh gs nx va := by
  have wf := H.1
  have hT := sq_T_ok wf
  have hs := wf.2.1
  have st16 := sq_st_16 (B := sq_B p) (d := d) hT hs
  refine pk_loop (fun n i (q : Int32 × Int32 × (Nat → Int32)) => wY_input_38 post (nI k) (nI d) n q.1 q.2.1 (nI i) sz st sh gs nx q.2.2)
    (fun i q => (i ≤ d → q.1 = nI (sq_st (sq_T p) (sq_B p) (sq_s p) d i)) ∧ ∀ j, i = j + 1 → q.2.1 = nI (sq_in (sq_T p) (sq_B p) (sq_s p) d j)) (k + 1) 0 (st, (0 : Int32), va) (by omega) ⟨fun _ => H.2.2.1, fun j hj => by omega⟩ ?_ ?_
  · rintro n ⟨y, l, va'⟩ ⟨h1, h2⟩
    refine br_t (nI_lt (by omega) (by omega)) ?_
    have h2' : l = nI (sq_in (sq_T p) (sq_B p) (sq_s p) d k) := h2 k rfl
    subst h2'
    exact h va'
  · rintro n i ⟨y, l, va'⟩ hi ⟨h1, h2⟩ ih
    have hy : y = nI (sq_st (sq_T p) (sq_B p) (sq_s p) d i) := h1 (by omega)
    refine br_f (nI_nlt (by omega) (by omega)) ?_
    rcases Nat.lt_or_ge i d with g | g
    · refine br_f (nI_ge g (by omega)) ?_
      have e : nI d - nI i - 1 = nI (d - i - 1) := by
        rw [pk_sub (by omega)]
        exact pk_sub (b := 1) (by omega)
      refine sy_before H (m := d - i - 1) (by omega) e (fun va2 => ?_)
      refine sy_in69a H (st16 i) g hd (sq_Q_lt sq_bad_lt _) hy rfl (fun va3 => ih (nI (sq_st (sq_T p) (sq_B p) (sq_s p) d (i + 1)), nI (sq_lt (sq_T p) (sq_B p) (d - i - 1) (sq_st (sq_T p) (sq_B p) (sq_s p) d i)), va3) ⟨fun _ => rfl, fun j hj => ?_⟩)
      have ej : j = i := by omega
      subst ej
      show nI _ = nI _
      unfold sq_in
      rw [if_pos g]
    · refine br_t (nI_le g (by omega)) ?_
      refine sy_in69b H (st16 i) g (by omega) hy (fun va3 => ih (nI (sq_T p (sq_st (sq_T p) (sq_B p) (sq_s p) d i) (sq_ll (sq_B p) (sq_st (sq_T p) (sq_B p) (sq_s p) d i))), nI (sq_ll (sq_B p) (sq_st (sq_T p) (sq_B p) (sq_s p) d i)), va3) ⟨fun z => by omega, fun j hj => ?_⟩)
      have ej : j = i := by omega
      subst ej
      show nI _ = nI _
      unfold sq_in
      rw [if_neg (by omega)]
theorem sy_reached (H : sy_C p sz st sh gs nx) {post : Int32 → SY → Prop}
    (h : ∀ va' : Nat → Int32, post (nI (sq_R (sq_T p) (2 ^ sq_s p) 15)) (sz, st, sh, gs, nx, va')) : wpY_reached post (sz, st, sh, gs, nx, va) := by
  have wf := H.1
  have hT := sq_T_ok wf
  have hs := wf.2.1
  have hb := H.2.2.1
  have hR := sq_R_lt hT (sq_p2lt hs)
  refine nm_r (e' := nI (2 ^ sq_s p)) (by rw [hb]; exact sq_one _ hs) ?_
  refine pk_loop (fun n i (q : Int32 × (Nat → Int32)) => wY_reached_9 post n q.1 (nI i) sz st sh gs nx q.2)
    (fun i q => q.1 = nI (sq_R (sq_T p) (2 ^ sq_s p) i)) 16 0 (nI (2 ^ sq_s p), va) (by omega) rfl ?_ ?_
  · rintro n ⟨y, va'⟩ hy
    have hy' : y = nI (sq_R (sq_T p) (2 ^ sq_s p) 15) := by
      rw [← sq_R_fix hT hs]
      exact hy
    subst hy'
    exact br_t (by decide +kernel) (h va')
  · rintro n i ⟨y, va'⟩ hi hy ih
    have hy' : y = nI (sq_R (sq_T p) (2 ^ sq_s p) i) := hy
    refine br_f (nI_ge (b := 16) hi (by decide)) (sy_foll H (hR i) hy' (fun va2 => nm_e (nm_r (nI_1 i) (ih (_, va2) ?_))))
    show y ||| _ = _
    rw [hy', sq_nor]
    rfl
theorem sy_h0 {post : Int32 → SY → Prop} {x1 x2 x3 : Int32} (h : post 0 (sz, st, sh, gs, nx, va)) : ∃ n, wY_holds_31 post x1 x2 x3 sz st sh gs nx va n 0 0 := by
  refine pk_loop (fun n i (y : Int32) => wY_holds_31 post x1 x2 x3 sz st sh gs nx va n y (nI i)) (fun i y => y = 0) 16 0 (0 : Int32) (by omega) rfl ?_ ?_
  · intro n y hy
    subst hy
    exact br_t (by decide +kernel) ⟨rfl, h⟩
  · intro n i y hi hy ih
    exact br_f (nI_ge (b := 16) hi (by decide)) (br_t hy (nm_r (nI_1 i) (ih _ rfl)))
theorem sy_h1 {post : Int32 → SY → Prop} {x1 x2 x3 : Int32} {o z R : Nat} (ho : o < 16) (hz : z < 16) (hR : R < 2 ^ 16) (e1 : x1 = nI o) (e2 : x2 = nI z) (e3 : x3 = nI R) {r : Int32}
    (h1 : (∀ j, R.testBit j = true → (sq_sw o z).testBit j = true) → r = 1) (h0 : ¬ (∀ j, R.testBit j = true → (sq_sw o z).testBit j = true) → r = 0)
    (h : post r (sz, st, sh, gs, nx, va)) : ∃ n, wY_holds_31 post x1 x2 x3 sz st sh gs nx va n 1 0 := by
  subst e1 e2 e3
  refine pk_loop (fun n i (y : Int32) => wY_holds_31 post (nI o) (nI z) (nI R) sz st sh gs nx va n y (nI i))
    (fun i y => (y = 1 ∧ ∀ j, j < i → R.testBit j = true → sq_has j o z = true) ∨ (y = 0 ∧ ∃ j, R.testBit j = true ∧ ¬ sq_has j o z = true)) 16 0 (1 : Int32) (by omega) (Or.inl ⟨rfl, fun j hj => absurd hj (Nat.not_lt_zero j)⟩) ?_ ?_
  · intro n y hy
    refine br_t (by decide +kernel) ?_
    rcases hy with ⟨ey, hy⟩ | ⟨ey, j, g1, g2⟩
    · subst ey
      rw [h1 (fun j hj => sq_sw_b.mpr ⟨sq_big hR hj, hy j (sq_big hR hj) hj⟩)] at h
      exact ⟨rfl, h⟩
    · subst ey
      rw [h0 (fun q => g2 (sq_sw_b.mp (q j g1)).2)] at h
      exact ⟨rfl, h⟩
  · intro n i y hi hy ih
    refine br_f (nI_ge (b := 16) hi (by decide)) ?_
    rcases hy with ⟨ey, hy⟩ | ⟨ey, hy⟩
    · subst ey
      have e := sq_bit0 (a := R) (s := i) (by omega) (by omega)
      refine br_f sx_8 (br_c (fun g => nm_r (nI_1 i) (ih _ (Or.inl ⟨rfl, ?_⟩))) (fun g => sy_has hi ho hz rfl rfl rfl (fun g2 => br_f sx_8 (nm_r (nI_1 i) (ih _ (Or.inl ⟨rfl, ?_⟩)))) (fun g2 => br_t rfl (nm_r (nI_1 i) (ih _ (Or.inr ⟨rfl, i, Classical.byContradiction fun q => g (e.mpr q), g2⟩))))))
      · intro j hj hb
        by_cases q : j = i
        · subst q
          exact absurd hb (e.mp g)
        · exact hy j (by omega) hb
      · intro j hj hb
        by_cases q : j = i
        · subst q
          exact g2
        · exact hy j (by omega) hb
    · exact br_t ey (nm_r (nI_1 i) (ih _ (Or.inr ⟨rfl, hy⟩)))
theorem sy_holds (H : sy_C p sz st sh gs nx) {post : Int32 → SY → Prop} {x y : Int32} {o z : Nat} (ho : o < 16) (hz : z < 16) (ex : x = nI o) (ey : y = nI z) {r : Int32}
    (h1 : (∀ j, (sq_R (sq_T p) (2 ^ sq_s p) 15).testBit j = true → (sq_sw o z).testBit j = true) → r = 1)
    (h0 : ¬ (∀ j, (sq_R (sq_T p) (2 ^ sq_s p) 15).testBit j = true → (sq_sw o z).testBit j = true) → r = 0)
    (h : ∀ va' : Nat → Int32, post r (sz, st, sh, gs, nx, va')) : wpY_holds post (sz, st, sh, gs, nx, va) x y := by
  have wf := H.1
  have hR := sq_R_lt (sq_T_ok wf) (sq_p2lt wf.2.1) 15
  unfold wpY_holds
  exact sy_reached H (fun va' => sy_isSet ho ex (br_f sx_8 (sy_isSet hz ey (br_f sx_8 (sy_h1 ho hz hR ex ey rfl h1 h0 (h va'))))))
theorem sy_k0 {post : Int32 → SY → Prop} {x1 x2 : Int32} (h : post 0 (sz, st, sh, gs, nx, va)) : ∃ n, wY_keeps_38 post x1 x2 n 0 0 sz st sh gs nx va := by
  refine pk_loop (fun n i (y : Int32) => wY_keeps_38 post x1 x2 n y (nI i) sz st sh gs nx va) (fun i y => y = 0) 128 0 (0 : Int32) (by omega) rfl ?_ ?_
  · intro n y hy
    subst hy
    exact br_t (by decide +kernel) ⟨rfl, h⟩
  · intro n i y hi hy ih
    exact br_f (nI_ge (b := 128) hi (by decide)) (br_t hy (nm_r (nI_1 i) (ih _ rfl)))
theorem sy_k1 (H : sy_C p sz st sh gs nx) {post : Int32 → SY → Prop} {x1 x2 : Int32} {o z : Nat} (ho : o < 16) (hz : z < 16) (e1 : x1 = nI o) (e2 : x2 = nI z) {r : Int32}
    (h1 : (∀ j, (sq_img (sq_T p) (sq_sw o z)).testBit j = true → (sq_sw o z).testBit j = true) → r = 1) (h0 : ¬ (∀ j, (sq_img (sq_T p) (sq_sw o z)).testBit j = true → (sq_sw o z).testBit j = true) → r = 0)
    (h : ∀ va' : Nat → Int32, post r (sz, st, sh, gs, nx, va')) : ∃ n, wY_keeps_38 post x1 x2 n 1 0 sz st sh gs nx va := by
  subst e1 e2
  have wf := H.1
  refine pk_loop (fun n i (q : Int32 × (Nat → Int32)) => wY_keeps_38 post (nI o) (nI z) n q.1 (nI i) sz st sh gs nx q.2)
    (fun i q => (q.1 = 1 ∧ ∀ c, c < i → sq_has (c / 8) o z = true → sq_has (sq_T p (c / 8) (c % 8)) o z = true) ∨ (q.1 = 0 ∧ ∃ c, c < 128 ∧ sq_has (c / 8) o z = true ∧ ¬ sq_has (sq_T p (c / 8) (c % 8)) o z = true)) 128 0 ((1 : Int32), va) (by omega) (Or.inl ⟨rfl, fun j hj => absurd hj (Nat.not_lt_zero j)⟩) ?_ ?_
  · rintro n ⟨y, va'⟩ hy
    have h' := h va'
    refine br_t (by decide +kernel) ?_
    rcases hy with ⟨ey, hy⟩ | ⟨ey, c, hc, g1, g2⟩
    · have ey' : y = 1 := ey
      subst ey'
      have q : r = 1 := by
        apply h1
        intro j hj
        obtain ⟨s, hs1, hs, l, hl, e⟩ := sq_img_b.mp hj
        have t := hy (8 * s + l) (by omega)
        rw [show (8 * s + l) / 8 = s by omega, show (8 * s + l) % 8 = l by omega, e] at t
        exact sq_sw_b.mpr ⟨by rw [← e]; exact sq_T_lt wf s l, t (sq_sw_b.mp hs1).2⟩
      rw [q] at h'
      exact ⟨(rfl : narrow .boolean (.int 1) = .int 1), h'⟩
    · have ey' : y = 0 := ey
      subst ey'
      have q : r = 0 := by
        apply h0
        intro w
        exact g2 (sq_sw_b.mp (w _ (sq_img_b.mpr ⟨c / 8, sq_sw_b.mpr ⟨by omega, g1⟩, by omega, c % 8, by omega, rfl⟩))).2
      rw [q] at h'
      exact ⟨(rfl : narrow .boolean (.int 0) = .int 0), h'⟩
  · rintro n c ⟨y, va'⟩ hc hy ih
    have d8 : nI c / 8 = nI (c / 8) := pk_div (d := 8) (by omega) (by decide) (by decide)
    have r8 : nI c - nI c / 8 * 8 = nI (c % 8) := pk_rem (d := 8) (by omega) (by decide) (by decide)
    have hT := sq_T_lt wf (c / 8) (c % 8)
    refine br_f (nI_ge (b := 128) hc (by decide)) ?_
    rcases hy with ⟨ey, hy⟩ | ⟨ey, hy⟩
    · have ey' : y = 1 := ey
      subst ey'
      refine br_f sx_8 ⟨by decide, sy_has (s := c / 8) (by omega) ho hz d8 rfl rfl (fun g1 => br_f sx_8 ⟨by decide, by decide, sy_step H (by omega) (by omega) d8 r8 (fun va2 => sy_has hT ho hz rfl rfl rfl (fun g2 => br_f sx_8 (nm_r (nI_1 c) (ih ((1 : Int32), va2) (Or.inl ⟨rfl, ?_⟩)))) (fun g2 => br_t rfl (nm_r (nI_1 c) (ih ((0 : Int32), va2) (Or.inr ⟨rfl, c, hc, g1, g2⟩)))))⟩) (fun g1 => br_t rfl (nm_r (nI_1 c) (ih ((1 : Int32), va') (Or.inl ⟨rfl, ?_⟩))))⟩
      · intro j hj hb
        by_cases q : j = c
        · subst q
          exact g2
        · exact hy j (by omega) hb
      · intro j hj hb
        by_cases q : j = c
        · subst q
          exact absurd hb g1
        · exact hy j (by omega) hb
    · exact br_t ey (nm_r (nI_1 c) (ih ((0 : Int32), va') (Or.inr ⟨rfl, hy⟩)))
theorem sy_keeps (H : sy_C p sz st sh gs nx) {post : Int32 → SY → Prop} {x y : Int32} {o z : Nat} (ho : o < 16) (hz : z < 16) (ex : x = nI o) (ey : y = nI z) {r : Int32}
    (h1 : (sq_sw o z).testBit (sq_s p) = true → (∀ j, (sq_img (sq_T p) (sq_sw o z)).testBit j = true → (sq_sw o z).testBit j = true) → r = 1)
    (h0 : ¬ ((sq_sw o z).testBit (sq_s p) = true ∧ ∀ j, (sq_img (sq_T p) (sq_sw o z)).testBit j = true → (sq_sw o z).testBit j = true) → r = 0)
    (h : ∀ va' : Nat → Int32, post r (sz, st, sh, gs, nx, va')) : wpY_keeps post (sz, st, sh, gs, nx, va) x y := by
  have wf := H.1
  have hs := wf.2.1
  have hb := H.2.2.1
  unfold wpY_keeps
  refine sy_isSet ho ex (br_f sx_8 (sy_isSet hz ey (br_f sx_8 (sy_has hs ho hz hb ex ey (fun g => br_f sx_8 ?_) (fun g => br_t rfl ?_)))))
  · exact sy_k1 H ho hz ex ey (h1 (sq_sw_b.mpr ⟨hs, g⟩)) (fun q => h0 fun w => q w.2) h
  · have q : r = 0 := h0 fun w => g (sq_sw_b.mp w.1).2
    have h' := h va
    rw [q] at h'
    exact sy_k0 h'
theorem sy_far (H : sy_C p sz st sh gs nx) {post : Int32 → SY → Prop} {x : Int32} {t : Nat} (ht : t < 16) (ex : x = nI t)
    (h : ∀ va' : Nat → Int32, post (sq_fs (fun n => decide (¬ sq_R (sq_T p) (2 ^ sq_s p) n &&& 2 ^ t = 0)) 16 0) (sz, st, sh, gs, nx, va')) : wpY_far post (sz, st, sh, gs, nx, va) x := by
  subst ex
  unfold wpY_far
  exact sy_isSet ht rfl (br_f sx_8 (sy_found H (sq_p2lt ht) (sq_one t ht) h))
end
end
section
def sq_put (f : Nat → Nat) (n v : Nat) : Nat → Nat := fun j => if j = n then v else f j
theorem sq_put_s {f : Nat → Nat} {n v : Nat} : sq_put f n v n = v := if_pos rfl
theorem sq_put_n {f : Nat → Nat} {n v j : Nat} (h : j ≠ n) : sq_put f n v j = f j := if_neg h
def sq_gate (p : sq_P) (k a b d : Nat) : sq_P := (sq_c p + 1, sq_s p, sq_w p, sq_nx p, sq_put (sq_gk p) (sq_c p) k, sq_put (sq_ga p) (sq_c p) a, sq_put (sq_gb p) (sq_c p) b, sq_put (sq_gc p) (sq_c p) d)
theorem sq_gate_wf {p : sq_P} {k a b d : Nat} (wf : sq_wf p) (hc : sq_c p < 12) (hk : k < 10) (ha : a < 7 + sq_c p) (hb : b < 7 + sq_c p) (hd : d < 7 + sq_c p) : sq_wf (sq_gate p k a b d) := by
  obtain ⟨w1, w2, w3, w4, w5⟩ := wf
  refine ⟨hc, w2, Nat.lt_succ_of_lt w3, fun r hr => Nat.lt_succ_of_lt (w4 r hr), ?_⟩
  intro g hg
  have hg' : g < sq_c p + 1 := hg
  show sq_put (sq_gk p) (sq_c p) k g < 10 ∧ sq_put (sq_ga p) (sq_c p) a g < 7 + g ∧ sq_put (sq_gb p) (sq_c p) b g < 7 + g ∧ sq_put (sq_gc p) (sq_c p) d g < 7 + g
  by_cases e : g = sq_c p
  · subst e
    rw [sq_put_s, sq_put_s, sq_put_s, sq_put_s]
    exact ⟨hk, ha, hb, hd⟩
  · rw [sq_put_n e, sq_put_n e, sq_put_n e, sq_put_n e]
    exact w5 g (by omega)
def sq_drop (p : sq_P) (c : Nat) : sq_P := (c, sq_s p, if sq_w p = 7 + c then 0 else sq_w p, fun r => if sq_nx p r = 7 + c then 3 + r else sq_nx p r, sq_gk p, sq_ga p, sq_gb p, sq_gc p)
theorem sq_drop_wf {p : sq_P} {c : Nat} (wf : sq_wf p) (hc : sq_c p = c + 1) : sq_wf (sq_drop p c) := by
  obtain ⟨w1, w2, w3, w4, w5⟩ := wf
  refine ⟨show c ≤ 12 by omega, w2, ?_, ?_, fun g hg => w5 g (Nat.lt_trans (show g < c from hg) (by omega))⟩
  · show (if sq_w p = 7 + c then 0 else sq_w p) < 7 + c
    by_cases e : sq_w p = 7 + c
    · rw [if_pos e]; omega
    · rw [if_neg e]; omega
  · intro r hr
    have := w4 r hr
    show (if sq_nx p r = 7 + c then 3 + r else sq_nx p r) < 7 + c
    by_cases e : sq_nx p r = 7 + c
    · rw [if_pos e]; omega
    · rw [if_neg e]; omega
def sq_next (p : sq_P) (r a : Nat) : sq_P := (sq_c p, sq_s p, sq_w p, sq_put (sq_nx p) r a, sq_gk p, sq_ga p, sq_gb p, sq_gc p)
theorem sq_next_wf {p : sq_P} {r a : Nat} (wf : sq_wf p) (ha : a < 7 + sq_c p) : sq_wf (sq_next p r a) := by
  obtain ⟨w1, w2, w3, w4, w5⟩ := wf
  refine ⟨w1, w2, w3, ?_, w5⟩
  intro q hq
  show sq_put (sq_nx p) r a q < 7 + sq_c p
  by_cases e : q = r
  · rw [e, sq_put_s]; exact ha
  · rw [sq_put_n e]; exact w4 q hq
def sq_bg (s r v : Nat) : Nat := s - (s / 2 ^ r % 2) * 2 ^ r + v * 2 ^ r
theorem sq_bg_lt : ∀ s, s < 16 → ∀ r, r < 4 → ∀ v, v < 2 → sq_bg s r v < 16 := by decide +kernel
theorem sq_bg_e : ∀ s, s < 16 → ∀ r, r < 4 → ∀ v, v < 2 → (nI s &&& (((1 : Int32) <<< (nI r &&& 31)) ^^^ (-1))) ||| (nI v <<< (nI r &&& 31)) = nI (sq_bg s r v) := by decide +kernel
def sq_begin (p : sq_P) (s : Nat) : sq_P := (sq_c p, s, sq_w p, sq_nx p, sq_gk p, sq_ga p, sq_gb p, sq_gc p)
def sq_watch (p : sq_P) (w : Nat) : sq_P := (sq_c p, sq_s p, w, sq_nx p, sq_gk p, sq_ga p, sq_gb p, sq_gc p)
def sq_nil : sq_P := (0, 0, 0, fun r => 3 + r, fun _ => 0, fun _ => 0, fun _ => 0, fun _ => 0)
theorem sq_nil_wf : sq_wf sq_nil := ⟨by decide, by decide, by decide, fun r hr => (show 3 + r < 7 by omega), fun g hg => absurd hg (Nat.not_lt_zero g)⟩
section
variable {p : sq_P} {sc bg ws bs : Int32} {ki fi se th nx va fo pa ke : Nat → Int32}
theorem sx_sig (H : sx_C p sc bg ws ki fi se th nx) {post : Int32 → Prop} {x : Int32} {a : Nat} (ha : a < 7 + sq_c p) (ex : x = nI a) (h : post 1) : wpX_isSignal post (sc, bg, ws, bs, ki, fi, se, th, nx, va, fo, pa, ke) x := by
  have wf := H.1
  have hc := wf.1
  have e1 := H.2.1
  subst ex e1
  exact br_f (nI_pos (by omega)) (br_f (nI_ge ha (by omega)) h)
theorem sx_nsig (H : sx_C p sc bg ws ki fi se th nx) {post : Int32 → Prop} {x : Int32} (hx : sx_out x (7 + sq_c p)) (h : post 0) : wpX_isSignal post (sc, bg, ws, bs, ki, fi, se, th, nx, va, fo, pa, ke) x :=
  sx_outL (by have := H.1.1; omega) H.2.1 hx h
theorem sx_gate_C (H : sx_C p sc bg ws ki fi se th nx) {k a b d : Nat} (hc : sq_c p < 12) (hk : k < 10) (ha : a < 7 + sq_c p) (hb : b < 7 + sq_c p) (hd : d < 7 + sq_c p) :
    sx_C (sq_gate p k a b d) (nI (7 + sq_c p + 1)) bg ws (upd ki (7 + sq_c p) (nI k)) (upd fi (7 + sq_c p) (nI a)) (upd se (7 + sq_c p) (nI b)) (upd th (7 + sq_c p) (nI d)) nx := by
  obtain ⟨wf, e1, e2, e3, e4, e5⟩ := H
  refine ⟨sq_gate_wf wf hc hk ha hb hd, rfl, e2, e3, e4, ?_⟩
  intro g hg
  have hg' : g < sq_c p + 1 := hg
  show upd ki (7 + sq_c p) (nI k) (7 + g) = nI (sq_put (sq_gk p) (sq_c p) k g) ∧ upd fi (7 + sq_c p) (nI a) (7 + g) = nI (sq_put (sq_ga p) (sq_c p) a g) ∧ upd se (7 + sq_c p) (nI b) (7 + g) = nI (sq_put (sq_gb p) (sq_c p) b g) ∧ upd th (7 + sq_c p) (nI d) (7 + g) = nI (sq_put (sq_gc p) (sq_c p) d g)
  by_cases e : g = sq_c p
  · subst e
    rw [sq_put_s, sq_put_s, sq_put_s, sq_put_s, pk_us, pk_us, pk_us, pk_us]
    exact ⟨rfl, rfl, rfl, rfl⟩
  · have n : 7 + g ≠ 7 + sq_c p := by omega
    rw [sq_put_n e, sq_put_n e, sq_put_n e, sq_put_n e, pk_un n, pk_un n, pk_un n, pk_un n]
    exact e5 g (by omega)
theorem sx_g57 (H : sx_C p sc bg ws ki fi se th nx) {post : Int32 → SX → Prop} {x4 x5 : Int32} {k a b d : Nat} (hc : sq_c p < 12) (hk : k < 10) (ha : a < 7 + sq_c p) (hb : b < 7 + sq_c p) (hd : d < 7 + sq_c p) (h5 : (x5 = 0 ∧ d = 0) ∨ (¬ x5 = 0 ∧ x4 = nI d))
    (h : ∀ (sc' : Int32) (ki' fi' se' th' : Nat → Int32), sx_C (sq_gate p k a b d) sc' bg ws ki' fi' se' th' nx → post (nI (7 + sq_c p)) (sc', bg, ws, bs, ki', fi', se', th', nx, va, fo, pa, ke)) : wX_gate_57 post (nI k) (nI a) (nI b) x4 x5 sc bg ws bs ki fi se th nx va fo pa ke := by
  have N := h _ _ _ _ _ (sx_gate_C H hc hk ha hb hd)
  have e1 := H.2.1
  subst e1
  have i1 : vp_in (nI (7 + sq_c p)) 19 := vp_in_nI (by omega) (by omega)
  have hn : 7 + sq_c p < 2 ^ 31 := by omega
  refine br_t (nI_lt (b := 19) (by omega) (by decide)) ⟨i1, nm_r (sx_up rfl hn rfl) ⟨i1, nm_r (sx_up rfl hn rfl) ⟨i1, nm_r (sx_up rfl hn rfl) ?_⟩⟩⟩
  rcases h5 with ⟨g1, g2⟩ | ⟨g1, g2⟩
  · subst g2
    exact br_t g1 ⟨i1, nm_r (sx_up rfl hn rfl) (nm_r (nI_1 (7 + sq_c p)) N)⟩
  · subst g2
    exact br_f g1 ⟨i1, nm_r (sx_up rfl hn rfl) (nm_r (nI_1 (7 + sq_c p)) N)⟩
theorem sx_g57f (H : sx_C p sc bg ws ki fi se th nx) {post : Int32 → SX → Prop} {x1 x2 x3 x4 x5 : Int32} (hc : ¬ sq_c p < 12) (h : post (-2) (sc, bg, ws, bs, ki, fi, se, th, nx, va, fo, pa, ke)) : wX_gate_57 post x1 x2 x3 x4 x5 sc bg ws bs ki fi se th nx va fo pa ke := by
  have e1 := H.2.1
  have := H.1.1
  subst e1
  exact br_f (nI_nlt (b := 19) (by omega) (by omega)) h
theorem sx_drop (H : sx_C p sc bg ws ki fi se th nx) {post : Int32 → SX → Prop} {c : Nat} (hc : sq_c p = c + 1)
    (h : ∀ (ws' : Int32) (nx' : Nat → Int32), sx_C (sq_drop p c) (nI (7 + c)) bg ws' ki fi se th nx' → post (nI (7 + c)) ((nI (7 + c)), bg, ws', bs, ki, fi, se, th, nx', va, fo, pa, ke)) : wpX_drop post (sc, bg, ws, bs, ki, fi, se, th, nx, va, fo, pa, ke) := by
  obtain ⟨wf, e1, e2, e3, e4, e5⟩ := H
  have hwf := sq_drop_wf wf hc
  have w1 := wf.1
  have w3 := wf.2.2.1
  have w4 := wf.2.2.2.1
  subst e1
  unfold wpX_drop
  refine br_t (nI_lt (a := 7) (by omega) (by omega)) (nm_r (e' := nI (7 + c)) (by rw [hc]; exact nI_pred (7 + c)) ?_)
  refine pk_loop (fun n r (nx : Nat → Int32) => wX_drop_23 post (nI (7 + c)) bg ws bs n (nI r) ki fi se th nx va fo pa ke)
    (fun r nx' => (∀ j, j < r → nx' j = nI (sq_nx (sq_drop p c) j)) ∧ ∀ j, r ≤ j → j < 4 → nx' j = nI (sq_nx p j)) 4 0 nx (by omega) ⟨fun j hj => absurd hj (Nat.not_lt_zero j), fun j _ hj => e4 j hj⟩ ?_ ?_
  · rintro n nx' ⟨k1, k2⟩
    refine br_t (by decide +kernel) (br_c (fun g => h 0 nx' ⟨hwf, rfl, e2, ?_, k1, fun q hq => e5 q (Nat.lt_trans (show q < c from hq) (by omega))⟩) (fun g => h ws nx' ⟨hwf, rfl, e2, ?_, k1, fun q hq => e5 q (Nat.lt_trans (show q < c from hq) (by omega))⟩))
    · show 0 = nI (if sq_w p = 7 + c then 0 else sq_w p)
      rw [e3] at g
      rw [if_pos ((nI_eq (by omega) (by omega)).mp g)]
      rfl
    · show ws = nI (if sq_w p = 7 + c then 0 else sq_w p)
      rw [if_neg (fun z => g (by rw [e3, z]))]
      exact e3
  · rintro n r nx' hr ⟨k1, k2⟩ ih
    have f1 : nx' (nI r).toNatClampNeg = nI (sq_nx p r) := sx_cl rfl (by omega) (k2 r (by omega) hr)
    have i1 : vp_in (nI r) 4 := vp_in_nI hr (by omega)
    have w := w4 r hr
    refine br_f (nI_ge (b := 4) hr (by decide)) ⟨i1, br_c (fun g => ⟨i1, nm_r (sx_up rfl (by omega) (nI_add 3 r)) (nm_r (nI_1 r) (ih _ ⟨?_, ?_⟩))⟩) (fun g => nm_r (nI_1 r) (ih _ ⟨?_, ?_⟩))⟩
    · intro j hj
      by_cases e : j = r
      · subst e
        rw [pk_us]
        show _ = nI (if sq_nx p j = 7 + c then 3 + j else sq_nx p j)
        rw [f1] at g
        rw [if_pos ((nI_eq (by omega) (by omega)).mp g)]
      · rw [pk_un e]
        exact k1 j (by omega)
    · intro j h1 h2
      rw [pk_un (by omega)]
      exact k2 j (by omega) h2
    · intro j hj
      by_cases e : j = r
      · subst e
        rw [k2 j (by omega) hr]
        show _ = nI (if sq_nx p j = 7 + c then 3 + j else sq_nx p j)
        rw [if_neg (fun z => g (by rw [f1, z]))]
      · exact k1 j (by omega)
    · exact fun j h1 h2 => k2 j (by omega) h2
theorem sx_init {post : SX → Prop} (h : ∀ nx' : Nat → Int32, sx_C sq_nil 7 0 0 (fun _ => 0) (fun _ => 0) (fun _ => 0) (fun _ => 0) nx' → post (7, 0, 0, 0, (fun _ => 0), (fun _ => 0), (fun _ => 0), (fun _ => 0), nx', (fun _ => 0), (fun _ => 0), (fun _ => 0), (fun _ => 0))) : wpX_init post := by
  refine pk_loop (fun n r (nx : Nat → Int32) => wX_init_99 post 7 0 0 0 n (nI r) (fun _ => 0) (fun _ => 0) (fun _ => 0) (fun _ => 0) nx (fun _ => 0) (fun _ => 0) (fun _ => 0) (fun _ => 0))
    (fun r nx' => ∀ j, j < r → nx' j = nI (3 + j)) 4 0 (fun _ => 0) (by omega) (fun j hj => absurd hj (Nat.not_lt_zero j)) ?_ ?_
  · intro n nx' k1
    exact br_t (by decide +kernel) (h nx' ⟨sq_nil_wf, rfl, rfl, rfl, k1, fun g hg => absurd hg (Nat.not_lt_zero g)⟩)
  · intro n r nx' hr k1 ih
    refine br_f (nI_ge (b := 4) hr (by decide)) ⟨vp_in_nI hr (by omega), nm_r (sx_up rfl (by omega) (nI_add 3 r)) (nm_r (nI_1 r) (ih _ ?_))⟩
    intro j hj
    by_cases e : j = r
    · rw [e, pk_us]
    · rw [pk_un e]
      exact k1 j (by omega)
end
section
variable {p : sq_P} {sz st sh : Int32} {gs nx va : Nat → Int32}
theorem sy_sig (H : sy_C p sz st sh gs nx) {post : Int32 → Prop} {x : Int32} {a : Nat} (ha : a < 7 + sq_c p) (ex : x = nI a) (h : post 1) : wpY_signal post (sz, st, sh, gs, nx, va) x := by
  have wf := H.1
  have hc := wf.1
  have e1 := H.2.1
  subst ex e1
  exact br_f (nI_pos (by omega)) (br_f (by rw [sy_7]; exact nI_ge ha (by omega)) h)
theorem sy_nsig (H : sy_C p sz st sh gs nx) {post : Int32 → Prop} {x : Int32} (hx : sx_out x (7 + sq_c p)) (h : post 0) : wpY_signal post (sz, st, sh, gs, nx, va) x :=
  sx_outL (by have := H.1.1; omega) (by rw [H.2.1]; exact sy_7 _) hx h
theorem sy_gate_C (H : sy_C p sz st sh gs nx) {k a b d : Nat} (hc : sq_c p < 12) (hk : k < 10) (ha : a < 7 + sq_c p) (hb : b < 7 + sq_c p) (hd : d < 7 + sq_c p) :
    sy_C (sq_gate p k a b d) (nI (sq_c p + 1)) st sh (upd (upd (upd (upd gs (4 * sq_c p) (nI k)) (4 * sq_c p + 1) (nI a)) (4 * sq_c p + 2) (nI b)) (4 * sq_c p + 3) (nI d)) nx := by
  obtain ⟨wf, e1, e2, e3, e4, e5⟩ := H
  refine ⟨sq_gate_wf wf hc hk ha hb hd, rfl, e2, e3, e4, ?_⟩
  intro g hg
  have hg' : g < sq_c p + 1 := hg
  show upd (upd (upd (upd gs (4 * sq_c p) (nI k)) (4 * sq_c p + 1) (nI a)) (4 * sq_c p + 2) (nI b)) (4 * sq_c p + 3) (nI d) (4 * g) = nI (sq_put (sq_gk p) (sq_c p) k g) ∧ upd (upd (upd (upd gs (4 * sq_c p) (nI k)) (4 * sq_c p + 1) (nI a)) (4 * sq_c p + 2) (nI b)) (4 * sq_c p + 3) (nI d) (4 * g + 1) = nI (sq_put (sq_ga p) (sq_c p) a g) ∧ upd (upd (upd (upd gs (4 * sq_c p) (nI k)) (4 * sq_c p + 1) (nI a)) (4 * sq_c p + 2) (nI b)) (4 * sq_c p + 3) (nI d) (4 * g + 2) = nI (sq_put (sq_gb p) (sq_c p) b g) ∧ upd (upd (upd (upd gs (4 * sq_c p) (nI k)) (4 * sq_c p + 1) (nI a)) (4 * sq_c p + 2) (nI b)) (4 * sq_c p + 3) (nI d) (4 * g + 3) = nI (sq_put (sq_gc p) (sq_c p) d g)
  by_cases e : g = sq_c p
  · subst e
    refine ⟨?_, ?_, ?_, ?_⟩
    · rw [sq_put_s, pk_un (by omega), pk_un (by omega), pk_un (by omega), pk_us]
    · rw [sq_put_s, pk_un (by omega), pk_un (by omega), pk_us]
    · rw [sq_put_s, pk_un (by omega), pk_us]
    · rw [sq_put_s, pk_us]
  · obtain ⟨k1, k2, k3, k4⟩ := e5 g (by omega)
    refine ⟨?_, ?_, ?_, ?_⟩
    · rw [sq_put_n e, pk_un (by omega), pk_un (by omega), pk_un (by omega), pk_un (by omega)]; exact k1
    · rw [sq_put_n e, pk_un (by omega), pk_un (by omega), pk_un (by omega), pk_un (by omega)]; exact k2
    · rw [sq_put_n e, pk_un (by omega), pk_un (by omega), pk_un (by omega), pk_un (by omega)]; exact k3
    · rw [sq_put_n e, pk_un (by omega), pk_un (by omega), pk_un (by omega), pk_un (by omega)]; exact k4
theorem sy_g43 (H : sy_C p sz st sh gs nx) {post : Int32 → SY → Prop} {x4 : Int32} {k a b d : Nat} (hc : sq_c p < 12) (hk : k < 10) (ha : a < 7 + sq_c p) (hb : b < 7 + sq_c p) (hd : d < 7 + sq_c p) (h5 : (k < 7 ∧ d = 0) ∨ (7 ≤ k ∧ x4 = nI d))
    (h : ∀ (sz' : Int32) (gs' : Nat → Int32), sy_C (sq_gate p k a b d) sz' st sh gs' nx → post (nI (7 + sq_c p)) (sz', st, sh, gs', nx, va)) : wY_gate_43 post (nI k) (nI a) (nI b) x4 sz st sh gs nx va := by
  have N := h _ _ (sy_gate_C H hc hk ha hb hd)
  have e1 := H.2.1
  subst e1
  have e6 : (6 : Int32) + nI (sq_c p + 1) = nI (7 + sq_c p) := by
    have z : (6 : Int32) + nI (sq_c p + 1) = nI (6 + (sq_c p + 1)) := nI_add 6 _
    rw [z, show 6 + (sq_c p + 1) = 7 + sq_c p by omega]
  have last : ∀ {z0 : Int32}, z0 = nI d → wY_gate_119 post z0 (4 * nI (sq_c p) + 3) (nI (sq_c p)) st sh (upd (upd (upd gs (4 * sq_c p) (nI k)) (4 * sq_c p + 1) (nI a)) (4 * sq_c p + 2) (nI b)) nx va := by
    intro z0 ez
    refine ⟨sx_in (sy_43 _) (by omega) (by omega), nm_r (sx_up (sy_43 _) (by omega) ez) (nm_r (nI_1 (sq_c p)) ?_)⟩
    rw [e6]
    exact N
  refine br_t (nI_lt (b := 12) hc (by decide)) ⟨sx_in (sy_4 _) (by omega) (by omega), nm_r (sx_up (sy_4 _) (by omega) rfl) ⟨sx_in (sy_41 _) (by omega) (by omega), nm_r (sx_up (sy_41 _) (by omega) rfl) ⟨sx_in (sy_42 _) (by omega) (by omega), nm_r (sx_up (sy_42 _) (by omega) rfl) ?_⟩⟩⟩
  rcases h5 with ⟨g1, g2⟩ | ⟨g1, g2⟩
  · exact br_t (nI_lt (b := 7) g1 (by decide)) (last (by rw [g2]; rfl))
  · exact br_f (nI_nlt (b := 7) g1 (by omega)) (last g2)
theorem sy_g43f (H : sy_C p sz st sh gs nx) {post : Int32 → SY → Prop} {x1 x2 x3 x4 : Int32} (hc : ¬ sq_c p < 12) (h : post (-2) (sz, st, sh, gs, nx, va)) : wY_gate_43 post x1 x2 x3 x4 sz st sh gs nx va := by
  have e1 := H.2.1
  have := H.1.1
  subst e1
  exact br_f (nI_nlt (b := 12) (by omega) (by omega)) h
theorem sy_drop (H : sy_C p sz st sh gs nx) {post : Int32 → SY → Prop} {c : Nat} (hc : sq_c p = c + 1)
    (h : ∀ (sh' : Int32) (nx' : Nat → Int32), sy_C (sq_drop p c) (nI c) st sh' gs nx' → post (nI (7 + c)) ((nI c), st, sh', gs, nx', va)) : wpY_drop post (sz, st, sh, gs, nx, va) := by
  obtain ⟨wf, e1, e2, e3, e4, e5⟩ := H
  have hwf := sq_drop_wf wf hc
  have w1 := wf.1
  have w3 := wf.2.2.1
  have w4 := wf.2.2.2.1
  subst e1
  unfold wpY_drop
  refine br_f (by rw [hc]; exact nI_ne0 (by omega) (by omega)) (nm_r (e' := nI c) (by rw [hc]; exact nI_pred c) (nm_r (sy_7 c) ?_))
  refine pk_loop (fun n r (nx : Nat → Int32) => wY_drop_29 post (nI (7 + c)) (nI c) st sh n (nI r) gs nx va)
    (fun r nx' => (∀ j, j < r → nx' j = nI (sq_nx (sq_drop p c) j)) ∧ ∀ j, r ≤ j → j < 4 → nx' j = nI (sq_nx p j)) 4 0 nx (by omega) ⟨fun j hj => absurd hj (Nat.not_lt_zero j), fun j _ hj => e4 j hj⟩ ?_ ?_
  · rintro n nx' ⟨k1, k2⟩
    refine br_t (by decide +kernel) (br_c (fun g => h 0 nx' ⟨hwf, rfl, e2, ?_, k1, fun q hq => e5 q (Nat.lt_trans (show q < c from hq) (by omega))⟩) (fun g => h sh nx' ⟨hwf, rfl, e2, ?_, k1, fun q hq => e5 q (Nat.lt_trans (show q < c from hq) (by omega))⟩))
    · show 0 = nI (if sq_w p = 7 + c then 0 else sq_w p)
      rw [e3] at g
      rw [if_pos ((nI_eq (by omega) (by omega)).mp g)]
      rfl
    · show sh = nI (if sq_w p = 7 + c then 0 else sq_w p)
      rw [if_neg (fun z => g (by rw [e3, z]))]
      exact e3
  · rintro n r nx' hr ⟨k1, k2⟩ ih
    have f1 : nx' (nI r).toNatClampNeg = nI (sq_nx p r) := sx_cl rfl (by omega) (k2 r (by omega) hr)
    have i1 : vp_in (nI r) 4 := vp_in_nI hr (by omega)
    have w := w4 r hr
    refine br_f (nI_ge (b := 4) hr (by decide)) ⟨i1, br_c (fun g => ⟨i1, nm_r (sx_up rfl (by omega) (nI_add 3 r)) (nm_r (nI_1 r) (ih _ ⟨?_, ?_⟩))⟩) (fun g => ⟨i1, i1, nm_r (sx_up rfl (by omega) f1) (nm_r (nI_1 r) (ih _ ⟨?_, ?_⟩))⟩)⟩
    · intro j hj
      by_cases e : j = r
      · subst e
        rw [pk_us]
        show _ = nI (if sq_nx p j = 7 + c then 3 + j else sq_nx p j)
        rw [f1] at g
        rw [if_pos ((nI_eq (by omega) (by omega)).mp g)]
      · rw [pk_un e]
        exact k1 j (by omega)
    · intro j h1 h2
      rw [pk_un (by omega)]
      exact k2 j (by omega) h2
    · intro j hj
      by_cases e : j = r
      · subst e
        rw [pk_us]
        show _ = nI (if sq_nx p j = 7 + c then 3 + j else sq_nx p j)
        rw [if_neg (fun z => g (by rw [f1, z]))]
      · rw [pk_un e]
        exact k1 j (by omega)
    · intro j h1 h2
      rw [pk_un (by omega)]
      exact k2 j (by omega) h2
theorem sy_init {post : SY → Prop} (h : ∀ nx' : Nat → Int32, sy_C sq_nil 0 0 0 (fun _ => 0) nx' → post (0, 0, 0, (fun _ => 0), nx', (fun _ => 0))) : wpY_init post := by
  refine pk_loop (fun n r (nx : Nat → Int32) => wY_init_29 post 0 0 0 n (nI r) (fun _ => 0) nx (fun _ => 0))
    (fun r nx' => ∀ j, j < r → nx' j = nI (3 + j)) 4 0 (fun _ => 0) (by omega) (fun j hj => absurd hj (Nat.not_lt_zero j)) ?_ ?_
  · intro n nx' k1
    exact br_t (by decide +kernel) (h nx' ⟨sq_nil_wf, rfl, rfl, rfl, k1, fun g hg => absurd hg (Nat.not_lt_zero g)⟩)
  · intro n r nx' hr k1 ih
    refine br_f (nI_ge (b := 4) hr (by decide)) ⟨vp_in_nI hr (by omega), nm_r (sx_up rfl (by omega) (nI_add 3 r)) (nm_r (nI_1 r) (ih _ ?_))⟩
    intro j hj
    by_cases e : j = r
    · rw [e, pk_us]
    · rw [pk_un e]
      exact k1 j (by omega)
end
end
section
def sx_R (p : sq_P) (u : SX) : Prop := match u with
  | (sc, bg, ws, bs, ki, fi, se, th, nx, va, fo, pa, ke) => sx_C p sc bg ws ki fi se th nx
def sy_R (p : sq_P) (v : SY) : Prop := match v with
  | (sz, st, sh, gs, nx, va) => sy_C p sz st sh gs nx
def i_Rel (_ : Nat) (u : SX) (v : SY) : Prop := ∃ p, sx_R p u ∧ sy_R p v
theorem i_up {k : Nat} {u : SX} {v : SY} (h : i_Rel k u v) : i_Rel (k + 5) u v := h
theorem i_vc0 : wpX_init (fun u => wpY_init (fun v => i_Rel 0 u v)) :=
  sx_init (fun _ hx => sy_init (fun _ hy => ⟨sq_nil, hx, hy⟩))
theorem i_vc_gate {k : Nat} {u : SX} {v : SY} (I : i_Rel k u v) (hk : k + 5 ≤ 2560) (v1 : Int32) (v2 : Int32) (v3 : Int32) (v4 : Int32) : wpX_gate (fun r u' => wpY_gate (fun r' v' => r' = r ∧ i_Rel (k + 5) u' v') v v1 v2 v3 v4) u v1 v2 v3 v4 := by
  obtain ⟨p, HX, HY⟩ := I
  obtain ⟨sc, bg, ws, bs, ki, fi, se, th, nx, va, fo, pa, ke⟩ := u
  obtain ⟨sz, st, sh, gs, ny, vb⟩ := v
  have HX' : sx_C p sc bg ws ki fi se th nx := HX
  have HY' : sy_C p sz st sh gs ny := HY
  have J : i_Rel (k + 5) (sc, bg, ws, bs, ki, fi, se, th, nx, va, fo, pa, ke) (sz, st, sh, gs, ny, vb) := ⟨p, HX, HY⟩
  have hc12 := HX'.1.1
  unfold wpX_gate
  rcases sx_ix v1 10 with o1 | ⟨kd, hkd, e1⟩
  · exact sx_outL (n := 10) (by decide) rfl o1 (sx_outG (n := 9) (by decide) rfl o1 ⟨rfl, J⟩)
  subst e1
  have n0 : ¬ nI kd < 0 := nI_pos (by omega)
  have n10 : ¬ (10 : Int32) ≤ nI kd := nI_ge (b := 10) hkd (by decide)
  have n9 : ¬ (9 : Int32) < nI kd := nI_nlt (a := 9) (by omega) (by decide)
  refine br_f n0 (br_f n10 ?_)
  rcases sx_ix v2 (7 + sq_c p) with o2 | ⟨a, ha, e2⟩
  · exact sx_nsig HX' o2 (br_t rfl (br_f n0 (br_f n9 (sy_nsig HY' o2 (br_t rfl ⟨rfl, J⟩)))))
  refine sx_sig HX' ha e2 (br_f sx_8 ?_)
  rcases sx_ix v3 (7 + sq_c p) with o3 | ⟨b, hb, e3⟩
  · exact sx_nsig HX' o3 (br_t rfl (br_f n0 (br_f n9 (sy_sig HY' ha e2 (br_f sx_8 (sy_nsig HY' o3 (br_t rfl ⟨rfl, J⟩)))))))
  refine sx_sig HX' hb e3 (br_f sx_8 ?_)
  subst e2 e3
  rcases Nat.lt_or_ge kd 7 with g7 | g7
  · have l7 : nI kd < 7 := nI_lt (b := 7) g7 (by decide)
    refine br_t l7 (br_t rfl ?_)
    by_cases hc : sq_c p < 12
    · refine sx_g57 HX' (d := 0) hc hkd ha hb (by omega) (Or.inl ⟨rfl, rfl⟩) (fun sc' ki' fi' se' th' hx => ?_)
      refine br_f n0 (br_f n9 (sy_sig HY' ha rfl (br_f sx_8 (sy_sig HY' hb rfl (br_f sx_8 (br_t l7 ?_))))))
      exact sy_g43 HY' (d := 0) hc hkd ha hb (by omega) (Or.inl ⟨g7, rfl⟩) (fun sz' gs' hy => ⟨rfl, _, hx, hy⟩)
    · refine sx_g57f HX' hc ?_
      refine br_f n0 (br_f n9 (sy_sig HY' ha rfl (br_f sx_8 (sy_sig HY' hb rfl (br_f sx_8 (br_t l7 ?_))))))
      exact sy_g43f HY' hc ⟨rfl, J⟩
  · have l7 : ¬ nI kd < 7 := nI_nlt (b := 7) g7 (by omega)
    refine br_f l7 (br_f sx_8 ?_)
    rcases sx_ix v4 (7 + sq_c p) with o4 | ⟨d, hd, e4⟩
    · refine sx_nsig HX' o4 (br_t rfl ?_)
      exact br_f n0 (br_f n9 (sy_sig HY' ha rfl (br_f sx_8 (sy_sig HY' hb rfl (br_f sx_8 (br_f l7 (sy_nsig HY' o4 (br_t rfl ⟨rfl, J⟩))))))))
    · refine sx_sig HX' hd e4 (br_f sx_8 ?_)
      by_cases hc : sq_c p < 12
      · refine sx_g57 HX' (d := d) hc hkd ha hb hd (Or.inr ⟨sx_8, e4⟩) (fun sc' ki' fi' se' th' hx => ?_)
        refine br_f n0 (br_f n9 (sy_sig HY' ha rfl (br_f sx_8 (sy_sig HY' hb rfl (br_f sx_8 (br_f l7 (sy_sig HY' hd e4 (br_f sx_8 ?_))))))))
        exact sy_g43 HY' (d := d) hc hkd ha hb hd (Or.inr ⟨g7, e4⟩) (fun sz' gs' hy => ⟨rfl, _, hx, hy⟩)
      · refine sx_g57f HX' hc ?_
        refine br_f n0 (br_f n9 (sy_sig HY' ha rfl (br_f sx_8 (sy_sig HY' hb rfl (br_f sx_8 (br_f l7 (sy_sig HY' hd e4 (br_f sx_8 ?_))))))))
        exact sy_g43f HY' hc ⟨rfl, J⟩
theorem i_vc_drop {k : Nat} {u : SX} {v : SY} (I : i_Rel k u v) (hk : k + 5 ≤ 2560) : wpX_drop (fun r u' => wpY_drop (fun r' v' => r' = r ∧ i_Rel (k + 5) u' v') v) u := by
  obtain ⟨p, HX, HY⟩ := I
  obtain ⟨sc, bg, ws, bs, ki, fi, se, th, nx, va, fo, pa, ke⟩ := u
  obtain ⟨sz, st, sh, gs, ny, vb⟩ := v
  have HX' : sx_C p sc bg ws ki fi se th nx := HX
  have HY' : sy_C p sz st sh gs ny := HY
  rcases hc : sq_c p with _ | c
  · refine br_f ?_ (br_t ?_ ⟨rfl, p, HX, HY⟩)
    · rw [HX'.2.1, hc]
      decide
    · rw [HY'.2.1, hc]
      rfl
  · exact sx_drop HX' hc (fun ws' nx' hx => sy_drop HY' hc (fun sh' ny' hy => ⟨rfl, _, hx, hy⟩))
theorem i_vc_signals {k : Nat} {u : SX} {v : SY} (I : i_Rel k u v) (hk : k + 5 ≤ 2560) : wpX_signals (fun r => wpY_signals (fun r' => r' = r ∧ i_Rel (k + 5) u v) v) u := by
  obtain ⟨p, HX, HY⟩ := I
  obtain ⟨sc, bg, ws, bs, ki, fi, se, th, nx, va, fo, pa, ke⟩ := u
  obtain ⟨sz, st, sh, gs, ny, vb⟩ := v
  have HX' : sx_C p sc bg ws ki fi se th nx := HX
  have HY' : sy_C p sz st sh gs ny := HY
  show 7 + sz = sc ∧ _
  exact ⟨by rw [HX'.2.1, HY'.2.1]; exact sy_7 _, p, HX, HY⟩
theorem i_vc_next {k : Nat} {u : SX} {v : SY} (I : i_Rel k u v) (hk : k + 5 ≤ 2560) (v1 : Int32) (v2 : Int32) : wpX_next (fun r u' => wpY_next (fun r' v' => r' = r ∧ i_Rel (k + 5) u' v') v v1 v2) u v1 v2 := by
  obtain ⟨p, HX, HY⟩ := I
  obtain ⟨sc, bg, ws, bs, ki, fi, se, th, nx, va, fo, pa, ke⟩ := u
  obtain ⟨sz, st, sh, gs, ny, vb⟩ := v
  have HX' : sx_C p sc bg ws ki fi se th nx := HX
  have HY' : sy_C p sz st sh gs ny := HY
  have J : i_Rel (k + 5) (sc, bg, ws, bs, ki, fi, se, th, nx, va, fo, pa, ke) (sz, st, sh, gs, ny, vb) := ⟨p, HX, HY⟩
  unfold wpX_next
  rcases sx_ix v1 4 with o1 | ⟨r, hr, e1⟩
  · exact sx_outL (n := 4) (by decide) rfl o1 (br_t rfl (sx_outG (n := 3) (by decide) rfl o1 ⟨rfl, J⟩))
  subst e1
  have n0 : ¬ nI r < 0 := nI_pos (by omega)
  have n3 : ¬ (3 : Int32) < nI r := nI_nlt (a := 3) (by omega) (by decide)
  refine br_f n0 (br_f (nI_ge (b := 4) hr (by decide)) (br_f sx_8 ?_))
  rcases sx_ix v2 (7 + sq_c p) with o2 | ⟨a, ha, e2⟩
  · exact sx_nsig HX' o2 (br_t rfl (br_f n0 (br_f n3 (sy_nsig HY' o2 (br_t rfl ⟨rfl, J⟩)))))
  refine sx_sig HX' ha e2 (br_f sx_8 ⟨vp_in_nI hr (by omega), nm_r (sx_up rfl (by omega) e2) ?_⟩)
  refine br_f n0 (br_f n3 (sy_sig HY' ha e2 (br_f sx_8 ⟨vp_in_nI hr (by omega), nm_r (sx_up rfl (by omega) e2) ?_⟩)))
  have q : ∀ f : Nat → Int32, (∀ j, j < 4 → f j = nI (sq_nx p j)) → ∀ j, j < 4 → upd f r (nI a) j = nI (sq_nx (sq_next p r a) j) := by
    intro f hf j hj
    show _ = nI (sq_put (sq_nx p) r a j)
    by_cases e : j = r
    · rw [e, pk_us, sq_put_s]
    · rw [pk_un e, sq_put_n e]
      exact hf j hj
  obtain ⟨wf, x1, x2, x3, x4, x5⟩ := HX'
  obtain ⟨_, y1, y2, y3, y4, y5⟩ := HY'
  have wf' := sq_next_wf (r := r) wf ha
  exact ⟨rfl, sq_next p r a, ⟨wf', x1, x2, x3, q nx x4, x5⟩, ⟨wf', y1, y2, y3, q ny y4, y5⟩⟩
theorem i_vc_begin {k : Nat} {u : SX} {v : SY} (I : i_Rel k u v) (hk : k + 5 ≤ 2560) (v1 : Int32) (v2 : Int32) : wpX_begin (fun r u' => wpY_begin (fun r' v' => r' = r ∧ i_Rel (k + 5) u' v') v v1 v2) u v1 v2 := by
  obtain ⟨p, HX, HY⟩ := I
  obtain ⟨sc, bg, ws, bs, ki, fi, se, th, nx, va, fo, pa, ke⟩ := u
  obtain ⟨sz, st, sh, gs, ny, vb⟩ := v
  have HX' : sx_C p sc bg ws ki fi se th nx := HX
  have HY' : sy_C p sz st sh gs ny := HY
  have J : i_Rel (k + 5) (sc, bg, ws, bs, ki, fi, se, th, nx, va, fo, pa, ke) (sz, st, sh, gs, ny, vb) := ⟨p, HX, HY⟩
  unfold wpX_begin
  rcases sx_ix v1 4 with o1 | ⟨r, hr, e1⟩
  · exact sx_outL (n := 4) (by decide) rfl o1 (br_t rfl (sx_outG (n := 3) (by decide) rfl o1 ⟨rfl, J⟩))
  subst e1
  have n0 : ¬ nI r < 0 := nI_pos (by omega)
  have n3 : ¬ (3 : Int32) < nI r := nI_nlt (a := 3) (by omega) (by decide)
  refine br_f n0 (br_f (nI_ge (b := 4) hr (by decide)) (br_f sx_8 ?_))
  rcases sx_ix v2 2 with o2 | ⟨a, ha, e2⟩
  · rcases o2 with g | ⟨j, h1, h2, e⟩
    · exact br_t g (br_f n0 (br_f n3 (br_t g ⟨rfl, J⟩)))
    · subst e
      have m0 : ¬ nI j < 0 := nI_pos h2
      have m1 : ¬ nI j ≤ 1 := nI_ge (a := 1) (by omega) h2
      exact br_f m0 (br_f m1 (br_f n0 (br_f n3 (br_f m0 (br_f m1 ⟨rfl, J⟩)))))
  · subst e2
    have m0 : ¬ nI a < 0 := nI_pos (by omega)
    have m1 : nI a ≤ 1 := nI_le (b := 1) (by omega) (by decide)
    obtain ⟨wf, x1, x2, x3, x4, x5⟩ := HX'
    obtain ⟨_, y1, y2, y3, y4, y5⟩ := HY'
    subst x2 y2
    obtain ⟨w1, w2, w3⟩ := wf
    have e := sq_bg_e (sq_s p) w2 r hr a ha
    have wf' : sq_wf (sq_begin p (sq_bg (sq_s p) r a)) := ⟨w1, sq_bg_lt _ w2 r hr a ha, w3⟩
    exact br_f m0 (br_t m1 (nm_r e (br_f n0 (br_f n3 (br_f m0 (br_t m1 (nm_r e ⟨rfl, sq_begin p (sq_bg (sq_s p) r a), ⟨wf', x1, rfl, x3, x4, x5⟩, ⟨wf', y1, rfl, y3, y4, y5⟩⟩)))))))
theorem i_vc_watch {k : Nat} {u : SX} {v : SY} (I : i_Rel k u v) (hk : k + 5 ≤ 2560) (v1 : Int32) : wpX_watch (fun r u' => wpY_watch (fun r' v' => r' = r ∧ i_Rel (k + 5) u' v') v v1) u v1 := by
  obtain ⟨p, HX, HY⟩ := I
  obtain ⟨sc, bg, ws, bs, ki, fi, se, th, nx, va, fo, pa, ke⟩ := u
  obtain ⟨sz, st, sh, gs, ny, vb⟩ := v
  have HX' : sx_C p sc bg ws ki fi se th nx := HX
  have HY' : sy_C p sz st sh gs ny := HY
  have J : i_Rel (k + 5) (sc, bg, ws, bs, ki, fi, se, th, nx, va, fo, pa, ke) (sz, st, sh, gs, ny, vb) := ⟨p, HX, HY⟩
  unfold wpX_watch
  rcases sx_ix v1 (7 + sq_c p) with o1 | ⟨a, ha, e1⟩
  · refine sx_nsig HX' o1 (br_t rfl ?_)
    unfold wpY_watch
    exact sy_nsig HY' o1 (br_t rfl ⟨rfl, J⟩)
  · refine sx_sig HX' ha e1 (br_f sx_8 ?_)
    unfold wpY_watch
    refine sy_sig HY' ha e1 (br_f sx_8 ?_)
    obtain ⟨wf, x1, x2, x3, x4, x5⟩ := HX'
    obtain ⟨_, y1, y2, y3, y4, y5⟩ := HY'
    obtain ⟨w1, w2, w3, w4⟩ := wf
    have wf' : sq_wf (sq_watch p a) := ⟨w1, w2, ha, w4⟩
    exact ⟨rfl, sq_watch p a, ⟨wf', x1, x2, e1, x4, x5⟩, ⟨wf', y1, y2, e1, y4, y5⟩⟩
theorem i_vc_ever {k : Nat} {u : SX} {v : SY} (I : i_Rel k u v) (hk : k + 5 ≤ 2560) (v1 : Int32) : wpX_ever (fun r u' => wpY_ever (fun r' v' => r' = r ∧ i_Rel (k + 5) u' v') v v1) u v1 := by
  obtain ⟨p, HX, HY⟩ := I
  obtain ⟨sc, bg, ws, bs, ki, fi, se, th, nx, va, fo, pa, ke⟩ := u
  obtain ⟨sz, st, sh, gs, ny, vb⟩ := v
  have HX' : sx_C p sc bg ws ki fi se th nx := HX
  have HY' : sy_C p sz st sh gs ny := HY
  rcases sx_ix v1 4 with o1 | ⟨e, he, e1⟩
  · unfold wpX_ever
    refine sx_outL (n := 4) (by decide) rfl o1 (br_t rfl ?_)
    unfold wpY_ever
    exact sy_notEngine o1 (br_t rfl ⟨rfl, p, HX, HY⟩)
  · exact sx_ever HX' he e1 (fun bs' va' fo' pa' ke' => sy_ever HY' he e1 (fun vb' => ⟨rfl, p, HX, HY⟩))
theorem i_vc_agree {k : Nat} {u : SX} {v : SY} (I : i_Rel k u v) (hk : k + 5 ≤ 2560) (v1 : Int32) (v2 : Int32) : wpX_agree (fun r u' => wpY_agree (fun r' => r' = r ∧ i_Rel (k + 5) u' v) v v1 v2) u v1 v2 := by
  obtain ⟨p, HX, HY⟩ := I
  obtain ⟨sc, bg, ws, bs, ki, fi, se, th, nx, va, fo, pa, ke⟩ := u
  obtain ⟨sz, st, sh, gs, ny, vb⟩ := v
  have HX' : sx_C p sc bg ws ki fi se th nx := HX
  have HY' : sy_C p sz st sh gs ny := HY
  unfold wpX_agree
  rcases sx_ix v1 4 with o1 | ⟨e, he, e1⟩
  · refine sx_outL (n := 4) (by decide) rfl o1 (br_t rfl ?_)
    unfold wpY_agree
    exact sy_notEngine o1 (br_t rfl ⟨rfl, p, HX, HY⟩)
  refine br_f (by rw [e1]; exact nI_pos (by omega)) (br_f (by rw [e1]; exact nI_ge (b := 4) he (by decide)) (br_f sx_8 ?_))
  rcases sx_ix v2 4 with o2 | ⟨d, hd, e2⟩
  · refine sx_outL (n := 4) (by decide) rfl o2 (br_t rfl ?_)
    unfold wpY_agree
    exact sy_engine he e1 (br_f sx_8 (sy_notEngine o2 (br_t rfl ⟨rfl, p, HX, HY⟩)))
  refine br_f (by rw [e2]; exact nI_pos (by omega)) (br_f (by rw [e2]; exact nI_ge (b := 4) hd (by decide)) (br_f sx_8 ?_))
  refine sx_ever HX' he e1 (fun bs' va' fo' pa' ke' => ?_)
  refine sx_ever HX' hd e2 (fun bs2 va2 fo2 pa2 ke2 => br_t rfl ?_)
  unfold wpY_agree
  exact sy_engine he e1 (br_f sx_8 (sy_engine hd e2 (br_f sx_8 ⟨rfl, p, HX, HY⟩)))
theorem i_vc_depth {k : Nat} {u : SX} {v : SY} (I : i_Rel k u v) (hk : k + 5 ≤ 2560) (v1 : Int32) : wpX_depth (fun r u' => wpY_depth (fun r' v' => r' = r ∧ i_Rel (k + 5) u' v') v v1) u v1 := by
  obtain ⟨p, HX, HY⟩ := I
  obtain ⟨sc, bg, ws, bs, ki, fi, se, th, nx, va, fo, pa, ke⟩ := u
  obtain ⟨sz, st, sh, gs, ny, vb⟩ := v
  have HX' : sx_C p sc bg ws ki fi se th nx := HX
  have HY' : sy_C p sz st sh gs ny := HY
  by_cases h0 : v1 = 0
  · exact sx_depth HX' (e := 0) (by omega) h0 (fun va' fo' _ => sy_depth HY' (e := 0) (by omega) h0 (fun vb' => ⟨rfl, p, HX, HY⟩))
  · by_cases h1 : v1 = 1
    · exact sx_depth HX' (e := 1) (by omega) h1 (fun va' fo' _ => sy_depth HY' (e := 1) (by omega) h1 (fun vb' => ⟨rfl, p, HX, HY⟩))
    · exact br_f h0 (br_f h1 (br_f h0 (br_f h1 ⟨rfl, p, HX, HY⟩)))
theorem i_vc_input {k : Nat} {u : SX} {v : SY} (I : i_Rel k u v) (hk : k + 5 ≤ 2560) (v1 : Int32) : wpX_input (fun r u' => wpY_input (fun r' v' => r' = r ∧ i_Rel (k + 5) u' v') v v1) u v1 := by
  obtain ⟨p, HX, HY⟩ := I
  obtain ⟨sc, bg, ws, bs, ki, fi, se, th, nx, va, fo, pa, ke⟩ := u
  obtain ⟨sz, st, sh, gs, ny, vb⟩ := v
  have HX' : sx_C p sc bg ws ki fi se th nx := HX
  have HY' : sy_C p sz st sh gs ny := HY
  unfold wpX_input
  refine sx_depth HX' (e := 0) (by omega) rfl (fun va' fo' hf => ?_)
  rcases sq_dep_n (T := sq_T p) (B := sq_B p) (s := sq_s p) with eD | ⟨d, hd, eD⟩
  · refine br_t eD ?_
    unfold wpY_input
    refine sy_bad HY' (fun vb1 => sy_found HY' sq_bad_lt rfl (fun vb2 => ?_))
    have z : ¬ 0 ≤ sq_fs (fun n => decide (¬ sq_R (sq_T p) (2 ^ sq_s p) n &&& sq_bad (sq_B p) = 0)) 16 0 := by
      have eD' : sq_fs (fun n => decide (¬ sq_R (sq_T p) (2 ^ sq_s p) n &&& sq_bad (sq_B p) = 0)) 16 0 = -3 := eD
      rw [eD']
      decide
    exact br_f z ⟨rfl, p, HX, HY⟩
  · have eD' : sq_fs (fun n => decide (¬ sq_R (sq_T p) (2 ^ sq_s p) n &&& sq_bad (sq_B p) = 0)) 16 0 = nI d := eD
    have hD := sq_dep_D hd eD
    rw [eD]
    refine br_f (sq_n3 hd) ?_
    have tail : ∀ {post : Int32 → SY → Prop}, (∀ vb2 : Nat → Int32, ((v1 < 0 → post (-1) (sz, st, sh, gs, ny, vb2)) ∧ (¬ v1 < 0 → ((v1 ≤ nI d → ∃ n38 : Nat, wY_input_38 post v1 (nI d) n38 st 0 0 sz st sh gs ny vb2) ∧ (¬ v1 ≤ nI d → post (-1) (sz, st, sh, gs, ny, vb2)))))) → wpY_input post (sz, st, sh, gs, ny, vb) v1 := by
      intro post hp
      unfold wpY_input
      refine sy_bad HY' (fun vb1 => sy_found HY' sq_bad_lt rfl (fun vb2 => ?_))
      rw [eD']
      exact br_t (nI_pos' (by omega)) (hp vb2)
    rcases sx_ix v1 (d + 1) with o1 | ⟨i, hi, e1⟩
    · rcases o1 with g | ⟨j, h1, h2, e⟩
      · exact br_t g (tail (fun vb2 => br_t g ⟨rfl, p, HX, HY⟩))
      · subst e
        have m0 : ¬ nI j < 0 := nI_pos h2
        have m1 : ¬ nI j ≤ nI d := nI_ge (by omega) h2
        exact br_f m0 (br_f m1 (tail (fun vb2 => br_f m0 (br_f m1 ⟨rfl, p, HX, HY⟩))))
    · subst e1
      have m0 : ¬ nI i < 0 := nI_pos (by omega)
      have m1 : nI i ≤ nI d := nI_le (by omega) (by omega)
      refine br_f m0 (br_t m1 (sx_input34 HX' hd (by omega) hD rfl hf (fun va2 => ?_)))
      exact tail (fun vb2 => br_f m0 (br_t m1 (sy_input38 HY' hd (by omega) (fun vb3 => ⟨rfl, p, HX, HY⟩))))
theorem i_vc_holds {k : Nat} {u : SX} {v : SY} (I : i_Rel k u v) (hk : k + 5 ≤ 2560) (v1 : Int32) (v2 : Int32) : wpX_holds (fun r u' => wpY_holds (fun r' v' => r' = r ∧ i_Rel (k + 5) u' v') v v1 v2) u v1 v2 := by
  obtain ⟨p, HX, HY⟩ := I
  obtain ⟨sc, bg, ws, bs, ki, fi, se, th, nx, va, fo, pa, ke⟩ := u
  obtain ⟨sz, st, sh, gs, ny, vb⟩ := v
  have HX' : sx_C p sc bg ws ki fi se th nx := HX
  have HY' : sy_C p sz st sh gs ny := HY
  rcases sx_ix v1 16 with o1 | ⟨o, ho, e1⟩
  · unfold wpX_holds
    refine sx_outL (n := 16) (by decide) rfl o1 (br_t rfl ?_)
    unfold wpY_holds
    exact sy_reached HY' (fun vb' => sy_notSet o1 (br_t rfl (sy_h0 ⟨rfl, p, HX, HY⟩)))
  rcases sx_ix v2 16 with o2 | ⟨z, hz, e2⟩
  · unfold wpX_holds
    refine sx_isSet ho e1 (br_f sx_8 (sx_outL (n := 16) (by decide) rfl o2 (br_t rfl ?_)))
    unfold wpY_holds
    exact sy_reached HY' (fun vb' => sy_isSet ho e1 (br_f sx_8 (sy_notSet o2 (br_t rfl (sy_h0 ⟨rfl, p, HX, HY⟩)))))
  by_cases q : ∀ j, (sq_R (sq_T p) (2 ^ sq_s p) 15).testBit j = true → (sq_sw o z).testBit j = true
  · exact sx_holds HX' ho hz e1 e2 (r := 1) (fun _ => rfl) (fun g => absurd q g) (fun bs' va' fo' => sy_holds HY' ho hz e1 e2 (r := 1) (fun _ => rfl) (fun g => absurd q g) (fun vb' => ⟨rfl, p, HX, HY⟩))
  · exact sx_holds HX' ho hz e1 e2 (r := 0) (fun g => absurd g q) (fun _ => rfl) (fun bs' va' fo' => sy_holds HY' ho hz e1 e2 (r := 0) (fun g => absurd g q) (fun _ => rfl) (fun vb' => ⟨rfl, p, HX, HY⟩))
theorem i_vc_keeps {k : Nat} {u : SX} {v : SY} (I : i_Rel k u v) (hk : k + 5 ≤ 2560) (v1 : Int32) (v2 : Int32) : wpX_keeps (fun r u' => wpY_keeps (fun r' v' => r' = r ∧ i_Rel (k + 5) u' v') v v1 v2) u v1 v2 := by
  obtain ⟨p, HX, HY⟩ := I
  obtain ⟨sc, bg, ws, bs, ki, fi, se, th, nx, va, fo, pa, ke⟩ := u
  obtain ⟨sz, st, sh, gs, ny, vb⟩ := v
  have HX' : sx_C p sc bg ws ki fi se th nx := HX
  have HY' : sy_C p sz st sh gs ny := HY
  rcases sx_ix v1 16 with o1 | ⟨o, ho, e1⟩
  · unfold wpX_keeps
    refine sx_outL (n := 16) (by decide) rfl o1 (br_t rfl ?_)
    unfold wpY_keeps
    exact sy_notSet o1 (br_t rfl (sy_k0 ⟨rfl, p, HX, HY⟩))
  rcases sx_ix v2 16 with o2 | ⟨z, hz, e2⟩
  · unfold wpX_keeps
    refine sx_isSet ho e1 (br_f sx_8 (sx_outL (n := 16) (by decide) rfl o2 (br_t rfl ?_)))
    unfold wpY_keeps
    exact sy_isSet ho e1 (br_f sx_8 (sy_notSet o2 (br_t rfl (sy_k0 ⟨rfl, p, HX, HY⟩))))
  by_cases q : (sq_sw o z).testBit (sq_s p) = true ∧ ∀ j, (sq_img (sq_T p) (sq_sw o z)).testBit j = true → (sq_sw o z).testBit j = true
  · exact sx_keeps HX' ho hz e1 e2 (r := 1) (fun _ _ => rfl) (fun g => absurd q g) (fun bs' va' fo' => sy_keeps HY' ho hz e1 e2 (r := 1) (fun _ _ => rfl) (fun g => absurd q g) (fun vb' => ⟨rfl, p, HX, HY⟩))
  · exact sx_keeps HX' ho hz e1 e2 (r := 0) (fun g1 g2 => absurd ⟨g1, g2⟩ q) (fun _ => rfl) (fun bs' va' fo' => sy_keeps HY' ho hz e1 e2 (r := 0) (fun g1 g2 => absurd ⟨g1, g2⟩ q) (fun _ => rfl) (fun vb' => ⟨rfl, p, HX, HY⟩))
theorem i_vc_reached {k : Nat} {u : SX} {v : SY} (I : i_Rel k u v) (hk : k + 5 ≤ 2560) : wpX_reached (fun r u' => wpY_reached (fun r' v' => r' = r ∧ i_Rel (k + 5) u' v') v) u := by
  obtain ⟨p, HX, HY⟩ := I
  obtain ⟨sc, bg, ws, bs, ki, fi, se, th, nx, va, fo, pa, ke⟩ := u
  obtain ⟨sz, st, sh, gs, ny, vb⟩ := v
  have HX' : sx_C p sc bg ws ki fi se th nx := HX
  have HY' : sy_C p sz st sh gs ny := HY
  exact sx_reached HX' (fun bs' va' fo' => sy_reached HY' (fun vb' => ⟨rfl, p, HX, HY⟩))
theorem i_vc_far {k : Nat} {u : SX} {v : SY} (I : i_Rel k u v) (hk : k + 5 ≤ 2560) (v1 : Int32) : wpX_far (fun r u' => wpY_far (fun r' v' => r' = r ∧ i_Rel (k + 5) u' v') v v1) u v1 := by
  obtain ⟨p, HX, HY⟩ := I
  obtain ⟨sc, bg, ws, bs, ki, fi, se, th, nx, va, fo, pa, ke⟩ := u
  obtain ⟨sz, st, sh, gs, ny, vb⟩ := v
  have HX' : sx_C p sc bg ws ki fi se th nx := HX
  have HY' : sy_C p sz st sh gs ny := HY
  rcases sx_ix v1 16 with o1 | ⟨t, ht, e1⟩
  · unfold wpX_far
    refine sx_outL (n := 16) (by decide) rfl o1 (br_t rfl ?_)
    unfold wpY_far
    exact sy_notSet o1 (br_t rfl ⟨rfl, p, HX, HY⟩)
  · exact sx_far HX' ht e1 (fun bs' va' fo' => sy_far HY' ht e1 (fun vb' => ⟨rfl, p, HX, HY⟩))
theorem sy_outR {post : Int32 → Prop} {sz st sh : Int32} {gs nx va : Nat → Int32} {x y : Int32} (h : sx_out x 16 ∨ (∃ s, s < 16 ∧ x = nI s) ∧ sx_out y 8) (hp : post 0) : wpY_inRange post (sz, st, sh, gs, nx, va) x y := by
  rcases h with h | ⟨⟨s, hs, e⟩, h⟩
  · exact sx_outG (n := 15) (by decide) rfl h hp
  · subst e
    exact br_f (nI_pos (by omega)) (br_f (nI_nlt (a := 15) (by omega) (by decide)) (sx_outG (n := 7) (by decide) rfl h hp))
theorem i_vc_step {k : Nat} {u : SX} {v : SY} (I : i_Rel k u v) (hk : k + 5 ≤ 2560) (v1 : Int32) (v2 : Int32) : wpX_step (fun r u' => wpY_step (fun r' v' => r' = r ∧ i_Rel (k + 5) u' v') v v1 v2) u v1 v2 := by
  obtain ⟨p, HX, HY⟩ := I
  obtain ⟨sc, bg, ws, bs, ki, fi, se, th, nx, va, fo, pa, ke⟩ := u
  obtain ⟨sz, st, sh, gs, ny, vb⟩ := v
  have HX' : sx_C p sc bg ws ki fi se th nx := HX
  have HY' : sy_C p sz st sh gs ny := HY
  rcases sx_ix v1 16 with o1 | ⟨s, hs, e1⟩
  · unfold wpX_step
    refine sx_outL (n := 16) (by decide) rfl o1 (br_t rfl ?_)
    unfold wpY_step
    exact sy_outR (Or.inl o1) (br_t rfl ⟨rfl, p, HX, HY⟩)
  rcases sx_ix v2 8 with o2 | ⟨l, hl, e2⟩
  · unfold wpX_step
    refine br_f (by rw [e1]; exact nI_pos (by omega)) (br_f (by rw [e1]; exact nI_ge (b := 16) hs (by decide)) (br_f sx_8 (sx_outL (n := 8) (by decide) rfl o2 (br_t rfl ?_))))
    unfold wpY_step
    exact sy_outR (Or.inr ⟨⟨s, hs, e1⟩, o2⟩) (br_t rfl ⟨rfl, p, HX, HY⟩)
  · exact sx_step HX' hs hl e1 e2 (fun va' => sy_step HY' hs hl e1 e2 (fun vb' => ⟨rfl, p, HX, HY⟩))
theorem i_vc_watched {k : Nat} {u : SX} {v : SY} (I : i_Rel k u v) (hk : k + 5 ≤ 2560) (v1 : Int32) (v2 : Int32) : wpX_watched (fun r u' => wpY_watched (fun r' v' => r' = r ∧ i_Rel (k + 5) u' v') v v1 v2) u v1 v2 := by
  obtain ⟨p, HX, HY⟩ := I
  obtain ⟨sc, bg, ws, bs, ki, fi, se, th, nx, va, fo, pa, ke⟩ := u
  obtain ⟨sz, st, sh, gs, ny, vb⟩ := v
  have HX' : sx_C p sc bg ws ki fi se th nx := HX
  have HY' : sy_C p sz st sh gs ny := HY
  rcases sx_ix v1 16 with o1 | ⟨s, hs, e1⟩
  · unfold wpX_watched
    refine sx_outL (n := 16) (by decide) rfl o1 (br_t rfl ?_)
    unfold wpY_watched
    exact sy_outR (Or.inl o1) (br_t rfl ⟨rfl, p, HX, HY⟩)
  rcases sx_ix v2 8 with o2 | ⟨l, hl, e2⟩
  · unfold wpX_watched
    refine br_f (by rw [e1]; exact nI_pos (by omega)) (br_f (by rw [e1]; exact nI_ge (b := 16) hs (by decide)) (br_f sx_8 (sx_outL (n := 8) (by decide) rfl o2 (br_t rfl ?_))))
    unfold wpY_watched
    exact sy_outR (Or.inr ⟨⟨s, hs, e1⟩, o2⟩) (br_t rfl ⟨rfl, p, HX, HY⟩)
  · exact sx_watched HX' hs hl e1 e2 (fun va' => sy_watched HY' hs hl e1 e2 (fun vb' => ⟨rfl, p, HX, HY⟩))
end
