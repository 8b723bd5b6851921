def sq_gv (k a b c : Nat) : Nat := match k with
  | 0 => a * b
  | 1 => if 0 < a + b then 1 else 0
  | 2 => (a + b) % 2
  | 3 => 1 - a * b
  | 4 => if 0 < a + b then 0 else 1
  | 5 => 1 - (a + b) % 2
  | 6 => if b < a then 0 else 1
  | 7 => if a = 1 then b else c
  | 8 => (a + b + c) / 2
  | _ => (a + b + c) % 2
theorem sq_gv_lt : ∀ k, k < 10 → ∀ a, a < 2 → ∀ b, b < 2 → ∀ c, c < 2 → sq_gv k a b c < 2 := by decide +kernel
def sq_base (s l i : Nat) : Nat := if i < 3 then l / 2 ^ i % 2 else s / 2 ^ (i - 3) % 2
theorem sq_base_lt (s l i : Nat) : sq_base s l i < 2 := by
  unfold sq_base
  by_cases h : i < 3
  · rw [if_pos h]; omega
  · rw [if_neg h]; omega
abbrev sq_P : Type := Nat × Nat × Nat × (Nat → Nat) × (Nat → Nat) × (Nat → Nat) × (Nat → Nat) × (Nat → Nat)
def sq_c (p : sq_P) : Nat := p.1
def sq_s (p : sq_P) : Nat := p.2.1
def sq_w (p : sq_P) : Nat := p.2.2.1
def sq_nx (p : sq_P) : Nat → Nat := p.2.2.2.1
def sq_gk (p : sq_P) : Nat → Nat := p.2.2.2.2.1
def sq_ga (p : sq_P) : Nat → Nat := p.2.2.2.2.2.1
def sq_gb (p : sq_P) : Nat → Nat := p.2.2.2.2.2.2.1
def sq_gc (p : sq_P) : Nat → Nat := p.2.2.2.2.2.2.2
def sq_pv (p : sq_P) (s l : Nat) : Nat → Nat → Nat
  | 0 => sq_base s l
  | g + 1 => fun i => if i = 7 + g then sq_gv (sq_gk p g) (sq_pv p s l g (sq_ga p g)) (sq_pv p s l g (sq_gb p g)) (sq_pv p s l g (sq_gc p g)) else sq_pv p s l g i
def sq_V (p : sq_P) (s l i : Nat) : Nat := sq_pv p s l (sq_c p) i
def sq_sum (f : Nat → Nat) : Nat → Nat
  | 0 => 0
  | r + 1 => sq_sum f r + f r * 2 ^ r
def sq_T (p : sq_P) (s l : Nat) : Nat := sq_sum (fun r => sq_V p s l (sq_nx p r)) 4
def sq_B (p : sq_P) (s l : Nat) : Nat := sq_V p s l (sq_w p)
def sq_wf (p : sq_P) : Prop := sq_c p ≤ 12 ∧ sq_s p < 16 ∧ sq_w p < 7 + sq_c p ∧ (∀ r, r < 4 → sq_nx p r < 7 + sq_c p) ∧ ∀ g, g < sq_c p → sq_gk p g < 10 ∧ sq_ga p g < 7 + g ∧ sq_gb p g < 7 + g ∧ sq_gc p g < 7 + g
theorem sq_pv_s {p : sq_P} {s l g : Nat} : sq_pv p s l (g + 1) (7 + g) = sq_gv (sq_gk p g) (sq_pv p s l g (sq_ga p g)) (sq_pv p s l g (sq_gb p g)) (sq_pv p s l g (sq_gc p g)) := if_pos rfl
theorem sq_pv_n {p : sq_P} {s l g i : Nat} (h : i ≠ 7 + g) : sq_pv p s l (g + 1) i = sq_pv p s l g i := if_neg h
theorem sq_pv_lt {p : sq_P} (h : sq_wf p) (s l : Nat) : ∀ g, g ≤ sq_c p → ∀ i, sq_pv p s l g i < 2 := by
  intro g
  induction g with
  | zero => exact fun _ i => sq_base_lt s l i
  | succ g ih =>
    intro hg i
    have H := ih (by omega)
    by_cases e : i = 7 + g
    · rw [e, sq_pv_s]
      exact sq_gv_lt _ (h.2.2.2.2 g (by omega)).1 _ (H _) _ (H _) _ (H _)
    · rw [sq_pv_n e]
      exact H i
theorem sq_V_lt {p : sq_P} (h : sq_wf p) (s l i : Nat) : sq_V p s l i < 2 := sq_pv_lt h s l _ (Nat.le_refl _) i
theorem sq_B_lt {p : sq_P} (h : sq_wf p) (s l : Nat) : sq_B p s l < 2 := sq_V_lt h s l _
theorem sq_sum_lt {f : Nat → Nat} (h : ∀ r, f r < 2) : ∀ n, sq_sum f n < 2 ^ n := by
  intro n
  induction n with
  | zero => exact Nat.one_pos
  | succ n ih =>
    rw [sq_sum, Nat.pow_succ]
    have := h n
    rcases (by omega : f n = 0 ∨ f n = 1) with e | e
    · rw [e]; omega
    · rw [e]; omega
theorem sq_T_lt {p : sq_P} (h : sq_wf p) (s l : Nat) : sq_T p s l < 16 := sq_sum_lt (f := fun r => sq_V p s l (sq_nx p r)) (fun _ => sq_V_lt h s l _) 4
theorem sq_T_ok {p : sq_P} (h : sq_wf p) : sq_ok (sq_T p) := fun s l _ _ => sq_T_lt h s l
theorem sq_nor (a b : Nat) : nI a ||| nI b = nI (a ||| b) := by
  apply Int32.toBitVec_inj.1
  show BitVec.ofNat 32 a ||| BitVec.ofNat 32 b = BitVec.ofNat 32 (a ||| b)
  apply BitVec.eq_of_getLsbD_eq
  intro i hi
  simp [hi]
theorem sq_one : ∀ s, s < 16 → (1 : Int32) <<< (nI s &&& 31) = nI (2 ^ s) := by decide +kernel
theorem sq_shl : ∀ v, v < 2 → ∀ s, s < 16 → nI v <<< (nI s &&& 31) = nI (v * 2 ^ s) := by decide +kernel
theorem sq_shr {a s : Nat} (ha : a < 2 ^ 31) (hs : s < 32) : nI a >>> (nI s &&& 31) = nI (a / 2 ^ s) := pk_shrN ha _ s (s_l s hs)
theorem sq_bit {a s : Nat} (ha : a < 2 ^ 31) (hs : s < 32) : (nI a >>> (nI s &&& 31)) &&& 1 = nI (a / 2 ^ s % 2) := by
  have h0 := Nat.div_le_self a (2 ^ s)
  have h1 : a / 2 ^ s < 2 ^ 32 := by omega
  have h2 := pk_andN (n := a / 2 ^ s) h1 (m := 1) 1 (by decide)
  exact (congrArg (fun x => x &&& 1) (sq_shr ha hs)).trans h2
theorem sq_bit1 {a s : Nat} (ha : a < 2 ^ 31) (hs : s < 32) : (nI a >>> (nI s &&& 31)) &&& 1 = 1 ↔ a.testBit s = true := by
  rw [sq_bit ha hs, Nat.testBit_eq_decide_div_mod_eq, decide_eq_true_eq]
  generalize a / 2 ^ s = z
  show nI (z % 2) = nI 1 ↔ _
  rw [nI_eq (by omega) (by omega)]
theorem sq_bit0 {a s : Nat} (ha : a < 2 ^ 31) (hs : s < 32) : (nI a >>> (nI s &&& 31)) &&& 1 = 0 ↔ ¬ a.testBit s = true := by
  rw [sq_bit ha hs, Nat.testBit_eq_decide_div_mod_eq, decide_eq_true_eq]
  generalize a / 2 ^ s = z
  show nI (z % 2) = nI 0 ↔ _
  rw [nI_eq (by omega) (by omega)]
  omega
theorem sq_and0 {a b : Nat} (ha : a < 2 ^ 16) (hb : b < 2 ^ 16) : nI a &&& nI b = 0 ↔ a &&& b = 0 := by
  have : a &&& b ≤ a := Nat.and_le_left
  rw [nx_and]
  show _ = nI 0 ↔ _
  rw [nI_eq (by omega) (by omega)]
theorem sq_not (b : Nat) : nI b ^^^ (-1) = nI (b ^^^ (2 ^ 32 - 1)) := by
  have e : (-1 : Int32) = nI (2 ^ 32 - 1) := by decide +kernel
  rw [e, nx_xor]
theorem sq_sub0 {a b : Nat} (ha : a < 2 ^ 16) : nI a &&& (nI b ^^^ (-1)) = 0 ↔ ∀ j, a.testBit j = true → b.testBit j = true := by
  have : a &&& (b ^^^ (2 ^ 32 - 1)) ≤ a := Nat.and_le_left
  rw [sq_not, nx_and]
  show _ = nI 0 ↔ _
  rw [nI_eq (by omega) (by omega)]
  have e : ∀ j, (b ^^^ (2 ^ 32 - 1)).testBit j = (b.testBit j ^^ decide (j < 32)) := fun j => by
    rw [Nat.testBit_xor, Nat.testBit_two_pow_sub_one]
  constructor
  · intro h j hj
    have hj16 := sq_big ha hj
    apply Classical.byContradiction
    intro hb
    refine sq_nz.mpr ⟨j, hj, ?_⟩ h
    rw [e, decide_eq_true (by omega)]
    cases hz : b.testBit j
    · rfl
    · exact absurd hz hb
  · intro h
    apply Classical.byContradiction
    intro hn
    obtain ⟨j, h1, h2⟩ := sq_nz.mp hn
    have hj16 := sq_big ha h1
    rw [e, decide_eq_true (by omega), h j h1] at h2
    exact Bool.noConfusion h2
theorem sq_nhas : ∀ s, s < 16 → ∀ z, z < 16 → ((nI s ^^^ (-1)) &&& nI z = 0 ↔ (15 - s) &&& z = 0) := by decide +kernel
theorem sq_acc : ∀ r, r < 4 → ∀ x, x < 2 ^ r → ∀ v, v < 2 → nI x ||| (nI v <<< (nI r &&& 31)) = nI (x + v * 2 ^ r) := by decide +kernel
