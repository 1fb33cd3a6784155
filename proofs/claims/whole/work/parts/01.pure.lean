/-! pure: counting, the least costs in place (bf_), the closure of masks (wa_) -/
def gv_ct (p : Nat → Bool) : Nat → Nat
  | 0 => 0
  | i + 1 => gv_ct p i + (if p i = true then 1 else 0)
theorem gv_ct_s (p : Nat → Bool) (i : Nat) : gv_ct p (i + 1) = gv_ct p i + (if p i = true then 1 else 0) := rfl
theorem gv_ct_t {p : Nat → Bool} {i : Nat} (h : p i = true) : gv_ct p (i + 1) = gv_ct p i + 1 := by rw [gv_ct_s, if_pos h]
theorem gv_ct_f {p : Nat → Bool} {i : Nat} (h : ¬ p i = true) : gv_ct p (i + 1) = gv_ct p i := by rw [gv_ct_s, if_neg h, Nat.add_zero]
theorem gv_ct_le (p : Nat → Bool) : ∀ i, gv_ct p i ≤ i := by
  intro i
  induction i with
  | zero => exact Nat.le_refl 0
  | succ i ih =>
    rw [gv_ct_s]
    split <;> omega
theorem gv_ct_congr {p q : Nat → Bool} : ∀ i, (∀ j, j < i → p j = q j) → gv_ct p i = gv_ct q i := by
  intro i
  induction i with
  | zero => intro _; rfl
  | succ i ih =>
    intro h
    rw [gv_ct_s, gv_ct_s, ih (fun j hj => h j (by omega)), h i (by omega)]
theorem gv_ct_0 {p : Nat → Bool} : ∀ i, (∀ j, j < i → ¬ p j = true) → gv_ct p i = 0 := by
  intro i
  induction i with
  | zero => intro _; rfl
  | succ i ih =>
    intro h
    rw [gv_ct_f (h i (by omega)), ih (fun j hj => h j (by omega))]
theorem gv_ph : ∀ (n : Nat) (p : Nat → Nat), (∀ j, j ≤ n → p j < n) → ∃ i j, i < j ∧ j ≤ n ∧ p i = p j := by
  intro n
  induction n with
  | zero => intro p h; exact absurd (h 0 (Nat.le_refl 0)) (Nat.not_lt_zero _)
  | succ n ih =>
    intro p h
    by_cases hx : ∃ i, i ≤ n ∧ p i = p (n + 1)
    · obtain ⟨i, hi, e⟩ := hx
      exact ⟨i, n + 1, by omega, Nat.le_refl _, e⟩
    · have hne : ∀ i, i ≤ n → p i ≠ p (n + 1) := fun i hi e => hx ⟨i, hi, e⟩
      obtain ⟨q, q1, q2⟩ : ∃ q : Nat → Nat, (∀ j, p j = n → q j = p (n + 1)) ∧ (∀ j, p j ≠ n → q j = p j) := ⟨fun j => if p j = n then p (n + 1) else p j, fun j hj => if_pos hj, fun j hj => if_neg hj⟩
      obtain ⟨i, j, hij, hj, e⟩ := ih q (by
        intro j hj
        have h1 := h j (by omega)
        have h2 := h (n + 1) (Nat.le_refl _)
        have h3 := hne j hj
        by_cases z : p j = n
        · rw [q1 j z]; omega
        · rw [q2 j z]; omega)
      refine ⟨i, j, hij, by omega, ?_⟩
      have h1 := hne i (by omega)
      have h2 := hne j hj
      by_cases zi : p i = n
      · by_cases zj : p j = n
        · omega
        · rw [q1 i zi, q2 j zj] at e; omega
      · by_cases zj : p j = n
        · rw [q2 i zi, q1 j zj] at e; omega
        · rw [q2 i zi, q2 j zj] at e; exact e
/-! least costs: one arrow, one pass in place, k passes from s -/
def bf_rl (act : Nat → Bool) (fr tg wt : Nat → Nat) (c : Nat → Nat) (a : Nat) : Nat → Nat := fun j => if act a = true ∧ j = tg a ∧ c (fr a) + wt a < c j then c (fr a) + wt a else c j
def bf_ps (act : Nat → Bool) (fr tg wt : Nat → Nat) (c : Nat → Nat) : Nat → (Nat → Nat)
  | 0 => c
  | a + 1 => bf_rl act fr tg wt (bf_ps act fr tg wt c a) a
def bf_i0 (s : Nat) : Nat → Nat := fun j => if j = s then 0 else 1000000
def bf_it (act : Nat → Bool) (fr tg wt : Nat → Nat) (s : Nat) : Nat → (Nat → Nat)
  | 0 => bf_i0 s
  | k + 1 => bf_ps act fr tg wt (bf_it act fr tg wt s k) 24
/-! the same, each pass from the pass before alone -/
def bf_sy (act : Nat → Bool) (fr tg wt : Nat → Nat) (c : Nat → Nat) : Nat → (Nat → Nat)
  | 0 => c
  | a + 1 => fun j => if act a = true ∧ j = tg a ∧ c (fr a) + wt a < bf_sy act fr tg wt c a j then c (fr a) + wt a else bf_sy act fr tg wt c a j
def bf_d (act : Nat → Bool) (fr tg wt : Nat → Nat) (s : Nat) : Nat → (Nat → Nat)
  | 0 => bf_i0 s
  | k + 1 => bf_sy act fr tg wt (bf_d act fr tg wt s k) 24
section
variable (act : Nat → Bool) (fr tg wt : Nat → Nat)
theorem bf_ps_s (c : Nat → Nat) (a : Nat) : bf_ps act fr tg wt c (a + 1) = bf_rl act fr tg wt (bf_ps act fr tg wt c a) a := rfl
theorem bf_it_s (s k : Nat) : bf_it act fr tg wt s (k + 1) = bf_ps act fr tg wt (bf_it act fr tg wt s k) 24 := rfl
theorem bf_d_s (s k : Nat) : bf_d act fr tg wt s (k + 1) = bf_sy act fr tg wt (bf_d act fr tg wt s k) 24 := rfl
theorem bf_sy_s (c : Nat → Nat) (a j : Nat) : bf_sy act fr tg wt c (a + 1) j = if act a = true ∧ j = tg a ∧ c (fr a) + wt a < bf_sy act fr tg wt c a j then c (fr a) + wt a else bf_sy act fr tg wt c a j := rfl
theorem bf_rl_t {c : Nat → Nat} {a j : Nat} (h : act a = true ∧ j = tg a ∧ c (fr a) + wt a < c j) : bf_rl act fr tg wt c a j = c (fr a) + wt a := if_pos h
theorem bf_rl_f {c : Nat → Nat} {a j : Nat} (h : ¬ (act a = true ∧ j = tg a ∧ c (fr a) + wt a < c j)) : bf_rl act fr tg wt c a j = c j := if_neg h
theorem bf_rl_n {c : Nat → Nat} {a : Nat} (h : ¬ act a = true) : bf_rl act fr tg wt c a = c := funext fun _ => if_neg (fun z => h z.1)
theorem bf_rl_le (c : Nat → Nat) (a j : Nat) : bf_rl act fr tg wt c a j ≤ c j := by
  by_cases h : act a = true ∧ j = tg a ∧ c (fr a) + wt a < c j
  · rw [bf_rl_t act fr tg wt h]; exact Nat.le_of_lt h.2.2
  · rw [bf_rl_f act fr tg wt h]; exact Nat.le_refl _
theorem bf_rl_ar (c : Nat → Nat) (a : Nat) (h : act a = true) : bf_rl act fr tg wt c a (tg a) ≤ c (fr a) + wt a := by
  by_cases g : act a = true ∧ tg a = tg a ∧ c (fr a) + wt a < c (tg a)
  · rw [bf_rl_t act fr tg wt g]; exact Nat.le_refl _
  · rw [bf_rl_f act fr tg wt g]; exact Nat.le_of_not_lt (fun hl => g ⟨h, rfl, hl⟩)
theorem bf_rl_D {D c : Nat → Nat} {a : Nat} (hD : act a = true → D (tg a) ≤ D (fr a) + wt a) (hc : ∀ j, D j ≤ c j) : ∀ j, D j ≤ bf_rl act fr tg wt c a j := by
  intro j
  by_cases g : act a = true ∧ j = tg a ∧ c (fr a) + wt a < c j
  · rw [bf_rl_t act fr tg wt g]
    have h1 := hD g.1
    have h2 := hc (fr a)
    rw [g.2.1]; omega
  · rw [bf_rl_f act fr tg wt g]; exact hc j
theorem bf_ps_le (c : Nat → Nat) : ∀ a j, bf_ps act fr tg wt c a j ≤ c j := by
  intro a
  induction a with
  | zero => intro j; exact Nat.le_refl _
  | succ a ih => intro j; rw [bf_ps_s]; exact Nat.le_trans (bf_rl_le act fr tg wt _ a j) (ih j)
theorem bf_ps_ar (c : Nat → Nat) : ∀ a b, b < a → act b = true → bf_ps act fr tg wt c a (tg b) ≤ c (fr b) + wt b := by
  intro a
  induction a with
  | zero => intro b hb; exact absurd hb (Nat.not_lt_zero _)
  | succ a ih =>
    intro b hb hab
    rw [bf_ps_s]
    by_cases e : b = a
    · subst e
      have h1 := bf_rl_ar act fr tg wt (bf_ps act fr tg wt c b) b hab
      have h2 := bf_ps_le act fr tg wt c b (fr b)
      omega
    · exact Nat.le_trans (bf_rl_le act fr tg wt _ a _) (ih b (by omega) hab)
theorem bf_ps_D {D c : Nat → Nat} (hD : ∀ a, a < 24 → act a = true → D (tg a) ≤ D (fr a) + wt a) (hc : ∀ j, D j ≤ c j) : ∀ a, a ≤ 24 → ∀ j, D j ≤ bf_ps act fr tg wt c a j := by
  intro a
  induction a with
  | zero => intro _; exact hc
  | succ a ih => intro ha; rw [bf_ps_s]; exact bf_rl_D act fr tg wt (hD a (by omega)) (ih (by omega))
theorem bf_sy_le (c : Nat → Nat) : ∀ a j, bf_sy act fr tg wt c a j ≤ c j := by
  intro a
  induction a with
  | zero => intro j; exact Nat.le_refl _
  | succ a ih =>
    intro j
    rw [bf_sy_s]
    have h1 := ih j
    split
    · rename_i h; have h2 := h.2.2; omega
    · exact h1
theorem bf_sy_ar (c : Nat → Nat) : ∀ a b, b < a → act b = true → bf_sy act fr tg wt c a (tg b) ≤ c (fr b) + wt b := by
  intro a
  induction a with
  | zero => intro b hb; exact absurd hb (Nat.not_lt_zero _)
  | succ a ih =>
    intro b hb hab
    rw [bf_sy_s]
    by_cases e : b = a
    · subst e
      split
      · exact Nat.le_refl _
      · rename_i h; exact Nat.le_of_not_lt (fun hl => h ⟨hab, rfl, hl⟩)
    · have h1 := ih b (by omega) hab
      split
      · rename_i h; have h2 := h.2.2; omega
      · exact h1
theorem bf_sy_or (c : Nat → Nat) : ∀ a j, bf_sy act fr tg wt c a j = c j ∨ ∃ b, b < a ∧ act b = true ∧ j = tg b ∧ bf_sy act fr tg wt c a j = c (fr b) + wt b := by
  intro a
  induction a with
  | zero => intro j; exact Or.inl rfl
  | succ a ih =>
    intro j
    rw [bf_sy_s]
    split
    · rename_i h
      exact Or.inr ⟨a, by omega, h.1, h.2.1, rfl⟩
    · rcases ih j with e | ⟨b, h1, h2, h3, e⟩
      · exact Or.inl e
      · exact Or.inr ⟨b, by omega, h2, h3, e⟩
theorem bf_d_m1 (s k j : Nat) : bf_d act fr tg wt s (k + 1) j ≤ bf_d act fr tg wt s k j := bf_sy_le act fr tg wt _ 24 j
theorem bf_d_mono (s j : Nat) : ∀ k i, i ≤ k → bf_d act fr tg wt s k j ≤ bf_d act fr tg wt s i j := by
  intro k
  induction k with
  | zero => intro i hi; rw [show i = 0 by omega]; exact Nat.le_refl _
  | succ k ih =>
    intro i hi
    by_cases e : i = k + 1
    · rw [e]; exact Nat.le_refl _
    · exact Nat.le_trans (bf_d_m1 act fr tg wt s k j) (ih i (by omega))
theorem bf_ch (hb : ∀ a, a < 24 → act a = true → fr a < 12 ∧ tg a < 12) (s : Nat) : ∀ k n, bf_d act fr tg wt s (k + 1) n < bf_d act fr tg wt s k n → ∃ p : Nat → Nat, p (k + 1) = n ∧ (∀ j, j ≤ k + 1 → p j < 12) ∧ (∀ j, j ≤ k → bf_d act fr tg wt s (j + 1) (p (j + 1)) < bf_d act fr tg wt s j (p (j + 1))) ∧ (∀ j, j ≤ k → bf_d act fr tg wt s j (p j) ≤ bf_d act fr tg wt s (j + 1) (p (j + 1))) := by
  intro k
  induction k with
  | zero =>
    intro n h
    rcases bf_sy_or act fr tg wt (bf_d act fr tg wt s 0) 24 n with e | ⟨b, hb1, hb2, hb3, e⟩
    · rw [← bf_d_s] at e; omega
    · rw [← bf_d_s] at e
      obtain ⟨q, q1, q2⟩ : ∃ q : Nat → Nat, q 0 = fr b ∧ q (0 + 1) = n := ⟨fun j => if j = 0 then fr b else n, rfl, rfl⟩
      have h3 := hb b hb1 hb2
      refine ⟨q, q2, ?_, ?_, ?_⟩
      · intro j hj
        by_cases ej : j = 0
        · rw [ej, q1]; exact h3.1
        · rw [show j = 0 + 1 by omega, q2, hb3]; exact h3.2
      · intro j hj
        rw [show j = 0 by omega, q2]; exact h
      · intro j hj
        rw [show j = 0 by omega, q2, q1, e]; exact Nat.le_add_right _ _
  | succ k ih =>
    intro n h
    rcases bf_sy_or act fr tg wt (bf_d act fr tg wt s (k + 1)) 24 n with e | ⟨b, hb1, hb2, hb3, e⟩
    · rw [← bf_d_s] at e; omega
    · rw [← bf_d_s] at e
      have h1 : bf_d act fr tg wt s (k + 1) n ≤ bf_d act fr tg wt s k (fr b) + wt b := by
        rw [hb3]; exact bf_sy_ar act fr tg wt (bf_d act fr tg wt s k) 24 b hb1 hb2
      obtain ⟨p, p1, p2, p3, p4⟩ := ih (fr b) (by omega)
      obtain ⟨q, q1, q2⟩ : ∃ q : Nat → Nat, (∀ j, j ≤ k + 1 → q j = p j) ∧ q (k + 1 + 1) = n := ⟨fun j => if j = k + 1 + 1 then n else p j, fun j hj => if_neg (by omega), if_pos rfl⟩
      have h3 := hb b hb1 hb2
      refine ⟨q, q2, ?_, ?_, ?_⟩
      · intro j hj
        by_cases ej : j = k + 1 + 1
        · rw [ej, q2, hb3]; exact h3.2
        · rw [q1 j (by omega)]; exact p2 j (by omega)
      · intro j hj
        by_cases ej : j = k + 1
        · rw [ej, q2]; exact h
        · rw [q1 (j + 1) (by omega)]; exact p3 j (by omega)
      · intro j hj
        by_cases ej : j = k + 1
        · rw [ej, q2, q1 (k + 1) (Nat.le_refl _), p1, e]; exact Nat.le_add_right _ _
        · rw [q1 (j + 1) (by omega), q1 j (by omega)]; exact p4 j (by omega)
theorem bf_d12 (hb : ∀ a, a < 24 → act a = true → fr a < 12 ∧ tg a < 12) (s n : Nat) : bf_d act fr tg wt s 12 n = bf_d act fr tg wt s 11 n := by
  have h0 := bf_d_m1 act fr tg wt s 11 n
  by_cases h : bf_d act fr tg wt s (11 + 1) n < bf_d act fr tg wt s 11 n
  · exfalso
    obtain ⟨p, p1, p2, p3, p4⟩ := bf_ch act fr tg wt hb s 11 n h
    have pm : ∀ j, j ≤ 12 → ∀ i, i ≤ j → bf_d act fr tg wt s i (p i) ≤ bf_d act fr tg wt s j (p j) := by
      intro j
      induction j with
      | zero => intro _ i hi; rw [show i = 0 by omega]; exact Nat.le_refl _
      | succ j ih =>
        intro hj i hi
        by_cases e : i = j + 1
        · rw [e]; exact Nat.le_refl _
        · exact Nat.le_trans (ih (by omega) i (by omega)) (p4 j (by omega))
    obtain ⟨i, j, hij, hj, e⟩ := gv_ph 12 p p2
    obtain ⟨j', rfl⟩ : ∃ j', j = j' + 1 := ⟨j - 1, by omega⟩
    have g1 := p3 j' (by omega)
    have g2 := bf_d_mono act fr tg wt s (p (j' + 1)) j' i (by omega)
    have g3 := pm (j' + 1) hj i (by omega)
    rw [e] at g3
    omega
  · exact Nat.le_antisymm h0 (Nat.le_of_not_lt h)
theorem bf_it_d (s : Nat) : ∀ k j, bf_it act fr tg wt s k j ≤ bf_d act fr tg wt s k j := by
  intro k
  induction k with
  | zero => intro j; exact Nat.le_refl _
  | succ k ih =>
    intro j
    rw [bf_it_s, bf_d_s]
    rcases bf_sy_or act fr tg wt (bf_d act fr tg wt s k) 24 j with e | ⟨b, hb1, hb2, hb3, e⟩
    · rw [e]; exact Nat.le_trans (bf_ps_le act fr tg wt _ 24 j) (ih j)
    · rw [e, hb3]
      have h1 := bf_ps_ar act fr tg wt (bf_it act fr tg wt s k) 24 b hb1 hb2
      have h2 := ih (fr b)
      omega
theorem bf_d_it (hb : ∀ a, a < 24 → act a = true → fr a < 12 ∧ tg a < 12) (s : Nat) : ∀ k j, bf_d act fr tg wt s 11 j ≤ bf_it act fr tg wt s k j := by
  intro k
  induction k with
  | zero => intro j; exact bf_d_mono act fr tg wt s j 11 0 (by omega)
  | succ k ih =>
    rw [bf_it_s]
    refine bf_ps_D act fr tg wt ?_ ih 24 (Nat.le_refl _)
    intro a ha h
    rw [← bf_d12 act fr tg wt hb s (tg a)]
    exact bf_sy_ar act fr tg wt (bf_d act fr tg wt s 11) 24 a ha h
/-- the twelfth pass changes nothing -/
theorem bf_fix (hb : ∀ a, a < 24 → act a = true → fr a < 12 ∧ tg a < 12) (s : Nat) : bf_it act fr tg wt s 12 = bf_it act fr tg wt s 11 := by
  funext j
  have h1 := bf_it_d act fr tg wt s 12 j
  have h2 := bf_it_d act fr tg wt s 11 j
  have h3 := bf_d_it act fr tg wt hb s 12 j
  have h4 := bf_d_it act fr tg wt hb s 11 j
  have h5 := bf_d12 act fr tg wt hb s j
  omega
def bf_B (t : Nat) (c : Nat → Nat) : Prop := ∀ j, c j = 1000000 ∨ c j ≤ 99 * t
theorem bf_B_rl {t : Nat} {c : Nat → Nat} {a : Nat} (ht : t ≤ 400) (hw : act a = true → wt a ≤ 99) (h : bf_B t c) : bf_B (t + 1) (bf_rl act fr tg wt c a) := by
  intro j
  have hj := h j
  by_cases g : act a = true ∧ j = tg a ∧ c (fr a) + wt a < c j
  · rw [bf_rl_t act fr tg wt g]
    have h1 := h (fr a)
    have h2 := hw g.1
    have h3 := g.2.2
    omega
  · rw [bf_rl_f act fr tg wt g]; omega
theorem bf_B_ps {t : Nat} {c : Nat → Nat} (hw : ∀ a, a < 24 → act a = true → wt a ≤ 99) (h : bf_B t c) : ∀ a, a ≤ 24 → t + a ≤ 400 → bf_B (t + a) (bf_ps act fr tg wt c a) := by
  intro a
  induction a with
  | zero => intro _ _; exact h
  | succ a ih =>
    intro ha ht
    rw [bf_ps_s]
    exact bf_B_rl act fr tg wt (t := t + a) (by omega) (hw a (by omega)) (ih (by omega) (by omega))
theorem bf_B_it (hw : ∀ a, a < 24 → act a = true → wt a ≤ 99) (s : Nat) : ∀ k, k ≤ 12 → bf_B (24 * k) (bf_it act fr tg wt s k) := by
  intro k
  induction k with
  | zero =>
    intro _ j
    show (if j = s then 0 else 1000000) = 1000000 ∨ (if j = s then 0 else 1000000) ≤ 99 * (24 * 0)
    split
    · exact Or.inr (Nat.zero_le _)
    · exact Or.inl rfl
  | succ k ih =>
    intro hk
    rw [bf_it_s, show 24 * (k + 1) = 24 * k + 24 by omega]
    exact bf_B_ps act fr tg wt hw (ih (by omega)) 24 (Nat.le_refl _) (by omega)
/-- what is reached lies in every closed set -/
theorem bf_ps_S {S : Nat → Prop} (hS : ∀ a, a < 24 → act a = true → S (fr a) → S (tg a)) {c : Nat → Nat} (hc : ∀ m, c m < 1000000 → S m) : ∀ a, a ≤ 24 → ∀ m, bf_ps act fr tg wt c a m < 1000000 → S m := by
  intro a
  induction a with
  | zero => intro _; exact hc
  | succ a ih =>
    intro ha m
    rw [bf_ps_s]
    have ih2 := ih (by omega)
    by_cases g : act a = true ∧ m = tg a ∧ bf_ps act fr tg wt c a (fr a) + wt a < bf_ps act fr tg wt c a m
    · rw [bf_rl_t act fr tg wt g]
      intro h
      rw [g.2.1]
      exact hS a (by omega) g.1 (ih2 (fr a) (by omega))
    · rw [bf_rl_f act fr tg wt g]; exact ih2 m
theorem bf_it_S {S : Nat → Prop} (hS : ∀ a, a < 24 → act a = true → S (fr a) → S (tg a)) {s : Nat} (hs : S s) : ∀ k m, bf_it act fr tg wt s k m < 1000000 → S m := by
  intro k
  induction k with
  | zero =>
    intro m h
    by_cases e : m = s
    · rw [e]; exact hs
    · have h2 : bf_it act fr tg wt s 0 m = 1000000 := if_neg e
      omega
  | succ k ih => rw [bf_it_s]; exact bf_ps_S act fr tg wt hS ih 24 (Nat.le_refl _)
theorem bf_it_self (s : Nat) : ∀ k, bf_it act fr tg wt s k s = 0 := by
  intro k
  induction k with
  | zero => exact if_pos rfl
  | succ k ih =>
    rw [bf_it_s]
    have h := bf_ps_le act fr tg wt (bf_it act fr tg wt s k) 24 s
    omega
theorem bf_it_cl (hb : ∀ a, a < 24 → act a = true → fr a < 12 ∧ tg a < 12) (hw : ∀ a, a < 24 → act a = true → wt a ≤ 99) (s : Nat) : ∀ a, a < 24 → act a = true → bf_it act fr tg wt s 12 (fr a) < 1000000 → bf_it act fr tg wt s 12 (tg a) < 1000000 := by
  intro a ha h h1
  have h2 : bf_it act fr tg wt s 12 (tg a) ≤ bf_it act fr tg wt s 11 (fr a) + wt a := bf_ps_ar act fr tg wt (bf_it act fr tg wt s 11) 24 a ha h
  rw [← bf_fix act fr tg wt hb s] at h2
  have h3 := bf_B_it act fr tg wt hw s 12 (Nat.le_refl _) (fr a)
  have h4 := hw a ha h
  omega
end
