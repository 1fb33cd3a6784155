section
/-! pasted rows of kit/rows (PURE-ROWS, BITS) -/
theorem pk_us {f : Nat → Int32} {k : Nat} {x : Int32} : upd f k x k = x := if_pos rfl
theorem pk_un {f : Nat → Int32} {k j : Nat} {x : Int32} (h : j ≠ k) : upd f k x j = f j := if_neg h
theorem pk_sub {a b : Nat} (h : b ≤ a) : nI a - nI b = nI (a - b) := by
  obtain ⟨c, rfl⟩ : ∃ c, a = c + b := ⟨a - b, by omega⟩
  rw [← nI_add, Int32.add_sub_cancel, Nat.add_sub_cancel]
theorem pk_m1 (n : Nat) : nI (n + 1) + (-1) = nI n := by
  rw [← nI_1, Int32.add_assoc, show (1 : Int32) + (-1) = 0 from rfl, Int32.add_zero]
theorem pk_mul (a b : Nat) : nI a * nI b = nI (a * b) := (Int32.ofNat_mul a b).symm
theorem pk_div {a d : Nat} (ha : a < 2 ^ 31) (h0 : 0 < d) (hd : d < 2 ^ 31) : nI a / nI d = nI (a / d) := by
  apply Int32.toInt_inj.mp
  rw [lg_idiv_nonneg (by rw [nI_toInt ha]; omega) (by rw [nI_toInt hd]; omega), nI_toInt ha, nI_toInt hd, nI_toInt (Nat.lt_of_le_of_lt (Nat.div_le_self a d) ha)]
  first | rfl | exact (Int.natCast_ediv _ _).symm
theorem pk_rem {a d : Nat} (ha : a < 2 ^ 31) (h0 : 0 < d) (hd : d < 2 ^ 31) : nI a - nI a / nI d * nI d = nI (a % d) := by
  rw [pk_div ha h0 hd, pk_mul, pk_sub (Nat.div_mul_le_self a d)]
  exact congrArg nI (by have := Nat.div_add_mod' a d; omega)
theorem pk_ix (x : Int32) {n : Nat} (hn : n < 2 ^ 31) : x < 0 ∨ nI n ≤ x ∨ ∃ j : Nat, j < n ∧ x = nI j := by
  by_cases h : x < 0
  · exact Or.inl h
  · obtain ⟨j, hj, rfl⟩ := nI_of h
    by_cases h2 : j < n
    · exact Or.inr (Or.inr ⟨j, h2, rfl⟩)
    · exact Or.inr (Or.inl (nI_le (by omega) hj))
theorem pk_le {x y : Int32} {A B : Prop} (a b : Nat) (f : a ≤ b → A) (g : b < a → B) (hx : x = nI a := by rfl) (hy : y = nI b := by rfl) (ha : a < 2 ^ 31 := by omega) (hb : b < 2 ^ 31 := by omega) : (x ≤ y → A) ∧ (¬ x ≤ y → B) := by
  subst hx hy
  rw [nI_leI ha hb]
  exact ⟨f, fun z => g (by omega)⟩
theorem pk_lt {x y : Int32} {A B : Prop} (a b : Nat) (f : a < b → A) (g : b ≤ a → B) (hx : x = nI a := by rfl) (hy : y = nI b := by rfl) (ha : a < 2 ^ 31 := by omega) (hb : b < 2 ^ 31 := by omega) : (x < y → A) ∧ (¬ x < y → B) := by
  subst hx hy
  rw [nI_ltI ha hb]
  exact ⟨f, fun z => g (by omega)⟩
theorem pk_eq {x y : Int32} {A B : Prop} (a b : Nat) (f : a = b → A) (g : a ≠ b → B) (hx : x = nI a := by rfl) (hy : y = nI b := by rfl) (ha : a < 2 ^ 31 := by omega) (hb : b < 2 ^ 31 := by omega) : (x = y → A) ∧ (¬ x = y → B) := by
  subst hx hy
  rw [nI_eq ha hb]
  exact ⟨f, g⟩
theorem pk_in {x : Int32} (n N : Nat) (h : n < N) (hx : x = nI n := by rfl) (hN : N < 2 ^ 31 := by omega) : vp_in x N := by
  subst hx
  exact vp_in_nI h hN
theorem pk_cl {x : Int32} (n : Nat) (hx : x = nI n := by rfl) (h : n < 2 ^ 31 := by omega) : x.toNatClampNeg = n := by
  subst hx
  exact nI_clamp h
theorem pk_tn {n : Nat} (h : n < 2 ^ 32) : (nI n).toBitVec.toNat = n := Nat.mod_eq_of_lt h
def bt (x : Int32) (i : Nat) : Bool := x.toBitVec.getLsbD i
theorem b_ext {x y : Int32} (h : ∀ i, i < 32 → bt x i = bt y i) : x = y := Int32.toBitVec_inj.mp (BitVec.eq_of_getLsbD_eq (fun i hi => h i hi))
theorem b_or (x y : Int32) (i : Nat) : bt (x ||| y) i = (bt x i || bt y i) := by unfold bt; rw [Int32.toBitVec_or, BitVec.getLsbD_or]
theorem b_and (x y : Int32) (i : Nat) : bt (x &&& y) i = (bt x i && bt y i) := by unfold bt; rw [Int32.toBitVec_and, BitVec.getLsbD_and]
theorem b_big {x : Int32} {i : Nat} (h : 32 ≤ i) : bt x i = false := BitVec.getLsbD_of_ge _ _ h
theorem b_0 (i : Nat) : bt 0 i = false := BitVec.getLsbD_zero
theorem s_l : ∀ n, n < 32 → ((nI n &&& 31).toBitVec.smod 32).toNat = n := by decide +kernel
theorem b_shl (n : Nat) (hn : n < 32) (x : Int32) {i : Nat} (hi : i < 32) : bt (x <<< (nI n &&& 31)) i = (decide (n ≤ i) && bt x (i - n)) := by
  unfold bt
  rw [Int32.toBitVec_shiftLeft]
  show (x.toBitVec <<< ((nI n &&& 31).toBitVec.smod 32).toNat).getLsbD i = _
  rw [s_l n hn, BitVec.getLsbD_shiftLeft]
  rcases Nat.lt_or_ge i n with h | h
  · simp [h, Nat.not_le.mpr h]
  · simp [hi, h, Nat.not_lt.mpr h]
theorem b_sshr (n : Nat) (hn : n < 32) (x : Int32) {i : Nat} (hi : i < 32) : bt (x >>> (nI n &&& 31)) i = if n + i < 32 then bt x (n + i) else bt x 31 := by
  unfold bt
  rw [Int32.toBitVec_shiftRight]
  show (x.toBitVec.sshiftRight ((nI n &&& 31).toBitVec.smod 32).toNat).getLsbD i = _
  rw [s_l n hn, BitVec.getLsbD_sshiftRight, BitVec.msb_eq_getLsbD_last]
  simp [hi]
end
section
/-! pure: counting, the least costs in place (bf_), the closure of masks (wa_) -/
def gv_ct (p : Nat → Bool) : Nat → Nat
  | 0 => 0
  | i + 1 => gv_ct p i + (if p i = true then 1 else 0)
theorem gv_ct_s (p : Nat → Bool) (i : Nat) : gv_ct p (i + 1) = gv_ct p i + (if p i = true then 1 else 0) := rfl
theorem gv_ct_t {p : Nat → Bool} {i : Nat} (h : p i = true) : gv_ct p (i + 1) = gv_ct p i + 1 := by rw [gv_ct_s, if_pos h]
theorem gv_ct_f {p : Nat → Bool} {i : Nat} (h : ¬ p i = true) : gv_ct p (i + 1) = gv_ct p i := by rw [gv_ct_s, if_neg h, Nat.add_zero]
theorem gv_ct_le (p : Nat → Bool) : ∀ i, gv_ct p i ≤ i := by
  intro i
  induction i with
  | zero => exact Nat.le_refl 0
  | succ i ih =>
    rw [gv_ct_s]
    split <;> omega
theorem gv_ct_congr {p q : Nat → Bool} : ∀ i, (∀ j, j < i → p j = q j) → gv_ct p i = gv_ct q i := by
  intro i
  induction i with
  | zero => intro _; rfl
  | succ i ih =>
    intro h
    rw [gv_ct_s, gv_ct_s, ih (fun j hj => h j (by omega)), h i (by omega)]
theorem gv_ct_0 {p : Nat → Bool} : ∀ i, (∀ j, j < i → ¬ p j = true) → gv_ct p i = 0 := by
  intro i
  induction i with
  | zero => intro _; rfl
  | succ i ih =>
    intro h
    rw [gv_ct_f (h i (by omega)), ih (fun j hj => h j (by omega))]
theorem gv_ph : ∀ (n : Nat) (p : Nat → Nat), (∀ j, j ≤ n → p j < n) → ∃ i j, i < j ∧ j ≤ n ∧ p i = p j := by
  intro n
  induction n with
  | zero => intro p h; exact absurd (h 0 (Nat.le_refl 0)) (Nat.not_lt_zero _)
  | succ n ih =>
    intro p h
    by_cases hx : ∃ i, i ≤ n ∧ p i = p (n + 1)
    · obtain ⟨i, hi, e⟩ := hx
      exact ⟨i, n + 1, by omega, Nat.le_refl _, e⟩
    · have hne : ∀ i, i ≤ n → p i ≠ p (n + 1) := fun i hi e => hx ⟨i, hi, e⟩
      obtain ⟨q, q1, q2⟩ : ∃ q : Nat → Nat, (∀ j, p j = n → q j = p (n + 1)) ∧ (∀ j, p j ≠ n → q j = p j) := ⟨fun j => if p j = n then p (n + 1) else p j, fun j hj => if_pos hj, fun j hj => if_neg hj⟩
      obtain ⟨i, j, hij, hj, e⟩ := ih q (by
        intro j hj
        have h1 := h j (by omega)
        have h2 := h (n + 1) (Nat.le_refl _)
        have h3 := hne j hj
        by_cases z : p j = n
        · rw [q1 j z]; omega
        · rw [q2 j z]; omega)
      refine ⟨i, j, hij, by omega, ?_⟩
      have h1 := hne i (by omega)
      have h2 := hne j hj
      by_cases zi : p i = n
      · by_cases zj : p j = n
        · omega
        · rw [q1 i zi, q2 j zj] at e; omega
      · by_cases zj : p j = n
        · rw [q2 i zi, q1 j zj] at e; omega
        · rw [q2 i zi, q2 j zj] at e; exact e
/-! least costs: one arrow, one pass in place, k passes from s -/
def bf_rl (act : Nat → Bool) (fr tg wt : Nat → Nat) (c : Nat → Nat) (a : Nat) : Nat → Nat := fun j => if act a = true ∧ j = tg a ∧ c (fr a) + wt a < c j then c (fr a) + wt a else c j
def bf_ps (act : Nat → Bool) (fr tg wt : Nat → Nat) (c : Nat → Nat) : Nat → (Nat → Nat)
  | 0 => c
  | a + 1 => bf_rl act fr tg wt (bf_ps act fr tg wt c a) a
def bf_i0 (s : Nat) : Nat → Nat := fun j => if j = s then 0 else 1000000
def bf_it (act : Nat → Bool) (fr tg wt : Nat → Nat) (s : Nat) : Nat → (Nat → Nat)
  | 0 => bf_i0 s
  | k + 1 => bf_ps act fr tg wt (bf_it act fr tg wt s k) 24
/-! the same, each pass from the pass before alone -/
def bf_sy (act : Nat → Bool) (fr tg wt : Nat → Nat) (c : Nat → Nat) : Nat → (Nat → Nat)
  | 0 => c
  | a + 1 => fun j => if act a = true ∧ j = tg a ∧ c (fr a) + wt a < bf_sy act fr tg wt c a j then c (fr a) + wt a else bf_sy act fr tg wt c a j
def bf_d (act : Nat → Bool) (fr tg wt : Nat → Nat) (s : Nat) : Nat → (Nat → Nat)
  | 0 => bf_i0 s
  | k + 1 => bf_sy act fr tg wt (bf_d act fr tg wt s k) 24
section
variable (act : Nat → Bool) (fr tg wt : Nat → Nat)
theorem bf_ps_s (c : Nat → Nat) (a : Nat) : bf_ps act fr tg wt c (a + 1) = bf_rl act fr tg wt (bf_ps act fr tg wt c a) a := rfl
theorem bf_it_s (s k : Nat) : bf_it act fr tg wt s (k + 1) = bf_ps act fr tg wt (bf_it act fr tg wt s k) 24 := rfl
theorem bf_d_s (s k : Nat) : bf_d act fr tg wt s (k + 1) = bf_sy act fr tg wt (bf_d act fr tg wt s k) 24 := rfl
theorem bf_sy_s (c : Nat → Nat) (a j : Nat) : bf_sy act fr tg wt c (a + 1) j = if act a = true ∧ j = tg a ∧ c (fr a) + wt a < bf_sy act fr tg wt c a j then c (fr a) + wt a else bf_sy act fr tg wt c a j := rfl
theorem bf_rl_t {c : Nat → Nat} {a j : Nat} (h : act a = true ∧ j = tg a ∧ c (fr a) + wt a < c j) : bf_rl act fr tg wt c a j = c (fr a) + wt a := if_pos h
theorem bf_rl_f {c : Nat → Nat} {a j : Nat} (h : ¬ (act a = true ∧ j = tg a ∧ c (fr a) + wt a < c j)) : bf_rl act fr tg wt c a j = c j := if_neg h
theorem bf_rl_n {c : Nat → Nat} {a : Nat} (h : ¬ act a = true) : bf_rl act fr tg wt c a = c := funext fun _ => if_neg (fun z => h z.1)
theorem bf_rl_le (c : Nat → Nat) (a j : Nat) : bf_rl act fr tg wt c a j ≤ c j := by
  by_cases h : act a = true ∧ j = tg a ∧ c (fr a) + wt a < c j
  · rw [bf_rl_t act fr tg wt h]; exact Nat.le_of_lt h.2.2
  · rw [bf_rl_f act fr tg wt h]; exact Nat.le_refl _
theorem bf_rl_ar (c : Nat → Nat) (a : Nat) (h : act a = true) : bf_rl act fr tg wt c a (tg a) ≤ c (fr a) + wt a := by
  by_cases g : act a = true ∧ tg a = tg a ∧ c (fr a) + wt a < c (tg a)
  · rw [bf_rl_t act fr tg wt g]; exact Nat.le_refl _
  · rw [bf_rl_f act fr tg wt g]; exact Nat.le_of_not_lt (fun hl => g ⟨h, rfl, hl⟩)
theorem bf_rl_D {D c : Nat → Nat} {a : Nat} (hD : act a = true → D (tg a) ≤ D (fr a) + wt a) (hc : ∀ j, D j ≤ c j) : ∀ j, D j ≤ bf_rl act fr tg wt c a j := by
  intro j
  by_cases g : act a = true ∧ j = tg a ∧ c (fr a) + wt a < c j
  · rw [bf_rl_t act fr tg wt g]
    have h1 := hD g.1
    have h2 := hc (fr a)
    rw [g.2.1]; omega
  · rw [bf_rl_f act fr tg wt g]; exact hc j
theorem bf_ps_le (c : Nat → Nat) : ∀ a j, bf_ps act fr tg wt c a j ≤ c j := by
  intro a
  induction a with
  | zero => intro j; exact Nat.le_refl _
  | succ a ih => intro j; rw [bf_ps_s]; exact Nat.le_trans (bf_rl_le act fr tg wt _ a j) (ih j)
theorem bf_ps_ar (c : Nat → Nat) : ∀ a b, b < a → act b = true → bf_ps act fr tg wt c a (tg b) ≤ c (fr b) + wt b := by
  intro a
  induction a with
  | zero => intro b hb; exact absurd hb (Nat.not_lt_zero _)
  | succ a ih =>
    intro b hb hab
    rw [bf_ps_s]
    by_cases e : b = a
    · subst e
      have h1 := bf_rl_ar act fr tg wt (bf_ps act fr tg wt c b) b hab
      have h2 := bf_ps_le act fr tg wt c b (fr b)
      omega
    · exact Nat.le_trans (bf_rl_le act fr tg wt _ a _) (ih b (by omega) hab)
theorem bf_ps_D {D c : Nat → Nat} (hD : ∀ a, a < 24 → act a = true → D (tg a) ≤ D (fr a) + wt a) (hc : ∀ j, D j ≤ c j) : ∀ a, a ≤ 24 → ∀ j, D j ≤ bf_ps act fr tg wt c a j := by
  intro a
  induction a with
  | zero => intro _; exact hc
  | succ a ih => intro ha; rw [bf_ps_s]; exact bf_rl_D act fr tg wt (hD a (by omega)) (ih (by omega))
theorem bf_sy_le (c : Nat → Nat) : ∀ a j, bf_sy act fr tg wt c a j ≤ c j := by
  intro a
  induction a with
  | zero => intro j; exact Nat.le_refl _
  | succ a ih =>
    intro j
    rw [bf_sy_s]
    have h1 := ih j
    split
    · rename_i h; have h2 := h.2.2; omega
    · exact h1
theorem bf_sy_ar (c : Nat → Nat) : ∀ a b, b < a → act b = true → bf_sy act fr tg wt c a (tg b) ≤ c (fr b) + wt b := by
  intro a
  induction a with
  | zero => intro b hb; exact absurd hb (Nat.not_lt_zero _)
  | succ a ih =>
    intro b hb hab
    rw [bf_sy_s]
    by_cases e : b = a
    · subst e
      split
      · exact Nat.le_refl _
      · rename_i h; exact Nat.le_of_not_lt (fun hl => h ⟨hab, rfl, hl⟩)
    · have h1 := ih b (by omega) hab
      split
      · rename_i h; have h2 := h.2.2; omega
      · exact h1
theorem bf_sy_or (c : Nat → Nat) : ∀ a j, bf_sy act fr tg wt c a j = c j ∨ ∃ b, b < a ∧ act b = true ∧ j = tg b ∧ bf_sy act fr tg wt c a j = c (fr b) + wt b := by
  intro a
  induction a with
  | zero => intro j; exact Or.inl rfl
  | succ a ih =>
    intro j
    rw [bf_sy_s]
    split
    · rename_i h
      exact Or.inr ⟨a, by omega, h.1, h.2.1, rfl⟩
    · rcases ih j with e | ⟨b, h1, h2, h3, e⟩
      · exact Or.inl e
      · exact Or.inr ⟨b, by omega, h2, h3, e⟩
theorem bf_d_m1 (s k j : Nat) : bf_d act fr tg wt s (k + 1) j ≤ bf_d act fr tg wt s k j := bf_sy_le act fr tg wt _ 24 j
theorem bf_d_mono (s j : Nat) : ∀ k i, i ≤ k → bf_d act fr tg wt s k j ≤ bf_d act fr tg wt s i j := by
  intro k
  induction k with
  | zero => intro i hi; rw [show i = 0 by omega]; exact Nat.le_refl _
  | succ k ih =>
    intro i hi
    by_cases e : i = k + 1
    · rw [e]; exact Nat.le_refl _
    · exact Nat.le_trans (bf_d_m1 act fr tg wt s k j) (ih i (by omega))
theorem bf_ch (hb : ∀ a, a < 24 → act a = true → fr a < 12 ∧ tg a < 12) (s : Nat) : ∀ k n, bf_d act fr tg wt s (k + 1) n < bf_d act fr tg wt s k n → ∃ p : Nat → Nat, p (k + 1) = n ∧ (∀ j, j ≤ k + 1 → p j < 12) ∧ (∀ j, j ≤ k → bf_d act fr tg wt s (j + 1) (p (j + 1)) < bf_d act fr tg wt s j (p (j + 1))) ∧ (∀ j, j ≤ k → bf_d act fr tg wt s j (p j) ≤ bf_d act fr tg wt s (j + 1) (p (j + 1))) := by
  intro k
  induction k with
  | zero =>
    intro n h
    rcases bf_sy_or act fr tg wt (bf_d act fr tg wt s 0) 24 n with e | ⟨b, hb1, hb2, hb3, e⟩
    · rw [← bf_d_s] at e; omega
    · rw [← bf_d_s] at e
      obtain ⟨q, q1, q2⟩ : ∃ q : Nat → Nat, q 0 = fr b ∧ q (0 + 1) = n := ⟨fun j => if j = 0 then fr b else n, rfl, rfl⟩
      have h3 := hb b hb1 hb2
      refine ⟨q, q2, ?_, ?_, ?_⟩
      · intro j hj
        by_cases ej : j = 0
        · rw [ej, q1]; exact h3.1
        · rw [show j = 0 + 1 by omega, q2, hb3]; exact h3.2
      · intro j hj
        rw [show j = 0 by omega, q2]; exact h
      · intro j hj
        rw [show j = 0 by omega, q2, q1, e]; exact Nat.le_add_right _ _
  | succ k ih =>
    intro n h
    rcases bf_sy_or act fr tg wt (bf_d act fr tg wt s (k + 1)) 24 n with e | ⟨b, hb1, hb2, hb3, e⟩
    · rw [← bf_d_s] at e; omega
    · rw [← bf_d_s] at e
      have h1 : bf_d act fr tg wt s (k + 1) n ≤ bf_d act fr tg wt s k (fr b) + wt b := by
        rw [hb3]; exact bf_sy_ar act fr tg wt (bf_d act fr tg wt s k) 24 b hb1 hb2
      obtain ⟨p, p1, p2, p3, p4⟩ := ih (fr b) (by omega)
      obtain ⟨q, q1, q2⟩ : ∃ q : Nat → Nat, (∀ j, j ≤ k + 1 → q j = p j) ∧ q (k + 1 + 1) = n := ⟨fun j => if j = k + 1 + 1 then n else p j, fun j hj => if_neg (by omega), if_pos rfl⟩
      have h3 := hb b hb1 hb2
      refine ⟨q, q2, ?_, ?_, ?_⟩
      · intro j hj
        by_cases ej : j = k + 1 + 1
        · rw [ej, q2, hb3]; exact h3.2
        · rw [q1 j (by omega)]; exact p2 j (by omega)
      · intro j hj
        by_cases ej : j = k + 1
        · rw [ej, q2]; exact h
        · rw [q1 (j + 1) (by omega)]; exact p3 j (by omega)
      · intro j hj
        by_cases ej : j = k + 1
        · rw [ej, q2, q1 (k + 1) (Nat.le_refl _), p1, e]; exact Nat.le_add_right _ _
        · rw [q1 (j + 1) (by omega), q1 j (by omega)]; exact p4 j (by omega)
theorem bf_d12 (hb : ∀ a, a < 24 → act a = true → fr a < 12 ∧ tg a < 12) (s n : Nat) : bf_d act fr tg wt s 12 n = bf_d act fr tg wt s 11 n := by
  have h0 := bf_d_m1 act fr tg wt s 11 n
  by_cases h : bf_d act fr tg wt s (11 + 1) n < bf_d act fr tg wt s 11 n
  · exfalso
    obtain ⟨p, p1, p2, p3, p4⟩ := bf_ch act fr tg wt hb s 11 n h
    have pm : ∀ j, j ≤ 12 → ∀ i, i ≤ j → bf_d act fr tg wt s i (p i) ≤ bf_d act fr tg wt s j (p j) := by
      intro j
      induction j with
      | zero => intro _ i hi; rw [show i = 0 by omega]; exact Nat.le_refl _
      | succ j ih =>
        intro hj i hi
        by_cases e : i = j + 1
        · rw [e]; exact Nat.le_refl _
        · exact Nat.le_trans (ih (by omega) i (by omega)) (p4 j (by omega))
    obtain ⟨i, j, hij, hj, e⟩ := gv_ph 12 p p2
    obtain ⟨j', rfl⟩ : ∃ j', j = j' + 1 := ⟨j - 1, by omega⟩
    have g1 := p3 j' (by omega)
    have g2 := bf_d_mono act fr tg wt s (p (j' + 1)) j' i (by omega)
    have g3 := pm (j' + 1) hj i (by omega)
    rw [e] at g3
    omega
  · exact Nat.le_antisymm h0 (Nat.le_of_not_lt h)
theorem bf_it_d (s : Nat) : ∀ k j, bf_it act fr tg wt s k j ≤ bf_d act fr tg wt s k j := by
  intro k
  induction k with
  | zero => intro j; exact Nat.le_refl _
  | succ k ih =>
    intro j
    rw [bf_it_s, bf_d_s]
    rcases bf_sy_or act fr tg wt (bf_d act fr tg wt s k) 24 j with e | ⟨b, hb1, hb2, hb3, e⟩
    · rw [e]; exact Nat.le_trans (bf_ps_le act fr tg wt _ 24 j) (ih j)
    · rw [e, hb3]
      have h1 := bf_ps_ar act fr tg wt (bf_it act fr tg wt s k) 24 b hb1 hb2
      have h2 := ih (fr b)
      omega
theorem bf_d_it (hb : ∀ a, a < 24 → act a = true → fr a < 12 ∧ tg a < 12) (s : Nat) : ∀ k j, bf_d act fr tg wt s 11 j ≤ bf_it act fr tg wt s k j := by
  intro k
  induction k with
  | zero => intro j; exact bf_d_mono act fr tg wt s j 11 0 (by omega)
  | succ k ih =>
    rw [bf_it_s]
    refine bf_ps_D act fr tg wt ?_ ih 24 (Nat.le_refl _)
    intro a ha h
    rw [← bf_d12 act fr tg wt hb s (tg a)]
    exact bf_sy_ar act fr tg wt (bf_d act fr tg wt s 11) 24 a ha h
/-- the twelfth pass changes nothing -/
theorem bf_fix (hb : ∀ a, a < 24 → act a = true → fr a < 12 ∧ tg a < 12) (s : Nat) : bf_it act fr tg wt s 12 = bf_it act fr tg wt s 11 := by
  funext j
  have h1 := bf_it_d act fr tg wt s 12 j
  have h2 := bf_it_d act fr tg wt s 11 j
  have h3 := bf_d_it act fr tg wt hb s 12 j
  have h4 := bf_d_it act fr tg wt hb s 11 j
  have h5 := bf_d12 act fr tg wt hb s j
  omega
def bf_B (t : Nat) (c : Nat → Nat) : Prop := ∀ j, c j = 1000000 ∨ c j ≤ 99 * t
theorem bf_B_rl {t : Nat} {c : Nat → Nat} {a : Nat} (ht : t ≤ 400) (hw : act a = true → wt a ≤ 99) (h : bf_B t c) : bf_B (t + 1) (bf_rl act fr tg wt c a) := by
  intro j
  have hj := h j
  by_cases g : act a = true ∧ j = tg a ∧ c (fr a) + wt a < c j
  · rw [bf_rl_t act fr tg wt g]
    have h1 := h (fr a)
    have h2 := hw g.1
    have h3 := g.2.2
    omega
  · rw [bf_rl_f act fr tg wt g]; omega
theorem bf_B_ps {t : Nat} {c : Nat → Nat} (hw : ∀ a, a < 24 → act a = true → wt a ≤ 99) (h : bf_B t c) : ∀ a, a ≤ 24 → t + a ≤ 400 → bf_B (t + a) (bf_ps act fr tg wt c a) := by
  intro a
  induction a with
  | zero => intro _ _; exact h
  | succ a ih =>
    intro ha ht
    rw [bf_ps_s]
    exact bf_B_rl act fr tg wt (t := t + a) (by omega) (hw a (by omega)) (ih (by omega) (by omega))
theorem bf_B_it (hw : ∀ a, a < 24 → act a = true → wt a ≤ 99) (s : Nat) : ∀ k, k ≤ 12 → bf_B (24 * k) (bf_it act fr tg wt s k) := by
  intro k
  induction k with
  | zero =>
    intro _ j
    show (if j = s then 0 else 1000000) = 1000000 ∨ (if j = s then 0 else 1000000) ≤ 99 * (24 * 0)
    split
    · exact Or.inr (Nat.zero_le _)
    · exact Or.inl rfl
  | succ k ih =>
    intro hk
    rw [bf_it_s, show 24 * (k + 1) = 24 * k + 24 by omega]
    exact bf_B_ps act fr tg wt hw (ih (by omega)) 24 (Nat.le_refl _) (by omega)
/-- what is reached lies in every closed set -/
theorem bf_ps_S {S : Nat → Prop} (hS : ∀ a, a < 24 → act a = true → S (fr a) → S (tg a)) {c : Nat → Nat} (hc : ∀ m, c m < 1000000 → S m) : ∀ a, a ≤ 24 → ∀ m, bf_ps act fr tg wt c a m < 1000000 → S m := by
  intro a
  induction a with
  | zero => intro _; exact hc
  | succ a ih =>
    intro ha m
    rw [bf_ps_s]
    have ih2 := ih (by omega)
    by_cases g : act a = true ∧ m = tg a ∧ bf_ps act fr tg wt c a (fr a) + wt a < bf_ps act fr tg wt c a m
    · rw [bf_rl_t act fr tg wt g]
      intro h
      rw [g.2.1]
      exact hS a (by omega) g.1 (ih2 (fr a) (by omega))
    · rw [bf_rl_f act fr tg wt g]; exact ih2 m
theorem bf_it_S {S : Nat → Prop} (hS : ∀ a, a < 24 → act a = true → S (fr a) → S (tg a)) {s : Nat} (hs : S s) : ∀ k m, bf_it act fr tg wt s k m < 1000000 → S m := by
  intro k
  induction k with
  | zero =>
    intro m h
    by_cases e : m = s
    · rw [e]; exact hs
    · have h2 : bf_it act fr tg wt s 0 m = 1000000 := if_neg e
      omega
  | succ k ih => rw [bf_it_s]; exact bf_ps_S act fr tg wt hS ih 24 (Nat.le_refl _)
theorem bf_it_self (s : Nat) : ∀ k, bf_it act fr tg wt s k s = 0 := by
  intro k
  induction k with
  | zero => exact if_pos rfl
  | succ k ih =>
    rw [bf_it_s]
    have h := bf_ps_le act fr tg wt (bf_it act fr tg wt s k) 24 s
    omega
theorem bf_it_cl (hb : ∀ a, a < 24 → act a = true → fr a < 12 ∧ tg a < 12) (hw : ∀ a, a < 24 → act a = true → wt a ≤ 99) (s : Nat) : ∀ a, a < 24 → act a = true → bf_it act fr tg wt s 12 (fr a) < 1000000 → bf_it act fr tg wt s 12 (tg a) < 1000000 := by
  intro a ha h h1
  have h2 : bf_it act fr tg wt s 12 (tg a) ≤ bf_it act fr tg wt s 11 (fr a) + wt a := bf_ps_ar act fr tg wt (bf_it act fr tg wt s 11) 24 a ha h
  rw [← bf_fix act fr tg wt hb s] at h2
  have h3 := bf_B_it act fr tg wt hw s 12 (Nat.le_refl _) (fr a)
  have h4 := hw a ha h
  omega
end
end
section
/-! masks: the closure over every middle node is what is reached -/
theorem wa_1 : ∀ n, n < 12 → ∀ m, m < 12 → bt ((1 : Int32) <<< (nI n &&& 31)) m = decide (m = n) := by decide +kernel
theorem wa_b1 : ∀ i, i < 32 → bt 1 i = decide (i = 0) := by decide +kernel
theorem wa_and1 (y : Int32) : y &&& 1 = 1 ↔ bt y 0 = true := by
  constructor
  · intro h
    have h1 : bt (y &&& 1) 0 = bt 1 0 := congrArg (fun z => bt z 0) h
    rw [b_and, wa_b1 0 (by decide)] at h1
    cases hb : bt y 0
    · rw [hb] at h1; exact absurd h1 (by decide)
    · rfl
  · intro h
    apply b_ext
    intro i hi
    rw [b_and, wa_b1 i hi]
    by_cases e : i = 0
    · rw [e, h]; rfl
    · rw [decide_eq_false e, Bool.and_false]
theorem wa_bit {m : Nat} (hm : m < 12) (x : Int32) : (x >>> (nI m &&& 31)) &&& 1 = 1 ↔ bt x m = true := by
  rw [wa_and1, b_sshr m (by omega) x (by decide), if_pos (by omega)]
  exact Iff.rfl
def wa_J (act : Nat → Bool) (fr tg wt : Nat → Nat) (k : Nat) (f : Nat → Int32) : Prop := (∀ n, n < 12 → bt (f n) n = true) ∧ (∀ a, a < k → act a = true → bt (f (fr a)) (tg a) = true) ∧ (∀ n, n < 12 → ∀ m, m < 12 → bt (f n) m = true → bf_it act fr tg wt n 12 m < 1000000)
def wa_I (act : Nat → Bool) (fr tg wt : Nat → Nat) (k : Nat) (f : Nat → Int32) : Prop := wa_J act fr tg wt 24 f ∧ (∀ j, j < k → ∀ n, n < 12 → ∀ m, m < 12 → bt (f n) j = true → bt (f j) m = true → bt (f n) m = true)
section
variable (act : Nat → Bool) (fr tg wt : Nat → Nat)
theorem wa_J0 {f : Nat → Int32} (h : ∀ n, n < 12 → f n = (1 : Int32) <<< (nI n &&& 31)) : wa_J act fr tg wt 0 f := by
  refine ⟨?_, ?_, ?_⟩
  · intro n hn
    rw [h n hn, wa_1 n hn n hn]; exact decide_eq_true rfl
  · intro a ha; exact absurd ha (Nat.not_lt_zero _)
  · intro n hn m hm z
    rw [h n hn, wa_1 n hn m hm] at z
    rw [of_decide_eq_true z, bf_it_self]; decide
theorem wa_Jn {k : Nat} {f : Nat → Int32} (h : ¬ act k = true) (J : wa_J act fr tg wt k f) : wa_J act fr tg wt (k + 1) f := by
  refine ⟨J.1, ?_, J.2.2⟩
  intro a ha z
  by_cases e : a = k
  · rw [e] at z; exact absurd z h
  · exact J.2.1 a (by omega) z
theorem wa_Jt (hb : ∀ a, a < 24 → act a = true → fr a < 12 ∧ tg a < 12) (hw : ∀ a, a < 24 → act a = true → wt a ≤ 99) {k : Nat} {f g : Nat → Int32} (hk : k < 24) (h : act k = true) (J : wa_J act fr tg wt k f) (h1 : g (fr k) = f (fr k) ||| (1 : Int32) <<< (nI (tg k) &&& 31)) (h2 : ∀ n, n < 12 → n ≠ fr k → g n = f n) : wa_J act fr tg wt (k + 1) g := by
  have hk2 := hb k hk h
  have up : ∀ n, n < 12 → ∀ m, bt (f n) m = true → bt (g n) m = true := by
    intro n hn m z
    by_cases e : n = fr k
    · subst e; rw [h1, b_or, z, Bool.true_or]
    · rw [h2 n hn e]; exact z
  refine ⟨fun n hn => up n hn n (J.1 n hn), ?_, ?_⟩
  · intro a ha z
    by_cases e : a = k
    · rw [e, h1, b_or, wa_1 _ hk2.2 _ hk2.2, decide_eq_true rfl, Bool.or_true]
    · exact up _ (hb a (by omega) z).1 _ (J.2.1 a (by omega) z)
  · intro n hn m hm z
    by_cases e : n = fr k
    · rw [e, h1, b_or, wa_1 _ hk2.2 _ hm, Bool.or_eq_true] at z
      rw [e]
      rcases z with z | z
      · exact J.2.2 _ hk2.1 m hm z
      · rw [of_decide_eq_true z]
        refine bf_it_cl act fr tg wt hb hw (fr k) k hk h ?_
        rw [bf_it_self]; decide
    · rw [h2 n hn e] at z; exact J.2.2 n hn m hm z
theorem wa_I0 {f : Nat → Int32} (J : wa_J act fr tg wt 24 f) : wa_I act fr tg wt 0 f := ⟨J, fun j hj => absurd hj (Nat.not_lt_zero _)⟩
theorem wa_st (hb : ∀ a, a < 24 → act a = true → fr a < 12 ∧ tg a < 12) (hw : ∀ a, a < 24 → act a = true → wt a ≤ 99) {k : Nat} {f g : Nat → Int32} (hk : k < 12) (I : wa_I act fr tg wt k f) (hg : ∀ n, n < 12 → g n = if bt (f n) k = true then f n ||| f k else f n) : wa_I act fr tg wt (k + 1) g := by
  have hi : ∀ n, n < 12 → ∀ m, bt (g n) m = true ↔ (bt (f n) m = true ∨ (bt (f n) k = true ∧ bt (f k) m = true)) := by
    intro n hn m
    rw [hg n hn]
    by_cases z : bt (f n) k = true
    · rw [if_pos z, b_or, Bool.or_eq_true]
      constructor
      · intro h
        rcases h with h | h
        · exact Or.inl h
        · exact Or.inr ⟨z, h⟩
      · intro h
        rcases h with h | h
        · exact Or.inl h
        · exact Or.inr h.2
    · rw [if_neg z]
      constructor
      · intro h; exact Or.inl h
      · intro h
        rcases h with h | h
        · exact h
        · exact absurd h.1 z
  obtain ⟨⟨J1, J2, J3⟩, C⟩ := I
  refine ⟨⟨?_, ?_, ?_⟩, ?_⟩
  · intro n hn; exact (hi n hn n).mpr (Or.inl (J1 n hn))
  · intro a ha z; exact (hi _ (hb a ha z).1 _).mpr (Or.inl (J2 a ha z))
  · intro n hn m hm z
    rcases (hi n hn m).mp z with h | ⟨h1, h2⟩
    · exact J3 n hn m hm h
    · have q1 := J3 n hn k hk h1
      have q2 := J3 k hk m hm h2
      exact bf_it_S act fr tg wt (S := fun x => bf_it act fr tg wt n 12 x < 1000000) (bf_it_cl act fr tg wt hb hw n) q1 12 m q2
  · intro j hj n hn m hm z1 z2
    have h1 := (hi n hn j).mp z1
    have h2 := (hi j (by omega) m).mp z2
    refine (hi n hn m).mpr ?_
    by_cases e : j = k
    · subst e
      have a1 : bt (f n) j = true := by
        rcases h1 with h | h
        · exact h
        · exact h.1
      have a2 : bt (f j) m = true := by
        rcases h2 with h | h
        · exact h
        · exact h.2
      exact Or.inr ⟨a1, a2⟩
    · have hj2 : j < k := by omega
      rcases h1 with h1 | ⟨h1, h1'⟩
      · rcases h2 with h2 | ⟨h2, h2'⟩
        · exact Or.inl (C j hj2 n hn m hm h1 h2)
        · exact Or.inr ⟨C j hj2 n hn k hk h1 h2, h2'⟩
      · rcases h2 with h2 | ⟨h2, h2'⟩
        · exact Or.inr ⟨h1, C j hj2 k hk m hm h1' h2⟩
        · exact Or.inr ⟨h1, h2'⟩
theorem wa_iff (hb : ∀ a, a < 24 → act a = true → fr a < 12 ∧ tg a < 12) {f : Nat → Int32} (I : wa_I act fr tg wt 12 f) {n m : Nat} (hn : n < 12) (hm : m < 12) : bt (f n) m = true ↔ bf_it act fr tg wt n 12 m < 1000000 := by
  obtain ⟨⟨J1, J2, J3⟩, C⟩ := I
  constructor
  · exact J3 n hn m hm
  · intro h
    refine (bf_it_S act fr tg wt (S := fun x => x < 12 ∧ bt (f n) x = true) ?_ ⟨hn, J1 n hn⟩ 12 m h).2
    intro a ha z hx
    exact ⟨(hb a ha z).2, C (fr a) hx.1 n hn (tg a) (hb a ha z).2 hx.2 (J2 a ha z)⟩
end
end
section
/-! the picture of one depth: the component's eight arrays at depth d against one row of 156 cells -/
def gx_px (d : Nat) (t l v e f g y h w : Nat → Int32) : Prop := (∀ n, n < 12 → t (d * 12 + n) = w n ∧ l (d * 12 + n) = w (12 + n) ∧ v (d * 12 + n) = w (24 + n)) ∧ (∀ a, a < 24 → e (d * 24 + a) = w (36 + a) ∧ f (d * 24 + a) = w (60 + a) ∧ g (d * 24 + a) = w (84 + a) ∧ y (d * 24 + a) = w (108 + a) ∧ h (d * 24 + a) = w (132 + a))
/-! a good arrow, a good picture -/
def gx_ga (w : Nat → Int32) (e f g y h : Int32) : Prop := (e = 0 ∨ e = 1) ∧ (∃ j, j < 12 ∧ f = nI j ∧ (e = 1 → w j = 1)) ∧ (∃ j, j < 12 ∧ g = nI j ∧ (e = 1 → w j = 1)) ∧ (∃ j, j < 4 ∧ y = nI j) ∧ (∃ j, j ≤ 99 ∧ h = nI j)
def gx_gd (w : Nat → Int32) : Prop := (∀ n, n < 12 → (w n = 0 ∨ w n = 1) ∧ ∃ j, j < 8 ∧ w (12 + n) = nI j) ∧ (∀ a, a < 24 → gx_ga w (w (36 + a)) (w (60 + a)) (w (84 + a)) (w (108 + a)) (w (132 + a)))
def gx_f (w : Nat → Int32) (a : Nat) : Nat := (w (60 + a)).toNatClampNeg
def gx_g (w : Nat → Int32) (a : Nat) : Nat := (w (84 + a)).toNatClampNeg
def gx_h (w : Nat → Int32) (a : Nat) : Nat := (w (132 + a)).toNatClampNeg
def gx_of (w : Nat → Int32) (ty : Int32) (a : Nat) : Bool := decide (w (36 + a) = 1) && (decide (ty = 4) || decide (w (108 + a) = ty))
def gx_mt (w : Nat → Int32) (n ty wy : Int32) (a : Nat) : Bool := gx_of w ty a && ((decide (wy ≠ 1) && decide (w (60 + a) = n)) || (decide (wy ≠ 0) && decide (w (84 + a) = n)))
theorem gx_fd {w : Nat → Int32} (G : gx_gd w) {a : Nat} (ha : a < 24) : gx_f w a < 12 ∧ w (60 + a) = nI (gx_f w a) ∧ (w (36 + a) = 1 → w (gx_f w a) = 1) := by
  obtain ⟨j, hj, e1, e2⟩ := (G.2 a ha).2.1
  have e3 : gx_f w a = j := by
    show (w (60 + a)).toNatClampNeg = j
    rw [e1, nI_clamp (by omega)]
  rw [e3]
  exact ⟨hj, e1, e2⟩
theorem gx_gd_ {w : Nat → Int32} (G : gx_gd w) {a : Nat} (ha : a < 24) : gx_g w a < 12 ∧ w (84 + a) = nI (gx_g w a) ∧ (w (36 + a) = 1 → w (gx_g w a) = 1) := by
  obtain ⟨j, hj, e1, e2⟩ := (G.2 a ha).2.2.1
  have e3 : gx_g w a = j := by
    show (w (84 + a)).toNatClampNeg = j
    rw [e1, nI_clamp (by omega)]
  rw [e3]
  exact ⟨hj, e1, e2⟩
theorem gx_hd {w : Nat → Int32} (G : gx_gd w) {a : Nat} (ha : a < 24) : gx_h w a ≤ 99 ∧ w (132 + a) = nI (gx_h w a) := by
  obtain ⟨j, hj, e1⟩ := (G.2 a ha).2.2.2.2
  have e3 : gx_h w a = j := by
    show (w (132 + a)).toNatClampNeg = j
    rw [e1, nI_clamp (by omega)]
  rw [e3]
  exact ⟨hj, e1⟩
theorem gx_of1 {w : Nat → Int32} {ty : Int32} {a : Nat} (h : gx_of w ty a = true) : w (36 + a) = 1 := by
  unfold gx_of at h
  rw [Bool.and_eq_true] at h
  exact of_decide_eq_true h.1
theorem gx_hb {w : Nat → Int32} (G : gx_gd w) (ty : Int32) : ∀ a, a < 24 → gx_of w ty a = true → gx_f w a < 12 ∧ gx_g w a < 12 := fun _ ha _ => ⟨(gx_fd G ha).1, (gx_gd_ G ha).1⟩
theorem gx_px_ext {d : Nat} {t l v e f g y h w t' l' v' e' f' g' y' h' w' : Nat → Int32} (P : gx_px d t l v e f g y h w) (hn : ∀ n, n < 12 → t' (d * 12 + n) = t (d * 12 + n) ∧ l' (d * 12 + n) = l (d * 12 + n) ∧ v' (d * 12 + n) = v (d * 12 + n)) (ha : ∀ a, a < 24 → e' (d * 24 + a) = e (d * 24 + a) ∧ f' (d * 24 + a) = f (d * 24 + a) ∧ g' (d * 24 + a) = g (d * 24 + a) ∧ y' (d * 24 + a) = y (d * 24 + a) ∧ h' (d * 24 + a) = h (d * 24 + a)) (hw : ∀ j, j < 156 → w' j = w j) : gx_px d t' l' v' e' f' g' y' h' w' := by
  refine ⟨fun n z => ?_, fun a z => ?_⟩
  · obtain ⟨p1, p2, p3⟩ := P.1 n z
    obtain ⟨q1, q2, q3⟩ := hn n z
    exact ⟨q1.trans (p1.trans (hw _ (by omega)).symm), q2.trans (p2.trans (hw _ (by omega)).symm), q3.trans (p3.trans (hw _ (by omega)).symm)⟩
  · obtain ⟨p1, p2, p3, p4, p5⟩ := P.2 a z
    obtain ⟨q1, q2, q3, q4, q5⟩ := ha a z
    exact ⟨q1.trans (p1.trans (hw _ (by omega)).symm), q2.trans (p2.trans (hw _ (by omega)).symm), q3.trans (p3.trans (hw _ (by omega)).symm), q4.trans (p4.trans (hw _ (by omega)).symm), q5.trans (p5.trans (hw _ (by omega)).symm)⟩
theorem gx_ga_w {w w' : Nat → Int32} {e f g y h : Int32} (hw : ∀ j, j < 12 → w j = 1 → w' j = 1) (H : gx_ga w e f g y h) : gx_ga w' e f g y h := by
  obtain ⟨h1, ⟨j, hj, e2, h2⟩, ⟨i, hi, e3, h3⟩, h4, h5⟩ := H
  exact ⟨h1, ⟨j, hj, e2, fun z => hw j hj (h2 z)⟩, ⟨i, hi, e3, fun z => hw i hi (h3 z)⟩, h4, h5⟩
theorem gx_gd_ext {w w' : Nat → Int32} (G : gx_gd w) (hw : ∀ j, j < 156 → w' j = w j) : gx_gd w' := by
  refine ⟨fun n z => ?_, fun a z => ?_⟩
  · rw [hw n (by omega), hw (12 + n) (by omega)]; exact G.1 n z
  · rw [hw (36 + a) (by omega), hw (60 + a) (by omega), hw (84 + a) (by omega), hw (108 + a) (by omega), hw (132 + a) (by omega)]
    exact gx_ga_w (fun j hj e => (hw j (by omega)).trans e) (G.2 a z)
theorem gx_gd0 : gx_gd (fun _ => 0) := ⟨fun _ _ => ⟨Or.inl rfl, 0, by omega, rfl⟩, fun _ _ => ⟨Or.inl rfl, ⟨0, by omega, rfl, fun z => absurd (show (0 : Int32) = 1 from z) (by decide)⟩, ⟨0, by omega, rfl, fun z => absurd (show (0 : Int32) = 1 from z) (by decide)⟩, ⟨0, by omega, rfl⟩, ⟨0, by omega, rfl⟩⟩⟩
theorem gx_ut {d : Nat} {t l v e f g y h w : Nat → Int32} (P : gx_px d t l v e f g y h w) {k : Nat} (hk : k < 12) (x : Int32) : gx_px d (upd t (d * 12 + k) x) l v e f g y h (upd w (k) x) := by
  refine ⟨fun n z => ?_, fun a z => ?_⟩
  · obtain ⟨p1, p2, p3⟩ := P.1 n z
    by_cases q : n = k
    · subst q
      exact ⟨pk_us.trans pk_us.symm, p2.trans (pk_un (by omega)).symm, p3.trans (pk_un (by omega)).symm⟩
    · exact ⟨(pk_un (by omega)).trans (p1.trans (pk_un (by omega)).symm), p2.trans (pk_un (by omega)).symm, p3.trans (pk_un (by omega)).symm⟩
  · obtain ⟨p1, p2, p3, p4, p5⟩ := P.2 a z
    exact ⟨p1.trans (pk_un (by omega)).symm, p2.trans (pk_un (by omega)).symm, p3.trans (pk_un (by omega)).symm, p4.trans (pk_un (by omega)).symm, p5.trans (pk_un (by omega)).symm⟩
theorem gx_qt {d o : Nat} {t l v e f g y h w : Nat → Int32} (P : gx_px d t l v e f g y h w) {k : Nat} (hk : k < 12) (ho : d < o) (x : Int32) : gx_px d (upd t (o * 12 + k) x) l v e f g y h w := by
  exact gx_px_ext P (fun n z => ⟨pk_un (by omega), rfl, rfl⟩) (fun a z => ⟨rfl, rfl, rfl, rfl, rfl⟩) (fun _ _ => rfl)
theorem gx_ul {d : Nat} {t l v e f g y h w : Nat → Int32} (P : gx_px d t l v e f g y h w) {k : Nat} (hk : k < 12) (x : Int32) : gx_px d t (upd l (d * 12 + k) x) v e f g y h (upd w (12 + k) x) := by
  refine ⟨fun n z => ?_, fun a z => ?_⟩
  · obtain ⟨p1, p2, p3⟩ := P.1 n z
    by_cases q : n = k
    · subst q
      exact ⟨p1.trans (pk_un (by omega)).symm, pk_us.trans pk_us.symm, p3.trans (pk_un (by omega)).symm⟩
    · exact ⟨p1.trans (pk_un (by omega)).symm, (pk_un (by omega)).trans (p2.trans (pk_un (by omega)).symm), p3.trans (pk_un (by omega)).symm⟩
  · obtain ⟨p1, p2, p3, p4, p5⟩ := P.2 a z
    exact ⟨p1.trans (pk_un (by omega)).symm, p2.trans (pk_un (by omega)).symm, p3.trans (pk_un (by omega)).symm, p4.trans (pk_un (by omega)).symm, p5.trans (pk_un (by omega)).symm⟩
theorem gx_ql {d o : Nat} {t l v e f g y h w : Nat → Int32} (P : gx_px d t l v e f g y h w) {k : Nat} (hk : k < 12) (ho : d < o) (x : Int32) : gx_px d t (upd l (o * 12 + k) x) v e f g y h w := by
  exact gx_px_ext P (fun n z => ⟨rfl, pk_un (by omega), rfl⟩) (fun a z => ⟨rfl, rfl, rfl, rfl, rfl⟩) (fun _ _ => rfl)
theorem gx_uv {d : Nat} {t l v e f g y h w : Nat → Int32} (P : gx_px d t l v e f g y h w) {k : Nat} (hk : k < 12) (x : Int32) : gx_px d t l (upd v (d * 12 + k) x) e f g y h (upd w (24 + k) x) := by
  refine ⟨fun n z => ?_, fun a z => ?_⟩
  · obtain ⟨p1, p2, p3⟩ := P.1 n z
    by_cases q : n = k
    · subst q
      exact ⟨p1.trans (pk_un (by omega)).symm, p2.trans (pk_un (by omega)).symm, pk_us.trans pk_us.symm⟩
    · exact ⟨p1.trans (pk_un (by omega)).symm, p2.trans (pk_un (by omega)).symm, (pk_un (by omega)).trans (p3.trans (pk_un (by omega)).symm)⟩
  · obtain ⟨p1, p2, p3, p4, p5⟩ := P.2 a z
    exact ⟨p1.trans (pk_un (by omega)).symm, p2.trans (pk_un (by omega)).symm, p3.trans (pk_un (by omega)).symm, p4.trans (pk_un (by omega)).symm, p5.trans (pk_un (by omega)).symm⟩
theorem gx_qv {d o : Nat} {t l v e f g y h w : Nat → Int32} (P : gx_px d t l v e f g y h w) {k : Nat} (hk : k < 12) (ho : d < o) (x : Int32) : gx_px d t l (upd v (o * 12 + k) x) e f g y h w := by
  exact gx_px_ext P (fun n z => ⟨rfl, rfl, pk_un (by omega)⟩) (fun a z => ⟨rfl, rfl, rfl, rfl, rfl⟩) (fun _ _ => rfl)
theorem gx_ue {d : Nat} {t l v e f g y h w : Nat → Int32} (P : gx_px d t l v e f g y h w) {k : Nat} (hk : k < 24) (x : Int32) : gx_px d t l v (upd e (d * 24 + k) x) f g y h (upd w (36 + k) x) := by
  refine ⟨fun n z => ?_, fun a z => ?_⟩
  · obtain ⟨p1, p2, p3⟩ := P.1 n z
    exact ⟨p1.trans (pk_un (by omega)).symm, p2.trans (pk_un (by omega)).symm, p3.trans (pk_un (by omega)).symm⟩
  · obtain ⟨p1, p2, p3, p4, p5⟩ := P.2 a z
    by_cases q : a = k
    · subst q
      exact ⟨pk_us.trans pk_us.symm, p2.trans (pk_un (by omega)).symm, p3.trans (pk_un (by omega)).symm, p4.trans (pk_un (by omega)).symm, p5.trans (pk_un (by omega)).symm⟩
    · exact ⟨(pk_un (by omega)).trans (p1.trans (pk_un (by omega)).symm), p2.trans (pk_un (by omega)).symm, p3.trans (pk_un (by omega)).symm, p4.trans (pk_un (by omega)).symm, p5.trans (pk_un (by omega)).symm⟩
theorem gx_qe {d o : Nat} {t l v e f g y h w : Nat → Int32} (P : gx_px d t l v e f g y h w) {k : Nat} (hk : k < 24) (ho : d < o) (x : Int32) : gx_px d t l v (upd e (o * 24 + k) x) f g y h w := by
  exact gx_px_ext P (fun n z => ⟨rfl, rfl, rfl⟩) (fun a z => ⟨pk_un (by omega), rfl, rfl, rfl, rfl⟩) (fun _ _ => rfl)
theorem gx_uf {d : Nat} {t l v e f g y h w : Nat → Int32} (P : gx_px d t l v e f g y h w) {k : Nat} (hk : k < 24) (x : Int32) : gx_px d t l v e (upd f (d * 24 + k) x) g y h (upd w (60 + k) x) := by
  refine ⟨fun n z => ?_, fun a z => ?_⟩
  · obtain ⟨p1, p2, p3⟩ := P.1 n z
    exact ⟨p1.trans (pk_un (by omega)).symm, p2.trans (pk_un (by omega)).symm, p3.trans (pk_un (by omega)).symm⟩
  · obtain ⟨p1, p2, p3, p4, p5⟩ := P.2 a z
    by_cases q : a = k
    · subst q
      exact ⟨p1.trans (pk_un (by omega)).symm, pk_us.trans pk_us.symm, p3.trans (pk_un (by omega)).symm, p4.trans (pk_un (by omega)).symm, p5.trans (pk_un (by omega)).symm⟩
    · exact ⟨p1.trans (pk_un (by omega)).symm, (pk_un (by omega)).trans (p2.trans (pk_un (by omega)).symm), p3.trans (pk_un (by omega)).symm, p4.trans (pk_un (by omega)).symm, p5.trans (pk_un (by omega)).symm⟩
theorem gx_qf {d o : Nat} {t l v e f g y h w : Nat → Int32} (P : gx_px d t l v e f g y h w) {k : Nat} (hk : k < 24) (ho : d < o) (x : Int32) : gx_px d t l v e (upd f (o * 24 + k) x) g y h w := by
  exact gx_px_ext P (fun n z => ⟨rfl, rfl, rfl⟩) (fun a z => ⟨rfl, pk_un (by omega), rfl, rfl, rfl⟩) (fun _ _ => rfl)
theorem gx_ug {d : Nat} {t l v e f g y h w : Nat → Int32} (P : gx_px d t l v e f g y h w) {k : Nat} (hk : k < 24) (x : Int32) : gx_px d t l v e f (upd g (d * 24 + k) x) y h (upd w (84 + k) x) := by
  refine ⟨fun n z => ?_, fun a z => ?_⟩
  · obtain ⟨p1, p2, p3⟩ := P.1 n z
    exact ⟨p1.trans (pk_un (by omega)).symm, p2.trans (pk_un (by omega)).symm, p3.trans (pk_un (by omega)).symm⟩
  · obtain ⟨p1, p2, p3, p4, p5⟩ := P.2 a z
    by_cases q : a = k
    · subst q
      exact ⟨p1.trans (pk_un (by omega)).symm, p2.trans (pk_un (by omega)).symm, pk_us.trans pk_us.symm, p4.trans (pk_un (by omega)).symm, p5.trans (pk_un (by omega)).symm⟩
    · exact ⟨p1.trans (pk_un (by omega)).symm, p2.trans (pk_un (by omega)).symm, (pk_un (by omega)).trans (p3.trans (pk_un (by omega)).symm), p4.trans (pk_un (by omega)).symm, p5.trans (pk_un (by omega)).symm⟩
theorem gx_qg {d o : Nat} {t l v e f g y h w : Nat → Int32} (P : gx_px d t l v e f g y h w) {k : Nat} (hk : k < 24) (ho : d < o) (x : Int32) : gx_px d t l v e f (upd g (o * 24 + k) x) y h w := by
  exact gx_px_ext P (fun n z => ⟨rfl, rfl, rfl⟩) (fun a z => ⟨rfl, rfl, pk_un (by omega), rfl, rfl⟩) (fun _ _ => rfl)
theorem gx_uy {d : Nat} {t l v e f g y h w : Nat → Int32} (P : gx_px d t l v e f g y h w) {k : Nat} (hk : k < 24) (x : Int32) : gx_px d t l v e f g (upd y (d * 24 + k) x) h (upd w (108 + k) x) := by
  refine ⟨fun n z => ?_, fun a z => ?_⟩
  · obtain ⟨p1, p2, p3⟩ := P.1 n z
    exact ⟨p1.trans (pk_un (by omega)).symm, p2.trans (pk_un (by omega)).symm, p3.trans (pk_un (by omega)).symm⟩
  · obtain ⟨p1, p2, p3, p4, p5⟩ := P.2 a z
    by_cases q : a = k
    · subst q
      exact ⟨p1.trans (pk_un (by omega)).symm, p2.trans (pk_un (by omega)).symm, p3.trans (pk_un (by omega)).symm, pk_us.trans pk_us.symm, p5.trans (pk_un (by omega)).symm⟩
    · exact ⟨p1.trans (pk_un (by omega)).symm, p2.trans (pk_un (by omega)).symm, p3.trans (pk_un (by omega)).symm, (pk_un (by omega)).trans (p4.trans (pk_un (by omega)).symm), p5.trans (pk_un (by omega)).symm⟩
theorem gx_qy {d o : Nat} {t l v e f g y h w : Nat → Int32} (P : gx_px d t l v e f g y h w) {k : Nat} (hk : k < 24) (ho : d < o) (x : Int32) : gx_px d t l v e f g (upd y (o * 24 + k) x) h w := by
  exact gx_px_ext P (fun n z => ⟨rfl, rfl, rfl⟩) (fun a z => ⟨rfl, rfl, rfl, pk_un (by omega), rfl⟩) (fun _ _ => rfl)
theorem gx_uh {d : Nat} {t l v e f g y h w : Nat → Int32} (P : gx_px d t l v e f g y h w) {k : Nat} (hk : k < 24) (x : Int32) : gx_px d t l v e f g y (upd h (d * 24 + k) x) (upd w (132 + k) x) := by
  refine ⟨fun n z => ?_, fun a z => ?_⟩
  · obtain ⟨p1, p2, p3⟩ := P.1 n z
    exact ⟨p1.trans (pk_un (by omega)).symm, p2.trans (pk_un (by omega)).symm, p3.trans (pk_un (by omega)).symm⟩
  · obtain ⟨p1, p2, p3, p4, p5⟩ := P.2 a z
    by_cases q : a = k
    · subst q
      exact ⟨p1.trans (pk_un (by omega)).symm, p2.trans (pk_un (by omega)).symm, p3.trans (pk_un (by omega)).symm, p4.trans (pk_un (by omega)).symm, pk_us.trans pk_us.symm⟩
    · exact ⟨p1.trans (pk_un (by omega)).symm, p2.trans (pk_un (by omega)).symm, p3.trans (pk_un (by omega)).symm, p4.trans (pk_un (by omega)).symm, (pk_un (by omega)).trans (p5.trans (pk_un (by omega)).symm)⟩
theorem gx_qh {d o : Nat} {t l v e f g y h w : Nat → Int32} (P : gx_px d t l v e f g y h w) {k : Nat} (hk : k < 24) (ho : d < o) (x : Int32) : gx_px d t l v e f g y (upd h (o * 24 + k) x) w := by
  exact gx_px_ext P (fun n z => ⟨rfl, rfl, rfl⟩) (fun a z => ⟨rfl, rfl, rfl, rfl, pk_un (by omega)⟩) (fun _ _ => rfl)
end
section
/-! the tests of arguments as pure values -/
def gx_b (b : Bool) : Int32 := if b = true then 1 else 0
theorem gx_b_t {b : Bool} (h : b = true) : gx_b b = 1 := if_pos h
theorem gx_b_f {b : Bool} (h : ¬ b = true) : gx_b b = 0 := if_neg h
theorem gx_b_ne {b : Bool} (h : ¬ gx_b b = 0) : b = true := by
  cases b
  · exact absurd rfl h
  · rfl
theorem gx_b_eq {b : Bool} (h : gx_b b = 0) : ¬ b = true := by
  cases b
  · exact fun z => absurd z (by decide)
  · exact absurd h (by decide)
def gx_N (w : Nat → Int32) (x : Int32) : Bool := decide (¬ x < 0) && (decide (¬ nI 12 ≤ x) && decide (w x.toNatClampNeg = 1))
def gx_A (w : Nat → Int32) (x : Int32) : Bool := decide (¬ x < 0) && (decide (¬ nI 24 ≤ x) && decide (w (36 + x.toNatClampNeg) = 1))
def gx_in (k : Nat) (x : Int32) : Bool := decide (¬ x < 0) && decide (x ≤ nI k)
def gx_E (w : Nat → Int32) (x : Int32) : Bool := decide (¬ x < 0) && (gx_N w (x / 12) && gx_N w (x - x / 12 * 12))
theorem gx_N_n {w : Nat → Int32} {x : Int32} (h : x < 0) : gx_N w x = false := by
  unfold gx_N; rw [decide_eq_false (fun z => z h), Bool.false_and]
theorem gx_N_b {w : Nat → Int32} {x : Int32} (h : nI 12 ≤ x) : gx_N w x = false := by
  unfold gx_N; rw [decide_eq_false (p := ¬ nI 12 ≤ x) (fun z => z h), Bool.false_and, Bool.and_false]
theorem gx_N_j {w : Nat → Int32} {j : Nat} (h : j < 12) : gx_N w (nI j) = decide (w j = 1) := by
  unfold gx_N; rw [decide_eq_true (nI_pos (by omega)), decide_eq_true (nI_ge h (by decide)), nI_clamp (by omega), Bool.true_and, Bool.true_and]
theorem gx_N_t {w : Nat → Int32} {x : Int32} (h : gx_N w x = true) : ∃ j, j < 12 ∧ x = nI j ∧ w j = 1 := by
  rcases pk_ix x (n := 12) (by omega) with z | z | ⟨j, hj, rfl⟩
  · rw [gx_N_n z] at h; exact absurd h (by decide)
  · rw [gx_N_b z] at h; exact absurd h (by decide)
  · rw [gx_N_j hj] at h; exact ⟨j, hj, rfl, of_decide_eq_true h⟩
theorem gx_A_n {w : Nat → Int32} {x : Int32} (h : x < 0) : gx_A w x = false := by
  unfold gx_A; rw [decide_eq_false (fun z => z h), Bool.false_and]
theorem gx_A_b {w : Nat → Int32} {x : Int32} (h : nI 24 ≤ x) : gx_A w x = false := by
  unfold gx_A; rw [decide_eq_false (p := ¬ nI 24 ≤ x) (fun z => z h), Bool.false_and, Bool.and_false]
theorem gx_A_j {w : Nat → Int32} {j : Nat} (h : j < 24) : gx_A w (nI j) = decide (w (36 + j) = 1) := by
  unfold gx_A; rw [decide_eq_true (nI_pos (by omega)), decide_eq_true (nI_ge h (by decide)), nI_clamp (by omega), Bool.true_and, Bool.true_and]
theorem gx_A_t {w : Nat → Int32} {x : Int32} (h : gx_A w x = true) : ∃ j, j < 24 ∧ x = nI j ∧ w (36 + j) = 1 := by
  rcases pk_ix x (n := 24) (by omega) with z | z | ⟨j, hj, rfl⟩
  · rw [gx_A_n z] at h; exact absurd h (by decide)
  · rw [gx_A_b z] at h; exact absurd h (by decide)
  · rw [gx_A_j hj] at h; exact ⟨j, hj, rfl, of_decide_eq_true h⟩
theorem gx_in_n {k : Nat} {x : Int32} (h : x < 0) : gx_in k x = false := by
  unfold gx_in; rw [decide_eq_false (fun z => z h), Bool.false_and]
theorem gx_in_b {k : Nat} {x : Int32} (h : ¬ x ≤ nI k) : gx_in k x = false := by
  unfold gx_in; rw [decide_eq_false h, Bool.and_false]
theorem gx_in_y {k : Nat} {x : Int32} (h1 : ¬ x < 0) (h : x ≤ nI k) : gx_in k x = true := by
  unfold gx_in; rw [decide_eq_true h1, decide_eq_true h]; rfl
theorem gx_in_t {k : Nat} (hk : k < 2 ^ 31) {x : Int32} (h : gx_in k x = true) : ∃ j, j ≤ k ∧ x = nI j := by
  unfold gx_in at h
  rw [Bool.and_eq_true] at h
  exact nI_of2 (M := nI k) (n := k) (nI_toInt hk) (of_decide_eq_true h.1) (of_decide_eq_true h.2)
/-! the first place at which p holds, or N -/
def gv_fi (p : Nat → Bool) : Nat → Nat → Nat
  | 0, i => i
  | d + 1, i => if p i = true then i else gv_fi p d (i + 1)
theorem gv_fi_t {p : Nat → Bool} {d i : Nat} (h : p i = true) : gv_fi p (d + 1) i = i := if_pos h
theorem gv_fi_f {p : Nat → Bool} {d i : Nat} (h : ¬ p i = true) : gv_fi p (d + 1) i = gv_fi p d (i + 1) := if_neg h
theorem gv_fi_p (p : Nat → Bool) : ∀ d i, (gv_fi p d i < i + d ∧ p (gv_fi p d i) = true) ∨ gv_fi p d i = i + d := by
  intro d
  induction d with
  | zero => intro i; exact Or.inr rfl
  | succ d ih =>
    intro i
    by_cases h : p i = true
    · rw [gv_fi_t h]; exact Or.inl ⟨by omega, h⟩
    · rw [gv_fi_f h]
      rcases ih (i + 1) with z | z
      · exact Or.inl ⟨by omega, z.2⟩
      · exact Or.inr (by omega)
/-! no place below n at which p holds -/
def gv_no (p : Nat → Bool) : Nat → Bool
  | 0 => true
  | i + 1 => gv_no p i && !(p i)
theorem gv_no_congr {p q : Nat → Bool} : ∀ i, (∀ j, j < i → p j = q j) → gv_no p i = gv_no q i := by
  intro i
  induction i with
  | zero => intro _; rfl
  | succ i ih =>
    intro h
    show (gv_no p i && !(p i)) = (gv_no q i && !(q i))
    rw [ih (fun j hj => h j (by omega)), h i (by omega)]
theorem gv_no_t {p : Nat → Bool} : ∀ i j, j < i → p j = true → gv_no p i = false := by
  intro i
  induction i with
  | zero => intro j hj; exact absurd hj (Nat.not_lt_zero _)
  | succ i ih =>
    intro j hj h
    show (gv_no p i && !(p i)) = false
    by_cases e : j = i
    · subst e; rw [h]; exact Bool.and_false _
    · rw [ih j (by omega) h]; exact Bool.false_and _
/-! good pictures stay good -/
theorem gd_t1 {w : Nat → Int32} (G : gx_gd w) {n : Nat} (hn : n < 12) : gx_gd (upd w n 1) := by
  refine ⟨fun m z => ?_, fun a z => ?_⟩
  · rw [pk_un (f := w) (j := 12 + m) (k := n) (by omega)]
    by_cases e : m = n
    · subst e; exact ⟨Or.inr pk_us, (G.1 m z).2⟩
    · rw [pk_un e]; exact G.1 m z
  · rw [pk_un (f := w) (j := 36 + a) (by omega), pk_un (f := w) (j := 60 + a) (by omega), pk_un (f := w) (j := 84 + a) (by omega), pk_un (f := w) (j := 108 + a) (by omega), pk_un (f := w) (j := 132 + a) (by omega)]
    refine gx_ga_w (fun j hj e => ?_) (G.2 a z)
    by_cases q : j = n
    · subst q; exact pk_us
    · rw [pk_un q]; exact e
theorem gd_ar {w : Nat → Int32} (G : gx_gd w) {k : Nat} (hk : 12 ≤ k) (x : Int32) (hl : ∀ n, n < 12 → k = 12 + n → ∃ j, j < 8 ∧ x = nI j) (ha : ∀ a, a < 24 → gx_ga w (upd w k x (36 + a)) (upd w k x (60 + a)) (upd w k x (84 + a)) (upd w k x (108 + a)) (upd w k x (132 + a))) : gx_gd (upd w k x) := by
  refine ⟨fun m z => ?_, fun a z => ?_⟩
  · rw [pk_un (f := w) (j := m) (k := k) (by omega)]
    refine ⟨(G.1 m z).1, ?_⟩
    by_cases e : k = 12 + m
    · obtain ⟨j, hj, ej⟩ := hl m z e
      exact ⟨j, hj, by rw [e]; exact pk_us.trans ej⟩
    · rw [pk_un (fun q => e q.symm)]; exact (G.1 m z).2
  · exact gx_ga_w (fun j hj e => (pk_un (by omega)).trans e) (ha a z)
theorem gd_l {w : Nat → Int32} (G : gx_gd w) {n : Nat} (hn : n < 12) {j : Nat} (hj : j < 8) : gx_gd (upd w (12 + n) (nI j)) := by
  refine gd_ar G (by omega) _ (fun _ _ _ => ⟨j, hj, rfl⟩) (fun a z => ?_)
  rw [pk_un (f := w) (j := 36 + a) (by omega), pk_un (f := w) (j := 60 + a) (by omega), pk_un (f := w) (j := 84 + a) (by omega), pk_un (f := w) (j := 108 + a) (by omega), pk_un (f := w) (j := 132 + a) (by omega)]
  exact G.2 a z
theorem gd_v {w : Nat → Int32} (G : gx_gd w) {n : Nat} (hn : n < 12) (x : Int32) : gx_gd (upd w (24 + n) x) := by
  refine gd_ar G (by omega) _ (fun _ _ _ => by omega) (fun a z => ?_)
  rw [pk_un (f := w) (j := 36 + a) (by omega), pk_un (f := w) (j := 60 + a) (by omega), pk_un (f := w) (j := 84 + a) (by omega), pk_un (f := w) (j := 108 + a) (by omega), pk_un (f := w) (j := 132 + a) (by omega)]
  exact G.2 a z
theorem gd_e0 {w : Nat → Int32} (G : gx_gd w) {b : Nat} (hb : b < 24) : gx_gd (upd w (36 + b) 0) := by
  refine gd_ar G (by omega) _ (fun _ _ _ => by omega) (fun a z => ?_)
  rw [pk_un (f := w) (j := 60 + a) (by omega), pk_un (f := w) (j := 84 + a) (by omega), pk_un (f := w) (j := 108 + a) (by omega), pk_un (f := w) (j := 132 + a) (by omega)]
  by_cases e : a = b
  · subst e
    rw [pk_us]
    obtain ⟨h1, ⟨j, hj, e2, h2⟩, ⟨i, hi, e3, h3⟩, h4, h5⟩ := G.2 a z
    exact ⟨Or.inl rfl, ⟨j, hj, e2, fun q => absurd q (by decide)⟩, ⟨i, hi, e3, fun q => absurd q (by decide)⟩, h4, h5⟩
  · rw [pk_un (by omega)]; exact G.2 a z
theorem gd_h {w : Nat → Int32} (G : gx_gd w) {b : Nat} (hb : b < 24) {x : Nat} (hx : x ≤ 99) : gx_gd (upd w (132 + b) (nI x)) := by
  refine gd_ar G (by omega) _ (fun _ _ _ => by omega) (fun a z => ?_)
  rw [pk_un (f := w) (j := 36 + a) (by omega), pk_un (f := w) (j := 60 + a) (by omega), pk_un (f := w) (j := 84 + a) (by omega), pk_un (f := w) (j := 108 + a) (by omega)]
  by_cases e : a = b
  · subst e
    rw [pk_us]
    obtain ⟨h1, h2, h3, h4, h5⟩ := G.2 a z
    exact ⟨h1, h2, h3, h4, ⟨x, hx, rfl⟩⟩
  · rw [pk_un (by omega)]; exact G.2 a z
/-! a new arrow: its ends, type and weight first, then that it is there -/
theorem gd_f {w : Nat → Int32} (G : gx_gd w) {b : Nat} (hb : b < 24) {x : Nat} (hx : x < 12) (hw : w x = 1) : gx_gd (upd w (60 + b) (nI x)) := by
  refine gd_ar G (by omega) _ (fun _ _ _ => by omega) (fun a z => ?_)
  rw [pk_un (f := w) (j := 36 + a) (by omega), pk_un (f := w) (j := 84 + a) (by omega), pk_un (f := w) (j := 108 + a) (by omega), pk_un (f := w) (j := 132 + a) (by omega)]
  by_cases e : a = b
  · subst e
    rw [pk_us]
    obtain ⟨h1, h2, h3, h4, h5⟩ := G.2 a z
    exact ⟨h1, ⟨x, hx, rfl, fun _ => hw⟩, h3, h4, h5⟩
  · rw [pk_un (by omega)]; exact G.2 a z
theorem gd_g {w : Nat → Int32} (G : gx_gd w) {b : Nat} (hb : b < 24) {x : Nat} (hx : x < 12) (hw : w x = 1) : gx_gd (upd w (84 + b) (nI x)) := by
  refine gd_ar G (by omega) _ (fun _ _ _ => by omega) (fun a z => ?_)
  rw [pk_un (f := w) (j := 36 + a) (by omega), pk_un (f := w) (j := 60 + a) (by omega), pk_un (f := w) (j := 108 + a) (by omega), pk_un (f := w) (j := 132 + a) (by omega)]
  by_cases e : a = b
  · subst e
    rw [pk_us]
    obtain ⟨h1, h2, h3, h4, h5⟩ := G.2 a z
    exact ⟨h1, h2, ⟨x, hx, rfl, fun _ => hw⟩, h4, h5⟩
  · rw [pk_un (by omega)]; exact G.2 a z
theorem gd_y {w : Nat → Int32} (G : gx_gd w) {b : Nat} (hb : b < 24) {x : Nat} (hx : x < 4) : gx_gd (upd w (108 + b) (nI x)) := by
  refine gd_ar G (by omega) _ (fun _ _ _ => by omega) (fun a z => ?_)
  rw [pk_un (f := w) (j := 36 + a) (by omega), pk_un (f := w) (j := 60 + a) (by omega), pk_un (f := w) (j := 84 + a) (by omega), pk_un (f := w) (j := 132 + a) (by omega)]
  by_cases e : a = b
  · subst e
    rw [pk_us]
    obtain ⟨h1, h2, h3, h4, h5⟩ := G.2 a z
    exact ⟨h1, h2, h3, ⟨x, hx, rfl⟩, h5⟩
  · rw [pk_un (by omega)]; exact G.2 a z
theorem gd_e1 {w : Nat → Int32} (G : gx_gd w) {b : Nat} (hb : b < 24) {x y : Nat} (hx : x < 12) (hy : y < 12) (wx : w x = 1) (wy : w y = 1) (ef : w (60 + b) = nI x) (eg : w (84 + b) = nI y) : gx_gd (upd w (36 + b) 1) := by
  refine gd_ar G (by omega) _ (fun _ _ _ => by omega) (fun a z => ?_)
  rw [pk_un (f := w) (j := 60 + a) (by omega), pk_un (f := w) (j := 84 + a) (by omega), pk_un (f := w) (j := 108 + a) (by omega), pk_un (f := w) (j := 132 + a) (by omega)]
  by_cases e : a = b
  · subst e
    rw [pk_us]
    obtain ⟨h1, h2, h3, h4, h5⟩ := G.2 a z
    exact ⟨Or.inr rfl, ⟨x, hx, ef, fun _ => wx⟩, ⟨y, hy, eg, fun _ => wy⟩, h4, h5⟩
  · rw [pk_un (by omega)]; exact G.2 a z
theorem gx_upd_comm (w : Nat → Int32) {i j : Nat} (h : i ≠ j) (x y : Int32) : upd (upd w i x) j y = upd (upd w j y) i x := by
  funext k
  by_cases e1 : k = i
  · subst e1; rw [pk_un h, pk_us, pk_us]
  · by_cases e2 : k = j
    · subst e2; rw [pk_us, pk_un e1, pk_us]
    · rw [pk_un e2, pk_un e1, pk_un e1, pk_un e2]
theorem gx_mt_of {w : Nat → Int32} {n : Int32} {a : Nat} (h : w (36 + a) = 1) (h2 : w (60 + a) = n ∨ w (84 + a) = n) : gx_mt w n 4 2 a = true := by
  unfold gx_mt gx_of
  rw [decide_eq_true h]
  rcases h2 with h2 | h2
  · rw [decide_eq_true h2]; rfl
  · rw [decide_eq_true (p := w (84 + a) = n) h2]
    generalize decide (w (60 + a) = n) = b
    cases b <;> rfl
/-! what drop leaves: every arrow that touches n is gone, from the first to the last -/
def dr_w (n : Int32) (w : Nat → Int32) : Nat → (Nat → Int32)
  | 0 => w
  | a + 1 => if gx_mt (dr_w n w a) n 4 2 a = true then upd (dr_w n w a) (36 + a) 0 else dr_w n w a
theorem dr_t {n : Int32} {w : Nat → Int32} {a : Nat} (h : gx_mt (dr_w n w a) n 4 2 a = true) : dr_w n w (a + 1) = upd (dr_w n w a) (36 + a) 0 := if_pos h
theorem dr_f {n : Int32} {w : Nat → Int32} {a : Nat} (h : ¬ gx_mt (dr_w n w a) n 4 2 a = true) : dr_w n w (a + 1) = dr_w n w a := if_neg h
theorem dr_out (n : Int32) (w : Nat → Int32) : ∀ a j, (j < 36 ∨ 36 + a ≤ j) → dr_w n w a j = w j := by
  intro a
  induction a with
  | zero => intro j _; rfl
  | succ a ih =>
    intro j hj
    by_cases h : gx_mt (dr_w n w a) n 4 2 a = true
    · rw [dr_t h, pk_un (by omega)]; exact ih j (by omega)
    · rw [dr_f h]; exact ih j (by omega)
theorem dr_mt (n : Int32) (w : Nat → Int32) (a : Nat) (ha : a < 24) : gx_mt (dr_w n w a) n 4 2 a = gx_mt w n 4 2 a := by
  unfold gx_mt gx_of
  rw [dr_out n w a (36 + a) (by omega), dr_out n w a (60 + a) (by omega), dr_out n w a (84 + a) (by omega), dr_out n w a (108 + a) (by omega)]
theorem dr_in (n : Int32) (w : Nat → Int32) : ∀ a, a ≤ 24 → ∀ b, b < a → dr_w n w a (36 + b) = if gx_mt w n 4 2 b = true then 0 else w (36 + b) := by
  intro a
  induction a with
  | zero => intro _ b hb; exact absurd hb (Nat.not_lt_zero _)
  | succ a ih =>
    intro ha b hb
    by_cases e : b = a
    · subst e
      by_cases h : gx_mt (dr_w n w b) n 4 2 b = true
      · rw [dr_t h, pk_us, if_pos ((dr_mt n w b (by omega)).symm.trans h)]
      · rw [dr_f h, if_neg (fun z => h ((dr_mt n w b (by omega)).trans z))]
        exact dr_out n w b (36 + b) (by omega)
    · by_cases h : gx_mt (dr_w n w a) n 4 2 a = true
      · rw [dr_t h, pk_un (by omega)]; exact ih (by omega) b (by omega)
      · rw [dr_f h]; exact ih (by omega) b (by omega)
theorem gd_drop {w : Nat → Int32} (G : gx_gd w) {n : Nat} (hn : n < 12) : gx_gd (upd (dr_w (nI n) w 24) n 0) := by
  have ho : ∀ j, (j < 36 ∨ 60 ≤ j) → dr_w (nI n) w 24 j = w j := fun j hj => dr_out (nI n) w 24 j (by omega)
  refine ⟨fun m z => ?_, fun a z => ?_⟩
  · rw [pk_un (j := 12 + m) (k := n) (by omega), ho (12 + m) (by omega)]
    by_cases e : m = n
    · subst e; exact ⟨Or.inl pk_us, (G.1 m z).2⟩
    · rw [pk_un e, ho m (by omega)]; exact G.1 m z
  · rw [pk_un (j := 36 + a) (k := n) (by omega), pk_un (j := 60 + a) (k := n) (by omega), pk_un (j := 84 + a) (k := n) (by omega), pk_un (j := 108 + a) (k := n) (by omega), pk_un (j := 132 + a) (k := n) (by omega), ho (60 + a) (by omega), ho (84 + a) (by omega), ho (108 + a) (by omega), ho (132 + a) (by omega), dr_in (nI n) w 24 (Nat.le_refl _) a z]
    obtain ⟨h1, ⟨j, hj, e2, h2⟩, ⟨i, hi, e3, h3⟩, h4, h5⟩ := G.2 a z
    by_cases m : gx_mt w (nI n) 4 2 a = true
    · rw [if_pos m]
      exact ⟨Or.inl rfl, ⟨j, hj, e2, fun q => absurd q (by decide)⟩, ⟨i, hi, e3, fun q => absurd q (by decide)⟩, h4, h5⟩
    · rw [if_neg m]
      have key : w (36 + a) = 1 → j ≠ n ∧ i ≠ n := by
        intro q
        constructor
        · intro r
          subst r
          exact m (gx_mt_of q (Or.inl e2))
        · intro r
          subst r
          exact m (gx_mt_of q (Or.inr e3))
      refine ⟨h1, ⟨j, hj, e2, fun q => ?_⟩, ⟨i, hi, e3, fun q => ?_⟩, h4, h5⟩
      · rw [pk_un (key q).1, ho j (by omega)]; exact h2 q
      · rw [pk_un (key q).2, ho i (by omega)]; exact h3 q
end
section
/-! the relation of the two states, without scratch -/
def gx_R (o : Nat) (t l v e f g y h w cp : Nat → Int32) : Prop := o ≤ 4 ∧ gx_px o t l v e f g y h w ∧ gx_gd w ∧ (∀ d, d < o → gx_px d t l v e f g y h (fun j => cp (156 * d + j)) ∧ gx_gd (fun j => cp (156 * d + j)))
/-! one array copied from depth s to depth d, p cells a depth, the first i of them -/
def gx_cp (p s d i : Nat) (x x' : Nat → Int32) : Prop := (∀ n, n < i → x' (d * p + n) = x (s * p + n)) ∧ (∀ j, (j < d * p ∨ d * p + i ≤ j) → x' j = x j)
theorem gx_cp0 {p s d : Nat} {x : Nat → Int32} : gx_cp p s d 0 x x := ⟨fun n hn => absurd hn (Nat.not_lt_zero _), fun _ _ => rfl⟩
theorem gx_cps {p s d i : Nat} {x x' : Nat → Int32} (C : gx_cp p s d i x x') (hs : s * p + i < d * p ∨ d * p + i ≤ s * p + i) : gx_cp p s d (i + 1) x (upd x' (d * p + i) (x' (s * p + i))) := by
  have h0 : x' (s * p + i) = x (s * p + i) := C.2 _ (by omega)
  refine ⟨fun n hn => ?_, fun j hj => ?_⟩
  · by_cases e : n = i
    · subst e; rw [pk_us]; exact h0
    · rw [pk_un (by omega)]; exact C.1 n (by omega)
  · rw [pk_un (by omega)]; exact C.2 j (by omega)
theorem gx_cp_px {s d : Nat} {t l v e f g y h t' l' v' e' f' g' y' h' w : Nat → Int32} (P : gx_px s t l v e f g y h w) (ct : gx_cp 12 s d 12 t t') (cl : gx_cp 12 s d 12 l l') (cv : gx_cp 12 s d 12 v v') (ce : gx_cp 24 s d 24 e e') (cf : gx_cp 24 s d 24 f f') (cg : gx_cp 24 s d 24 g g') (cy : gx_cp 24 s d 24 y y') (ch : gx_cp 24 s d 24 h h') : gx_px d t' l' v' e' f' g' y' h' w := by
  refine ⟨fun n z => ?_, fun a z => ?_⟩
  · obtain ⟨p1, p2, p3⟩ := P.1 n z
    exact ⟨(ct.1 n z).trans p1, (cl.1 n z).trans p2, (cv.1 n z).trans p3⟩
  · obtain ⟨p1, p2, p3, p4, p5⟩ := P.2 a z
    exact ⟨(ce.1 a z).trans p1, (cf.1 a z).trans p2, (cg.1 a z).trans p3, (cy.1 a z).trans p4, (ch.1 a z).trans p5⟩
theorem gx_cp_o {s d m : Nat} {t l v e f g y h t' l' v' e' f' g' y' h' w : Nat → Int32} (P : gx_px m t l v e f g y h w) (hm : m < d) (ct : gx_cp 12 s d 12 t t') (cl : gx_cp 12 s d 12 l l') (cv : gx_cp 12 s d 12 v v') (ce : gx_cp 24 s d 24 e e') (cf : gx_cp 24 s d 24 f f') (cg : gx_cp 24 s d 24 g g') (cy : gx_cp 24 s d 24 y y') (ch : gx_cp 24 s d 24 h h') : gx_px m t' l' v' e' f' g' y' h' w :=
  gx_px_ext P (fun n z => ⟨ct.2 _ (by omega), cl.2 _ (by omega), cv.2 _ (by omega)⟩) (fun a z => ⟨ce.2 _ (by omega), cf.2 _ (by omega), cg.2 _ (by omega), cy.2 _ (by omega), ch.2 _ (by omega)⟩) (fun _ _ => rfl)
theorem gx_R_begin {o : Nat} {t l v e f g y h t' l' v' e' f' g' y' h' w cp cp' : Nat → Int32} (R : gx_R o t l v e f g y h w cp) (ho : o < 4) (ct : gx_cp 12 o (o + 1) 12 t t') (cl : gx_cp 12 o (o + 1) 12 l l') (cv : gx_cp 12 o (o + 1) 12 v v') (ce : gx_cp 24 o (o + 1) 24 e e') (cf : gx_cp 24 o (o + 1) 24 f f') (cg : gx_cp 24 o (o + 1) 24 g g') (cy : gx_cp 24 o (o + 1) 24 y y') (ch : gx_cp 24 o (o + 1) 24 h h') (h1 : ∀ j, j < 156 → cp' (156 * o + j) = w j) (h2 : ∀ j, j < 156 * o → cp' j = cp j) : gx_R (o + 1) t' l' v' e' f' g' y' h' w cp' := by
  obtain ⟨_, P, G, D⟩ := R
  refine ⟨by omega, gx_cp_px P ct cl cv ce cf cg cy ch, G, fun d hd => ?_⟩
  by_cases e : d = o
  · subst e
    exact ⟨gx_px_ext (gx_cp_o P (by omega) ct cl cv ce cf cg cy ch) (fun _ _ => ⟨rfl, rfl, rfl⟩) (fun _ _ => ⟨rfl, rfl, rfl, rfl, rfl⟩) h1, gx_gd_ext G h1⟩
  · obtain ⟨Pd, Gd⟩ := D d (by omega)
    have h3 : ∀ j, j < 156 → cp' (156 * d + j) = cp (156 * d + j) := fun j hj => h2 _ (by omega)
    exact ⟨gx_px_ext (gx_cp_o Pd (by omega) ct cl cv ce cf cg cy ch) (fun _ _ => ⟨rfl, rfl, rfl⟩) (fun _ _ => ⟨rfl, rfl, rfl, rfl, rfl⟩) h3, gx_gd_ext Gd h3⟩
theorem gx_R_end {o : Nat} {t l v e f g y h t' l' v' e' f' g' y' h' w cp : Nat → Int32} (R : gx_R (o + 1) t l v e f g y h w cp) (ct : gx_cp 12 (o + 1) o 12 t t') (cl : gx_cp 12 (o + 1) o 12 l l') (cv : gx_cp 12 (o + 1) o 12 v v') (ce : gx_cp 24 (o + 1) o 24 e e') (cf : gx_cp 24 (o + 1) o 24 f f') (cg : gx_cp 24 (o + 1) o 24 g g') (cy : gx_cp 24 (o + 1) o 24 y y') (ch : gx_cp 24 (o + 1) o 24 h h') : gx_R o t' l' v' e' f' g' y' h' w cp := by
  obtain ⟨ho, P, G, D⟩ := R
  refine ⟨by omega, gx_cp_px P ct cl cv ce cf cg cy ch, G, fun d hd => ?_⟩
  obtain ⟨Pd, Gd⟩ := D d (by omega)
  exact ⟨gx_cp_o Pd hd ct cl cv ce cf cg cy ch, Gd⟩
theorem gx_R_back {o q : Nat} {t l v e f g y h w w' cp : Nat → Int32} (R : gx_R o t l v e f g y h w cp) (hq : q < o) (h1 : ∀ j, j < 156 → w' j = cp (156 * q + j)) : gx_R q t l v e f g y h w' cp := by
  obtain ⟨ho, P, G, D⟩ := R
  obtain ⟨Pq, Gq⟩ := D q hq
  exact ⟨by omega, gx_px_ext Pq (fun _ _ => ⟨rfl, rfl, rfl⟩) (fun _ _ => ⟨rfl, rfl, rfl, rfl, rfl⟩) h1, gx_gd_ext Gq h1, fun d hd => D d (by omega)⟩
theorem gx_R0 : gx_R 0 (fun _ => 0) (fun _ => 0) (fun _ => 0) (fun _ => 0) (fun _ => 0) (fun _ => 0) (fun _ => 0) (fun _ => 0) (fun _ => 0) (fun _ => 0) := ⟨by omega, ⟨fun _ _ => ⟨rfl, rfl, rfl⟩, fun _ _ => ⟨rfl, rfl, rfl, rfl, rfl⟩⟩, gx_gd0, fun d hd => absurd hd (Nat.not_lt_zero _)⟩
theorem gx_pt {o : Nat} {t l v e f g y h cp : Nat → Int32} (D : ∀ d, d < o → gx_px d t l v e f g y h (fun j => cp (156 * d + j)) ∧ gx_gd (fun j => cp (156 * d + j))) {k : Nat} (hk : k < 12) (x : Int32) : ∀ d, d < o → gx_px d (upd t (o * 12 + k) x) l v e f g y h (fun j => cp (156 * d + j)) ∧ gx_gd (fun j => cp (156 * d + j)) := fun d hd => ⟨gx_qt (D d hd).1 hk hd x, (D d hd).2⟩
theorem gx_pl {o : Nat} {t l v e f g y h cp : Nat → Int32} (D : ∀ d, d < o → gx_px d t l v e f g y h (fun j => cp (156 * d + j)) ∧ gx_gd (fun j => cp (156 * d + j))) {k : Nat} (hk : k < 12) (x : Int32) : ∀ d, d < o → gx_px d t (upd l (o * 12 + k) x) v e f g y h (fun j => cp (156 * d + j)) ∧ gx_gd (fun j => cp (156 * d + j)) := fun d hd => ⟨gx_ql (D d hd).1 hk hd x, (D d hd).2⟩
theorem gx_pv {o : Nat} {t l v e f g y h cp : Nat → Int32} (D : ∀ d, d < o → gx_px d t l v e f g y h (fun j => cp (156 * d + j)) ∧ gx_gd (fun j => cp (156 * d + j))) {k : Nat} (hk : k < 12) (x : Int32) : ∀ d, d < o → gx_px d t l (upd v (o * 12 + k) x) e f g y h (fun j => cp (156 * d + j)) ∧ gx_gd (fun j => cp (156 * d + j)) := fun d hd => ⟨gx_qv (D d hd).1 hk hd x, (D d hd).2⟩
theorem gx_pe {o : Nat} {t l v e f g y h cp : Nat → Int32} (D : ∀ d, d < o → gx_px d t l v e f g y h (fun j => cp (156 * d + j)) ∧ gx_gd (fun j => cp (156 * d + j))) {k : Nat} (hk : k < 24) (x : Int32) : ∀ d, d < o → gx_px d t l v (upd e (o * 24 + k) x) f g y h (fun j => cp (156 * d + j)) ∧ gx_gd (fun j => cp (156 * d + j)) := fun d hd => ⟨gx_qe (D d hd).1 hk hd x, (D d hd).2⟩
theorem gx_pf {o : Nat} {t l v e f g y h cp : Nat → Int32} (D : ∀ d, d < o → gx_px d t l v e f g y h (fun j => cp (156 * d + j)) ∧ gx_gd (fun j => cp (156 * d + j))) {k : Nat} (hk : k < 24) (x : Int32) : ∀ d, d < o → gx_px d t l v e (upd f (o * 24 + k) x) g y h (fun j => cp (156 * d + j)) ∧ gx_gd (fun j => cp (156 * d + j)) := fun d hd => ⟨gx_qf (D d hd).1 hk hd x, (D d hd).2⟩
theorem gx_pg {o : Nat} {t l v e f g y h cp : Nat → Int32} (D : ∀ d, d < o → gx_px d t l v e f g y h (fun j => cp (156 * d + j)) ∧ gx_gd (fun j => cp (156 * d + j))) {k : Nat} (hk : k < 24) (x : Int32) : ∀ d, d < o → gx_px d t l v e f (upd g (o * 24 + k) x) y h (fun j => cp (156 * d + j)) ∧ gx_gd (fun j => cp (156 * d + j)) := fun d hd => ⟨gx_qg (D d hd).1 hk hd x, (D d hd).2⟩
theorem gx_py {o : Nat} {t l v e f g y h cp : Nat → Int32} (D : ∀ d, d < o → gx_px d t l v e f g y h (fun j => cp (156 * d + j)) ∧ gx_gd (fun j => cp (156 * d + j))) {k : Nat} (hk : k < 24) (x : Int32) : ∀ d, d < o → gx_px d t l v e f g (upd y (o * 24 + k) x) h (fun j => cp (156 * d + j)) ∧ gx_gd (fun j => cp (156 * d + j)) := fun d hd => ⟨gx_qy (D d hd).1 hk hd x, (D d hd).2⟩
theorem gx_ph {o : Nat} {t l v e f g y h cp : Nat → Int32} (D : ∀ d, d < o → gx_px d t l v e f g y h (fun j => cp (156 * d + j)) ∧ gx_gd (fun j => cp (156 * d + j))) {k : Nat} (hk : k < 24) (x : Int32) : ∀ d, d < o → gx_px d t l v e f g y (upd h (o * 24 + k) x) (fun j => cp (156 * d + j)) ∧ gx_gd (fun j => cp (156 * d + j)) := fun d hd => ⟨gx_qh (D d hd).1 hk hd x, (D d hd).2⟩
end
section
/-! the two tables of costs against one of naturals: cost[n] as it stands, far[n] = -1 for what isn't reached -/
def gx_fe (c : Nat) : Int32 := if c = 1000000 then -1 else nI c
theorem gx_fe_n : gx_fe 1000000 = -1 := if_pos rfl
theorem gx_fe_p {c : Nat} (h : c ≤ 99 * 400) : gx_fe c = nI c := if_neg (by omega)
theorem bf_no {act : Nat → Bool} {fr tg wt c : Nat → Nat} {a : Nat} (h : ¬ c (fr a) + wt a < c (tg a)) : bf_rl act fr tg wt c a = c := by
  funext j
  refine bf_rl_f act fr tg wt (fun z => h ?_)
  rw [← z.2.1]; exact z.2.2
theorem bf_far {act : Nat → Bool} {fr tg wt c : Nat → Nat} {a t : Nat} (B : bf_B t c) (ht : t ≤ 400) (h : c (fr a) = 1000000) : bf_rl act fr tg wt c a = c := by
  refine bf_no ?_
  rcases B (tg a) with z | z <;> omega
theorem bf_yes {act : Nat → Bool} {fr tg wt c : Nat → Nat} {a : Nat} (h1 : act a = true) (h2 : c (fr a) + wt a < c (tg a)) (F : Nat → Int32) (E : Nat → Int32) (hE : ∀ j, j < 12 → F j = E (c j)) (hx : Int32) (he : hx = E (c (fr a) + wt a)) : ∀ j, j < 12 → upd F (tg a) hx j = E (bf_rl act fr tg wt c a j) := by
  intro j hj
  by_cases e : j = tg a
  · rw [bf_rl_t act fr tg wt ⟨h1, e, by rw [e]; exact h2⟩, e, pk_us]; exact he
  · rw [bf_rl_f act fr tg wt (fun z => e z.2.1), pk_un e]; exact hE j hj
/-! the tables at the start -/
theorem bf_0x (s : Nat) : ∀ n, bf_i0 s n = if n = s then 0 else 1000000 := fun _ => rfl
/-! a count that goes from place to place: the k-th of those where p holds -/
def gv_at (p : Nat → Bool) (k : Int32) : Nat → Nat → Nat → Int32
  | 0, _, _ => -2
  | d + 1, a, s => if p a = true then (if nI s = k then nI a else gv_at p k d (a + 1) (s + 1)) else gv_at p k d (a + 1) s
theorem gv_at_y {p : Nat → Bool} {k : Int32} {d a s : Nat} (h : p a = true) (hk : nI s = k) : gv_at p k (d + 1) a s = nI a := by
  show (if p a = true then (if nI s = k then nI a else gv_at p k d (a + 1) (s + 1)) else gv_at p k d (a + 1) s) = nI a
  rw [if_pos h, if_pos hk]
theorem gv_at_s {p : Nat → Bool} {k : Int32} {d a s : Nat} (h : p a = true) (hk : ¬ nI s = k) : gv_at p k (d + 1) a s = gv_at p k d (a + 1) (s + 1) := by
  show (if p a = true then (if nI s = k then nI a else gv_at p k d (a + 1) (s + 1)) else gv_at p k d (a + 1) s) = _
  rw [if_pos h, if_neg hk]
theorem gv_at_f {p : Nat → Bool} {k : Int32} {d a s : Nat} (h : ¬ p a = true) : gv_at p k (d + 1) a s = gv_at p k d (a + 1) s := by
  show (if p a = true then (if nI s = k then nI a else gv_at p k d (a + 1) (s + 1)) else gv_at p k d (a + 1) s) = _
  rw [if_neg h]
/-! a sum over the places where p holds -/
def gv_sm (p : Nat → Bool) (f : Nat → Int32) : Nat → Nat → Int32 → Int32
  | 0, _, s => s
  | d + 1, i, s => gv_sm p f d (i + 1) (if p i = true then s + f i else s)
theorem gv_sm_t {p : Nat → Bool} {f : Nat → Int32} {d i : Nat} {s : Int32} (h : p i = true) : gv_sm p f (d + 1) i s = gv_sm p f d (i + 1) (s + f i) := by
  show gv_sm p f d (i + 1) (if p i = true then s + f i else s) = _
  rw [if_pos h]
theorem gv_sm_f {p : Nat → Bool} {f : Nat → Int32} {d i : Nat} {s : Int32} (h : ¬ p i = true) : gv_sm p f (d + 1) i s = gv_sm p f d (i + 1) s := by
  show gv_sm p f d (i + 1) (if p i = true then s + f i else s) = _
  rw [if_neg h]
/-! a sum of naturals -/
def gv_sn (f : Nat → Nat) : Nat → Nat
  | 0 => 0
  | i + 1 => gv_sn f i + f i
theorem gv_sn_congr {f g : Nat → Nat} : ∀ i, (∀ j, j < i → f j = g j) → gv_sn f i = gv_sn g i := by
  intro i
  induction i with
  | zero => intro _; rfl
  | succ i ih =>
    intro h
    show gv_sn f i + f i = gv_sn g i + g i
    rw [ih (fun j hj => h j (by omega)), h i (by omega)]
/-! labels -/
def gx_hl (w : Nat → Int32) (m : Nat) (x : Int32) : Bool := decide (w (12 + m) &&& x = x)
theorem gx_lab : ∀ i, i < 8 → ∀ j, j < 8 → (nI i &&& nI j = nI j ↔ nI j &&& (nI i ^^^ (-1)) = 0) := by decide +kernel
/-! slots -/
theorem gx_12 (o n : Nat) : nI o * 12 + nI n = nI (o * 12 + n) := by
  rw [show (12 : Int32) = nI 12 from rfl, pk_mul, nI_add]
theorem gx_24 (o n : Nat) : nI o * 24 + nI n = nI (o * 24 + n) := by
  rw [show (24 : Int32) = nI 24 from rfl, pk_mul, nI_add]
theorem gx_156 (o n : Nat) : 156 * nI o + nI n = nI (156 * o + n) := by
  rw [show (156 : Int32) = nI 156 from rfl, pk_mul, nI_add]
theorem gx_k (k n : Nat) : nI k + nI n = nI (k + n) := nI_add k n
end
section
/-! bridges between answers 0 and 1 and Booleans -/
theorem gb_nt {x : Bool} (z : ¬ x = true) : x = false := by
  cases x
  · rfl
  · exact absurd rfl z
theorem gb_0 {post : Int32 → Prop} {b : Bool} {c : Prop} (z : c ↔ ¬ b = true) (hp : post (gx_b b)) : (c → post 0) ∧ (¬ c → post 1) := by
  cases b
  · exact ⟨fun _ => hp, fun k => absurd (z.mpr (by decide)) k⟩
  · exact ⟨fun k => absurd rfl (z.mp k), fun _ => hp⟩
theorem gb_1 {post : Int32 → Prop} {b : Bool} {c : Prop} (z : c ↔ b = true) (hp : post (gx_b b)) : (c → post 1) ∧ (¬ c → post 0) := by
  cases b
  · exact ⟨fun k => absurd (z.mp k) (by decide), fun _ => hp⟩
  · exact ⟨fun _ => hp, fun k => absurd (z.mpr rfl) k⟩
theorem gb_r {b : Bool} {A B : Prop} (f : ¬ b = true → A) (t : b = true → B) : (gx_b b = 0 → A) ∧ (¬ gx_b b = 0 → B) := ⟨fun z => f (gx_b_eq z), fun z => t (gx_b_ne z)⟩
theorem gb_n {b : Bool} {A B : Prop} (t : b = true → A) (f : ¬ b = true → B) : (gx_b (!b) = 0 → A) ∧ (¬ gx_b (!b) = 0 → B) := by
  cases b
  · exact ⟨fun z => absurd z (by decide), fun _ => f (by decide)⟩
  · exact ⟨fun _ => t rfl, fun z => absurd rfl z⟩
theorem gb_nar (x : Int32) : vp_nar .boolean x = x &&& 1 := rfl
theorem gb_n0 : vp_nar .boolean 0 = 0 := by rw [gb_nar]; decide
theorem gb_n1 : vp_nar .boolean 1 = 1 := by rw [gb_nar]; decide
theorem gb_n01 {x : Int32} (z : x = 0 ∨ x = 1) : vp_nar .boolean x = x := by
  rcases z with rfl | rfl
  · exact gb_n0
  · exact gb_n1
theorem gx_E_n {w : Nat → Int32} {x : Int32} (z : x < 0) : gx_E w x = false := by
  unfold gx_E; rw [decide_eq_false (fun k => k z), Bool.false_and]
theorem gx_E_1 {w : Nat → Int32} {x : Int32} (z : ¬ gx_N w (x / 12) = true) : gx_E w x = false := by
  unfold gx_E; rw [gb_nt z, Bool.false_and, Bool.and_false]
theorem gx_E_2 {w : Nat → Int32} {x : Int32} (z : ¬ gx_N w (x - x / 12 * 12) = true) : gx_E w x = false := by
  unfold gx_E; rw [gb_nt z, Bool.and_false, Bool.and_false]
theorem gx_E_y {w : Nat → Int32} {x : Int32} (z : ¬ x < 0) (z1 : gx_N w (x / 12) = true) (z2 : gx_N w (x - x / 12 * 12) = true) : gx_E w x = true := by
  unfold gx_E; rw [decide_eq_true z, z1, z2]; rfl
theorem gx_E_t {w : Nat → Int32} {x : Int32} (z : gx_E w x = true) : ¬ x < 0 ∧ ∃ i j, i < 12 ∧ j < 12 ∧ x / 12 = nI i ∧ x - x / 12 * 12 = nI j ∧ w i = 1 ∧ w j = 1 := by
  unfold gx_E at z
  rw [Bool.and_eq_true, Bool.and_eq_true] at z
  obtain ⟨i, hi, ei, wi⟩ := gx_N_t z.2.1
  obtain ⟨j, hj, ej, wj⟩ := gx_N_t z.2.2
  exact ⟨of_decide_eq_true z.1, i, j, hi, hj, ei, ej, wi, wj⟩
def gx_K (o : Nat) (ta la va ea fa ga ya ha w : Nat → Int32) : Prop := o ≤ 4 ∧ gx_px o ta la va ea fa ga ya ha w ∧ gx_gd w
section
variable {o : Nat} {ta la va ea fa ga ya ha ca ra w : Nat → Int32}
theorem cx_ns {post : Int32 → Prop} (K : gx_K o ta la va ea fa ga ya ha w) {n : Nat} (hn : n < 12) (H : ∀ s, vp_in s 60 → s.toNatClampNeg = o * 12 + n → post s) : wpX_nodeSlot post (nI o, ta, la, va, ea, fa, ga, ya, ha, ca, ra) (nI n) := by
  have z := K.1
  show post (nI o * 12 + nI n)
  rw [gx_12]
  exact H _ (vp_in_nI (by omega) (by decide)) (nI_clamp (by omega))
theorem cx_as {post : Int32 → Prop} (K : gx_K o ta la va ea fa ga ya ha w) {a : Nat} (ha' : a < 24) (H : ∀ s, vp_in s 120 → s.toNatClampNeg = o * 24 + a → post s) : wpX_arrowSlot post (nI o, ta, la, va, ea, fa, ga, ya, ha, ca, ra) (nI a) := by
  have z := K.1
  show post (nI o * 24 + nI a)
  rw [gx_24]
  exact H _ (vp_in_nI (by omega) (by decide)) (nI_clamp (by omega))
theorem cx_N {post : Int32 → Prop} (K : gx_K o ta la va ea fa ga ya ha w) (x : Int32) (hp : post (gx_b (gx_N w x))) : wpX_goodNode post (nI o, ta, la, va, ea, fa, ga, ya, ha, ca, ra) x := by
  rcases pk_ix x (n := 12) (by decide) with z | z | ⟨j, hj, rfl⟩
  · rw [gx_N_n z] at hp; exact br_t z hp
  · rw [gx_N_b z] at hp; exact br_f (Int32.not_lt.mpr (Int32.le_trans (by decide) z)) (br_t z hp)
  · rw [gx_N_j hj] at hp
    refine br_f (nI_pos (by omega)) (br_f (nI_ge hj (by decide)) (cx_ns K hj (fun s hs es => ⟨hs, ?_⟩)))
    rw [es, (K.2.1.1 j hj).1]
    refine gb_0 ?_ hp
    rcases (K.2.2.1 j hj).1 with z | z
    · rw [z]; decide
    · rw [z]; decide
theorem cx_A {post : Int32 → Prop} (K : gx_K o ta la va ea fa ga ya ha w) (x : Int32) (hp : post (gx_b (gx_A w x))) : wpX_goodArrow post (nI o, ta, la, va, ea, fa, ga, ya, ha, ca, ra) x := by
  rcases pk_ix x (n := 24) (by decide) with z | z | ⟨j, hj, rfl⟩
  · rw [gx_A_n z] at hp; exact br_t z hp
  · rw [gx_A_b z] at hp; exact br_f (Int32.not_lt.mpr (Int32.le_trans (by decide) z)) (br_t z hp)
  · rw [gx_A_j hj] at hp
    refine br_f (nI_pos (by omega)) (br_f (nI_ge hj (by decide)) (cx_as K hj (fun s hs es => ⟨hs, ?_⟩)))
    rw [es, (K.2.1.2 j hj).1]
    refine gb_0 ?_ hp
    rcases (K.2.2.2 j hj).1 with z | z
    · rw [z]; decide
    · rw [z]; decide
theorem cx_L {post : Int32 → Prop} (x : Int32) (hp : post (gx_b (gx_in 7 x))) : wpX_goodLabels post (nI o, ta, la, va, ea, fa, ga, ya, ha, ca, ra) x := by
  by_cases z : x < 0
  · rw [gx_in_n z] at hp; exact br_t z hp
  · by_cases k : nI 7 < x
    · rw [gx_in_b (Int32.not_le.mpr k)] at hp; exact br_f z (br_t k hp)
    · rw [gx_in_y z (Int32.not_lt.mp k)] at hp; exact br_f z (br_f k hp)
theorem cx_W {post : Int32 → Prop} (x : Int32) (hp : post (gx_b (gx_in 99 x))) : wpX_goodWeight post (nI o, ta, la, va, ea, fa, ga, ya, ha, ca, ra) x := by
  by_cases z : x < 0
  · rw [gx_in_n z] at hp; exact br_t z hp
  · by_cases k : nI 99 < x
    · rw [gx_in_b (Int32.not_le.mpr k)] at hp; exact br_f z (br_t k hp)
    · rw [gx_in_y z (Int32.not_lt.mp k)] at hp; exact br_f z (br_f k hp)
theorem cx_T {post : Int32 → Prop} (x : Int32) (hp : post (gx_b (gx_in 4 x))) : wpX_goodType post (nI o, ta, la, va, ea, fa, ga, ya, ha, ca, ra) x := by
  by_cases z : x < 0
  · rw [gx_in_n z] at hp; exact br_t z hp
  · by_cases k : nI 4 < x
    · rw [gx_in_b (Int32.not_le.mpr k)] at hp; exact br_f z (br_t k hp)
    · rw [gx_in_y z (Int32.not_lt.mp k)] at hp; exact br_f z (br_f k hp)
theorem cx_Y {post : Int32 → Prop} (x : Int32) (hp : post (gx_b (gx_in 2 x))) : wpX_goodWay post (nI o, ta, la, va, ea, fa, ga, ya, ha, ca, ra) x := by
  by_cases z : x < 0
  · rw [gx_in_n z] at hp; exact br_t z hp
  · by_cases k : nI 2 < x
    · rw [gx_in_b (Int32.not_le.mpr k)] at hp; exact br_f z (br_t k hp)
    · rw [gx_in_y z (Int32.not_lt.mp k)] at hp; exact br_f z (br_f k hp)
theorem cx_E {post : Int32 → Prop} (K : gx_K o ta la va ea fa ga ya ha w) (x : Int32) (hp : post (gx_b (gx_E w x))) : wpX_goodEnds post (nI o, ta, la, va, ea, fa, ga, ya, ha, ca, ra) x := by
  by_cases z : x < 0
  · rw [gx_E_n z] at hp; exact br_t z hp
  · refine br_f z ⟨by decide, cx_N K (x / 12) (gb_r (fun k => ?_) (fun k => ⟨by decide, cx_N K (x - x / 12 * 12) (gb_r (fun k2 => ?_) (fun k2 => ?_))⟩))⟩
    · rw [gx_E_1 k] at hp; exact hp
    · rw [gx_E_2 k2] at hp; exact hp
    · rw [gx_E_y z k k2] at hp; exact hp
theorem cx_of {post : Int32 → Prop} (K : gx_K o ta la va ea fa ga ya ha w) {a : Nat} (ha' : a < 24) (ty : Int32) (hp : post (gx_b (gx_of w ty a))) : wpX_isOfType post (nI o, ta, la, va, ea, fa, ga, ya, ha, ca, ra) (nI a) ty := by
  unfold wpX_isOfType
  refine cx_A K (nI a) ?_
  rw [gx_A_j ha']
  refine gb_r (fun k => ?_) (fun k => ?_)
  · have z : gx_of w ty a = false := by unfold gx_of; rw [gb_nt k, Bool.false_and]
    rw [z] at hp; exact hp
  · by_cases p4 : ty = 4
    · have z : gx_of w ty a = true := by unfold gx_of; rw [k, decide_eq_true p4]; rfl
      rw [z] at hp; exact br_t p4 hp
    · refine br_f p4 (cx_as K ha' (fun s hs es => ⟨hs, ?_⟩))
      rw [es, (K.2.1.2 a ha').2.2.2.1]
      refine gb_1 ?_ hp
      unfold gx_of
      rw [k, decide_eq_false p4, Bool.true_and, Bool.false_or]
      exact decide_eq_true_iff.symm
theorem cx_m63 {post : Int32 → Prop} (b1 b2 : Bool) (hp : post (gx_b (b1 || b2))) : wX_matches_63 post (gx_b b1) (gx_b b2) (nI o) ta la va ea fa ga ya ha ca ra := by
  cases b1
  · cases b2
    · exact br_t rfl (br_t rfl hp)
    · exact br_t rfl (br_f (by decide) hp)
  · exact br_f (by decide) hp
theorem cx_m40 {post : Int32 → Prop} (K : gx_K o ta la va ea fa ga ya ha w) {a : Nat} (ha' : a < 24) {s : Int32} (hs : vp_in s 120) (es : s.toNatClampNeg = o * 24 + a) (n wy : Int32) (b1 : Bool) (hp : post (gx_b (b1 || (decide (wy ≠ 0) && decide (w (84 + a) = n))))) : wX_matches_40 post n wy s (gx_b b1) (nI o) ta la va ea fa ga ya ha ca ra := by
  by_cases z : wy = 0
  · rw [decide_eq_false (fun k => k z), Bool.false_and] at hp
    exact br_t z (cx_m63 b1 false hp)
  · refine br_f z ⟨hs, ?_⟩
    rw [es, (K.2.1.2 a ha').2.2.1]
    rw [decide_eq_true z, Bool.true_and] at hp
    by_cases q : w (84 + a) = n
    · rw [decide_eq_true q] at hp; exact br_t q (cx_m63 b1 true hp)
    · rw [decide_eq_false q] at hp; exact br_f q (cx_m63 b1 false hp)
theorem cx_mt {post : Int32 → Prop} (K : gx_K o ta la va ea fa ga ya ha w) {a : Nat} (ha' : a < 24) (n ty wy : Int32) (hp : post (gx_b (gx_mt w n ty wy a))) : wpX_matches post (nI o, ta, la, va, ea, fa, ga, ya, ha, ca, ra) (nI a) n ty wy := by
  unfold wpX_matches
  refine cx_of K ha' ty (gb_r (fun k => ?_) (fun k => cx_as K ha' (fun s hs es => ?_)))
  · have z : gx_mt w n ty wy a = false := by unfold gx_mt; rw [gb_nt k, Bool.false_and]
    rw [z] at hp; exact hp
  · unfold gx_mt at hp
    rw [k, Bool.true_and] at hp
    by_cases z : wy = 1
    · rw [decide_eq_false (p := wy ≠ 1) (fun k => k z), Bool.false_and] at hp
      exact br_t z (cx_m40 K ha' hs es n wy false hp)
    · rw [decide_eq_true (p := wy ≠ 1) z, Bool.true_and] at hp
      refine br_f z ⟨hs, ?_⟩
      rw [es, (K.2.1.2 a ha').2.1]
      by_cases q : w (60 + a) = n
      · rw [decide_eq_true q] at hp; exact br_t q (cx_m40 K ha' hs es n wy true hp)
      · rw [decide_eq_false q] at hp; exact br_f q (cx_m40 K ha' hs es n wy false hp)
theorem cx_hl {post : Int32 → Prop} (K : gx_K o ta la va ea fa ga ya ha w) {n : Nat} (hn : n < 12) (x : Int32) (hp : post (gx_b (gx_hl w n x))) : wpX_hasLabels post (nI o, ta, la, va, ea, fa, ga, ya, ha, ca, ra) (nI n) x := by
  unfold wpX_hasLabels
  refine cx_ns K hn (fun s hs es => ⟨hs, ?_⟩)
  rw [es, (K.2.1.1 n hn).2.1]
  exact gb_1 decide_eq_true_iff.symm hp
end
end
section
/-! the reference: the same values from its one row of cells -/
section
variable {q : Int32} {w cp fx : Nat → Int32}
theorem cy_N {post : Int32 → Prop} (x : Int32) (hp : post (gx_b (gx_N w x))) : wpY_isNode post (q, w, cp, fx) x := by
  rcases pk_ix x (n := 12) (by decide) with z | z | ⟨j, hj, rfl⟩
  · rw [gx_N_n z] at hp; exact br_t z hp
  · rw [gx_N_b z] at hp; exact br_f (Int32.not_lt.mpr (Int32.le_trans (by decide) z)) (br_t z hp)
  · rw [gx_N_j hj] at hp
    refine br_f (nI_pos (by omega)) (br_f (nI_ge hj (by decide)) ⟨vp_in_nI (by omega) (by decide), ?_⟩)
    rw [nI_clamp (by omega)]
    exact gb_1 decide_eq_true_iff.symm hp
theorem cy_ix (b a : Nat) (x : Int32) (hx : x = nI b) (h1 : b + a < 156) : vp_in (x + nI a) 156 ∧ (x + nI a).toNatClampNeg = b + a := by
  rw [hx, nI_add]
  exact ⟨vp_in_nI h1 (by decide), nI_clamp (by omega)⟩
theorem cy_A {post : Int32 → Prop} (x : Int32) (hp : post (gx_b (gx_A w x))) : wpY_isArrow post (q, w, cp, fx) x := by
  rcases pk_ix x (n := 24) (by decide) with z | z | ⟨j, hj, rfl⟩
  · rw [gx_A_n z] at hp; exact br_t z hp
  · rw [gx_A_b z] at hp; exact br_f (Int32.not_lt.mpr (Int32.le_trans (by decide) z)) (br_t z hp)
  · rw [gx_A_j hj] at hp
    obtain ⟨i1, i2⟩ := cy_ix 36 j 36 rfl (by omega)
    refine br_f (nI_pos (by omega)) (br_f (nI_ge hj (by decide)) ⟨i1, ?_⟩)
    rw [i2]
    exact gb_1 decide_eq_true_iff.symm hp
theorem cy_p0 {post : Int32 → Prop} {a : Nat} (ha' : a < 24) (hp : post (w (60 + a))) : wpY_part post (q, w, cp, fx) (nI a) 0 := by
  obtain ⟨i1, i2⟩ := cy_ix 60 a (60 + (24 * 0)) (by decide) (by omega)
  exact ⟨i1, by rw [i2]; exact hp⟩
theorem cy_p1 {post : Int32 → Prop} {a : Nat} (ha' : a < 24) (hp : post (w (84 + a))) : wpY_part post (q, w, cp, fx) (nI a) 1 := by
  obtain ⟨i1, i2⟩ := cy_ix 84 a (60 + (24 * 1)) (by decide) (by omega)
  exact ⟨i1, by rw [i2]; exact hp⟩
theorem cy_p2 {post : Int32 → Prop} {a : Nat} (ha' : a < 24) (hp : post (w (108 + a))) : wpY_part post (q, w, cp, fx) (nI a) 2 := by
  obtain ⟨i1, i2⟩ := cy_ix 108 a (60 + (24 * 2)) (by decide) (by omega)
  exact ⟨i1, by rw [i2]; exact hp⟩
theorem cy_p3 {post : Int32 → Prop} {a : Nat} (ha' : a < 24) (hp : post (w (132 + a))) : wpY_part post (q, w, cp, fx) (nI a) 3 := by
  obtain ⟨i1, i2⟩ := cy_ix 132 a (60 + (24 * 3)) (by decide) (by omega)
  exact ⟨i1, by rw [i2]; exact hp⟩
theorem cy_E {post : Int32 → Prop} (x : Int32) (hp : post (gx_b (!gx_E w x))) : wpY_badEnds post (q, w, cp, fx) x := by
  by_cases z : x < 0
  · rw [gx_E_n z] at hp; exact br_t z hp
  · refine br_f z ⟨by decide, cy_N (x / 12) (gb_r (fun k => ?_) (fun k => ⟨by decide, cy_N (x - x / 12 * 12) (gb_r (fun k2 => ?_) (fun k2 => ?_))⟩))⟩
    · rw [gx_E_1 k] at hp; exact hp
    · rw [gx_E_2 k2] at hp; exact hp
    · rw [gx_E_y z k k2] at hp; exact hp
theorem cy_T {post : Int32 → Prop} (x : Int32) (hp : post (gx_b (!gx_in 4 x))) : wpY_badType post (q, w, cp, fx) x := by
  by_cases z : x < 0
  · rw [gx_in_n z] at hp; exact br_t z hp
  · by_cases k : x ≤ nI 4
    · rw [gx_in_y z k] at hp; exact br_f z (br_t k hp)
    · rw [gx_in_b k] at hp; exact br_f z (br_f k hp)
theorem cy_L {post : Int32 → Prop} (x : Int32) (hp : post (gx_b (!gx_in 7 x))) : wpY_badLabels post (q, w, cp, fx) x := by
  by_cases z : x < 0
  · rw [gx_in_n z] at hp; exact br_t z hp
  · by_cases k : x ≤ nI 7
    · rw [gx_in_y z k] at hp; exact br_f z (br_t k hp)
    · rw [gx_in_b k] at hp; exact br_f z (br_f k hp)
theorem cy_of {post : Int32 → Prop} {a : Nat} (ha' : a < 24) (ty : Int32) (hp : post (gx_b (gx_of w ty a))) : wpY_isOf post (q, w, cp, fx) (nI a) ty := by
  unfold wpY_isOf
  refine cy_A (nI a) ?_
  rw [gx_A_j ha']
  refine gb_r (fun k => ?_) (fun k => ?_)
  · have z : gx_of w ty a = false := by unfold gx_of; rw [gb_nt k, Bool.false_and]
    rw [z] at hp; exact hp
  · by_cases p4 : ty = 4
    · have z : gx_of w ty a = true := by unfold gx_of; rw [k, decide_eq_true p4]; rfl
      rw [z] at hp; exact br_t p4 hp
    · refine br_f p4 (cy_p2 ha' (gb_1 ?_ hp))
      unfold gx_of
      rw [k, decide_eq_false p4, Bool.true_and, Bool.false_or]
      exact decide_eq_true_iff.symm
theorem cy_c43 {post : Int32 → Prop} {j : Nat} (hj : j ≤ 2) (b1 b2 : Bool) (hp : post (gx_b ((decide (nI j ≠ 1) && b1) || (decide (nI j ≠ 0) && b2)))) : wY_counts_43 post (nI j) (gx_b b1) (gx_b b2) q w cp fx := by
  obtain rfl | rfl | rfl : j = 0 ∨ j = 1 ∨ j = 2 := by omega
  · cases b1
    · cases b2
      · exact br_t rfl (br_t rfl (br_f (by decide) (br_f (by decide) hp)))
      · exact br_t rfl (br_t rfl (br_f (by decide) (br_f (by decide) hp)))
    · exact br_t rfl (br_f (by decide) hp)
  · cases b2
    · exact br_f (by decide) (br_t rfl (br_t rfl (br_f (by decide) (by cases b1 <;> exact hp))))
    · exact br_f (by decide) (br_t rfl (br_f (by decide) (by cases b1 <;> exact hp)))
  · cases b1
    · cases b2
      · exact br_f (by decide) (br_f (by decide) (br_t rfl (br_t rfl (br_t rfl hp))))
      · exact br_f (by decide) (br_f (by decide) (br_t rfl (br_t rfl (br_f (by decide) hp))))
    · exact br_f (by decide) (br_f (by decide) (br_t rfl (br_f (by decide) hp)))
theorem cy_c26 {post : Int32 → Prop} {a : Nat} (ha' : a < 24) {j : Nat} (hj : j ≤ 2) (n : Int32) (b1 : Bool) (hp : post (gx_b ((decide (nI j ≠ 1) && b1) || (decide (nI j ≠ 0) && decide (w (84 + a) = n))))) : wY_counts_26 post (nI a) n (nI j) (gx_b b1) q w cp fx := by
  unfold wY_counts_26
  refine cy_p1 ha' ?_
  by_cases z : w (84 + a) = n
  · rw [decide_eq_true z] at hp; exact br_t z (cy_c43 hj b1 true hp)
  · rw [decide_eq_false z] at hp; exact br_f z (cy_c43 hj b1 false hp)
theorem cy_mt {post : Int32 → Prop} {a : Nat} (ha' : a < 24) (n ty wy : Int32) (hy : gx_in 2 wy = true) (hp : post (gx_b (gx_mt w n ty wy a))) : wpY_counts post (q, w, cp, fx) (nI a) n ty wy := by
  obtain ⟨j, hj, rfl⟩ := gx_in_t (by decide) hy
  unfold wpY_counts
  refine cy_of ha' ty (gb_r (fun k => ?_) (fun k => cy_p0 ha' ?_))
  · have z : gx_mt w n ty (nI j) a = false := by unfold gx_mt; rw [gb_nt k, Bool.false_and]
    rw [z] at hp; exact hp
  · unfold gx_mt at hp
    rw [k, Bool.true_and] at hp
    by_cases z : w (60 + a) = n
    · rw [decide_eq_true z] at hp; exact br_t z (cy_c26 ha' hj n true hp)
    · rw [decide_eq_false z] at hp; exact br_f z (cy_c26 ha' hj n false hp)
theorem cy_hl {post : Int32 → Prop} (G : gx_gd w) {n : Nat} (hn : n < 12) (x : Int32) (hx : gx_in 7 x = true) (hp : post (gx_b (gx_hl w n x))) : wpY_hasLabels post (q, w, cp, fx) (nI n) x := by
  obtain ⟨j, hj, rfl⟩ := gx_in_t (by decide) hx
  obtain ⟨i1, i2⟩ := cy_ix 12 n 12 rfl (by omega)
  refine ⟨i1, ?_⟩
  rw [i2]
  obtain ⟨i, hi, ei⟩ := (G.1 n hn).2
  unfold gx_hl at hp
  rw [ei] at hp ⊢
  refine gb_1 ?_ hp
  rw [decide_eq_true_iff]
  exact (gx_lab i hi j (by omega)).symm
end
end
section
/-! counting loops -/
def gx_pA (w : Nat → Int32) (i : Nat) : Bool := decide (w (36 + i) = 1)
def gx_nx (w : Nat → Int32) (k : Nat) (m u : Int32) (i : Nat) : Bool := decide (nI i ≠ nI k) && gx_mt w m u 0 i
def gx_D (w : Nat → Int32) (x ty wy : Int32) : Bool := gx_N w x && (gx_in 4 ty && gx_in 2 wy)
section
variable {o : Nat} {ta la va ea fa ga ya ha ca ra w : Nat → Int32}
theorem cx_ca_l {post : Int32 → Prop} (K : gx_K o ta la va ea fa ga ya ha w) (hp : post (nI (gv_ct (gx_pA w) 24))) : ∀ d i, i + d = 24 → wX_countArrows_4 post (nI o) ta la va ea fa ga ya ha ca ra (d + 1) (nI (gv_ct (gx_pA w) i)) (nI i) := by
  intro d
  induction d with
  | zero =>
    intro i hi
    obtain rfl : i = 24 := by omega
    exact br_t (nI_le (a := 24) (b := 24) (by omega) (by decide)) hp
  | succ d ih =>
    intro i hi
    have q1 := ih (i + 1) (by omega)
    refine br_f (nI_ge (b := 24) (by omega) (by decide)) ?_
    refine cx_A K (nI i) ?_
    rw [gx_A_j (by omega)]
    refine gb_r (fun z => nm_r (nI_1 i) ?_) (fun z => nm_r (nI_1 _) (nm_r (nI_1 i) ?_))
    · rw [gv_ct_f z] at q1; exact q1
    · rw [gv_ct_t z] at q1; exact q1
theorem cx_cm_l {post : Int32 → Prop} (K : gx_K o ta la va ea fa ga ya ha w) (x ty wy : Int32) (hp : post (nI (gv_ct (gx_mt w x ty wy) 24))) : ∀ d i, i + d = 24 → wX_countMatching_6 post x ty wy (nI o) ta la va ea fa ga ya ha ca ra (d + 1) (nI (gv_ct (gx_mt w x ty wy) i)) (nI i) := by
  intro d
  induction d with
  | zero =>
    intro i hi
    obtain rfl : i = 24 := by omega
    exact br_t (nI_le (a := 24) (b := 24) (by omega) (by decide)) hp
  | succ d ih =>
    intro i hi
    have q1 := ih (i + 1) (by omega)
    refine br_f (nI_ge (b := 24) (by omega) (by decide)) ?_
    refine cx_mt K (by omega) x ty wy (gb_r (fun z => nm_r (nI_1 i) ?_) (fun z => nm_r (nI_1 _) (nm_r (nI_1 i) ?_)))
    · rw [gv_ct_f z] at q1; exact q1
    · rw [gv_ct_t z] at q1; exact q1
theorem cx_ca {post : Int32 → Prop} (K : gx_K o ta la va ea fa ga ya ha w) (hp : post (nI (gv_ct (gx_pA w) 24))) : wpX_countArrows post (nI o, ta, la, va, ea, fa, ga, ya, ha, ca, ra) := ⟨25, cx_ca_l K hp 24 0 rfl⟩
theorem cx_cm {post : Int32 → Prop} (K : gx_K o ta la va ea fa ga ya ha w) (x ty wy : Int32) (hp : post (nI (gv_ct (gx_mt w x ty wy) 24))) : wpX_countMatching post (nI o, ta, la, va, ea, fa, ga, ya, ha, ca, ra) x ty wy := ⟨25, cx_cm_l K x ty wy hp 24 0 rfl⟩
theorem cx_cn_l {post : Int32 → Prop} (K : gx_K o ta la va ea fa ga ya ha w) (k : Nat) (m u : Int32) (hp : post (nI (gv_ct (gx_nx w k m u) 24))) : ∀ d i, i + d = 24 → wX_countNextArrows_6 post (nI k) m u (nI o) ta la va ea fa ga ya ha ca ra (d + 1) (nI (gv_ct (gx_nx w k m u) i)) (nI i) := by
  intro d
  induction d with
  | zero =>
    intro i hi
    obtain rfl : i = 24 := by omega
    exact br_t (nI_le (a := 24) (b := 24) (by omega) (by decide)) hp
  | succ d ih =>
    intro i hi
    have q1 := ih (i + 1) (by omega)
    refine br_f (nI_ge (b := 24) (by omega) (by decide)) ?_
    by_cases e1 : nI i = nI k
    · have z : ¬ gx_nx w k m u i = true := by
        unfold gx_nx; rw [decide_eq_false (fun z => z e1), Bool.false_and]; decide
      refine br_t e1 (nm_r (nI_1 i) ?_)
      rw [gv_ct_f z] at q1; exact q1
    · have e2 : gx_nx w k m u i = gx_mt w m u 0 i := by
        unfold gx_nx; rw [decide_eq_true (p := nI i ≠ nI k) e1, Bool.true_and]
      refine br_f e1 (cx_mt K (by omega) m u 0 (gb_r (fun z => nm_r (nI_1 i) ?_) (fun z => nm_r (nI_1 _) (nm_r (nI_1 i) ?_))))
      · rw [gv_ct_f (p := gx_nx w k m u) (by rw [e2]; exact z)] at q1; exact q1
      · rw [gv_ct_t (p := gx_nx w k m u) (by rw [e2]; exact z)] at q1; exact q1
theorem cx_cn {post : Int32 → Prop} (K : gx_K o ta la va ea fa ga ya ha w) (k : Nat) (m u : Int32) (hp : post (nI (gv_ct (gx_nx w k m u) 24))) : wpX_countNextArrows post (nI o, ta, la, va, ea, fa, ga, ya, ha, ca, ra) (nI k) m u := ⟨25, cx_cn_l K k m u hp 24 0 rfl⟩
end
section
variable {q : Int32} {w cp fx : Nat → Int32}
theorem cy_ca_l {post : Int32 → Prop}  (hp : post (nI (gv_ct (gx_pA w) 24))) : ∀ d i, i + d = 24 → wY_countArrows_4 post q w cp fx (d + 1) (nI (gv_ct (gx_pA w) i)) (nI i) := by
  intro d
  induction d with
  | zero =>
    intro i hi
    obtain rfl : i = 24 := by omega
    exact br_t (nI_le (a := 24) (b := 24) (by omega) (by decide)) hp
  | succ d ih =>
    intro i hi
    have q1 := ih (i + 1) (by omega)
    refine br_f (nI_ge (b := 24) (by omega) (by decide)) ?_
    refine cy_A (nI i) ?_
    rw [gx_A_j (by omega)]
    refine gb_r (fun z => nm_r (nI_1 i) ?_) (fun z => nm_r (nI_1 _) (nm_r (nI_1 i) ?_))
    · rw [gv_ct_f z] at q1; exact q1
    · rw [gv_ct_t z] at q1; exact q1
theorem cy_cm_l {post : Int32 → Prop} (x ty wy : Int32) (hy : gx_in 2 wy = true) (hp : post (nI (gv_ct (gx_mt w x ty wy) 24))) : ∀ d i, i + d = 24 → wY_degree_33 post x ty wy q w cp fx (d + 1) (nI (gv_ct (gx_mt w x ty wy) i)) (nI i) := by
  intro d
  induction d with
  | zero =>
    intro i hi
    obtain rfl : i = 24 := by omega
    exact br_t (nI_le (a := 24) (b := 24) (by omega) (by decide)) hp
  | succ d ih =>
    intro i hi
    have q1 := ih (i + 1) (by omega)
    refine br_f (nI_ge (b := 24) (by omega) (by decide)) ?_
    refine cy_mt (by omega) x ty wy hy (gb_r (fun z => nm_r (nI_1 i) ?_) (fun z => nm_r (nI_1 _) (nm_r (nI_1 i) ?_)))
    · rw [gv_ct_f z] at q1; exact q1
    · rw [gv_ct_t z] at q1; exact q1
theorem cy_ca {post : Int32 → Prop} (hp : post (nI (gv_ct (gx_pA w) 24))) : wpY_countArrows post (q, w, cp, fx) := ⟨25, cy_ca_l hp 24 0 rfl⟩
theorem gx_D_t {w : Nat → Int32} {x ty wy : Int32} (z : gx_D w x ty wy = true) : gx_N w x = true ∧ gx_in 4 ty = true ∧ gx_in 2 wy = true := by
  unfold gx_D at z
  rw [Bool.and_eq_true, Bool.and_eq_true] at z
  exact z
theorem gx_D_y {w : Nat → Int32} {x ty wy : Int32} (z : gx_N w x = true) (z1 : gx_in 4 ty = true) (z2 : gx_in 2 wy = true) : gx_D w x ty wy = true := by
  unfold gx_D
  rw [z, z1, z2]; rfl
theorem cy_deg {post : Int32 → Prop} (x ty wy : Int32) (ht : gx_D w x ty wy = true → post (nI (gv_ct (gx_mt w x ty wy) 24))) (hf : ¬ gx_D w x ty wy = true → post (-1)) : wpY_degree post (q, w, cp, fx) x ty wy := by
  unfold wpY_degree
  refine cy_N x (gb_r (fun k => hf (fun z => k (gx_D_t z).1)) (fun k => cy_T ty (gb_n (fun k2 => ?_) (fun k2 => hf (fun z => k2 (gx_D_t z).2.1)))))
  by_cases z1 : wy < 0
  · refine br_t z1 (hf (fun z => ?_))
    have z2 := (gx_D_t z).2.2
    rw [gx_in_n z1] at z2; exact absurd z2 (by decide)
  · by_cases z3 : wy ≤ nI 2
    · have hy := gx_in_y z1 z3
      exact br_f z1 (br_t z3 ⟨25, cy_cm_l x ty wy hy (ht (gx_D_y k k2 hy)) 24 0 rfl⟩)
    · refine br_f z1 (br_f z3 (hf (fun z => ?_)))
      have z2 := (gx_D_t z).2.2
      rw [gx_in_b z3] at z2; exact absurd z2 (by decide)
end
end
section
/-! node, arrow: the first free place -/
section
variable {o : Nat} {ta la va ea fa ga ya ha ca ra w : Nat → Int32}
theorem cx_node_l {post : Int32 → SX → Prop} (K : gx_K o ta la va ea fa ga ya ha w) (x1 x2 : Int32) {m : Nat} (h1 : m = 12 → post (-3) (nI o, ta, la, va, ea, fa, ga, ya, ha, ca, ra)) (h2 : m < 12 → post (nI m) (nI o, upd ta (o * 12 + m) 1, upd la (o * 12 + m) x1, upd va (o * 12 + m) x2, ea, fa, ga, ya, ha, ca, ra)) : ∀ d i, i + d = 12 → gv_fi (fun i => decide (w i ≠ 1)) d i = m → wX_node_12 post x1 x2 (nI o) ta la va ea fa ga ya ha ca ra (d + 1) (nI i) := by
  intro d
  induction d with
  | zero =>
    intro i hi em
    obtain rfl : i = 12 := by omega
    exact br_t (nI_le (a := 12) (b := 12) (by omega) (by decide)) (h1 em.symm)
  | succ d ih =>
    intro i hi em
    have q1 := ih (i + 1) (by omega)
    refine br_f (nI_ge (b := 12) (by omega) (by decide)) (cx_ns K (by omega) (fun s hs es => ⟨hs, ?_⟩))
    rw [es, (K.2.1.1 i (by omega)).1, gb_n1]
    by_cases z : w i = 0
    · have z1 : (fun i => decide (w i ≠ 1)) i = true := by dsimp only; rw [z]; decide
      rw [gv_fi_t z1] at em
      subst em
      exact br_t z ⟨hs, nm_e ⟨hs, nm_e ⟨hs, nm_e (h2 (by omega))⟩⟩⟩
    · have z0 : w i = 1 := ((K.2.2.1 i (by omega)).1).resolve_left z
      have z1 : ¬ (fun i => decide (w i ≠ 1)) i = true := by dsimp only; rw [z0]; decide
      rw [gv_fi_f z1] at em
      exact br_f z (nm_r (nI_1 i) (q1 em))
theorem cx_node {post : Int32 → SX → Prop} (K : gx_K o ta la va ea fa ga ya ha w) (x1 x2 : Int32) (h0 : ¬ gx_in 7 x1 = true → post (-1) (nI o, ta, la, va, ea, fa, ga, ya, ha, ca, ra)) (h1 : gx_in 7 x1 = true → gv_fi (fun i => decide (w i ≠ 1)) 12 0 = 12 → post (-3) (nI o, ta, la, va, ea, fa, ga, ya, ha, ca, ra)) (h2 : gx_in 7 x1 = true → ∀ m, m < 12 → gv_fi (fun i => decide (w i ≠ 1)) 12 0 = m → post (nI m) (nI o, upd ta (o * 12 + m) 1, upd la (o * 12 + m) x1, upd va (o * 12 + m) x2, ea, fa, ga, ya, ha, ca, ra)) : wpX_node post (nI o, ta, la, va, ea, fa, ga, ya, ha, ca, ra) x1 x2 := by
  unfold wpX_node
  refine cx_L x1 (gb_r h0 (fun z => ⟨13, cx_node_l K x1 x2 (m := gv_fi (fun i => decide (w i ≠ 1)) 12 0) (h1 z) (fun hm => h2 z _ hm rfl) 12 0 rfl rfl⟩))
theorem cx_arrow_l {post : Int32 → SX → Prop} (K : gx_K o ta la va ea fa ga ya ha w) (x1 x2 x3 : Int32) {m : Nat} (h1 : m = 24 → post (-3) (nI o, ta, la, va, ea, fa, ga, ya, ha, ca, ra)) (h2 : m < 24 → post (nI m) (nI o, ta, la, va, upd ea (o * 24 + m) 1, upd fa (o * 24 + m) (x1 / 12), upd ga (o * 24 + m) (x1 - x1 / 12 * 12), upd ya (o * 24 + m) x2, upd ha (o * 24 + m) x3, ca, ra)) : ∀ d i, i + d = 24 → gv_fi (fun i => decide (w (36 + i) ≠ 1)) d i = m → wX_arrow_30 post x1 x2 x3 (nI o) ta la va ea fa ga ya ha ca ra (d + 1) (nI i) := by
  intro d
  induction d with
  | zero =>
    intro i hi em
    obtain rfl : i = 24 := by omega
    exact br_t (nI_le (a := 24) (b := 24) (by omega) (by decide)) (h1 em.symm)
  | succ d ih =>
    intro i hi em
    have q1 := ih (i + 1) (by omega)
    refine br_f (nI_ge (b := 24) (by omega) (by decide)) (cx_as K (by omega) (fun s hs es => ⟨hs, ?_⟩))
    rw [es, (K.2.1.2 i (by omega)).1, gb_n1]
    by_cases z : w (36 + i) = 0
    · have z1 : (fun i => decide (w (36 + i) ≠ 1)) i = true := by dsimp only; rw [z]; decide
      rw [gv_fi_t z1] at em
      subst em
      exact br_t z ⟨hs, nm_e ⟨by decide, hs, nm_e ⟨by decide, hs, nm_e ⟨hs, nm_e ⟨hs, nm_e (h2 (by omega))⟩⟩⟩⟩⟩
    · have z0 : w (36 + i) = 1 := ((K.2.2.2 i (by omega)).1).resolve_left z
      have z1 : ¬ (fun i => decide (w (36 + i) ≠ 1)) i = true := by dsimp only; rw [z0]; decide
      rw [gv_fi_f z1] at em
      exact br_f z (nm_r (nI_1 i) (q1 em))
theorem cx_arrow {post : Int32 → SX → Prop} (K : gx_K o ta la va ea fa ga ya ha w) (x1 x2 x3 : Int32) (h0 : ¬ (gx_E w x1 = true ∧ gx_in 3 x2 = true ∧ gx_in 99 x3 = true) → post (-1) (nI o, ta, la, va, ea, fa, ga, ya, ha, ca, ra)) (h1 : gx_E w x1 = true → gx_in 3 x2 = true → gx_in 99 x3 = true → gv_fi (fun i => decide (w (36 + i) ≠ 1)) 24 0 = 24 → post (-3) (nI o, ta, la, va, ea, fa, ga, ya, ha, ca, ra)) (h2 : gx_E w x1 = true → gx_in 3 x2 = true → gx_in 99 x3 = true → ∀ m, m < 24 → gv_fi (fun i => decide (w (36 + i) ≠ 1)) 24 0 = m → post (nI m) (nI o, ta, la, va, upd ea (o * 24 + m) 1, upd fa (o * 24 + m) (x1 / 12), upd ga (o * 24 + m) (x1 - x1 / 12 * 12), upd ya (o * 24 + m) x2, upd ha (o * 24 + m) x3, ca, ra)) : wpX_arrow post (nI o, ta, la, va, ea, fa, ga, ya, ha, ca, ra) x1 x2 x3 := by
  unfold wpX_arrow
  refine cx_E K x1 (gb_r (fun z => h0 (fun k => z k.1)) (fun z => ?_))
  rcases pk_ix x2 (n := 4) (by decide) with y1 | y1 | ⟨j, hj, rfl⟩
  · refine br_t y1 (h0 (fun k => ?_))
    have k2 := k.2.1
    rw [gx_in_n y1] at k2; exact absurd k2 (by decide)
  · refine br_f (Int32.not_lt.mpr (Int32.le_trans (by decide) y1)) (br_t y1 (h0 (fun k => ?_)))
    have k2 := k.2.1
    rw [gx_in_b (fun z2 => absurd (Int32.le_trans y1 z2) (by decide))] at k2; exact absurd k2 (by decide)
  · have y2 : gx_in 3 (nI j) = true := gx_in_y (nI_pos (by omega)) (nI_le (by omega) (by decide))
    refine br_f (nI_pos (by omega)) (br_f (nI_ge hj (by decide)) (cx_W x3 (gb_r (fun z2 => h0 (fun k => z2 k.2.2)) (fun z2 => ⟨25, ?_⟩))))
    exact cx_arrow_l K x1 (nI j) x3 (m := gv_fi (fun i => decide (w (36 + i) ≠ 1)) 24 0) (h1 z y2 z2) (fun hm => h2 z y2 z2 _ hm rfl) 24 0 rfl rfl
end
section
variable {q : Int32} {w cp fx : Nat → Int32}
theorem cy_node_l {post : Int32 → SY → Prop} (x1 x2 : Int32) {m : Nat} (h1 : m = 12 → post (-3) (q, w, cp, fx)) (h2 : m < 12 → post (nI m) (q, upd (upd (upd w m 1) (12 + m) x1) (24 + m) x2, cp, fx)) : ∀ d i, i + d = 12 → gv_fi (fun i => decide (w i ≠ 1)) d i = m → wY_node_12 post x1 x2 q w cp fx (d + 1) (nI i) := by
  intro d
  induction d with
  | zero =>
    intro i hi em
    obtain rfl : i = 12 := by omega
    exact br_t (nI_le (a := 12) (b := 12) (by omega) (by decide)) (h1 em.symm)
  | succ d ih =>
    intro i hi em
    have q1 := ih (i + 1) (by omega)
    refine br_f (nI_ge (b := 12) (by omega) (by decide)) (cy_N (nI i) ?_)
    rw [gx_N_j (by omega)]
    refine gb_r (fun z => ?_) (fun z => ?_)
    · have z1 : (fun i => decide (w i ≠ 1)) i = true := decide_eq_true (fun k => z (decide_eq_true k))
      rw [gv_fi_t z1] at em
      subst em
      obtain ⟨i1, i2⟩ := cy_ix 12 i 12 rfl (by omega)
      obtain ⟨j1, j2⟩ := cy_ix 24 i 24 rfl (by omega)
      rw [i2, j2, nI_clamp (by omega)]
      exact ⟨vp_in_nI (by omega) (by decide), nm_e ⟨i1, nm_e ⟨j1, nm_e (h2 (by omega))⟩⟩⟩
    · have z1 : ¬ (fun i => decide (w i ≠ 1)) i = true := fun k => absurd (of_decide_eq_true z) (of_decide_eq_true k)
      rw [gv_fi_f z1] at em
      exact nm_r (nI_1 i) (q1 em)
theorem cy_node {post : Int32 → SY → Prop} (x1 x2 : Int32) (h0 : ¬ gx_in 7 x1 = true → post (-1) (q, w, cp, fx)) (h1 : gx_in 7 x1 = true → gv_fi (fun i => decide (w i ≠ 1)) 12 0 = 12 → post (-3) (q, w, cp, fx)) (h2 : gx_in 7 x1 = true → ∀ m, m < 12 → gv_fi (fun i => decide (w i ≠ 1)) 12 0 = m → post (nI m) (q, upd (upd (upd w m 1) (12 + m) x1) (24 + m) x2, cp, fx)) : wpY_node post (q, w, cp, fx) x1 x2 := by
  unfold wpY_node
  refine cy_L x1 (gb_n (fun z => ⟨13, cy_node_l x1 x2 (m := gv_fi (fun i => decide (w i ≠ 1)) 12 0) (h1 z) (fun hm => h2 z _ hm rfl) 12 0 rfl rfl⟩) h0)
theorem cy_arrow_l {post : Int32 → SY → Prop} (x1 x2 x3 : Int32) {m : Nat} (h1 : m = 24 → post (-3) (q, w, cp, fx)) (h2 : m < 24 → post (nI m) (q, upd (upd (upd (upd (upd w (36 + m) 1) (60 + m) (x1 / 12)) (84 + m) (x1 - x1 / 12 * 12)) (108 + m) x2) (132 + m) x3, cp, fx)) : ∀ d i, i + d = 24 → gv_fi (fun i => decide (w (36 + i) ≠ 1)) d i = m → wY_arrow_32 post x1 x2 x3 q w cp fx (d + 1) (nI i) := by
  intro d
  induction d with
  | zero =>
    intro i hi em
    obtain rfl : i = 24 := by omega
    exact br_t (nI_le (a := 24) (b := 24) (by omega) (by decide)) (h1 em.symm)
  | succ d ih =>
    intro i hi em
    have q1 := ih (i + 1) (by omega)
    refine br_f (nI_ge (b := 24) (by omega) (by decide)) (cy_A (nI i) ?_)
    rw [gx_A_j (by omega)]
    refine gb_r (fun z => ?_) (fun z => ?_)
    · have z1 : (fun i => decide (w (36 + i) ≠ 1)) i = true := decide_eq_true (fun k => z (decide_eq_true k))
      rw [gv_fi_t z1] at em
      subst em
      obtain ⟨i1, i2⟩ := cy_ix 36 i 36 rfl (by omega)
      obtain ⟨j1, j2⟩ := cy_ix 60 i 60 rfl (by omega)
      obtain ⟨k1, k2⟩ := cy_ix 84 i 84 rfl (by omega)
      obtain ⟨l1, l2⟩ := cy_ix 108 i 108 rfl (by omega)
      obtain ⟨m1, m2⟩ := cy_ix 132 i 132 rfl (by omega)
      rw [i2, j2, k2, l2, m2]
      exact ⟨i1, nm_e ⟨by decide, j1, nm_e ⟨by decide, k1, nm_e ⟨l1, nm_e ⟨m1, nm_e (h2 (by omega))⟩⟩⟩⟩⟩
    · have z1 : ¬ (fun i => decide (w (36 + i) ≠ 1)) i = true := fun k => absurd (of_decide_eq_true z) (of_decide_eq_true k)
      rw [gv_fi_f z1] at em
      exact nm_r (nI_1 i) (q1 em)
theorem cy_arrow {post : Int32 → SY → Prop} (x1 x2 x3 : Int32) (h0 : ¬ (gx_E w x1 = true ∧ gx_in 3 x2 = true ∧ gx_in 99 x3 = true) → post (-1) (q, w, cp, fx)) (h1 : gx_E w x1 = true → gx_in 3 x2 = true → gx_in 99 x3 = true → gv_fi (fun i => decide (w (36 + i) ≠ 1)) 24 0 = 24 → post (-3) (q, w, cp, fx)) (h2 : gx_E w x1 = true → gx_in 3 x2 = true → gx_in 99 x3 = true → ∀ m, m < 24 → gv_fi (fun i => decide (w (36 + i) ≠ 1)) 24 0 = m → post (nI m) (q, upd (upd (upd (upd (upd w (36 + m) 1) (60 + m) (x1 / 12)) (84 + m) (x1 - x1 / 12 * 12)) (108 + m) x2) (132 + m) x3, cp, fx)) : wpY_arrow post (q, w, cp, fx) x1 x2 x3 := by
  unfold wpY_arrow
  refine cy_E x1 (gb_n (fun z => ?_) (fun z => h0 (fun k => z k.1)))
  by_cases y1 : x2 < 0
  · refine br_t y1 (h0 (fun k => ?_))
    have k2 := k.2.1
    rw [gx_in_n y1] at k2; exact absurd k2 (by decide)
  · by_cases y2 : nI 3 < x2
    · refine br_f y1 (br_t y2 (h0 (fun k => ?_)))
      have k2 := k.2.1
      rw [gx_in_b (Int32.not_le.mpr y2)] at k2; exact absurd k2 (by decide)
    · have y3 := gx_in_y y1 (Int32.not_lt.mp y2)
      by_cases x4 : x3 < 0
      · refine br_f y1 (br_f y2 (br_t x4 (h0 (fun k => ?_))))
        have k2 := k.2.2
        rw [gx_in_n x4] at k2; exact absurd k2 (by decide)
      · by_cases x5 : x3 ≤ nI 99
        · have y4 := gx_in_y x4 x5
          refine br_f y1 (br_f y2 (br_f x4 (br_t x5 ⟨25, ?_⟩)))
          exact cy_arrow_l x1 x2 x3 (m := gv_fi (fun i => decide (w (36 + i) ≠ 1)) 24 0) (h1 z y3 y4) (fun hm => h2 z y3 y4 _ hm rfl) 24 0 rfl rfl
        · refine br_f y1 (br_f y2 (br_f x4 (br_f x5 (h0 (fun k => ?_)))))
          have k2 := k.2.2
          rw [gx_in_b x5] at k2; exact absurd k2 (by decide)
end
end
section
/-! drop: arrows that touch n go, from the first to the last -/
theorem gx_mt_to {w : Nat → Int32} {n : Int32} {a : Nat} (z : gx_mt w n 4 2 a = true) : w (36 + a) = 1 ∧ (w (60 + a) = n ∨ w (84 + a) = n) := by
  unfold gx_mt gx_of at z
  obtain ⟨z1, z2⟩ := (Bool.and_eq_true _ _).mp z
  obtain ⟨z3, _⟩ := (Bool.and_eq_true _ _).mp z1
  refine ⟨of_decide_eq_true z3, ?_⟩
  rcases (Bool.or_eq_true _ _).mp z2 with z4 | z4
  · exact Or.inl (of_decide_eq_true ((Bool.and_eq_true _ _).mp z4).2)
  · exact Or.inr (of_decide_eq_true ((Bool.and_eq_true _ _).mp z4).2)
section
variable {o : Nat} {ta la va ea fa ga ya ha ca ra w : Nat → Int32}
theorem cx_cat_l {post : SX → Prop} (n : Int32) (hp : ∀ e1, gx_K o ta la va e1 fa ga ya ha (dr_w n w 24) → (∀ j, (j < o * 24 ∨ o * 24 + 24 ≤ j) → e1 j = ea j) → post (nI o, ta, la, va, e1, fa, ga, ya, ha, ca, ra)) : ∀ d i, i + d = 24 → ∀ e1, gx_K o ta la va e1 fa ga ya ha (dr_w n w i) → (∀ j, (j < o * 24 ∨ o * 24 + 24 ≤ j) → e1 j = ea j) → wX_cutAllTouching_2 post n (nI o) (d + 1) (nI i) ta la va e1 fa ga ya ha ca ra := by
  intro d
  induction d with
  | zero =>
    intro i hi e1 K1 H1
    obtain rfl : i = 24 := by omega
    exact br_t (nI_le (a := 24) (b := 24) (by omega) (by decide)) (hp e1 K1 H1)
  | succ d ih =>
    intro i hi e1 K1 H1
    have hi2 : i < 24 := by omega
    refine br_f (nI_ge (b := 24) (by omega) (by decide)) (cx_mt K1 hi2 n 4 2 (gb_r (fun z => nm_r (nI_1 i) ?_) (fun z => cx_as K1 hi2 (fun s hs es => ⟨hs, ?_⟩))))
    · refine ih (i + 1) (by omega) e1 ?_ H1
      rw [dr_f z]; exact K1
    · rw [es, gb_n0]
      refine nm_e (nm_r (nI_1 i) (ih (i + 1) (by omega) (upd e1 (o * 24 + i) 0) ?_ (fun j hj => ?_)))
      · rw [dr_t z]; exact ⟨K1.1, gx_ue K1.2.1 hi2 0, gd_e0 K1.2.2 hi2⟩
      · rw [pk_un (by omega)]; exact H1 j hj
theorem cx_d29 {post : Int32 → SX → Prop} (K : gx_K o ta la va ea fa ga ya ha w) {n : Nat} (hn : n < 12) (x3 : Int32) (hp : ∀ e1, gx_K o ta la va e1 fa ga ya ha (dr_w (nI n) w 24) → (∀ j, (j < o * 24 ∨ o * 24 + 24 ≤ j) → e1 j = ea j) → post x3 (nI o, upd ta (o * 12 + n) 0, la, va, e1, fa, ga, ya, ha, ca, ra)) : wX_drop_29 post (nI n) x3 (nI o) ta la va ea fa ga ya ha ca ra := by
  unfold wX_drop_29
  refine ⟨25, cx_cat_l (nI n) (fun e1 K1 H1 => ?_) 24 0 rfl ea K (fun _ _ => rfl)⟩
  refine cx_ns K1 hn (fun s hs es => ⟨hs, ?_⟩)
  rw [es, gb_n0]
  exact nm_e (hp e1 K1 H1)
theorem cx_drop {post : Int32 → SX → Prop} (K : gx_K o ta la va ea fa ga ya ha w) (x p1 : Int32) (h0 : ¬ gx_N w x = true → post (-1) (nI o, ta, la, va, ea, fa, ga, ya, ha, ca, ra)) (h1 : ∀ n, n < 12 → x = nI n → gx_N w x = true → p1 = 0 → ¬ nI (gv_ct (gx_mt w x 4 2) 24) ≤ 0 → post (-4) (nI o, ta, la, va, ea, fa, ga, ya, ha, ca, ra)) (h2 : ∀ n, n < 12 → x = nI n → gx_N w x = true → ¬ (p1 = 0 ∧ ¬ nI (gv_ct (gx_mt w x 4 2) 24) ≤ 0) → ∀ e1, gx_K o ta la va e1 fa ga ya ha (dr_w (nI n) w 24) → (∀ j, (j < o * 24 ∨ o * 24 + 24 ≤ j) → e1 j = ea j) → post (nI (gv_ct (gx_mt w x 4 2) 24)) (nI o, upd ta (o * 12 + n) 0, la, va, e1, fa, ga, ya, ha, ca, ra)) : wpX_drop post (nI o, ta, la, va, ea, fa, ga, ya, ha, ca, ra) x p1 := by
  unfold wpX_drop
  refine cx_N K x (gb_r h0 (fun z => ?_))
  obtain ⟨n, hn, rfl, wn⟩ := gx_N_t z
  refine cx_cm K (nI n) 4 2 ?_
  by_cases z1 : p1 = 0
  · refine br_t z1 ?_
    by_cases z2 : nI (gv_ct (gx_mt w (nI n) 4 2) 24) ≤ 0
    · exact br_t z2 (cx_d29 K hn _ (h2 n hn rfl z (fun k => k.2 z2)))
    · exact br_f z2 (h1 n hn rfl z z1 z2)
  · exact br_f z1 (cx_d29 K hn _ (h2 n hn rfl z (fun k => z1 k.1)))
end
section
variable {q : Int32} {w cp fx : Nat → Int32}
theorem cy_drop_l {post : Int32 → SY → Prop} (n : Nat) (hn : n < 12) (x3 : Int32) (hp : post x3 (q, upd (dr_w (nI n) w 24) n 0, cp, fx)) : ∀ d i, i + d = 24 → wY_drop_32 post (nI n) x3 q (d + 1) (nI i) (dr_w (nI n) w i) cp fx := by
  intro d
  induction d with
  | zero =>
    intro i hi
    obtain rfl : i = 24 := by omega
    refine br_t (nI_le (a := 24) (b := 24) (by omega) (by decide)) ⟨vp_in_nI (by omega) (by decide), ?_⟩
    rw [nI_clamp (by omega)]
    exact nm_e hp
  | succ d ih =>
    intro i hi
    have q1 := ih (i + 1) (by omega)
    have hi2 : i < 24 := by omega
    have h70 : gx_mt (dr_w (nI n) w i) (nI n) 4 2 i = true → wY_drop_70 post (wY_drop_32 post (nI n) x3 q (d + 1)) (nI n) x3 (nI i) q (dr_w (nI n) w i) cp fx := by
      intro z
      rw [dr_t z] at q1
      obtain ⟨i1, i2⟩ := cy_ix 36 i 36 rfl (by omega)
      unfold wY_drop_70
      rw [i2]
      exact ⟨i1, nm_e (nm_r (nI_1 i) q1)⟩
    have hno : ¬ gx_mt (dr_w (nI n) w i) (nI n) 4 2 i = true → wY_drop_32 post (nI n) x3 q (d + 1) (nI (i + 1)) (dr_w (nI n) w i) cp fx := by
      intro z
      rw [dr_f z] at q1; exact q1
    refine br_f (nI_ge (b := 24) (by omega) (by decide)) (cy_A (nI i) ?_)
    rw [gx_A_j hi2]
    refine gb_r (fun z => nm_r (nI_1 i) (hno (fun k => z (decide_eq_true (gx_mt_to k).1)))) (fun z => cy_p0 hi2 ?_)
    have z0 := of_decide_eq_true z
    by_cases z1 : dr_w (nI n) w i (60 + i) = nI n
    · exact br_t z1 (h70 (gx_mt_of z0 (Or.inl z1)))
    · refine br_f z1 (cy_p1 hi2 ?_)
      by_cases z2 : dr_w (nI n) w i (84 + i) = nI n
      · exact br_t z2 (h70 (gx_mt_of z0 (Or.inr z2)))
      · refine br_f z2 (nm_r (nI_1 i) (hno (fun k => ?_)))
        rcases (gx_mt_to k).2 with k1 | k1
        · exact z1 k1
        · exact z2 k1
theorem cy_drop {post : Int32 → SY → Prop} (x p1 : Int32) (h0 : ¬ gx_N w x = true → post (-1) (q, w, cp, fx)) (h1 : gx_N w x = true → p1 = 0 → ¬ nI (gv_ct (gx_mt w x 4 2) 24) ≤ 0 → post (-4) (q, w, cp, fx)) (h2 : ∀ n, n < 12 → x = nI n → gx_N w x = true → ¬ (p1 = 0 ∧ ¬ nI (gv_ct (gx_mt w x 4 2) 24) ≤ 0) → post (nI (gv_ct (gx_mt w x 4 2) 24)) (q, upd (dr_w (nI n) w 24) n 0, cp, fx)) : wpY_drop post (q, w, cp, fx) x p1 := by
  unfold wpY_drop
  refine cy_N x (gb_r h0 (fun z => ?_))
  obtain ⟨n, hn, rfl, wn⟩ := gx_N_t z
  refine cy_deg (nI n) 4 2 (fun _ => ?_) (fun k => absurd (gx_D_y z (by decide) (by decide)) k)
  by_cases z1 : p1 = 0
  · refine br_t z1 ?_
    by_cases z2 : nI (gv_ct (gx_mt w (nI n) 4 2) 24) ≤ 0
    · exact br_t z2 ⟨25, cy_drop_l n hn _ (h2 n hn rfl z (fun k => k.2 z2)) 24 0 rfl⟩
    · exact br_f z2 (h1 z z1 z2)
  · exact br_f z1 ⟨25, cy_drop_l n hn _ (h2 n hn rfl z (fun k => z1 k.1)) 24 0 rfl⟩
end
/-! copies of a picture -/
section
variable {o : Nat} {ta la va ea fa ga ya ha ca ra w : Nat → Int32}
theorem cx_c74 {post : SX → Prop} {s d : Nat} (hs4 : s ≤ 4) (hd4 : d ≤ 4) (hsd : s < d ∨ d < s) (hb : ∀ a, a < 24 → ea (s * 24 + a) = 0 ∨ ea (s * 24 + a) = 1) (hp : ∀ e1 f1 g1 y1 h1, gx_cp 24 s d 24 ea e1 → gx_cp 24 s d 24 fa f1 → gx_cp 24 s d 24 ga g1 → gx_cp 24 s d 24 ya y1 → gx_cp 24 s d 24 ha h1 → post (nI o, ta, la, va, e1, f1, g1, y1, h1, ca, ra)) : ∀ dd i, i + dd = 24 → ∀ e1 f1 g1 y1 h1, gx_cp 24 s d i ea e1 → gx_cp 24 s d i fa f1 → gx_cp 24 s d i ga g1 → gx_cp 24 s d i ya y1 → gx_cp 24 s d i ha h1 → wX_copyPicture_74 post (nI s) (nI d) (nI o) (dd + 1) (nI i) ta la va e1 f1 g1 y1 h1 ca ra := by
  intro dd
  induction dd with
  | zero =>
    intro i hi e1 f1 g1 y1 h1 c1 c2 c3 c4 c5
    obtain rfl : i = 24 := by omega
    exact br_t (nI_le (a := 24) (b := 24) (by omega) (by decide)) (hp e1 f1 g1 y1 h1 c1 c2 c3 c4 c5)
  | succ dd ih =>
    intro i hi e1 f1 g1 y1 h1 c1 c2 c3 c4 c5
    have hx : s * 24 + i < d * 24 ∨ d * 24 + i ≤ s * 24 + i := by omega
    have e01 : e1 (s * 24 + i) = 0 ∨ e1 (s * 24 + i) = 1 := by rw [c1.2 _ hx]; exact hb i (by omega)
    have vs : vp_in (nI (s * 24 + i)) 120 := vp_in_nI (by omega) (by decide)
    have vd : vp_in (nI (d * 24 + i)) 120 := vp_in_nI (by omega) (by decide)
    refine br_f (nI_ge (b := 24) (by omega) (by decide)) (nm_r (gx_24 s i) (nm_r (gx_24 d i) ?_))
    rw [nI_clamp (n := s * 24 + i) (by omega), nI_clamp (n := d * 24 + i) (by omega), gb_n01 e01]
    exact ⟨vs, vd, nm_e ⟨vs, vd, nm_e ⟨vs, vd, nm_e ⟨vs, vd, nm_e ⟨vs, vd, nm_e (nm_r (nI_1 i) (ih (i + 1) (by omega) _ _ _ _ _ (gx_cps c1 hx) (gx_cps c2 hx) (gx_cps c3 hx) (gx_cps c4 hx) (gx_cps c5 hx)))⟩⟩⟩⟩⟩
theorem cx_c2 {post : SX → Prop} {s d : Nat} (hs4 : s ≤ 4) (hd4 : d ≤ 4) (hsd : s < d ∨ d < s) (hb : ∀ a, a < 24 → ea (s * 24 + a) = 0 ∨ ea (s * 24 + a) = 1) (hb2 : ∀ n, n < 12 → ta (s * 12 + n) = 0 ∨ ta (s * 12 + n) = 1) (hp : ∀ t1 l1 v1, gx_cp 12 s d 12 ta t1 → gx_cp 12 s d 12 la l1 → gx_cp 12 s d 12 va v1 → ∀ e1 f1 g1 y1 h1, gx_cp 24 s d 24 ea e1 → gx_cp 24 s d 24 fa f1 → gx_cp 24 s d 24 ga g1 → gx_cp 24 s d 24 ya y1 → gx_cp 24 s d 24 ha h1 → post (nI o, t1, l1, v1, e1, f1, g1, y1, h1, ca, ra)) : ∀ dd i, i + dd = 12 → ∀ t1 l1 v1, gx_cp 12 s d i ta t1 → gx_cp 12 s d i la l1 → gx_cp 12 s d i va v1 → wX_copyPicture_2 post (nI s) (nI d) (nI o) (dd + 1) (nI i) t1 l1 v1 ea fa ga ya ha ca ra := by
  intro dd
  induction dd with
  | zero =>
    intro i hi t1 l1 v1 c1 c2 c3
    obtain rfl : i = 12 := by omega
    exact br_t (nI_le (a := 12) (b := 12) (by omega) (by decide)) ⟨25, cx_c74 hs4 hd4 hsd hb (hp t1 l1 v1 c1 c2 c3) 24 0 rfl ea fa ga ya ha gx_cp0 gx_cp0 gx_cp0 gx_cp0 gx_cp0⟩
  | succ dd ih =>
    intro i hi t1 l1 v1 c1 c2 c3
    have hx : s * 12 + i < d * 12 ∨ d * 12 + i ≤ s * 12 + i := by omega
    have e01 : t1 (s * 12 + i) = 0 ∨ t1 (s * 12 + i) = 1 := by rw [c1.2 _ hx]; exact hb2 i (by omega)
    have vs : vp_in (nI (s * 12 + i)) 60 := vp_in_nI (by omega) (by decide)
    have vd : vp_in (nI (d * 12 + i)) 60 := vp_in_nI (by omega) (by decide)
    refine br_f (nI_ge (b := 12) (by omega) (by decide)) (nm_r (gx_12 s i) (nm_r (gx_12 d i) ?_))
    rw [nI_clamp (n := s * 12 + i) (by omega), nI_clamp (n := d * 12 + i) (by omega), gb_n01 e01]
    exact ⟨vs, vd, nm_e ⟨vs, vd, nm_e ⟨vs, vd, nm_e (nm_r (nI_1 i) (ih (i + 1) (by omega) _ _ _ (gx_cps c1 hx) (gx_cps c2 hx) (gx_cps c3 hx)))⟩⟩⟩
theorem cx_copy {post : SX → Prop} (K : gx_K o ta la va ea fa ga ya ha w) {d : Nat} (hd4 : d ≤ 4) (hsd : o < d ∨ d < o) (hp : ∀ t1 l1 v1 e1 f1 g1 y1 h1, gx_cp 12 o d 12 ta t1 → gx_cp 12 o d 12 la l1 → gx_cp 12 o d 12 va v1 → gx_cp 24 o d 24 ea e1 → gx_cp 24 o d 24 fa f1 → gx_cp 24 o d 24 ga g1 → gx_cp 24 o d 24 ya y1 → gx_cp 24 o d 24 ha h1 → post (nI o, t1, l1, v1, e1, f1, g1, y1, h1, ca, ra)) : wpX_copyPicture post (nI o, ta, la, va, ea, fa, ga, ya, ha, ca, ra) (nI o) (nI d) := by
  have hb : ∀ a, a < 24 → ea (o * 24 + a) = 0 ∨ ea (o * 24 + a) = 1 := fun a ha' => by rw [(K.2.1.2 a ha').1]; exact (K.2.2.2 a ha').1
  have hb2 : ∀ n, n < 12 → ta (o * 12 + n) = 0 ∨ ta (o * 12 + n) = 1 := fun n hn => by rw [(K.2.1.1 n hn).1]; exact (K.2.2.1 n hn).1
  exact ⟨13, cx_c2 K.1 hd4 hsd hb hb2 (fun t1 l1 v1 c1 c2 c3 e1 f1 g1 y1 h1 c4 c5 c6 c7 c8 => hp t1 l1 v1 e1 f1 g1 y1 h1 c1 c2 c3 c4 c5 c6 c7 c8) 12 0 rfl ta la va gx_cp0 gx_cp0 gx_cp0⟩
end
section
variable {w cp fx : Nat → Int32}
theorem cy_beg_l {post : Int32 → SY → Prop} {o : Nat} (ho : o < 4) (hp : ∀ c1, (∀ j, j < 156 → c1 (156 * o + j) = w j) → (∀ j, j < 156 * o → c1 j = cp j) → post (nI (o + 1)) (nI (o + 1), w, c1, fx)) : ∀ d i, i + d = 156 → ∀ c1, (∀ j, j < i → c1 (156 * o + j) = w j) → (∀ j, j < 156 * o → c1 j = cp j) → wY_begin_13 post (nI o) (d + 1) (nI i) w c1 fx := by
  intro d
  induction d with
  | zero =>
    intro i hi c1 k1 k2
    obtain rfl : i = 156 := by omega
    exact br_t (nI_le (a := 156) (b := 156) (by omega) (by decide)) (nm_r (nI_1 o) (hp c1 k1 k2))
  | succ d ih =>
    intro i hi c1 k1 k2
    refine br_f (nI_ge (b := 156) (by omega) (by decide)) ⟨vp_in_nI (by omega) (by decide), ?_⟩
    rw [gx_156, nI_clamp (n := i) (by omega), nI_clamp (n := 156 * o + i) (by omega)]
    refine ⟨vp_in_nI (by omega) (by decide), nm_e (nm_r (nI_1 i) (ih (i + 1) (by omega) _ (fun j hj => ?_) (fun j hj => ?_)))⟩
    · by_cases e1 : j = i
      · subst e1; exact pk_us
      · rw [pk_un (by omega)]; exact k1 j (by omega)
    · rw [pk_un (by omega)]; exact k2 j hj
theorem cy_gb_l {post : SY → Prop} {q : Int32} {o : Nat} (ho : o < 4) (hp : ∀ w1, (∀ j, j < 156 → w1 j = cp (156 * o + j)) → post (q, w1, cp, fx)) : ∀ d i, i + d = 156 → ∀ w1, (∀ j, j < i → w1 j = cp (156 * o + j)) → wY_goBack_2 post (nI o) q (d + 1) (nI i) w1 cp fx := by
  intro d
  induction d with
  | zero =>
    intro i hi w1 k1
    obtain rfl : i = 156 := by omega
    exact br_t (nI_le (a := 156) (b := 156) (by omega) (by decide)) (hp w1 k1)
  | succ d ih =>
    intro i hi w1 k1
    refine br_f (nI_ge (b := 156) (by omega) (by decide)) ?_
    rw [gx_156, nI_clamp (n := i) (by omega), nI_clamp (n := 156 * o + i) (by omega)]
    refine ⟨vp_in_nI (by omega) (by decide), vp_in_nI (by omega) (by decide), nm_e (nm_r (nI_1 i) (ih (i + 1) (by omega) _ (fun j hj => ?_)))⟩
    by_cases e1 : j = i
    · subst e1; exact pk_us
    · rw [pk_un e1]; exact k1 j (by omega)
theorem cy_gb {post : SY → Prop} {q : Int32} {o : Nat} (ho : o < 4) (hp : ∀ w1, (∀ j, j < 156 → w1 j = cp (156 * o + j)) → post (q, w1, cp, fx)) : wpY_goBack post (q, w, cp, fx) (nI o) := ⟨157, cy_gb_l ho hp 156 0 rfl w (fun j hj => absurd hj (Nat.not_lt_zero _))⟩
end
end
section
/-! the relation, and the changes of one picture -/
def i_Rel (_ : Nat) (u : SX) (v : SY) : Prop := ∃ (o : Nat) (ta la va ea fa ga ya ha ca ra w cp fx : Nat → Int32), u = (nI o, ta, la, va, ea, fa, ga, ya, ha, ca, ra) ∧ v = (nI o, w, cp, fx) ∧ gx_R o ta la va ea fa ga ya ha w cp
theorem i_up {k : Nat} {u : SX} {v : SY} (h : i_Rel k u v) : i_Rel (k + 4) u v := h
theorem i_vc0 : wpX_init (fun u => wpY_init (fun v => i_Rel 0 u v)) := ⟨0, _, _, _, _, _, _, _, _, _, _, _, _, _, rfl, rfl, gx_R0⟩
theorem ir_mk {k o : Nat} {ta la va ea fa ga ya ha ca ra w cp fx : Nat → Int32} (R : gx_R o ta la va ea fa ga ya ha w cp) : i_Rel k (nI o, ta, la, va, ea, fa, ga, ya, ha, ca, ra) (nI o, w, cp, fx) := ⟨o, ta, la, va, ea, fa, ga, ya, ha, ca, ra, w, cp, fx, rfl, rfl, R⟩
theorem ir_K {o : Nat} {ta la va ea fa ga ya ha w cp : Nat → Int32} (R : gx_R o ta la va ea fa ga ya ha w cp) : gx_K o ta la va ea fa ga ya ha w := ⟨R.1, R.2.1, R.2.2.1⟩
theorem i_vc_node {k : Nat} {u : SX} {v : SY} (I : i_Rel k u v) (hk : k + 4 ≤ 2048) (v1 : Int32) (v2 : Int32) : wpX_node (fun r u' => wpY_node (fun r' v' => r' = r ∧ i_Rel (k + 4) u' v') v v1 v2) u v1 v2 := by
  obtain ⟨o, ta, la, va, ea, fa, ga, ya, ha, ca, ra, w, cp, fx, rfl, rfl, R⟩ := I
  refine cx_node (ir_K R) v1 v2 (fun z => ?_) (fun z em => ?_) (fun z m hm em => ?_)
  · exact cy_node v1 v2 (fun _ => ⟨rfl, ir_mk R⟩) (fun z2 => absurd z2 z) (fun z2 => absurd z2 z)
  · exact cy_node v1 v2 (fun z2 => absurd z z2) (fun _ _ => ⟨rfl, ir_mk R⟩) (fun _ m hm em2 => absurd (em2.symm.trans em) (by omega))
  · refine cy_node v1 v2 (fun z2 => absurd z z2) (fun _ em2 => absurd (em.symm.trans em2) (by omega)) (fun _ m2 hm2 em2 => ?_)
    obtain rfl : m = m2 := em.symm.trans em2
    refine ⟨rfl, ir_mk ?_⟩
    obtain ⟨j, hj, rfl⟩ := gx_in_t (by decide) z
    obtain ⟨ho, P, G, D⟩ := R
    exact ⟨ho, gx_uv (gx_ul (gx_ut P hm 1) hm (nI j)) hm v2, gd_v (gd_l (gd_t1 G hm) hm (by omega)) hm v2, gx_pv (gx_pl (gx_pt D hm 1) hm (nI j)) hm v2⟩
theorem gd_arrow {w : Nat → Int32} (G : gx_gd w) {m i j x y : Nat} (hm : m < 24) (hi : i < 12) (hj : j < 12) (hx : x < 4) (hy : y ≤ 99) (wi : w i = 1) (wj : w j = 1) : gx_gd (upd (upd (upd (upd (upd w (36 + m) 1) (60 + m) (nI i)) (84 + m) (nI j)) (108 + m) (nI x)) (132 + m) (nI y)) := by
  rw [gx_upd_comm w (i := 36 + m) (j := 60 + m) (by omega), gx_upd_comm _ (i := 36 + m) (j := 84 + m) (by omega), gx_upd_comm _ (i := 36 + m) (j := 108 + m) (by omega), gx_upd_comm _ (i := 36 + m) (j := 132 + m) (by omega)]
  have G1 := gd_f G hm hi wi
  have wj1 : upd w (60 + m) (nI i) j = 1 := (pk_un (by omega)).trans wj
  have G4 := gd_h (gd_y (gd_g G1 hm hj wj1) hm hx) hm hy
  refine gd_e1 G4 hm hi hj ?_ ?_ ?_ ?_
  · rw [pk_un (by omega), pk_un (by omega), pk_un (by omega), pk_un (by omega)]; exact wi
  · rw [pk_un (by omega), pk_un (by omega), pk_un (by omega), pk_un (by omega)]; exact wj
  · rw [pk_un (by omega), pk_un (by omega), pk_un (by omega), pk_us]
  · rw [pk_un (by omega), pk_un (by omega), pk_us]
theorem i_vc_arrow {k : Nat} {u : SX} {v : SY} (I : i_Rel k u v) (hk : k + 4 ≤ 2048) (v1 : Int32) (v2 : Int32) (v3 : Int32) : wpX_arrow (fun r u' => wpY_arrow (fun r' v' => r' = r ∧ i_Rel (k + 4) u' v') v v1 v2 v3) u v1 v2 v3 := by
  obtain ⟨o, ta, la, va, ea, fa, ga, ya, ha, ca, ra, w, cp, fx, rfl, rfl, R⟩ := I
  refine cx_arrow (ir_K R) v1 v2 v3 (fun z => ?_) (fun z z1 z2 em => ?_) (fun z z1 z2 m hm em => ?_)
  · exact cy_arrow v1 v2 v3 (fun _ => ⟨rfl, ir_mk R⟩) (fun k1 k2 k3 => absurd ⟨k1, k2, k3⟩ z) (fun k1 k2 k3 => absurd ⟨k1, k2, k3⟩ z)
  · exact cy_arrow v1 v2 v3 (fun k1 => absurd ⟨z, z1, z2⟩ k1) (fun _ _ _ _ => ⟨rfl, ir_mk R⟩) (fun _ _ _ m hm em2 => absurd (em2.symm.trans em) (by omega))
  · refine cy_arrow v1 v2 v3 (fun k1 => absurd ⟨z, z1, z2⟩ k1) (fun _ _ _ em2 => absurd (em.symm.trans em2) (by omega)) (fun _ _ _ m2 hm2 em2 => ?_)
    obtain rfl : m = m2 := em.symm.trans em2
    refine ⟨rfl, ir_mk ?_⟩
    obtain ⟨x, hx, rfl⟩ := gx_in_t (by decide) z1
    obtain ⟨y, hy, rfl⟩ := gx_in_t (by decide) z2
    obtain ⟨_, i, j, hi, hj, ei, ej, wi, wj⟩ := gx_E_t z
    obtain ⟨ho, P, G, D⟩ := R
    rw [ei] at ej ⊢
    rw [ej]
    exact ⟨ho, gx_uh (gx_uy (gx_ug (gx_uf (gx_ue P hm 1) hm (nI i)) hm (nI j)) hm (nI x)) hm (nI y), gd_arrow G hm hi hj (by omega) hy wi wj, gx_ph (gx_py (gx_pg (gx_pf (gx_pe D hm 1) hm (nI i)) hm (nI j)) hm (nI x)) hm (nI y)⟩
theorem i_vc_setNode {k : Nat} {u : SX} {v : SY} (I : i_Rel k u v) (hk : k + 4 ≤ 2048) (v1 : Int32) (v2 : Int32) (v3 : Int32) : wpX_setNode (fun r u' => wpY_setNode (fun r' v' => r' = r ∧ i_Rel (k + 4) u' v') v v1 v2 v3) u v1 v2 v3 := by
  obtain ⟨o, ta, la, va, ea, fa, ga, ya, ha, ca, ra, w, cp, fx, rfl, rfl, R⟩ := I
  have K := ir_K R
  unfold wpX_setNode wpY_setNode
  refine cx_N K v1 (gb_r (fun z => ?_) (fun z => cx_L v2 (gb_r (fun z1 => ?_) (fun z1 => ?_))))
  · exact cy_N v1 (gb_r (fun _ => ⟨rfl, ir_mk R⟩) (fun z2 => absurd z2 z))
  · exact cy_N v1 (gb_r (fun z2 => absurd z z2) (fun _ => cy_L v2 (gb_n (fun z2 => absurd z2 z1) (fun _ => ⟨rfl, ir_mk R⟩))))
  · obtain ⟨n, hn, rfl, wn⟩ := gx_N_t z
    obtain ⟨j, hj, rfl⟩ := gx_in_t (by decide) z1
    refine cx_ns K hn (fun s hs es => ⟨hs, ?_⟩)
    rw [es]
    refine nm_r (K.2.1.1 n hn).2.1 ⟨hs, nm_e ⟨hs, nm_e ?_⟩⟩
    obtain ⟨i1, i2⟩ := cy_ix 12 n 12 rfl (by omega)
    obtain ⟨j1, j2⟩ := cy_ix 24 n 24 rfl (by omega)
    refine cy_N (nI n) (gb_r (fun z2 => absurd z z2) (fun _ => cy_L (nI j) (gb_n (fun _ => ?_) (fun z2 => absurd z1 z2))))
    rw [i2, j2]
    refine ⟨i1, nm_e ⟨i1, nm_e ⟨j1, nm_e ⟨rfl, ir_mk ?_⟩⟩⟩⟩
    obtain ⟨ho, P, G, D⟩ := R
    exact ⟨ho, gx_uv (gx_ul P hn (nI j)) hn v3, gd_v (gd_l G hn (by omega)) hn v3, gx_pv (gx_pl D hn (nI j)) hn v3⟩
theorem i_vc_setWeight {k : Nat} {u : SX} {v : SY} (I : i_Rel k u v) (hk : k + 4 ≤ 2048) (v1 : Int32) (v2 : Int32) : wpX_setWeight (fun r u' => wpY_setWeight (fun r' v' => r' = r ∧ i_Rel (k + 4) u' v') v v1 v2) u v1 v2 := by
  obtain ⟨o, ta, la, va, ea, fa, ga, ya, ha, ca, ra, w, cp, fx, rfl, rfl, R⟩ := I
  have K := ir_K R
  unfold wpX_setWeight wpY_setWeight
  refine cx_A K v1 (gb_r (fun z => ?_) (fun z => cx_W v2 (gb_r (fun z1 => ?_) (fun z1 => ?_))))
  · exact cy_A v1 (gb_r (fun _ => ⟨rfl, ir_mk R⟩) (fun z2 => absurd z2 z))
  · refine cy_A v1 (gb_r (fun z2 => absurd z z2) (fun _ => ?_))
    by_cases y1 : v2 < 0
    · exact br_t y1 ⟨rfl, ir_mk R⟩
    · by_cases y2 : v2 ≤ nI 99
      · exact absurd (gx_in_y y1 y2) z1
      · exact br_f y1 (br_f y2 ⟨rfl, ir_mk R⟩)
  · obtain ⟨a, ha', rfl, wa⟩ := gx_A_t z
    obtain ⟨j, hj, rfl⟩ := gx_in_t (by decide) z1
    refine cx_as K ha' (fun s hs es => ⟨hs, ?_⟩)
    rw [es]
    refine nm_r (K.2.1.2 a ha').2.2.2.2 ⟨hs, nm_e ?_⟩
    obtain ⟨i1, i2⟩ := cy_ix 132 a 132 rfl (by omega)
    refine cy_A (nI a) (gb_r (fun z2 => absurd z z2) (fun _ => br_f (nI_pos (by omega)) (br_t (nI_le hj (by decide)) (cy_p3 ha' ?_))))
    rw [i2]
    refine ⟨i1, nm_e ⟨rfl, ir_mk ?_⟩⟩
    obtain ⟨ho, P, G, D⟩ := R
    exact ⟨ho, gx_uh P ha' (nI j), gd_h G ha' hj, gx_ph D ha' (nI j)⟩
theorem i_vc_cut {k : Nat} {u : SX} {v : SY} (I : i_Rel k u v) (hk : k + 4 ≤ 2048) (v1 : Int32) : wpX_cut (fun r u' => wpY_cut (fun r' v' => r' = r ∧ i_Rel (k + 4) u' v') v v1) u v1 := by
  obtain ⟨o, ta, la, va, ea, fa, ga, ya, ha, ca, ra, w, cp, fx, rfl, rfl, R⟩ := I
  have K := ir_K R
  unfold wpX_cut wpY_cut
  refine cx_A K v1 (gb_r (fun z => ?_) (fun z => ?_))
  · exact cy_A v1 (gb_r (fun _ => ⟨rfl, ir_mk R⟩) (fun z2 => absurd z2 z))
  · obtain ⟨a, ha', rfl, wa⟩ := gx_A_t z
    have R2 : gx_R o ta la va (upd ea (o * 24 + a) 0) fa ga ya ha (upd w (36 + a) 0) cp := by
      obtain ⟨ho, P, G, D⟩ := R
      exact ⟨ho, gx_ue P ha' 0, gd_e0 G ha', gx_pe D ha' 0⟩
    refine cx_as K ha' (fun s hs es => ⟨hs, ?_⟩)
    rw [es, gb_n0]
    refine nm_e (cx_ca (ir_K R2) ?_)
    obtain ⟨i1, i2⟩ := cy_ix 36 a 36 rfl (by omega)
    refine cy_A (nI a) (gb_r (fun z2 => absurd z z2) (fun _ => ?_))
    rw [i2]
    exact ⟨i1, nm_e (cy_ca ⟨rfl, ir_mk R2⟩)⟩
end
section
/-! drop, and the transactions -/
theorem i_vc_drop {k : Nat} {u : SX} {v : SY} (I : i_Rel k u v) (hk : k + 4 ≤ 2048) (v1 : Int32) (v2 : Int32) : wpX_drop (fun r u' => wpY_drop (fun r' v' => r' = r ∧ i_Rel (k + 4) u' v') v v1 (lw_bz v2)) u v1 (lw_bz v2) := by
  obtain ⟨o, ta, la, va, ea, fa, ga, ya, ha, ca, ra, w, cp, fx, rfl, rfl, R⟩ := I
  refine cx_drop (ir_K R) v1 (lw_bz v2) (fun z => ?_) (fun n hn en z z1 z2 => ?_) (fun n hn en z z1 e1 K1 H1 => ?_)
  · exact cy_drop v1 (lw_bz v2) (fun _ => ⟨rfl, ir_mk R⟩) (fun k1 => absurd k1 z) (fun _ _ _ k1 => absurd k1 z)
  · exact cy_drop v1 (lw_bz v2) (fun k1 => absurd z k1) (fun _ _ _ => ⟨rfl, ir_mk R⟩) (fun _ _ _ _ k1 => absurd ⟨z1, z2⟩ k1)
  · refine cy_drop v1 (lw_bz v2) (fun k1 => absurd z k1) (fun _ k1 k2 => absurd ⟨k1, k2⟩ z1) (fun n2 hn2 en2 _ _ => ⟨rfl, ir_mk ?_⟩)
    obtain rfl : n = n2 := (nI_eq (by omega) (by omega)).mp (en.symm.trans en2)
    obtain ⟨ho, P, G, D⟩ := R
    refine ⟨ho, gx_ut K1.2.1 hn 0, gd_drop G hn, gx_pt (fun d hd => ⟨?_, (D d hd).2⟩) hn 0⟩
    exact gx_px_ext (D d hd).1 (fun _ _ => ⟨rfl, rfl, rfl⟩) (fun a za => ⟨H1 _ (by omega), rfl, rfl, rfl, rfl⟩) (fun _ _ => rfl)
theorem i_vc_begin {k : Nat} {u : SX} {v : SY} (I : i_Rel k u v) (hk : k + 4 ≤ 2048) : wpX_begin (fun r u' => wpY_begin (fun r' v' => r' = r ∧ i_Rel (k + 4) u' v') v) u := by
  obtain ⟨o, ta, la, va, ea, fa, ga, ya, ha, ca, ra, w, cp, fx, rfl, rfl, R⟩ := I
  have K := ir_K R
  by_cases ho : o < 4
  · refine br_t (nI_lt (b := 4) ho (by decide)) ?_
    rw [nI_1 o]
    refine cx_copy K (d := o + 1) (by omega) (by omega) (fun t1 l1 v1 e1 f1 g1 y1 h1 c1 c2 c3 c4 c5 c6 c7 c8 => nm_r (nI_1 o) ?_)
    refine br_f (fun z => ?_) ⟨157, cy_beg_l ho (fun c9 k1 k2 => ⟨rfl, ir_mk (gx_R_begin R ho c1 c2 c3 c4 c5 c6 c7 c8 k1 k2)⟩) 156 0 rfl cp (fun j hj => absurd hj (Nat.not_lt_zero _)) (fun _ _ => rfl)⟩
    have z2 := (nI_eq (a := o) (b := 4) (by omega) (by omega)).mp z
    omega
  · obtain rfl : o = 4 := by have z := K.1; omega
    exact br_f (by decide) (br_t rfl ⟨rfl, ir_mk R⟩)
theorem i_vc_end {k : Nat} {u : SX} {v : SY} (I : i_Rel k u v) (hk : k + 4 ≤ 2048) : wpX_end (fun r u' => wpY_end (fun r' v' => r' = r ∧ i_Rel (k + 4) u' v') v) u := by
  obtain ⟨o, ta, la, va, ea, fa, ga, ya, ha, ca, ra, w, cp, fx, rfl, rfl, R⟩ := I
  have K := ir_K R
  have hz := K.1
  by_cases ho : o = 0
  · subst ho
    exact br_f (by decide) (br_t rfl ⟨rfl, ir_mk R⟩)
  · obtain ⟨p, rfl⟩ : ∃ p, o = p + 1 := ⟨o - 1, by omega⟩
    refine br_t (nI_lt (a := 0) (by omega) (by omega)) ?_
    rw [nI_pred p]
    refine cx_copy K (d := p) (by omega) (by omega) (fun t1 l1 v1 e1 f1 g1 y1 h1 c1 c2 c3 c4 c5 c6 c7 c8 => nm_r (nI_pred p) ?_)
    exact br_f (nI_ne0 (by omega) (by omega)) (nm_r (nI_pred p) ⟨rfl, ir_mk (gx_R_end R c1 c2 c3 c4 c5 c6 c7 c8)⟩)
theorem i_vc_undo {k : Nat} {u : SX} {v : SY} (I : i_Rel k u v) (hk : k + 4 ≤ 2048) : wpX_undo (fun r u' => wpY_undo (fun r' v' => r' = r ∧ i_Rel (k + 4) u' v') v) u := by
  obtain ⟨o, ta, la, va, ea, fa, ga, ya, ha, ca, ra, w, cp, fx, rfl, rfl, R⟩ := I
  have hz := R.1
  by_cases ho : o = 0
  · subst ho
    exact br_f (by decide) (br_t rfl ⟨rfl, ir_mk R⟩)
  · obtain ⟨p, rfl⟩ : ∃ p, o = p + 1 := ⟨o - 1, by omega⟩
    refine br_t (nI_lt (a := 0) (by omega) (by omega)) (nm_r (nI_pred p) (br_f (nI_ne0 (by omega) (by omega)) (nm_r (nI_pred p) ?_)))
    exact cy_gb (by omega) (fun w1 k1 => ⟨rfl, ir_mk (gx_R_back R (by omega) k1)⟩)
theorem i_vc_crash {k : Nat} {u : SX} {v : SY} (I : i_Rel k u v) (hk : k + 4 ≤ 2048) : wpX_crash (fun r u' => wpY_crash (fun r' v' => r' = r ∧ i_Rel (k + 4) u' v') v) u := by
  obtain ⟨o, ta, la, va, ea, fa, ga, ya, ha, ca, ra, w, cp, fx, rfl, rfl, R⟩ := I
  have hz := R.1
  by_cases ho : o = 0
  · subst ho
    exact br_t (by decide) ⟨rfl, ir_mk R⟩
  · exact br_f (nI_nle (by omega) (by omega)) (cy_gb (o := 0) (by omega) (fun w1 k1 => ⟨rfl, ir_mk (o := 0) (gx_R_back R (by omega) k1)⟩))
end
section
/-! questions about one node or arrow -/
theorem i_vc_labels {k : Nat} {u : SX} {v : SY} (I : i_Rel k u v) (hk : k + 4 ≤ 2048) (v1 : Int32) : wpX_labels (fun r => wpY_labels (fun r' => r' = r ∧ i_Rel (k + 4) u v) v v1) u v1 := by
  obtain ⟨o, ta, la, va, ea, fa, ga, ya, ha, ca, ra, w, cp, fx, rfl, rfl, R⟩ := I
  have K := ir_K R
  unfold wpX_labels wpY_labels
  refine cx_N K v1 (gb_r (fun z => ?_) (fun z => ?_))
  · exact cy_N v1 (gb_r (fun _ => ⟨rfl, ir_mk R⟩) (fun z2 => absurd z2 z))
  · obtain ⟨n, hn, rfl, wn⟩ := gx_N_t z
    refine cx_ns K hn (fun s hs es => ⟨hs, ?_⟩)
    rw [es, (K.2.1.1 n hn).2.1]
    obtain ⟨i1, i2⟩ := cy_ix 12 n 12 rfl (by omega)
    refine cy_N (nI n) (gb_r (fun z2 => absurd z z2) (fun _ => ⟨i1, ?_⟩))
    rw [i2]
    exact ⟨rfl, ir_mk R⟩
theorem i_vc_value {k : Nat} {u : SX} {v : SY} (I : i_Rel k u v) (hk : k + 4 ≤ 2048) (v1 : Int32) : wpX_value (fun r => wpY_value (fun r' => r' = r ∧ i_Rel (k + 4) u v) v v1) u v1 := by
  obtain ⟨o, ta, la, va, ea, fa, ga, ya, ha, ca, ra, w, cp, fx, rfl, rfl, R⟩ := I
  have K := ir_K R
  unfold wpX_value wpY_value
  refine cx_N K v1 (gb_r (fun z => ?_) (fun z => ?_))
  · exact cy_N v1 (gb_r (fun _ => ⟨rfl, ir_mk R⟩) (fun z2 => absurd z2 z))
  · obtain ⟨n, hn, rfl, wn⟩ := gx_N_t z
    refine cx_ns K hn (fun s hs es => ⟨hs, ?_⟩)
    rw [es, (K.2.1.1 n hn).2.2]
    obtain ⟨i1, i2⟩ := cy_ix 24 n 24 rfl (by omega)
    refine cy_N (nI n) (gb_r (fun z2 => absurd z z2) (fun _ => ⟨i1, ?_⟩))
    rw [i2]
    exact ⟨rfl, ir_mk R⟩
theorem i_vc_look {k : Nat} {u : SX} {v : SY} (I : i_Rel k u v) (hk : k + 4 ≤ 2048) (v1 : Int32) (v2 : Int32) : wpX_look (fun r => wpY_look (fun r' => r' = r ∧ i_Rel (k + 4) u v) v v1 v2) u v1 v2 := by
  obtain ⟨o, ta, la, va, ea, fa, ga, ya, ha, ca, ra, w, cp, fx, rfl, rfl, R⟩ := I
  have K := ir_K R
  unfold wpX_look wpY_look
  refine cx_A K v1 (gb_r (fun z => ?_) (fun z => ?_))
  · exact cy_A v1 (gb_r (fun _ => ⟨rfl, ir_mk R⟩) (fun z2 => absurd z2 z))
  · obtain ⟨a, ha', rfl, wa⟩ := gx_A_t z
    refine cx_as K ha' (fun s hs es => ?_)
    rw [es, (K.2.1.2 a ha').2.1, (K.2.1.2 a ha').2.2.1, (K.2.1.2 a ha').2.2.2.1, (K.2.1.2 a ha').2.2.2.2]
    rcases pk_ix v2 (n := 4) (by decide) with y1 | y1 | ⟨j, hj, rfl⟩
    · exact br_t y1 (cy_A (nI a) (gb_r (fun z2 => absurd z z2) (fun _ => br_t y1 ⟨rfl, ir_mk R⟩)))
    · have y2 : ¬ v2 < 0 := Int32.not_lt.mpr (Int32.le_trans (by decide) y1)
      have y3 : ¬ v2 ≤ 3 := fun y4 => absurd (Int32.le_trans y1 y4) (by decide)
      exact br_f y2 (br_t (Int32.not_le.mp y3) (cy_A (nI a) (gb_r (fun z2 => absurd z z2) (fun _ => br_f y2 (br_f y3 ⟨rfl, ir_mk R⟩)))))
    · obtain rfl | rfl | rfl | rfl : j = 0 ∨ j = 1 ∨ j = 2 ∨ j = 3 := by omega
      · exact br_f (by decide) (br_f (by decide) (br_t rfl ⟨hs, cy_A (nI a) (gb_r (fun z2 => absurd z z2) (fun _ => br_f (by decide) (br_t (by decide) (cy_p0 ha' ⟨rfl, ir_mk R⟩))))⟩))
      · exact br_f (by decide) (br_f (by decide) (br_f (by decide) (br_t rfl ⟨hs, cy_A (nI a) (gb_r (fun z2 => absurd z z2) (fun _ => br_f (by decide) (br_t (by decide) (cy_p1 ha' ⟨rfl, ir_mk R⟩))))⟩)))
      · exact br_f (by decide) (br_f (by decide) (br_f (by decide) (br_f (by decide) (br_t rfl ⟨hs, cy_A (nI a) (gb_r (fun z2 => absurd z z2) (fun _ => br_f (by decide) (br_t (by decide) (cy_p2 ha' ⟨rfl, ir_mk R⟩))))⟩))))
      · exact br_f (by decide) (br_f (by decide) (br_f (by decide) (br_f (by decide) (br_f (by decide) (br_t rfl ⟨hs, cy_A (nI a) (gb_r (fun z2 => absurd z z2) (fun _ => br_f (by decide) (br_t (by decide) (cy_p3 ha' ⟨rfl, ir_mk R⟩))))⟩)))))
theorem i_vc_degree {k : Nat} {u : SX} {v : SY} (I : i_Rel k u v) (hk : k + 4 ≤ 2048) (v1 : Int32) (v2 : Int32) (v3 : Int32) : wpX_degree (fun r => wpY_degree (fun r' => r' = r ∧ i_Rel (k + 4) u v) v v1 v2 v3) u v1 v2 v3 := by
  obtain ⟨o, ta, la, va, ea, fa, ga, ya, ha, ca, ra, w, cp, fx, rfl, rfl, R⟩ := I
  have K := ir_K R
  unfold wpX_degree
  refine cx_N K v1 (gb_r (fun z => ?_) (fun z => cx_T v2 (gb_r (fun z1 => ?_) (fun z1 => cx_Y v3 (gb_r (fun z2 => ?_) (fun z2 => cx_cm K v1 v2 v3 ?_))))))
  · exact cy_deg v1 v2 v3 (fun q => absurd (gx_D_t q).1 z) (fun _ => ⟨rfl, ir_mk R⟩)
  · exact cy_deg v1 v2 v3 (fun q => absurd (gx_D_t q).2.1 z1) (fun _ => ⟨rfl, ir_mk R⟩)
  · exact cy_deg v1 v2 v3 (fun q => absurd (gx_D_t q).2.2 z2) (fun _ => ⟨rfl, ir_mk R⟩)
  · exact cy_deg v1 v2 v3 (fun _ => ⟨rfl, ir_mk R⟩) (fun q => absurd (gx_D_y z z1 z2) q)
/-! arrowAt -/
theorem cx_at_l {o : Nat} {ta la va ea fa ga ya ha ca ra w : Nat → Int32} {post : Int32 → Prop} (K : gx_K o ta la va ea fa ga ya ha w) (x2 ty n wy : Int32) : ∀ d i s, i + d = 24 → post (gv_at (gx_mt w n ty wy) x2 d i s) → wX_arrowAt_63 post x2 ty n wy (nI o) ta la va ea fa ga ya ha ca ra (d + 1) (nI s) (nI i) := by
  intro d
  induction d with
  | zero =>
    intro i s hi hp
    obtain rfl : i = 24 := by omega
    exact br_t (nI_le (a := 24) (b := 24) (by omega) (by decide)) hp
  | succ d ih =>
    intro i s hi hp
    refine br_f (nI_ge (b := 24) (by omega) (by decide)) (cx_mt K (by omega) n ty wy (gb_r (fun z => ?_) (fun z => ?_)))
    · rw [gv_at_f z] at hp
      exact nm_r (nI_1 i) (ih (i + 1) s (by omega) hp)
    · by_cases z2 : nI s = x2
      · rw [gv_at_y z z2] at hp; exact br_t z2 hp
      · rw [gv_at_s z z2] at hp
        exact br_f z2 (nm_r (nI_1 s) (nm_r (nI_1 i) (ih (i + 1) (s + 1) (by omega) hp)))
theorem cy_at_l {q : Int32} {w cp fx : Nat → Int32} {post : Int32 → Prop} (x1 x2 : Int32) (hy : gx_in 2 (x1 / 192) = true) : ∀ d i s, i + d = 24 → post (gv_at (gx_mt w (x1 / 16 - x1 / 16 / 12 * 12) (x1 - x1 / 16 * 16) (x1 / 192)) x2 d i s) → wY_arrowAt_35 post x1 x2 q w cp fx (d + 1) (nI s) (nI i) := by
  intro d
  induction d with
  | zero =>
    intro i s hi hp
    obtain rfl : i = 24 := by omega
    exact br_t (nI_le (a := 24) (b := 24) (by omega) (by decide)) hp
  | succ d ih =>
    intro i s hi hp
    refine br_f (nI_ge (b := 24) (by omega) (by decide)) ⟨by decide, by decide, by decide, by decide, cy_mt (by omega) _ _ _ hy (gb_r (fun z => ?_) (fun z => ?_))⟩
    · rw [gv_at_f z] at hp
      exact nm_r (nI_1 i) (ih (i + 1) s (by omega) hp)
    · by_cases z2 : nI s = x2
      · rw [gv_at_y z z2] at hp; exact br_t z2 hp
      · rw [gv_at_s z z2] at hp
        exact br_f z2 (nm_r (nI_1 s) (nm_r (nI_1 i) (ih (i + 1) (s + 1) (by omega) hp)))
theorem gx_192 {x : Int32} (z : ¬ x < 0) : x / 16 / 12 = x / 192 := by
  obtain ⟨j, hj, rfl⟩ := nI_of z
  rw [show (16 : Int32) = nI 16 from rfl, show (12 : Int32) = nI 12 from rfl, show (192 : Int32) = nI 192 from rfl, pk_div hj (by decide) (by decide), pk_div (Nat.lt_of_le_of_lt (Nat.div_le_self _ _) hj) (by decide) (by decide), pk_div hj (by decide) (by decide), Nat.div_div_eq_div_mul]
theorem gv_ct_m1 (p : Nat → Bool) : ¬ nI (gv_ct p 24) = -1 := by
  have z := gv_ct_le p 24
  intro e
  have z2 := congrArg Int32.toInt e
  rw [nI_toInt (by omega), show (-1 : Int32).toInt = -1 from by decide] at z2
  omega
theorem i_vc_arrowAt {k : Nat} {u : SX} {v : SY} (I : i_Rel k u v) (hk : k + 4 ≤ 2048) (v1 : Int32) (v2 : Int32) : wpX_arrowAt (fun r => wpY_arrowAt (fun r' => r' = r ∧ i_Rel (k + 4) u v) v v1 v2) u v1 v2 := by
  obtain ⟨o, ta, la, va, ea, fa, ga, ya, ha, ca, ra, w, cp, fx, rfl, rfl, R⟩ := I
  have K := ir_K R
  by_cases z0 : v1 < 0
  · exact br_f (Int32.not_le.mpr z0) (br_t z0 ⟨rfl, ir_mk R⟩)
  · refine br_t (Int32.not_lt.mp z0) ⟨by decide, nm_e ⟨by decide, by decide, nm_e ⟨by decide, by decide, nm_r (gx_192 z0) ?_⟩⟩⟩
    refine cx_N K _ (gb_r (fun z => ?_) (fun z => cx_T _ (gb_r (fun z1 => ?_) (fun z1 => cx_Y _ (gb_r (fun z2 => ?_) (fun z2 => ⟨25, cx_at_l K v2 _ _ _ 24 0 0 rfl ?_⟩))))))
    · exact br_f z0 ⟨by decide, by decide, by decide, by decide, cy_deg _ _ _ (fun q => absurd (gx_D_t q).1 z) (fun _ => br_t rfl ⟨rfl, ir_mk R⟩)⟩
    · exact br_f z0 ⟨by decide, by decide, by decide, by decide, cy_deg _ _ _ (fun q => absurd (gx_D_t q).2.1 z1) (fun _ => br_t rfl ⟨rfl, ir_mk R⟩)⟩
    · exact br_f z0 ⟨by decide, by decide, by decide, by decide, cy_deg _ _ _ (fun q => absurd (gx_D_t q).2.2 z2) (fun _ => br_t rfl ⟨rfl, ir_mk R⟩)⟩
    · exact br_f z0 ⟨by decide, by decide, by decide, by decide, cy_deg _ _ _ (fun _ => br_f (gv_ct_m1 _) ⟨25, cy_at_l v1 v2 z2 24 0 0 rfl ⟨rfl, ir_mk R⟩⟩) (fun q => absurd (gx_D_y z z1 z2) q)⟩
end
section
/-! find, chains, faults, digest -/
def gx_fd_p (w : Nat → Int32) (x1 x2 : Int32) (i : Nat) : Bool := decide (w i = 1) && (gx_hl w i x1 && decide (w (24 + i) = x2))
def gx_fdr (m : Nat) : Int32 := if m = 12 then -2 else nI m
theorem gx_fdr_y {m : Nat} (z : m < 12) : gx_fdr m = nI m := if_neg (by omega)
theorem cx_find_l {o : Nat} {ta la va ea fa ga ya ha ca ra w : Nat → Int32} {post : Int32 → Prop} (K : gx_K o ta la va ea fa ga ya ha w) (x1 x2 : Int32) : ∀ d i, i + d = 12 → post (gx_fdr (gv_fi (gx_fd_p w x1 x2) d i)) → wX_find_12 post x1 x2 (nI o) ta la va ea fa ga ya ha ca ra (d + 1) (nI i) := by
  intro d
  induction d with
  | zero =>
    intro i hi hp
    obtain rfl : i = 12 := by omega
    exact br_t (nI_le (a := 12) (b := 12) (by omega) (by decide)) hp
  | succ d ih =>
    intro i hi hp
    have hi2 : i < 12 := by omega
    have nx : ¬ gx_fd_p w x1 x2 i = true → wX_find_12 post x1 x2 (nI o) ta la va ea fa ga ya ha ca ra (d + 1) (nI (i + 1)) := by
      intro z
      rw [gv_fi_f z] at hp
      exact ih (i + 1) (by omega) hp
    have yes : gx_fd_p w x1 x2 i = true → post (nI i) := by
      intro z
      rw [gv_fi_t z, gx_fdr_y hi2] at hp; exact hp
    refine br_f (nI_ge (b := 12) (by omega) (by decide)) (cx_N K (nI i) ?_)
    rw [gx_N_j hi2]
    refine gb_r (fun z => nm_r (nI_1 i) (nx (fun z2 => z ((Bool.and_eq_true _ _).mp z2).1))) (fun z => cx_hl K hi2 x1 (gb_r (fun z1 => nm_r (nI_1 i) (nx (fun z2 => z1 ((Bool.and_eq_true _ _).mp ((Bool.and_eq_true _ _).mp z2).2).1))) (fun z1 => cx_ns K hi2 (fun s hs es => ⟨hs, ?_⟩))))
    rw [es, (K.2.1.1 i hi2).2.2]
    by_cases z3 : w (24 + i) = x2
    · exact br_t z3 (yes (by unfold gx_fd_p; rw [z, z1, decide_eq_true z3]; rfl))
    · exact br_f z3 (nm_r (nI_1 i) (nx (fun z2 => z3 (of_decide_eq_true ((Bool.and_eq_true _ _).mp ((Bool.and_eq_true _ _).mp z2).2).2))))
theorem cy_find_l {q : Int32} {w cp fx : Nat → Int32} {post : Int32 → Prop} (G : gx_gd w) (x1 x2 : Int32) (hx : gx_in 7 x1 = true) : ∀ d i, i + d = 12 → post (gx_fdr (gv_fi (gx_fd_p w x1 x2) d i)) → wY_find_12 post x1 x2 q w cp fx (d + 1) (nI i) := by
  intro d
  induction d with
  | zero =>
    intro i hi hp
    obtain rfl : i = 12 := by omega
    exact br_t (nI_le (a := 12) (b := 12) (by omega) (by decide)) hp
  | succ d ih =>
    intro i hi hp
    have hi2 : i < 12 := by omega
    have nx : ¬ gx_fd_p w x1 x2 i = true → wY_find_12 post x1 x2 q w cp fx (d + 1) (nI (i + 1)) := by
      intro z
      rw [gv_fi_f z] at hp
      exact ih (i + 1) (by omega) hp
    have yes : gx_fd_p w x1 x2 i = true → post (nI i) := by
      intro z
      rw [gv_fi_t z, gx_fdr_y hi2] at hp; exact hp
    refine br_f (nI_ge (b := 12) (by omega) (by decide)) (cy_N (nI i) ?_)
    rw [gx_N_j hi2]
    obtain ⟨i1, i2⟩ := cy_ix 24 i 24 rfl (by omega)
    refine gb_r (fun z => nm_r (nI_1 i) (nx (fun z2 => z ((Bool.and_eq_true _ _).mp z2).1))) (fun z => ⟨i1, ?_⟩)
    rw [i2]
    by_cases z3 : w (24 + i) = x2
    · refine br_t z3 (cy_hl G hi2 x1 hx (gb_r (fun z1 => nm_r (nI_1 i) (nx (fun z2 => z1 ((Bool.and_eq_true _ _).mp ((Bool.and_eq_true _ _).mp z2).2).1))) (fun z1 => yes ?_)))
      unfold gx_fd_p; rw [z, z1, decide_eq_true z3]; rfl
    · exact br_f z3 (nm_r (nI_1 i) (nx (fun z2 => z3 (of_decide_eq_true ((Bool.and_eq_true _ _).mp ((Bool.and_eq_true _ _).mp z2).2).2))))
theorem i_vc_find {k : Nat} {u : SX} {v : SY} (I : i_Rel k u v) (hk : k + 4 ≤ 2048) (v1 : Int32) (v2 : Int32) : wpX_find (fun r => wpY_find (fun r' => r' = r ∧ i_Rel (k + 4) u v) v v1 v2) u v1 v2 := by
  obtain ⟨o, ta, la, va, ea, fa, ga, ya, ha, ca, ra, w, cp, fx, rfl, rfl, R⟩ := I
  have K := ir_K R
  unfold wpX_find wpY_find
  refine cx_L v1 (gb_r (fun z => ?_) (fun z => ⟨13, cx_find_l K v1 v2 12 0 rfl ?_⟩))
  · exact cy_L v1 (gb_n (fun z2 => absurd z2 z) (fun _ => ⟨rfl, ir_mk R⟩))
  · exact cy_L v1 (gb_n (fun _ => ⟨13, cy_find_l K.2.2 v1 v2 z 12 0 rfl ⟨rfl, ir_mk R⟩⟩) (fun z2 => absurd z z2))
/-! chains: couples, first by first -/
def gx_ch (w : Nat → Int32) (t u x : Int32) (i j : Nat) : Bool := decide (nI i ≠ nI j) && (gx_of w t i && (gx_of w u j && (decide (w (84 + i) = w (60 + j)) && gx_hl w (gx_g w i) x)))
def gx_cs (w : Nat → Int32) (t u x : Int32) (i : Nat) : Nat := gv_ct (gx_ch w t u x i) 24
theorem gx_ch_x {w : Nat → Int32} {t u x : Int32} {i : Nat} (h1 : gx_of w t i = true) (h2 : gx_hl w (gx_g w i) x = true) : gv_ct (gx_nx w i (w (84 + i)) u) 24 = gx_cs w t u x i := by
  refine gv_ct_congr 24 (fun j hj => ?_)
  unfold gx_ch gx_nx gx_mt
  rw [h1, h2, Bool.true_and, Bool.and_true, decide_eq_true (show (0 : Int32) ≠ 1 by decide), Bool.true_and, decide_eq_false (show ¬ (0 : Int32) ≠ 0 by decide), Bool.false_and, Bool.or_false]
  have e1 : decide (nI j ≠ nI i) = decide (nI i ≠ nI j) := decide_eq_decide.mpr ⟨fun z k => z k.symm, fun z k => z k.symm⟩
  have e2 : decide (w (60 + j) = w (84 + i)) = decide (w (84 + i) = w (60 + j)) := decide_eq_decide.mpr ⟨Eq.symm, Eq.symm⟩
  rw [e1, e2]
theorem gx_ch_0 {w : Nat → Int32} {t u x : Int32} {i : Nat} (h1 : ¬ (gx_of w t i = true ∧ gx_hl w (gx_g w i) x = true)) : gx_cs w t u x i = 0 := by
  refine gv_ct_0 24 (fun j hj z => h1 ?_)
  unfold gx_ch at z
  obtain ⟨_, z⟩ := (Bool.and_eq_true _ _).mp z
  obtain ⟨z1, z⟩ := (Bool.and_eq_true _ _).mp z
  obtain ⟨_, z⟩ := (Bool.and_eq_true _ _).mp z
  exact ⟨z1, ((Bool.and_eq_true _ _).mp z).2⟩
theorem gv_sn_s (f : Nat → Nat) (i : Nat) : gv_sn f (i + 1) = gv_sn f i + f i := rfl
theorem cx_ch_l {o : Nat} {ta la va ea fa ga ya ha ca ra w : Nat → Int32} {post : Int32 → Prop} (K : gx_K o ta la va ea fa ga ya ha w) (t u x : Int32) (hp : post (nI (gv_sn (gx_cs w t u x) 24))) : ∀ d i, i + d = 24 → wX_chains_32 post t u x (nI o) ta la va ea fa ga ya ha ca ra (d + 1) (nI (gv_sn (gx_cs w t u x) i)) (nI i) := by
  intro d
  induction d with
  | zero =>
    intro i hi
    obtain rfl : i = 24 := by omega
    exact br_t (nI_le (a := 24) (b := 24) (by omega) (by decide)) hp
  | succ d ih =>
    intro i hi
    have hi2 : i < 24 := by omega
    have q1 := ih (i + 1) (by omega)
    rw [gv_sn_s] at q1
    have g1 := gx_gd_ K.2.2 hi2
    refine br_f (nI_ge (b := 24) (by omega) (by decide)) (cx_of K hi2 t (gb_r (fun z => nm_r (nI_1 i) ?_) (fun z => cx_as K hi2 (fun s hs es => ⟨hs, ?_⟩))))
    · rw [gx_ch_0 (fun k => z k.1)] at q1; exact q1
    · rw [es]
      refine nm_r ((K.2.1.2 i hi2).2.2.1.trans g1.2.1) (cx_hl K g1.1 x (gb_r (fun z1 => nm_r (nI_1 i) ?_) (fun z1 => ?_)))
      · rw [gx_ch_0 (fun k => z1 k.2)] at q1; exact q1
      · rw [← g1.2.1]
        refine cx_cn K i (w (84 + i)) u ?_
        rw [gx_ch_x (x := x) z z1]
        exact nm_r (nI_add _ _) (nm_r (nI_1 i) q1)
theorem cy_ch_l2 {q : Int32} {w cp fx : Nat → Int32} {post : Int32 → Prop} {J : Int32 → Int32 → Prop} (G : gx_gd w) (t u x : Int32) (hx : gx_in 7 x = true) {i : Nat} (hi2 : i < 24) (c : Nat) (hJ : J (nI (c + gx_cs w t u x i)) (nI (i + 1))) : ∀ d j, j + d = 24 → wY_chains_42 post J t u x (nI i) q w cp fx (d + 1) (nI (c + gv_ct (gx_ch w t u x i) j)) (nI j) := by
  intro d
  induction d with
  | zero =>
    intro j hj
    obtain rfl : j = 24 := by omega
    exact br_t (nI_le (a := 24) (b := 24) (by omega) (by decide)) (nm_r (nI_1 i) hJ)
  | succ d ih =>
    intro j hj
    have hj2 : j < 24 := by omega
    have q1 := ih (j + 1) (by omega)
    have g1 := gx_gd_ G hi2
    have nx : ¬ gx_ch w t u x i j = true → wY_chains_42 post J t u x (nI i) q w cp fx (d + 1) (nI (c + gv_ct (gx_ch w t u x i) j)) (nI (j + 1)) := by
      intro z
      rw [gv_ct_f z] at q1; exact q1
    have no : ¬ gx_ch w t u x i j = true → wY_chains_80 post J (wY_chains_42 post J t u x (nI i) q w cp fx (d + 1)) t u x (nI (c + gv_ct (gx_ch w t u x i) j)) (nI i) (nI j) q w cp fx := fun z => br_t rfl (nm_r (nI_1 j) (nx z))
    refine br_f (nI_ge (b := 24) (by omega) (by decide)) ?_
    by_cases z : nI i = nI j
    · exact br_t z (no (fun k => of_decide_eq_true ((Bool.and_eq_true _ _).mp k).1 z))
    · refine br_f z (cy_of hi2 t (gb_r (fun z1 => no (fun k => z1 ((Bool.and_eq_true _ _).mp ((Bool.and_eq_true _ _).mp k).2).1)) (fun z1 => cy_of hj2 u (gb_r (fun z2 => no (fun k => z2 ((Bool.and_eq_true _ _).mp ((Bool.and_eq_true _ _).mp ((Bool.and_eq_true _ _).mp k).2).2).1)) (fun z2 => br_f (by decide) (cy_p1 hi2 (cy_p0 hj2 ?_)))))))
      by_cases z3 : w (84 + i) = w (60 + j)
      · refine br_t z3 (cy_p1 hi2 ?_)
        rw [g1.2.1]
        refine cy_hl G g1.1 x hx (gb_r (fun z4 => nm_r (nI_1 j) (nx (fun k => z4 ((Bool.and_eq_true _ _).mp ((Bool.and_eq_true _ _).mp ((Bool.and_eq_true _ _).mp ((Bool.and_eq_true _ _).mp k).2).2).2).2))) (fun z4 => nm_r (nI_1 _) (nm_r (nI_1 j) ?_)))
        have z5 : gx_ch w t u x i j = true := by unfold gx_ch; rw [z1, z2, z4, decide_eq_true z3, decide_eq_true (p := nI i ≠ nI j) z]; rfl
        rw [gv_ct_t z5] at q1
        exact q1
      · exact br_f z3 (nm_r (nI_1 j) (nx (fun k => z3 (of_decide_eq_true ((Bool.and_eq_true _ _).mp ((Bool.and_eq_true _ _).mp ((Bool.and_eq_true _ _).mp ((Bool.and_eq_true _ _).mp k).2).2).2).1))))
theorem cy_ch_l {q : Int32} {w cp fx : Nat → Int32} {post : Int32 → Prop} (G : gx_gd w) (t u x : Int32) (hx : gx_in 7 x = true) (hp : post (nI (gv_sn (gx_cs w t u x) 24))) : ∀ d i, i + d = 24 → wY_chains_32 post t u x q w cp fx (d + 1) (nI (gv_sn (gx_cs w t u x) i)) (nI i) := by
  intro d
  induction d with
  | zero =>
    intro i hi
    obtain rfl : i = 24 := by omega
    exact br_t (nI_le (a := 24) (b := 24) (by omega) (by decide)) hp
  | succ d ih =>
    intro i hi
    have q1 := ih (i + 1) (by omega)
    exact br_f (nI_ge (b := 24) (by omega) (by decide)) ⟨25, cy_ch_l2 G t u x hx (by omega) (gv_sn (gx_cs w t u x) i) q1 24 0 rfl⟩
theorem i_vc_chains {k : Nat} {u : SX} {v : SY} (I : i_Rel k u v) (hk : k + 4 ≤ 2048) (v1 : Int32) (v2 : Int32) (v3 : Int32) : wpX_chains (fun r => wpY_chains (fun r' => r' = r ∧ i_Rel (k + 4) u v) v v1 v2 v3) u v1 v2 v3 := by
  obtain ⟨o, ta, la, va, ea, fa, ga, ya, ha, ca, ra, w, cp, fx, rfl, rfl, R⟩ := I
  have K := ir_K R
  unfold wpX_chains wpY_chains
  refine cx_T v1 (gb_r (fun z => ?_) (fun z => cx_T v2 (gb_r (fun z1 => ?_) (fun z1 => cx_L v3 (gb_r (fun z2 => ?_) (fun z2 => ⟨25, cx_ch_l K v1 v2 v3 ?_ 24 0 rfl⟩))))))
  · exact cy_T v1 (gb_n (fun k => absurd k z) (fun _ => ⟨rfl, ir_mk R⟩))
  · exact cy_T v1 (gb_n (fun _ => cy_T v2 (gb_n (fun k => absurd k z1) (fun _ => ⟨rfl, ir_mk R⟩))) (fun k => absurd z k))
  · exact cy_T v1 (gb_n (fun _ => cy_T v2 (gb_n (fun _ => cy_L v3 (gb_n (fun k => absurd k z2) (fun _ => ⟨rfl, ir_mk R⟩))) (fun k => absurd z1 k))) (fun k => absurd z k))
  · exact cy_T v1 (gb_n (fun _ => cy_T v2 (gb_n (fun _ => cy_L v3 (gb_n (fun _ => ⟨25, cy_ch_l K.2.2 v1 v2 v3 z2 ⟨rfl, ir_mk R⟩ 24 0 rfl⟩) (fun k => absurd z2 k))) (fun k => absurd z1 k))) (fun k => absurd z k))
end
section
/-! faults, digest -/
section
variable {o : Nat} {ta la va ea fa ga ya ha ca ra w : Nat → Int32}
theorem cx_sn {post : Int32 → Prop} (K : gx_K o ta la va ea fa ga ya ha w) {n : Nat} (hn : n < 12) (hp : post 1) : wpX_isSoundNode post (nI o, ta, la, va, ea, fa, ga, ya, ha, ca, ra) (nI n) := by
  unfold wpX_isSoundNode
  refine cx_ns K hn (fun s hs es => ⟨hs, ?_⟩)
  rw [es, (K.2.1.1 n hn).2.1]
  obtain ⟨j, hj, ej⟩ := (K.2.2.1 n hn).2
  rw [ej]
  refine cx_L (nI j) ?_
  rw [gx_in_y (nI_pos (by omega)) (nI_le (b := 7) (by omega) (by decide))]
  exact ⟨rfl, hp⟩
theorem cx_sa {post : Int32 → Prop} (K : gx_K o ta la va ea fa ga ya ha w) {a : Nat} (ha' : a < 24) (wa : w (36 + a) = 1) (hp : post 1) : wpX_isSoundArrow post (nI o, ta, la, va, ea, fa, ga, ya, ha, ca, ra) (nI a) := by
  unfold wpX_isSoundArrow
  have f1 := gx_fd K.2.2 ha'
  have g1 := gx_gd_ K.2.2 ha'
  have h1 := gx_hd K.2.2 ha'
  obtain ⟨j, hj, ej⟩ := (K.2.2.2 a ha').2.2.2.1
  refine cx_as K ha' (fun s hs es => ⟨hs, ?_⟩)
  rw [es, (K.2.1.2 a ha').2.1, (K.2.1.2 a ha').2.2.1, f1.2.1, g1.2.1]
  refine cx_N K (nI (gx_f w a)) ?_
  rw [gx_N_j f1.1, decide_eq_true (f1.2.2 wa)]
  refine gb_r (fun z => absurd rfl z) (fun _ => ⟨hs, cx_N K (nI (gx_g w a)) ?_⟩)
  rw [gx_N_j g1.1, decide_eq_true (g1.2.2 wa)]
  refine gb_r (fun z => absurd rfl z) (fun _ => ⟨hs, ?_⟩)
  rw [es, (K.2.1.2 a ha').2.2.2.1, ej]
  refine br_f (nI_pos (by omega)) ⟨hs, br_f (nI_ge (b := 4) hj (by decide)) (br_f (by decide) (br_f (by decide) ⟨hs, ?_⟩))⟩
  rw [es, (K.2.1.2 a ha').2.2.2.2, h1.2]
  refine cx_W (nI (gx_h w a)) ?_
  rw [gx_in_y (nI_pos (by omega)) (nI_le (b := 99) (by omega) (by decide))]
  exact gb_r (fun z => absurd rfl z) (fun _ => hp)
theorem cx_fl_a {post : Int32 → Prop} (K : gx_K o ta la va ea fa ga ya ha w) (hp : post 0) : ∀ d i, i + d = 24 → wX_faults_37 post (nI o) ta la va ea fa ga ya ha ca ra (d + 1) 0 (nI i) := by
  intro d
  induction d with
  | zero =>
    intro i hi
    obtain rfl : i = 24 := by omega
    exact br_t (nI_le (a := 24) (b := 24) (by omega) (by decide)) hp
  | succ d ih =>
    intro i hi
    have hi2 : i < 24 := by omega
    have q1 := ih (i + 1) (by omega)
    refine br_f (nI_ge (b := 24) (by omega) (by decide)) (cx_A K (nI i) ?_)
    rw [gx_A_j hi2]
    exact gb_r (fun z => nm_r (nI_1 i) q1) (fun z => cx_sa K hi2 (of_decide_eq_true z) (br_f (by decide) (nm_r (nI_1 i) q1)))
theorem cx_fl_n {post : Int32 → Prop} (K : gx_K o ta la va ea fa ga ya ha w) (hp : post 0) : ∀ d i, i + d = 12 → wX_faults_4 post (nI o) ta la va ea fa ga ya ha ca ra (d + 1) 0 (nI i) := by
  intro d
  induction d with
  | zero =>
    intro i hi
    obtain rfl : i = 12 := by omega
    exact br_t (nI_le (a := 12) (b := 12) (by omega) (by decide)) ⟨25, cx_fl_a K hp 24 0 rfl⟩
  | succ d ih =>
    intro i hi
    have hi2 : i < 12 := by omega
    have q1 := ih (i + 1) (by omega)
    refine br_f (nI_ge (b := 12) (by omega) (by decide)) (cx_N K (nI i) ?_)
    rw [gx_N_j hi2]
    exact gb_r (fun z => nm_r (nI_1 i) q1) (fun z => cx_sn K hi2 (br_f (by decide) (nm_r (nI_1 i) q1)))
end
theorem i_vc_faults {k : Nat} {u : SX} {v : SY} (I : i_Rel k u v) (hk : k + 4 ≤ 2048) : wpX_faults (fun r => wpY_faults (fun r' => r' = r ∧ i_Rel (k + 4) u v) v) u := by
  obtain ⟨o, ta, la, va, ea, fa, ga, ya, ha, ca, ra, w, cp, fx, rfl, rfl, R⟩ := I
  exact ⟨13, cx_fl_n (ir_K R) ⟨rfl, ir_mk R⟩ 12 0 rfl⟩
def gx_dn (w : Nat → Int32) (i : Nat) : Int32 := (nI i + 1) * (w (12 + i) + (3 * w (24 + i)))
def gx_da (w : Nat → Int32) (i : Nat) : Int32 := (nI i + 13) * (((w (60 + i) + (5 * w (84 + i))) + (7 * w (108 + i))) + (11 * w (132 + i)))
def gx_pN (w : Nat → Int32) (i : Nat) : Bool := decide (w i = 1)
section
variable {o : Nat} {ta la va ea fa ga ya ha ca ra w : Nat → Int32}
theorem cx_dg_a {post : Int32 → Prop} (K : gx_K o ta la va ea fa ga ya ha w) : ∀ d i x, i + d = 24 → post (gv_sm (gx_pA w) (gx_da w) d i x) → wX_digest_54 post (nI o) ta la va ea fa ga ya ha ca ra (d + 1) x (nI i) := by
  intro d
  induction d with
  | zero =>
    intro i x hi hp
    obtain rfl : i = 24 := by omega
    exact br_t (nI_le (a := 24) (b := 24) (by omega) (by decide)) hp
  | succ d ih =>
    intro i x hi hp
    have hi2 : i < 24 := by omega
    refine br_f (nI_ge (b := 24) (by omega) (by decide)) (cx_A K (nI i) ?_)
    rw [gx_A_j hi2]
    refine gb_r (fun z => nm_r (nI_1 i) ?_) (fun z => cx_as K hi2 (fun s hs es => ⟨hs, hs, hs, hs, ?_⟩))
    · rw [gv_sm_f z] at hp
      exact ih (i + 1) x (by omega) hp
    · rw [es, (K.2.1.2 i hi2).2.1, (K.2.1.2 i hi2).2.2.1, (K.2.1.2 i hi2).2.2.2.1, (K.2.1.2 i hi2).2.2.2.2]
      rw [gv_sm_t z] at hp
      exact nm_e (nm_e (nm_r (nI_1 i) (ih (i + 1) _ (by omega) hp)))
theorem cx_dg_n {post : Int32 → Prop} (K : gx_K o ta la va ea fa ga ya ha w) : ∀ d i x, i + d = 12 → post (gv_sm (gx_pA w) (gx_da w) 24 0 (gv_sm (gx_pN w) (gx_dn w) d i x)) → wX_digest_4 post (nI o) ta la va ea fa ga ya ha ca ra (d + 1) x (nI i) := by
  intro d
  induction d with
  | zero =>
    intro i x hi hp
    obtain rfl : i = 12 := by omega
    exact br_t (nI_le (a := 12) (b := 12) (by omega) (by decide)) ⟨25, cx_dg_a K 24 0 x rfl hp⟩
  | succ d ih =>
    intro i x hi hp
    have hi2 : i < 12 := by omega
    refine br_f (nI_ge (b := 12) (by omega) (by decide)) (cx_N K (nI i) ?_)
    rw [gx_N_j hi2]
    refine gb_r (fun z => nm_r (nI_1 i) ?_) (fun z => cx_ns K hi2 (fun s hs es => ⟨hs, hs, ?_⟩))
    · rw [gv_sm_f (p := gx_pN w) (i := i) z] at hp
      exact ih (i + 1) x (by omega) hp
    · rw [es, (K.2.1.1 i hi2).2.1, (K.2.1.1 i hi2).2.2]
      rw [gv_sm_t (p := gx_pN w) (i := i) z] at hp
      exact nm_e (nm_r (nI_1 i) (ih (i + 1) _ (by omega) hp))
end
section
variable {q : Int32} {w cp fx : Nat → Int32}
theorem cy_dg_a {post : Int32 → Prop} : ∀ d i x, i + d = 24 → post (gv_sm (gx_pA w) (gx_da w) d i x) → wY_digest_54 post q w cp fx (d + 1) x (nI i) := by
  intro d
  induction d with
  | zero =>
    intro i x hi hp
    obtain rfl : i = 24 := by omega
    exact br_t (nI_le (a := 24) (b := 24) (by omega) (by decide)) hp
  | succ d ih =>
    intro i x hi hp
    have hi2 : i < 24 := by omega
    refine br_f (nI_ge (b := 24) (by omega) (by decide)) (cy_A (nI i) ?_)
    rw [gx_A_j hi2]
    refine gb_r (fun z => nm_r (nI_1 i) ?_) (fun z => cy_p0 hi2 (cy_p1 hi2 (cy_p2 hi2 (cy_p3 hi2 ?_))))
    · rw [gv_sm_f z] at hp
      exact ih (i + 1) x (by omega) hp
    · rw [gv_sm_t z] at hp
      exact nm_e (nm_r (nI_1 i) (ih (i + 1) _ (by omega) hp))
theorem cy_dg_n {post : Int32 → Prop} : ∀ d i x, i + d = 12 → post (gv_sm (gx_pA w) (gx_da w) 24 0 (gv_sm (gx_pN w) (gx_dn w) d i x)) → wY_digest_4 post q w cp fx (d + 1) x (nI i) := by
  intro d
  induction d with
  | zero =>
    intro i x hi hp
    obtain rfl : i = 12 := by omega
    exact br_t (nI_le (a := 12) (b := 12) (by omega) (by decide)) ⟨25, cy_dg_a 24 0 x rfl hp⟩
  | succ d ih =>
    intro i x hi hp
    have hi2 : i < 12 := by omega
    refine br_f (nI_ge (b := 12) (by omega) (by decide)) (cy_N (nI i) ?_)
    rw [gx_N_j hi2]
    obtain ⟨i1, i2⟩ := cy_ix 12 i 12 rfl (by omega)
    obtain ⟨j1, j2⟩ := cy_ix 24 i 24 rfl (by omega)
    refine gb_r (fun z => nm_r (nI_1 i) ?_) (fun z => ⟨i1, j1, ?_⟩)
    · rw [gv_sm_f (p := gx_pN w) (i := i) z] at hp
      exact ih (i + 1) x (by omega) hp
    · rw [i2, j2]
      rw [gv_sm_t (p := gx_pN w) (i := i) z] at hp
      exact nm_e (nm_r (nI_1 i) (ih (i + 1) _ (by omega) hp))
end
theorem i_vc_digest {k : Nat} {u : SX} {v : SY} (I : i_Rel k u v) (hk : k + 4 ≤ 2048) : wpX_digest (fun r => wpY_digest (fun r' => r' = r ∧ i_Rel (k + 4) u v) v) u := by
  obtain ⟨o, ta, la, va, ea, fa, ga, ya, ha, ca, ra, w, cp, fx, rfl, rfl, R⟩ := I
  exact ⟨13, cx_dg_n (ir_K R) 12 0 0 rfl ⟨13, cy_dg_n 12 0 0 rfl ⟨rfl, ir_mk R⟩⟩⟩
end
section
/-! distance and cheapest: both tables of costs against bf_it -/
def gx_wt (x : Int32) (w : Nat → Int32) (a : Nat) : Nat := if x = 0 then 1 else gx_h w a
theorem gx_wt_0 {x : Int32} {w : Nat → Int32} {a : Nat} (z : x = 0) : gx_wt x w a = 1 := if_pos z
theorem gx_wt_1 {x : Int32} {w : Nat → Int32} {a : Nat} (z : ¬ x = 0) : gx_wt x w a = gx_h w a := if_neg z
theorem gx_wt_le {w : Nat → Int32} (G : gx_gd w) (x : Int32) {a : Nat} (ha' : a < 24) : gx_wt x w a ≤ 99 := by
  by_cases z : x = 0
  · rw [gx_wt_0 z]; omega
  · rw [gx_wt_1 z]; exact (gx_hd G ha').1
def gx_ps (w : Nat → Int32) (ty x : Int32) (c : Nat → Nat) (i : Nat) : Nat → Nat := bf_ps (gx_of w ty) (gx_f w) (gx_g w) (gx_wt x w) c i
def gx_it (w : Nat → Int32) (ty x : Int32) (s k : Nat) : Nat → Nat := bf_it (gx_of w ty) (gx_f w) (gx_g w) (gx_wt x w) s k
def gx_rl (w : Nat → Int32) (ty x : Int32) (c : Nat → Nat) (i : Nat) : Nat → Nat := bf_rl (gx_of w ty) (gx_f w) (gx_g w) (gx_wt x w) c i
theorem gx_ps_s (w : Nat → Int32) (ty x : Int32) (c : Nat → Nat) (i : Nat) : gx_ps w ty x c (i + 1) = gx_rl w ty x (gx_ps w ty x c i) i := rfl
theorem gx_it_s (w : Nat → Int32) (ty x : Int32) (s k : Nat) : gx_it w ty x s (k + 1) = gx_ps w ty x (gx_it w ty x s k) 24 := rfl
theorem gx_it_0 (w : Nat → Int32) (ty x : Int32) (s : Nat) : gx_it w ty x s 0 = bf_i0 s := rfl
theorem gx_rl_n {w : Nat → Int32} {ty x : Int32} {c : Nat → Nat} {i : Nat} (z : ¬ gx_of w ty i = true) : gx_rl w ty x c i = c := bf_rl_n _ _ _ _ z
theorem gx_ps_B {w : Nat → Int32} (G : gx_gd w) (ty x : Int32) {c : Nat → Nat} {t : Nat} (B : bf_B t c) (ht : t ≤ 376) {i : Nat} (hi : i ≤ 24) : bf_B (t + i) (gx_ps w ty x c i) := bf_B_ps _ _ _ _ (fun _ ha' _ => gx_wt_le G x ha') B i hi (by omega)
theorem gx_it_B {w : Nat → Int32} (G : gx_gd w) (ty x : Int32) (s : Nat) {k : Nat} (hk : k ≤ 12) : bf_B (24 * k) (gx_it w ty x s k) := bf_B_it _ _ _ _ (fun _ ha' _ => gx_wt_le G x ha') s k hk
theorem gx_it_fix {w : Nat → Int32} (G : gx_gd w) (ty x : Int32) (s : Nat) : gx_it w ty x s 12 = gx_it w ty x s 11 := bf_fix _ _ _ _ (gx_hb G ty) s
def gx_ans (c : Nat) : Int32 := if c = 1000000 then -2 else nI c
theorem gx_ans_n {c : Nat} (z : c = 1000000) : gx_ans c = -2 := if_pos z
theorem gx_ans_p {c : Nat} (z : ¬ c = 1000000) : gx_ans c = nI c := if_neg z
section
variable {o : Nat} {ta la va ea fa ga ya ha ca ra w : Nat → Int32}
theorem cx_l51 {post : SX → Prop} {J : Int32 → (Nat → Int32) → (Nat → Int32) → (Nat → Int32) → (Nat → Int32) → (Nat → Int32) → (Nat → Int32) → (Nat → Int32) → (Nat → Int32) → (Nat → Int32) → (Nat → Int32) → Prop} (K : gx_K o ta la va ea fa ga ya ha w) (ty x : Int32) {i : Nat} (hi : i < 24) (ho : gx_of w ty i = true) {s : Int32} (hs : vp_in s 120) (es : s.toNatClampNeg = o * 24 + i) {c : Nat → Nat} {t : Nat} (B : bf_B t c) (ht : t ≤ 400) (hc : ∀ j, j < 12 → ca j = nI (c j)) {z0 z1 : Int32} (e0 : z0 = nI (gx_wt x w i)) (e1 : z1 = nI (c (gx_f w i))) (hJ : ∀ c1, (∀ j, j < 12 → c1 j = nI (gx_rl w ty x c i j)) → J (nI (i + 1)) ta la va ea fa ga ya ha c1 ra) : wX_lowerCosts_51 post J ty x (nI i) s z0 z1 (nI o) ta la va ea fa ga ya ha ca ra := by
  unfold wX_lowerCosts_51
  have g1 := gx_gd_ K.2.2 hi
  have w1 := gx_wt_le K.2.2 x hi
  have b1 := B (gx_f w i)
  have b2 := B (gx_g w i)
  subst e0 e1
  refine nm_r (nI_add _ _) ⟨hs, ?_⟩
  rw [es, (K.2.1.2 i hi).2.2.1, g1.2.1, nI_clamp (by omega), hc _ g1.1]
  refine ⟨vp_in_nI g1.1 (by decide), pk_le (c (gx_g w i)) (c (gx_f w i) + gx_wt x w i) (fun z => nm_r (nI_1 i) (hJ ca ?_)) (fun z => ⟨hs, vp_in_nI g1.1 (by decide), nm_e (nm_r (nI_1 i) (hJ _ ?_))⟩)⟩
  · rw [show gx_rl w ty x c i = c from bf_no (by omega)]; exact hc
  · exact bf_yes ho z ca nI hc _ rfl
theorem cx_lc_l {post : SX → Prop} (K : gx_K o ta la va ea fa ga ya ha w) (ty x : Int32) {c : Nat → Nat} {t : Nat} (B : bf_B t c) (ht : t ≤ 376) (hp : ∀ c1, (∀ j, j < 12 → c1 j = nI (gx_ps w ty x c 24 j)) → post (nI o, ta, la, va, ea, fa, ga, ya, ha, c1, ra)) : ∀ d i, i + d = 24 → ∀ c1, (∀ j, j < 12 → c1 j = nI (gx_ps w ty x c i j)) → wX_lowerCosts_2 post ty x (nI o) (d + 1) (nI i) ta la va ea fa ga ya ha c1 ra := by
  intro d
  induction d with
  | zero =>
    intro i hi c1 h1
    obtain rfl : i = 24 := by omega
    exact br_t (nI_le (a := 24) (b := 24) (by omega) (by decide)) (hp c1 h1)
  | succ d ih =>
    intro i hi c1 h1
    have hi2 : i < 24 := by omega
    have q1 := ih (i + 1) (by omega)
    rw [gx_ps_s] at q1
    have B1 := gx_ps_B K.2.2 ty x B ht (i := i) (by omega)
    have f1 := gx_fd K.2.2 hi2
    refine br_f (nI_ge (b := 24) (by omega) (by decide)) (cx_of K hi2 ty (gb_r (fun z => nm_r (nI_1 i) ?_) (fun z => cx_as K hi2 (fun s hs es => ⟨hs, ?_⟩))))
    · rw [gx_rl_n z] at q1; exact q1 c1 h1
    · rw [es, (K.2.1.2 i hi2).2.1, f1.2.1, (K.2.1.2 i hi2).2.2.2.2, nI_clamp (by omega)]
      refine ⟨vp_in_nI f1.1 (by decide), ?_⟩
      by_cases y : x = 0
      · exact br_t y (cx_l51 K ty x hi2 z hs es B1 (by omega) h1 (by rw [gx_wt_0 y]; rfl) (h1 _ f1.1) q1)
      · exact br_f y ⟨hs, cx_l51 K ty x hi2 z hs es B1 (by omega) h1 (by rw [gx_wt_1 y]; exact (gx_hd K.2.2 hi2).2) (h1 _ f1.1) q1⟩
theorem cx_l38 {post : Int32 → SX → Prop} (K : gx_K o ta la va ea fa ga ya ha w) (x1 ty x : Int32) {s g : Nat} (hg : g < 12) (eg : x1 - x1 / 12 * 12 = nI g) (hp : ∀ c1, post (gx_ans (gx_it w ty x s 11 g)) (nI o, ta, la, va, ea, fa, ga, ya, ha, c1, ra)) : ∀ d i, i + d = 11 → ∀ c1, (∀ j, j < 12 → c1 j = nI (gx_it w ty x s i j)) → wX_leastCost_38 post x1 ty x (d + 1) (nI (i + 1)) (nI o) ta la va ea fa ga ya ha c1 ra := by
  intro d
  induction d with
  | zero =>
    intro i hi c1 h1
    obtain rfl : i = 11 := by omega
    have B1 := gx_it_B K.2.2 ty x s (k := 11) (by omega) g
    refine br_t (nI_le (a := 12) (b := 12) (by omega) (by decide)) ⟨by decide, ?_⟩
    rw [eg, nI_clamp (by omega)]
    refine ⟨vp_in_nI hg (by decide), nm_r (h1 g hg) (pk_le 1000000 (gx_it w ty x s 11 g) (fun z => ?_) (fun z => ?_))⟩
    · have p1 := hp c1
      rw [gx_ans_n (by omega)] at p1; exact p1
    · have p1 := hp c1
      rw [gx_ans_p (by omega)] at p1; exact p1
  | succ d ih =>
    intro i hi c1 h1
    have q1 := ih (i + 1) (by omega)
    have B1 := gx_it_B K.2.2 ty x s (k := i) (by omega)
    refine br_f (nI_ge (a := i + 1) (b := 12) (by omega) (by decide)) ⟨25, cx_lc_l K ty x B1 (by omega) (fun c2 h2 => nm_r (nI_1 (i + 1)) (q1 c2 h2)) 24 0 rfl c1 h1⟩
theorem cx_l3 {post : Int32 → SX → Prop} (K : gx_K o ta la va ea fa ga ya ha w) (x1 ty x : Int32) {s g : Nat} (hs : s < 12) (es : x1 / 12 = nI s) (hg : g < 12) (eg : x1 - x1 / 12 * 12 = nI g) (hp : ∀ c1, post (gx_ans (gx_it w ty x s 11 g)) (nI o, ta, la, va, ea, fa, ga, ya, ha, c1, ra)) : ∀ d i, i + d = 12 → ∀ c1, (∀ j, j < i → c1 j = nI 1000000) → wX_leastCost_3 post x1 ty x (nI o) (d + 1) (nI i) ta la va ea fa ga ya ha c1 ra := by
  intro d
  induction d with
  | zero =>
    intro i hi c1 h1
    obtain rfl : i = 12 := by omega
    refine br_t (nI_le (a := 12) (b := 12) (by omega) (by decide)) ⟨by decide, ?_⟩
    refine ⟨by rw [es]; exact vp_in_nI hs (by decide), nm_e ⟨12, cx_l38 K x1 ty x hg eg hp 11 0 rfl _ (fun j hj => ?_)⟩⟩
    rw [es, nI_clamp (by omega), gx_it_0]
    by_cases e1 : j = s
    · subst e1; rw [pk_us, show bf_i0 j j = 0 from if_pos rfl]; rfl
    · rw [pk_un e1, show bf_i0 s j = 1000000 from if_neg e1]; exact h1 j hj
  | succ d ih =>
    intro i hi c1 h1
    refine br_f (nI_ge (b := 12) (by omega) (by decide)) ⟨vp_in_nI (by omega) (by decide), ?_⟩
    rw [nI_clamp (by omega)]
    refine nm_e (nm_r (nI_1 i) (ih (i + 1) (by omega) _ (fun j hj => ?_)))
    by_cases e1 : j = i
    · subst e1; exact pk_us
    · rw [pk_un e1]; exact h1 j (by omega)
theorem cx_lc {post : Int32 → SX → Prop} (K : gx_K o ta la va ea fa ga ya ha w) (x1 ty x : Int32) {s g : Nat} (hs : s < 12) (es : x1 / 12 = nI s) (hg : g < 12) (eg : x1 - x1 / 12 * 12 = nI g) (hp : ∀ c1, post (gx_ans (gx_it w ty x s 11 g)) (nI o, ta, la, va, ea, fa, ga, ya, ha, c1, ra)) : wpX_leastCost post (nI o, ta, la, va, ea, fa, ga, ya, ha, ca, ra) x1 ty x := ⟨13, cx_l3 K x1 ty x hs es hg eg hp 12 0 rfl ca (fun j hj => absurd hj (Nat.not_lt_zero _))⟩
end
section
variable {q : Int32} {w cp fx : Nat → Int32}
theorem cy_115 {post : SY → Prop} {J0 J : Int32 → (Nat → Int32) → (Nat → Int32) → (Nat → Int32) → Prop} (G : gx_gd w) (ty x x4 : Int32) {i : Nat} (hi : i < 24) (ho : gx_of w ty i = true) {c : Nat → Nat} {t : Nat} (B : bf_B t c) (ht : t ≤ 390) (hc : ∀ j, j < 12 → fx j = gx_fe (c j)) (hf : ¬ c (gx_f w i) = 1000000) {z0 z1 : Int32} (e0 : z0 = nI (gx_wt x w i)) (e1 : z1 = nI (c (gx_f w i))) (hJ : ∀ c1, (∀ j, j < 12 → c1 j = gx_fe (gx_rl w ty x c i j)) → J (nI (i + 1)) w cp c1) : wY_measure_115 post J0 J ty x x4 (nI i) (nI (gx_g w i)) z0 z1 q w cp fx := by
  unfold wY_measure_115
  have g1 := gx_gd_ G hi
  have w1 := gx_wt_le G x hi
  have b1 := B (gx_f w i)
  have b2 := B (gx_g w i)
  subst e0 e1
  refine nm_r (nI_add _ _) ⟨vp_in_nI g1.1 (by decide), ?_⟩
  rw [nI_clamp (by omega), hc _ g1.1]
  by_cases z : c (gx_g w i) = 1000000
  · refine br_t (by rw [z, gx_fe_n]; decide) ⟨vp_in_nI g1.1 (by decide), nm_e (nm_r (nI_1 i) (hJ _ ?_))⟩
    exact bf_yes ho (by omega) fx gx_fe hc _ (gx_fe_p (by omega)).symm
  · rw [gx_fe_p (c := c (gx_g w i)) (by omega)]
    refine br_f (nI_pos (by omega)) ⟨vp_in_nI g1.1 (by decide), pk_le (c (gx_g w i)) (c (gx_f w i) + gx_wt x w i) (fun z => nm_r (nI_1 i) (hJ fx ?_)) (fun z => ⟨vp_in_nI g1.1 (by decide), nm_e (nm_r (nI_1 i) (hJ _ ?_))⟩)⟩
    · rw [show gx_rl w ty x c i = c from bf_no (by omega)]; exact hc
    · exact bf_yes ho z fx gx_fe hc _ (gx_fe_p (by omega)).symm
theorem cy_m47 {post : SY → Prop} {J : Int32 → (Nat → Int32) → (Nat → Int32) → (Nat → Int32) → Prop} (G : gx_gd w) (ty x x4 : Int32) {c : Nat → Nat} {t : Nat} (B : bf_B t c) (ht : t ≤ 366) (hJ : ∀ c1, (∀ j, j < 12 → c1 j = gx_fe (gx_ps w ty x c 24 j)) → J (x4 + 1) w cp c1) : ∀ d i, i + d = 24 → ∀ c1, (∀ j, j < 12 → c1 j = gx_fe (gx_ps w ty x c i j)) → wY_measure_47 post J ty x x4 q (d + 1) (nI i) w cp c1 := by
  intro d
  induction d with
  | zero =>
    intro i hi c1 h1
    obtain rfl : i = 24 := by omega
    exact br_t (nI_le (a := 24) (b := 24) (by omega) (by decide)) (nm_e (hJ c1 h1))
  | succ d ih =>
    intro i hi c1 h1
    have hi2 : i < 24 := by omega
    have q1 := ih (i + 1) (by omega)
    rw [gx_ps_s] at q1
    have B1 := gx_ps_B G ty x B (by omega) (i := i) (by omega)
    have f1 := gx_fd G hi2
    have g1 := gx_gd_ G hi2
    have b1 := B1 (gx_f w i)
    refine br_f (nI_ge (b := 24) (by omega) (by decide)) (cy_of hi2 ty (gb_r (fun z => nm_r (nI_1 i) ?_) (fun z => cy_p0 hi2 ?_)))
    · rw [gx_rl_n z] at q1; exact q1 c1 h1
    · rw [f1.2.1, nI_clamp (by omega), h1 _ f1.1]
      refine ⟨vp_in_nI f1.1 (by decide), ?_⟩
      by_cases y : gx_ps w ty x c i (gx_f w i) = 1000000
      · refine br_t (by rw [y, gx_fe_n]; decide) (nm_r (nI_1 i) (q1 c1 ?_))
        rw [show gx_rl w ty x (gx_ps w ty x c i) i = gx_ps w ty x c i from bf_far B1 (by omega) y]; exact h1
      · rw [gx_fe_p (c := gx_ps w ty x c i (gx_f w i)) (by omega)]
        refine br_f (nI_pos (by omega)) (cy_p1 hi2 (cy_p0 hi2 ?_))
        rw [f1.2.1, g1.2.1]
        refine ⟨vp_in_nI f1.1 (by decide), ?_⟩
        have e1 : c1 (nI (gx_f w i)).toNatClampNeg = nI (gx_ps w ty x c i (gx_f w i)) := by rw [nI_clamp (by omega), h1 _ f1.1, gx_fe_p (by omega)]
        by_cases y2 : x = 0
        · exact br_t y2 (cy_115 G ty x x4 hi2 z B1 (by omega) h1 y (by rw [gx_wt_0 y2]; rfl) e1 q1)
        · exact br_f y2 (cy_p3 hi2 (cy_115 G ty x x4 hi2 z B1 (by omega) h1 y (by rw [gx_wt_1 y2]; exact (gx_hd G hi2).2) e1 q1))
theorem cy_m37 {post : SY → Prop} (G : gx_gd w) (ty x : Int32) (s : Nat) (hp : ∀ c1, (∀ j, j < 12 → c1 j = gx_fe (gx_it w ty x s 12 j)) → post (q, w, cp, c1)) : ∀ d i, i + d = 12 → ∀ c1, (∀ j, j < 12 → c1 j = gx_fe (gx_it w ty x s i j)) → wY_measure_37 post ty x q (d + 1) (nI i) w cp c1 := by
  intro d
  induction d with
  | zero =>
    intro i hi c1 h1
    obtain rfl : i = 12 := by omega
    exact br_t (nI_le (a := 12) (b := 12) (by omega) (by decide)) (hp c1 h1)
  | succ d ih =>
    intro i hi c1 h1
    have q1 := ih (i + 1) (by omega)
    have B1 := gx_it_B G ty x s (k := i) (by omega)
    refine br_f (nI_ge (b := 12) (by omega) (by decide)) ⟨25, cy_m47 G ty x (nI i) B1 (by omega) (fun c2 h2 => ?_) 24 0 rfl c1 h1⟩
    rw [nI_1 i]
    exact q1 c2 h2
theorem cy_m3 {post : SY → Prop} (G : gx_gd w) (ty x : Int32) {s : Nat} (hs : s < 12) (hp : ∀ c1, (∀ j, j < 12 → c1 j = gx_fe (gx_it w ty x s 12 j)) → post (q, w, cp, c1)) : ∀ d i, i + d = 12 → ∀ c1, (∀ j, j < i → c1 j = gx_fe (bf_i0 s j)) → wY_measure_3 post (nI s) ty x q (d + 1) (nI i) w cp c1 := by
  intro d
  induction d with
  | zero =>
    intro i hi c1 h1
    obtain rfl : i = 12 := by omega
    exact br_t (nI_le (a := 12) (b := 12) (by omega) (by decide)) ⟨13, cy_m37 G ty x s hp 12 0 rfl c1 h1⟩
  | succ d ih =>
    intro i hi c1 h1
    have q1 := ih (i + 1) (by omega)
    refine br_f (nI_ge (b := 12) (by omega) (by decide)) ?_
    rw [nI_clamp (by omega)]
    have nx : ∀ y, y = gx_fe (bf_i0 s i) → wY_measure_3 post (nI s) ty x q (d + 1) (nI (i + 1)) w cp (upd c1 i y) := by
      intro y ey
      refine q1 _ (fun j hj => ?_)
      by_cases e1 : j = i
      · subst e1; exact pk_us.trans ey
      · rw [pk_un e1]; exact h1 j (by omega)
    refine pk_eq i s (fun e1 => ⟨vp_in_nI (by omega) (by decide), nm_e (nm_r (nI_1 i) (nx _ ?_))⟩) (fun e1 => ⟨vp_in_nI (by omega) (by decide), nm_e (nm_r (nI_1 i) (nx _ ?_))⟩)
    · rw [show bf_i0 s i = 0 from if_pos e1]; rfl
    · rw [show bf_i0 s i = 1000000 from if_neg e1, gx_fe_n]
theorem cy_me {post : SY → Prop} (G : gx_gd w) (ty x : Int32) {s : Nat} (hs : s < 12) (hp : ∀ c1, (∀ j, j < 12 → c1 j = gx_fe (gx_it w ty x s 12 j)) → post (q, w, cp, c1)) : wpY_measure post (q, w, cp, fx) (nI s) ty x := ⟨13, cy_m3 G ty x hs hp 12 0 rfl fx (fun j hj => absurd hj (Nat.not_lt_zero _))⟩
theorem cy_way {post : Int32 → SY → Prop} (G : gx_gd w) (x1 ty x : Int32) (h0 : ¬ (gx_E w x1 = true ∧ gx_in 4 ty = true) → post (-1) (q, w, cp, fx)) (h1 : gx_E w x1 = true → gx_in 4 ty = true → ∀ s g, s < 12 → g < 12 → x1 / 12 = nI s → x1 - x1 / 12 * 12 = nI g → ∀ c1, post (gx_ans (gx_it w ty x s 11 g)) (q, w, cp, c1)) : wpY_way post (q, w, cp, fx) x1 ty x := by
  unfold wpY_way
  refine cy_E x1 (gb_n (fun z => cy_T ty (gb_n (fun z1 => ⟨by decide, ?_⟩) (fun z1 => h0 (fun k => z1 k.2)))) (fun z => h0 (fun k => z k.1)))
  obtain ⟨_, s, g, hs, hg, es, eg, _, _⟩ := gx_E_t z
  have H := h1 z z1 s g hs hg es eg
  rw [eg, es]
  refine cy_me G ty x hs (fun c1 k1 => ⟨by decide, vp_in_nI hg (by decide), ?_⟩)
  have b1 := gx_it_B G ty x s (k := 12) (by omega) g
  rw [nI_clamp (by omega), k1 g hg]
  rw [← gx_it_fix G ty x s] at H
  by_cases y : gx_it w ty x s 12 g = 1000000
  · rw [gx_ans_n y] at H
    exact br_f (by rw [y, gx_fe_n]; decide) (H c1)
  · rw [gx_ans_p y] at H
    rw [gx_fe_p (c := gx_it w ty x s 12 g) (by omega)]
    exact br_t (nI_pos' (by omega)) ⟨by decide, vp_in_nI hg (by decide), H c1⟩
end
theorem i_vc_distance {k : Nat} {u : SX} {v : SY} (I : i_Rel k u v) (hk : k + 4 ≤ 2048) (v1 : Int32) (v2 : Int32) : wpX_distance (fun r u' => wpY_distance (fun r' v' => r' = r ∧ i_Rel (k + 4) u' v') v v1 v2) u v1 v2 := by
  obtain ⟨o, ta, la, va, ea, fa, ga, ya, ha, ca, ra, w, cp, fx, rfl, rfl, R⟩ := I
  have K := ir_K R
  unfold wpX_distance wpY_distance
  refine cx_E K v1 (gb_r (fun z => ?_) (fun z => cx_T v2 (gb_r (fun z1 => ?_) (fun z1 => ?_))))
  · exact cy_way K.2.2 v1 v2 0 (fun _ => ⟨rfl, ir_mk R⟩) (fun k1 => absurd k1 z)
  · exact cy_way K.2.2 v1 v2 0 (fun _ => ⟨rfl, ir_mk R⟩) (fun _ k1 => absurd k1 z1)
  · obtain ⟨_, s, g, hs, hg, es, eg, _, _⟩ := gx_E_t z
    refine cx_lc K v1 v2 0 hs es hg eg (fun c1 => ?_)
    refine cy_way K.2.2 v1 v2 0 (fun k1 => absurd ⟨z, z1⟩ k1) (fun _ _ s2 g2 hs2 hg2 es2 eg2 c2 => ⟨?_, ir_mk R⟩)
    obtain rfl : s = s2 := (nI_eq (by omega) (by omega)).mp (es.symm.trans es2)
    obtain rfl : g = g2 := (nI_eq (by omega) (by omega)).mp (eg.symm.trans eg2)
    rfl
theorem i_vc_cheapest {k : Nat} {u : SX} {v : SY} (I : i_Rel k u v) (hk : k + 4 ≤ 2048) (v1 : Int32) (v2 : Int32) : wpX_cheapest (fun r u' => wpY_cheapest (fun r' v' => r' = r ∧ i_Rel (k + 4) u' v') v v1 v2) u v1 v2 := by
  obtain ⟨o, ta, la, va, ea, fa, ga, ya, ha, ca, ra, w, cp, fx, rfl, rfl, R⟩ := I
  have K := ir_K R
  unfold wpX_cheapest wpY_cheapest
  refine cx_E K v1 (gb_r (fun z => ?_) (fun z => cx_T v2 (gb_r (fun z1 => ?_) (fun z1 => ?_))))
  · exact cy_way K.2.2 v1 v2 1 (fun _ => ⟨rfl, ir_mk R⟩) (fun k1 => absurd k1 z)
  · exact cy_way K.2.2 v1 v2 1 (fun _ => ⟨rfl, ir_mk R⟩) (fun _ k1 => absurd k1 z1)
  · obtain ⟨_, s, g, hs, hg, es, eg, _, _⟩ := gx_E_t z
    refine cx_lc K v1 v2 1 hs es hg eg (fun c1 => ?_)
    refine cy_way K.2.2 v1 v2 1 (fun k1 => absurd ⟨z, z1⟩ k1) (fun _ _ s2 g2 hs2 hg2 es2 eg2 c2 => ⟨?_, ir_mk R⟩)
    obtain rfl : s = s2 := (nI_eq (by omega) (by omega)).mp (es.symm.trans es2)
    obtain rfl : g = g2 := (nI_eq (by omega) (by omega)).mp (eg.symm.trans eg2)
    rfl
end
section
/-! rounds: masks against what bf_it reaches -/
def gx_I (w : Nat → Int32) (ty : Int32) (k : Nat) (f : Nat → Int32) : Prop := wa_I (gx_of w ty) (gx_f w) (gx_g w) (gx_wt 0 w) k f
def gx_J (w : Nat → Int32) (ty : Int32) (k : Nat) (f : Nat → Int32) : Prop := wa_J (gx_of w ty) (gx_f w) (gx_g w) (gx_wt 0 w) k f
def gx_Q (w : Nat → Int32) (ty : Int32) (n m : Nat) : Bool := decide (gx_it w ty 0 n 12 m < 1000000)
theorem gx_I_iff {w : Nat → Int32} (G : gx_gd w) {ty : Int32} {f : Nat → Int32} (I : gx_I w ty 12 f) {n m : Nat} (hn : n < 12) (hm : m < 12) : bt (f n) m = gx_Q w ty n m := by
  have z := wa_iff (gx_of w ty) (gx_f w) (gx_g w) (gx_wt 0 w) (gx_hb G ty) I hn hm
  cases hb : bt (f n) m
  · exact (decide_eq_false (fun k => absurd (hb.symm.trans (z.mpr k)) (by decide))).symm
  · exact (decide_eq_true (z.mp hb)).symm
theorem gx_Q_w {w : Nat → Int32} (G : gx_gd w) {ty : Int32} {n m : Nat} (hn : w n = 1) (z : gx_Q w ty n m = true) : w m = 1 := by
  refine bf_it_S (gx_of w ty) (gx_f w) (gx_g w) (gx_wt 0 w) (S := fun x => w x = 1) (fun a ha' h1 _ => (gx_gd_ G ha').2.2 (gx_of1 h1)) hn 12 m (of_decide_eq_true z)
def gx_fw (k : Nat) (f : Nat → Int32) (i n : Nat) : Int32 := if n < i then (if bt (f n) k = true then f n ||| f k else f n) else f n
theorem gx_fw_k (k : Nat) (f : Nat → Int32) (i : Nat) : gx_fw k f i k = f k := by
  unfold gx_fw
  split
  · split
    · exact Int32.or_self
    · rfl
  · rfl
theorem gx_fw_i (k : Nat) (f : Nat → Int32) (i : Nat) : gx_fw k f i i = f i := if_neg (Nat.lt_irrefl i)
theorem gx_fw_s {k : Nat} {f : Nat → Int32} {i n : Nat} (z : n ≠ i) : gx_fw k f (i + 1) n = gx_fw k f i n := by
  unfold gx_fw
  by_cases h1 : n < i
  · rw [if_pos h1, if_pos (by omega)]
  · rw [if_neg h1, if_neg (by omega)]
theorem gx_fw_t {k : Nat} {f : Nat → Int32} {i : Nat} (z : bt (f i) k = true) : gx_fw k f (i + 1) i = f i ||| f k := by
  unfold gx_fw; rw [if_pos (by omega), if_pos z]
theorem gx_fw_f {k : Nat} {f : Nat → Int32} {i : Nat} (z : ¬ bt (f i) k = true) : gx_fw k f (i + 1) i = f i := by
  unfold gx_fw; rw [if_pos (by omega), if_neg z]
section
variable {o : Nat} {ta la va ea fa ga ya ha ca ra w : Nat → Int32}
theorem cx_re {post : Int32 → Prop} {n m : Nat} (hn : n < 12) (hm : m < 12) (hp : post (gx_b (bt (ra n) m))) : wpX_reaches post (nI o, ta, la, va, ea, fa, ga, ya, ha, ca, ra) (nI n) (nI m) := by
  refine ⟨vp_in_nI hn (by decide), ?_⟩
  rw [nI_clamp (by omega)]
  exact gb_1 (wa_bit hm (ra n)) hp
theorem cx_f84 {post : SX → Prop} {J : Int32 → (Nat → Int32) → (Nat → Int32) → (Nat → Int32) → (Nat → Int32) → (Nat → Int32) → (Nat → Int32) → (Nat → Int32) → (Nat → Int32) → (Nat → Int32) → (Nat → Int32) → Prop} {k : Nat} (hk : k < 12) (f : Nat → Int32) (hJ : ∀ r1, (∀ n, n < 12 → r1 n = gx_fw k f 12 n) → J (nI (k + 1)) ta la va ea fa ga ya ha ca r1) : ∀ d i, i + d = 12 → ∀ r1, (∀ n, n < 12 → r1 n = gx_fw k f i n) → wX_fillReach_84 post J (nI k) (nI o) (d + 1) (nI i) ta la va ea fa ga ya ha ca r1 := by
  intro d
  induction d with
  | zero =>
    intro i hi r1 h1
    obtain rfl : i = 12 := by omega
    exact br_t (nI_le (a := 12) (b := 12) (by omega) (by decide)) (nm_r (nI_1 k) (hJ r1 h1))
  | succ d ih =>
    intro i hi r1 h1
    have hi2 : i < 12 := by omega
    have q1 := ih (i + 1) (by omega)
    have e1 : r1 i = f i := (h1 i hi2).trans (gx_fw_i k f i)
    have e2 : r1 k = f k := (h1 k hk).trans (gx_fw_k k f i)
    refine br_f (nI_ge (b := 12) (by omega) (by decide)) (cx_re hi2 hk ?_)
    rw [e1]
    refine gb_r (fun z => nm_r (nI_1 i) (q1 r1 (fun n hn => ?_))) (fun z => ⟨vp_in_nI hi2 (by decide), vp_in_nI hk (by decide), vp_in_nI hi2 (by decide), ?_⟩)
    · by_cases e : n = i
      · subst e; rw [gx_fw_f z]; exact e1
      · rw [gx_fw_s e]; exact h1 n hn
    · rw [nI_clamp (n := i) (by omega), nI_clamp (n := k) (by omega), e1, e2]
      refine nm_e (nm_r (nI_1 i) (q1 _ (fun n hn => ?_)))
      by_cases e : n = i
      · subst e; rw [gx_fw_t z, pk_us]
      · rw [gx_fw_s e, pk_un e]; exact h1 n hn
theorem cx_f76 {post : SX → Prop} (G : gx_gd w) (ty : Int32) (hp : ∀ r1, gx_I w ty 12 r1 → post (nI o, ta, la, va, ea, fa, ga, ya, ha, ca, r1)) : ∀ d k, k + d = 12 → ∀ r1, gx_I w ty k r1 → wX_fillReach_76 post (nI o) (d + 1) (nI k) ta la va ea fa ga ya ha ca r1 := by
  intro d
  induction d with
  | zero =>
    intro k hk r1 h1
    obtain rfl : k = 12 := by omega
    exact br_t (nI_le (a := 12) (b := 12) (by omega) (by decide)) (hp r1 h1)
  | succ d ih =>
    intro k hk r1 h1
    have q1 := ih (k + 1) (by omega)
    refine br_f (nI_ge (b := 12) (by omega) (by decide)) ⟨13, cx_f84 (by omega) r1 (fun r2 h2 => q1 r2 ?_) 12 0 rfl r1 (fun n _ => (if_neg (Nat.not_lt_zero n)).symm)⟩
    refine wa_st (gx_of w ty) (gx_f w) (gx_g w) (gx_wt 0 w) (gx_hb G ty) (fun a ha' _ => gx_wt_le G 0 ha') (by omega) h1 (fun n hn => ?_)
    rw [h2 n hn]
    exact if_pos hn
theorem cx_f25 {post : SX → Prop} (K : gx_K o ta la va ea fa ga ya ha w) (ty : Int32) (hp : ∀ r1, gx_I w ty 12 r1 → post (nI o, ta, la, va, ea, fa, ga, ya, ha, ca, r1)) : ∀ d i, i + d = 24 → ∀ r1, gx_J w ty i r1 → wX_fillReach_25 post ty (nI o) (d + 1) (nI i) ta la va ea fa ga ya ha ca r1 := by
  intro d
  induction d with
  | zero =>
    intro i hi r1 h1
    obtain rfl : i = 24 := by omega
    exact br_t (nI_le (a := 24) (b := 24) (by omega) (by decide)) ⟨13, cx_f76 K.2.2 ty hp 12 0 rfl r1 (wa_I0 _ _ _ _ h1)⟩
  | succ d ih =>
    intro i hi r1 h1
    have hi2 : i < 24 := by omega
    have q1 := ih (i + 1) (by omega)
    have f1 := gx_fd K.2.2 hi2
    have g1 := gx_gd_ K.2.2 hi2
    refine br_f (nI_ge (b := 24) (by omega) (by decide)) (cx_of K hi2 ty (gb_r (fun z => nm_r (nI_1 i) (q1 r1 (wa_Jn _ _ _ _ z h1))) (fun z => cx_as K hi2 (fun s hs es => ⟨hs, ?_⟩))))
    rw [es, (K.2.1.2 i hi2).2.1, (K.2.1.2 i hi2).2.2.1, f1.2.1, g1.2.1, nI_clamp (by omega)]
    refine ⟨vp_in_nI f1.1 (by decide), hs, vp_in_nI f1.1 (by decide), nm_e (nm_r (nI_1 i) (q1 _ ?_))⟩
    exact wa_Jt (gx_of w ty) (gx_f w) (gx_g w) (gx_wt 0 w) (gx_hb K.2.2 ty) (fun a ha' _ => gx_wt_le K.2.2 0 ha') hi2 z h1 pk_us (fun n _ e => pk_un e)
theorem cx_f2 {post : SX → Prop} (K : gx_K o ta la va ea fa ga ya ha w) (ty : Int32) (hp : ∀ r1, gx_I w ty 12 r1 → post (nI o, ta, la, va, ea, fa, ga, ya, ha, ca, r1)) : ∀ d i, i + d = 12 → ∀ r1, (∀ n, n < i → r1 n = (1 : Int32) <<< (nI n &&& 31)) → wX_fillReach_2 post ty (nI o) (d + 1) (nI i) ta la va ea fa ga ya ha ca r1 := by
  intro d
  induction d with
  | zero =>
    intro i hi r1 h1
    obtain rfl : i = 12 := by omega
    exact br_t (nI_le (a := 12) (b := 12) (by omega) (by decide)) ⟨25, cx_f25 K ty hp 24 0 rfl r1 (wa_J0 _ _ _ _ h1)⟩
  | succ d ih =>
    intro i hi r1 h1
    refine br_f (nI_ge (b := 12) (by omega) (by decide)) ⟨vp_in_nI (by omega) (by decide), ?_⟩
    rw [nI_clamp (by omega)]
    refine nm_e (nm_r (nI_1 i) (ih (i + 1) (by omega) _ (fun n hn => ?_)))
    by_cases e : n = i
    · subst e; exact pk_us
    · rw [pk_un e]; exact h1 n (by omega)
theorem cx_fr {post : SX → Prop} (K : gx_K o ta la va ea fa ga ya ha w) (ty : Int32) (hp : ∀ r1, gx_I w ty 12 r1 → post (nI o, ta, la, va, ea, fa, ga, ya, ha, ca, r1)) : wpX_fillReach post (nI o, ta, la, va, ea, fa, ga, ya, ha, ca, ra) ty := ⟨13, cx_f2 K ty hp 12 0 rfl ra (fun n hn => absurd hn (Nat.not_lt_zero _))⟩
theorem cx_lg {post : Int32 → Prop} {n : Nat} (hn : n < 12) (hp : post (gx_b (gv_no (fun m => bt (ra n) m && bt (ra m) n) n))) : ∀ d m, m + d = n → gv_no (fun m => bt (ra n) m && bt (ra m) n) m = true → wX_isLeastOfItsGroup_2 post (nI n) (nI o) ta la va ea fa ga ya ha ca ra (d + 1) (nI m) := by
  intro d
  induction d with
  | zero =>
    intro m hm z
    obtain rfl : m = n := by omega
    rw [z] at hp
    exact br_t (nI_le (Nat.le_refl _) (by omega)) hp
  | succ d ih =>
    intro m hm z
    have hm2 : m < n := by omega
    have q1 := ih (m + 1) (by omega)
    have nx : ¬ (bt (ra n) m && bt (ra m) n) = true → wX_isLeastOfItsGroup_2 post (nI n) (nI o) ta la va ea fa ga ya ha ca ra (d + 1) (nI (m + 1)) := by
      intro k
      apply q1
      show (gv_no (fun m => bt (ra n) m && bt (ra m) n) m && !(bt (ra n) m && bt (ra m) n)) = true
      rw [z, gb_nt k]; rfl
    refine br_f (nI_ge hm2 (by omega)) (cx_re hn (by omega) (gb_r (fun z1 => nm_r (nI_1 m) (nx (fun k => z1 ((Bool.and_eq_true _ _).mp k).1))) (fun z1 => cx_re (by omega) hn (gb_r (fun z2 => nm_r (nI_1 m) (nx (fun k => z2 ((Bool.and_eq_true _ _).mp k).2))) (fun z2 => ?_)))))
    rw [gv_no_t n m hm2 (by show (bt (ra n) m && bt (ra m) n) = true; rw [z1, z2]; rfl)] at hp
    exact hp
def gx_rx (w r : Nat → Int32) (n : Nat) : Bool := decide (w n = 1) && gv_no (fun m => bt (r n) m && bt (r m) n) n
theorem cx_r19 {post : Int32 → SX → Prop} (K : gx_K o ta la va ea fa ga ya ha w) (hp : post (nI (gv_ct (gx_rx w ra) 12)) (nI o, ta, la, va, ea, fa, ga, ya, ha, ca, ra)) : ∀ d i, i + d = 12 → wX_rounds_19 post (nI o) ta la va ea fa ga ya ha ca ra (d + 1) (nI (gv_ct (gx_rx w ra) i)) (nI i) := by
  intro d
  induction d with
  | zero =>
    intro i hi
    obtain rfl : i = 12 := by omega
    exact br_t (nI_le (a := 12) (b := 12) (by omega) (by decide)) hp
  | succ d ih =>
    intro i hi
    have hi2 : i < 12 := by omega
    have q1 := ih (i + 1) (by omega)
    have nx : ¬ gx_rx w ra i = true → wX_rounds_19 post (nI o) ta la va ea fa ga ya ha ca ra (d + 1) (nI (gv_ct (gx_rx w ra) i)) (nI (i + 1)) := by
      intro z
      rw [gv_ct_f z] at q1; exact q1
    refine br_f (nI_ge (b := 12) (by omega) (by decide)) (cx_N K (nI i) ?_)
    rw [gx_N_j hi2]
    refine gb_r (fun z => nm_r (nI_1 i) (nx (fun k => z ((Bool.and_eq_true _ _).mp k).1))) (fun z => ⟨i + 1, cx_lg hi2 (gb_r (fun z1 => nm_r (nI_1 i) (nx (fun k => z1 ((Bool.and_eq_true _ _).mp k).2))) (fun z1 => nm_r (nI_1 _) (nm_r (nI_1 i) ?_))) i 0 (Nat.zero_add i) rfl⟩)
    have z2 : gx_rx w ra i = true := by unfold gx_rx; rw [z, z1]; rfl
    rw [gv_ct_t z2] at q1
    exact q1
end
def gx_back (w : Nat → Int32) (ty : Int32) (n m : Nat) : Bool := decide (w m = 1) && (gx_Q w ty n m && gx_Q w ty m n)
def gx_bn (w : Nat → Int32) (ty : Int32) (n m : Nat) : Bool := decide (w n = 1) && gv_no (gx_back w ty n) m
theorem gx_bn_s (w : Nat → Int32) (ty : Int32) (n m : Nat) : gx_bn w ty n (m + 1) = (gx_bn w ty n m && !(gx_back w ty n m)) := by
  show (decide (w n = 1) && (gv_no (gx_back w ty n) m && !(gx_back w ty n m))) = _
  rw [← Bool.and_assoc]; rfl
section
variable {q : Int32} {w cp fx : Nat → Int32}
theorem cy_cb {post : Int32 → SY → Prop} (G : gx_gd w) (ty : Int32) {n m : Nat} (hn : n < 12) (hm : m < 12) (hp : ∀ c1, post (gx_b (gx_Q w ty n m && gx_Q w ty m n)) (q, w, cp, c1)) : wpY_comesBack post (q, w, cp, fx) (nI n) (nI m) ty := by
  unfold wpY_comesBack
  refine cy_me G ty 0 hn (fun c1 k1 => ⟨vp_in_nI hm (by decide), ?_⟩)
  rw [nI_clamp (by omega), k1 m hm]
  have b1 := gx_it_B G ty 0 n (k := 12) (by omega) m
  by_cases y : gx_it w ty 0 n 12 m = 1000000
  · refine br_f (by rw [y, gx_fe_n]; decide) ?_
    have p1 := hp c1
    rw [show gx_Q w ty n m = false from decide_eq_false (by omega), Bool.false_and] at p1
    exact p1
  · rw [gx_fe_p (c := gx_it w ty 0 n 12 m) (by omega)]
    refine br_t (nI_pos' (by omega)) (cy_me G ty 0 hm (fun c2 k2 => ⟨vp_in_nI hn (by decide), ?_⟩))
    rw [nI_clamp (by omega), k2 n hn]
    have p1 := hp c2
    rw [show gx_Q w ty n m = true from decide_eq_true (by omega), Bool.true_and] at p1
    have b2 := gx_it_B G ty 0 m (k := 12) (by omega) n
    by_cases y2 : gx_it w ty 0 m 12 n = 1000000
    · rw [show gx_Q w ty m n = false from decide_eq_false (by omega)] at p1
      exact br_t (by rw [y2, gx_fe_n]; decide) p1
    · rw [show gx_Q w ty m n = true from decide_eq_true (by omega)] at p1
      rw [gx_fe_p (c := gx_it w ty 0 m 12 n) (by omega)]
      exact br_f (nI_pos (by omega)) p1
theorem cy_r30 {post : Int32 → SY → Prop} {J : Int32 → Int32 → Int32 → (Nat → Int32) → (Nat → Int32) → (Nat → Int32) → Prop} (G : gx_gd w) (ty x2 : Int32) {n : Nat} (hn : n < 12) (hf : ¬ gx_bn w ty n n = true → ∀ c1, J x2 (nI (n + 1)) q w cp c1) (ht : gx_bn w ty n n = true → ∀ c1, J (x2 + 1) (nI (n + 1)) q w cp c1) : ∀ d m, m + d = n → ∀ c1, wY_rounds_30 post J ty x2 (nI n) (d + 1) (gx_b (gx_bn w ty n m)) (nI m) q w cp c1 := by
  intro d
  induction d with
  | zero =>
    intro m hm c1
    obtain rfl : m = n := by omega
    exact br_t (nI_le (Nat.le_refl _) (by omega)) (gb_r (fun z => nm_r (nI_1 m) (hf z c1)) (fun z => nm_e (nm_r (nI_1 m) (ht z c1))))
  | succ d ih =>
    intro m hm c1
    have hm2 : m < n := by omega
    have q1 := ih (m + 1) (by omega)
    rw [gx_bn_s] at q1
    refine br_f (nI_ge hm2 (by omega)) (gb_r (fun z => nm_r (nI_1 m) ?_) (fun z => cy_N (nI m) ?_))
    · rw [gb_nt z, Bool.false_and] at q1; exact q1 c1
    · rw [z, Bool.true_and] at q1
      rw [gx_N_j (by omega)]
      refine gb_r (fun z1 => nm_r (nI_1 m) ?_) (fun z1 => cy_cb G ty hn (by omega) (fun c2 => ?_))
      · rw [show gx_back w ty n m = false by unfold gx_back; rw [gb_nt z1, Bool.false_and]] at q1
        exact q1 c1
      · have e1 : gx_back w ty n m = (gx_Q w ty n m && gx_Q w ty m n) := by unfold gx_back; rw [z1, Bool.true_and]
        rw [e1] at q1
        refine gb_r (fun z2 => nm_r (nI_1 m) ?_) (fun z2 => nm_r (nI_1 m) ?_)
        · rw [gb_nt z2] at q1; exact q1 c2
        · rw [z2] at q1; exact q1 c2
theorem cy_r14 {post : Int32 → SY → Prop} (G : gx_gd w) (ty : Int32) (hp : ∀ c1, post (nI (gv_ct (fun n => gx_bn w ty n n) 12)) (q, w, cp, c1)) : ∀ d i, i + d = 12 → ∀ c1, wY_rounds_14 post ty (d + 1) (nI (gv_ct (fun n => gx_bn w ty n n) i)) (nI i) q w cp c1 := by
  intro d
  induction d with
  | zero =>
    intro i hi c1
    obtain rfl : i = 12 := by omega
    exact br_t (nI_le (a := 12) (b := 12) (by omega) (by decide)) (hp c1)
  | succ d ih =>
    intro i hi c1
    have hi2 : i < 12 := by omega
    have q1 := ih (i + 1) (by omega)
    refine br_f (nI_ge (b := 12) (by omega) (by decide)) (cy_N (nI i) ?_)
    rw [gx_N_j hi2]
    have e1 : decide (w i = 1) = gx_bn w ty i 0 := (Bool.and_true _).symm
    rw [e1]
    refine ⟨i + 1, cy_r30 G ty _ hi2 (fun z c2 => ?_) (fun z c2 => ?_) i 0 (Nat.zero_add i) c1⟩
    · rw [gv_ct_f (p := fun n => gx_bn w ty n n) z] at q1; exact q1 c2
    · rw [gv_ct_t (p := fun n => gx_bn w ty n n) z] at q1
      rw [nI_1]
      exact q1 c2
end
theorem gx_r_eq {w r : Nat → Int32} (G : gx_gd w) {ty : Int32} (I : gx_I w ty 12 r) : gv_ct (fun n => gx_bn w ty n n) 12 = gv_ct (gx_rx w r) 12 := by
  refine gv_ct_congr 12 (fun n hn => ?_)
  show (decide (w n = 1) && gv_no (gx_back w ty n) n) = (decide (w n = 1) && gv_no (fun m => bt (r n) m && bt (r m) n) n)
  by_cases z : w n = 1
  · rw [gv_no_congr (p := gx_back w ty n) (q := fun m => bt (r n) m && bt (r m) n) n (fun m hm => ?_)]
    show (decide (w m = 1) && (gx_Q w ty n m && gx_Q w ty m n)) = (bt (r n) m && bt (r m) n)
    rw [gx_I_iff G I hn (by omega), gx_I_iff G I (by omega) hn]
    cases hq : gx_Q w ty n m
    · rw [Bool.false_and, Bool.and_false]
    · rw [decide_eq_true (gx_Q_w G z hq), Bool.true_and]
  · rw [decide_eq_false z, Bool.false_and, Bool.false_and]
theorem i_vc_rounds {k : Nat} {u : SX} {v : SY} (I : i_Rel k u v) (hk : k + 4 ≤ 2048) (v1 : Int32) : wpX_rounds (fun r u' => wpY_rounds (fun r' v' => r' = r ∧ i_Rel (k + 4) u' v') v v1) u v1 := by
  obtain ⟨o, ta, la, va, ea, fa, ga, ya, ha, ca, ra, w, cp, fx, rfl, rfl, R⟩ := I
  have K := ir_K R
  unfold wpX_rounds wpY_rounds
  refine cx_T v1 (gb_r (fun z => ?_) (fun z => cx_fr K v1 (fun r1 I1 => ⟨13, cx_r19 K ?_ 12 0 rfl⟩)))
  · exact cy_T v1 (gb_n (fun k1 => absurd k1 z) (fun _ => ⟨rfl, ir_mk R⟩))
  · refine cy_T v1 (gb_n (fun _ => ⟨13, cy_r14 K.2.2 v1 (fun c1 => ⟨?_, ir_mk R⟩) 12 0 rfl fx⟩) (fun k1 => absurd z k1))
    rw [gx_r_eq K.2.2 I1]
end
