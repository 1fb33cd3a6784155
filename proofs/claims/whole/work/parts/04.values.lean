/-! the tests of arguments as pure values -/
def gx_b (b : Bool) : Int32 := if b = true then 1 else 0
theorem gx_b_t {b : Bool} (h : b = true) : gx_b b = 1 := if_pos h
theorem gx_b_f {b : Bool} (h : ¬ b = true) : gx_b b = 0 := if_neg h
theorem gx_b_ne {b : Bool} (h : ¬ gx_b b = 0) : b = true := by
  cases b
  · exact absurd rfl h
  · rfl
theorem gx_b_eq {b : Bool} (h : gx_b b = 0) : ¬ b = true := by
  cases b
  · exact fun z => absurd z (by decide)
  · exact absurd h (by decide)
def gx_N (w : Nat → Int32) (x : Int32) : Bool := decide (¬ x < 0) && (decide (¬ nI 12 ≤ x) && decide (w x.toNatClampNeg = 1))
def gx_A (w : Nat → Int32) (x : Int32) : Bool := decide (¬ x < 0) && (decide (¬ nI 24 ≤ x) && decide (w (36 + x.toNatClampNeg) = 1))
def gx_in (k : Nat) (x : Int32) : Bool := decide (¬ x < 0) && decide (x ≤ nI k)
def gx_E (w : Nat → Int32) (x : Int32) : Bool := decide (¬ x < 0) && (gx_N w (x / 12) && gx_N w (x - x / 12 * 12))
theorem gx_N_n {w : Nat → Int32} {x : Int32} (h : x < 0) : gx_N w x = false := by
  unfold gx_N; rw [decide_eq_false (fun z => z h), Bool.false_and]
theorem gx_N_b {w : Nat → Int32} {x : Int32} (h : nI 12 ≤ x) : gx_N w x = false := by
  unfold gx_N; rw [decide_eq_false (p := ¬ nI 12 ≤ x) (fun z => z h), Bool.false_and, Bool.and_false]
theorem gx_N_j {w : Nat → Int32} {j : Nat} (h : j < 12) : gx_N w (nI j) = decide (w j = 1) := by
  unfold gx_N; rw [decide_eq_true (nI_pos (by omega)), decide_eq_true (nI_ge h (by decide)), nI_clamp (by omega), Bool.true_and, Bool.true_and]
theorem gx_N_t {w : Nat → Int32} {x : Int32} (h : gx_N w x = true) : ∃ j, j < 12 ∧ x = nI j ∧ w j = 1 := by
  rcases pk_ix x (n := 12) (by omega) with z | z | ⟨j, hj, rfl⟩
  · rw [gx_N_n z] at h; exact absurd h (by decide)
  · rw [gx_N_b z] at h; exact absurd h (by decide)
  · rw [gx_N_j hj] at h; exact ⟨j, hj, rfl, of_decide_eq_true h⟩
theorem gx_A_n {w : Nat → Int32} {x : Int32} (h : x < 0) : gx_A w x = false := by
  unfold gx_A; rw [decide_eq_false (fun z => z h), Bool.false_and]
theorem gx_A_b {w : Nat → Int32} {x : Int32} (h : nI 24 ≤ x) : gx_A w x = false := by
  unfold gx_A; rw [decide_eq_false (p := ¬ nI 24 ≤ x) (fun z => z h), Bool.false_and, Bool.and_false]
theorem gx_A_j {w : Nat → Int32} {j : Nat} (h : j < 24) : gx_A w (nI j) = decide (w (36 + j) = 1) := by
  unfold gx_A; rw [decide_eq_true (nI_pos (by omega)), decide_eq_true (nI_ge h (by decide)), nI_clamp (by omega), Bool.true_and, Bool.true_and]
theorem gx_A_t {w : Nat → Int32} {x : Int32} (h : gx_A w x = true) : ∃ j, j < 24 ∧ x = nI j ∧ w (36 + j) = 1 := by
  rcases pk_ix x (n := 24) (by omega) with z | z | ⟨j, hj, rfl⟩
  · rw [gx_A_n z] at h; exact absurd h (by decide)
  · rw [gx_A_b z] at h; exact absurd h (by decide)
  · rw [gx_A_j hj] at h; exact ⟨j, hj, rfl, of_decide_eq_true h⟩
theorem gx_in_n {k : Nat} {x : Int32} (h : x < 0) : gx_in k x = false := by
  unfold gx_in; rw [decide_eq_false (fun z => z h), Bool.false_and]
theorem gx_in_b {k : Nat} {x : Int32} (h : ¬ x ≤ nI k) : gx_in k x = false := by
  unfold gx_in; rw [decide_eq_false h, Bool.and_false]
theorem gx_in_y {k : Nat} {x : Int32} (h1 : ¬ x < 0) (h : x ≤ nI k) : gx_in k x = true := by
  unfold gx_in; rw [decide_eq_true h1, decide_eq_true h]; rfl
theorem gx_in_t {k : Nat} (hk : k < 2 ^ 31) {x : Int32} (h : gx_in k x = true) : ∃ j, j ≤ k ∧ x = nI j := by
  unfold gx_in at h
  rw [Bool.and_eq_true] at h
  exact nI_of2 (M := nI k) (n := k) (nI_toInt hk) (of_decide_eq_true h.1) (of_decide_eq_true h.2)
/-! the first place at which p holds, or N -/
def gv_fi (p : Nat → Bool) : Nat → Nat → Nat
  | 0, i => i
  | d + 1, i => if p i = true then i else gv_fi p d (i + 1)
theorem gv_fi_t {p : Nat → Bool} {d i : Nat} (h : p i = true) : gv_fi p (d + 1) i = i := if_pos h
theorem gv_fi_f {p : Nat → Bool} {d i : Nat} (h : ¬ p i = true) : gv_fi p (d + 1) i = gv_fi p d (i + 1) := if_neg h
theorem gv_fi_p (p : Nat → Bool) : ∀ d i, (gv_fi p d i < i + d ∧ p (gv_fi p d i) = true) ∨ gv_fi p d i = i + d := by
  intro d
  induction d with
  | zero => intro i; exact Or.inr rfl
  | succ d ih =>
    intro i
    by_cases h : p i = true
    · rw [gv_fi_t h]; exact Or.inl ⟨by omega, h⟩
    · rw [gv_fi_f h]
      rcases ih (i + 1) with z | z
      · exact Or.inl ⟨by omega, z.2⟩
      · exact Or.inr (by omega)
/-! no place below n at which p holds -/
def gv_no (p : Nat → Bool) : Nat → Bool
  | 0 => true
  | i + 1 => gv_no p i && !(p i)
theorem gv_no_congr {p q : Nat → Bool} : ∀ i, (∀ j, j < i → p j = q j) → gv_no p i = gv_no q i := by
  intro i
  induction i with
  | zero => intro _; rfl
  | succ i ih =>
    intro h
    show (gv_no p i && !(p i)) = (gv_no q i && !(q i))
    rw [ih (fun j hj => h j (by omega)), h i (by omega)]
theorem gv_no_t {p : Nat → Bool} : ∀ i j, j < i → p j = true → gv_no p i = false := by
  intro i
  induction i with
  | zero => intro j hj; exact absurd hj (Nat.not_lt_zero _)
  | succ i ih =>
    intro j hj h
    show (gv_no p i && !(p i)) = false
    by_cases e : j = i
    · subst e; rw [h]; exact Bool.and_false _
    · rw [ih j (by omega) h]; exact Bool.false_and _
/-! good pictures stay good -/
theorem gd_t1 {w : Nat → Int32} (G : gx_gd w) {n : Nat} (hn : n < 12) : gx_gd (upd w n 1) := by
  refine ⟨fun m z => ?_, fun a z => ?_⟩
  · rw [pk_un (f := w) (j := 12 + m) (k := n) (by omega)]
    by_cases e : m = n
    · subst e; exact ⟨Or.inr pk_us, (G.1 m z).2⟩
    · rw [pk_un e]; exact G.1 m z
  · rw [pk_un (f := w) (j := 36 + a) (by omega), pk_un (f := w) (j := 60 + a) (by omega), pk_un (f := w) (j := 84 + a) (by omega), pk_un (f := w) (j := 108 + a) (by omega), pk_un (f := w) (j := 132 + a) (by omega)]
    refine gx_ga_w (fun j hj e => ?_) (G.2 a z)
    by_cases q : j = n
    · subst q; exact pk_us
    · rw [pk_un q]; exact e
theorem gd_ar {w : Nat → Int32} (G : gx_gd w) {k : Nat} (hk : 12 ≤ k) (x : Int32) (hl : ∀ n, n < 12 → k = 12 + n → ∃ j, j < 8 ∧ x = nI j) (ha : ∀ a, a < 24 → gx_ga w (upd w k x (36 + a)) (upd w k x (60 + a)) (upd w k x (84 + a)) (upd w k x (108 + a)) (upd w k x (132 + a))) : gx_gd (upd w k x) := by
  refine ⟨fun m z => ?_, fun a z => ?_⟩
  · rw [pk_un (f := w) (j := m) (k := k) (by omega)]
    refine ⟨(G.1 m z).1, ?_⟩
    by_cases e : k = 12 + m
    · obtain ⟨j, hj, ej⟩ := hl m z e
      exact ⟨j, hj, by rw [e]; exact pk_us.trans ej⟩
    · rw [pk_un (fun q => e q.symm)]; exact (G.1 m z).2
  · exact gx_ga_w (fun j hj e => (pk_un (by omega)).trans e) (ha a z)
theorem gd_l {w : Nat → Int32} (G : gx_gd w) {n : Nat} (hn : n < 12) {j : Nat} (hj : j < 8) : gx_gd (upd w (12 + n) (nI j)) := by
  refine gd_ar G (by omega) _ (fun _ _ _ => ⟨j, hj, rfl⟩) (fun a z => ?_)
  rw [pk_un (f := w) (j := 36 + a) (by omega), pk_un (f := w) (j := 60 + a) (by omega), pk_un (f := w) (j := 84 + a) (by omega), pk_un (f := w) (j := 108 + a) (by omega), pk_un (f := w) (j := 132 + a) (by omega)]
  exact G.2 a z
theorem gd_v {w : Nat → Int32} (G : gx_gd w) {n : Nat} (hn : n < 12) (x : Int32) : gx_gd (upd w (24 + n) x) := by
  refine gd_ar G (by omega) _ (fun _ _ _ => by omega) (fun a z => ?_)
  rw [pk_un (f := w) (j := 36 + a) (by omega), pk_un (f := w) (j := 60 + a) (by omega), pk_un (f := w) (j := 84 + a) (by omega), pk_un (f := w) (j := 108 + a) (by omega), pk_un (f := w) (j := 132 + a) (by omega)]
  exact G.2 a z
theorem gd_e0 {w : Nat → Int32} (G : gx_gd w) {b : Nat} (hb : b < 24) : gx_gd (upd w (36 + b) 0) := by
  refine gd_ar G (by omega) _ (fun _ _ _ => by omega) (fun a z => ?_)
  rw [pk_un (f := w) (j := 60 + a) (by omega), pk_un (f := w) (j := 84 + a) (by omega), pk_un (f := w) (j := 108 + a) (by omega), pk_un (f := w) (j := 132 + a) (by omega)]
  by_cases e : a = b
  · subst e
    rw [pk_us]
    obtain ⟨h1, ⟨j, hj, e2, h2⟩, ⟨i, hi, e3, h3⟩, h4, h5⟩ := G.2 a z
    exact ⟨Or.inl rfl, ⟨j, hj, e2, fun q => absurd q (by decide)⟩, ⟨i, hi, e3, fun q => absurd q (by decide)⟩, h4, h5⟩
  · rw [pk_un (by omega)]; exact G.2 a z
theorem gd_h {w : Nat → Int32} (G : gx_gd w) {b : Nat} (hb : b < 24) {x : Nat} (hx : x ≤ 99) : gx_gd (upd w (132 + b) (nI x)) := by
  refine gd_ar G (by omega) _ (fun _ _ _ => by omega) (fun a z => ?_)
  rw [pk_un (f := w) (j := 36 + a) (by omega), pk_un (f := w) (j := 60 + a) (by omega), pk_un (f := w) (j := 84 + a) (by omega), pk_un (f := w) (j := 108 + a) (by omega)]
  by_cases e : a = b
  · subst e
    rw [pk_us]
    obtain ⟨h1, h2, h3, h4, h5⟩ := G.2 a z
    exact ⟨h1, h2, h3, h4, ⟨x, hx, rfl⟩⟩
  · rw [pk_un (by omega)]; exact G.2 a z
/-! a new arrow: its ends, type and weight first, then that it is there -/
theorem gd_f {w : Nat → Int32} (G : gx_gd w) {b : Nat} (hb : b < 24) {x : Nat} (hx : x < 12) (hw : w x = 1) : gx_gd (upd w (60 + b) (nI x)) := by
  refine gd_ar G (by omega) _ (fun _ _ _ => by omega) (fun a z => ?_)
  rw [pk_un (f := w) (j := 36 + a) (by omega), pk_un (f := w) (j := 84 + a) (by omega), pk_un (f := w) (j := 108 + a) (by omega), pk_un (f := w) (j := 132 + a) (by omega)]
  by_cases e : a = b
  · subst e
    rw [pk_us]
    obtain ⟨h1, h2, h3, h4, h5⟩ := G.2 a z
    exact ⟨h1, ⟨x, hx, rfl, fun _ => hw⟩, h3, h4, h5⟩
  · rw [pk_un (by omega)]; exact G.2 a z
theorem gd_g {w : Nat → Int32} (G : gx_gd w) {b : Nat} (hb : b < 24) {x : Nat} (hx : x < 12) (hw : w x = 1) : gx_gd (upd w (84 + b) (nI x)) := by
  refine gd_ar G (by omega) _ (fun _ _ _ => by omega) (fun a z => ?_)
  rw [pk_un (f := w) (j := 36 + a) (by omega), pk_un (f := w) (j := 60 + a) (by omega), pk_un (f := w) (j := 108 + a) (by omega), pk_un (f := w) (j := 132 + a) (by omega)]
  by_cases e : a = b
  · subst e
    rw [pk_us]
    obtain ⟨h1, h2, h3, h4, h5⟩ := G.2 a z
    exact ⟨h1, h2, ⟨x, hx, rfl, fun _ => hw⟩, h4, h5⟩
  · rw [pk_un (by omega)]; exact G.2 a z
theorem gd_y {w : Nat → Int32} (G : gx_gd w) {b : Nat} (hb : b < 24) {x : Nat} (hx : x < 4) : gx_gd (upd w (108 + b) (nI x)) := by
  refine gd_ar G (by omega) _ (fun _ _ _ => by omega) (fun a z => ?_)
  rw [pk_un (f := w) (j := 36 + a) (by omega), pk_un (f := w) (j := 60 + a) (by omega), pk_un (f := w) (j := 84 + a) (by omega), pk_un (f := w) (j := 132 + a) (by omega)]
  by_cases e : a = b
  · subst e
    rw [pk_us]
    obtain ⟨h1, h2, h3, h4, h5⟩ := G.2 a z
    exact ⟨h1, h2, h3, ⟨x, hx, rfl⟩, h5⟩
  · rw [pk_un (by omega)]; exact G.2 a z
theorem gd_e1 {w : Nat → Int32} (G : gx_gd w) {b : Nat} (hb : b < 24) {x y : Nat} (hx : x < 12) (hy : y < 12) (wx : w x = 1) (wy : w y = 1) (ef : w (60 + b) = nI x) (eg : w (84 + b) = nI y) : gx_gd (upd w (36 + b) 1) := by
  refine gd_ar G (by omega) _ (fun _ _ _ => by omega) (fun a z => ?_)
  rw [pk_un (f := w) (j := 60 + a) (by omega), pk_un (f := w) (j := 84 + a) (by omega), pk_un (f := w) (j := 108 + a) (by omega), pk_un (f := w) (j := 132 + a) (by omega)]
  by_cases e : a = b
  · subst e
    rw [pk_us]
    obtain ⟨h1, h2, h3, h4, h5⟩ := G.2 a z
    exact ⟨Or.inr rfl, ⟨x, hx, ef, fun _ => wx⟩, ⟨y, hy, eg, fun _ => wy⟩, h4, h5⟩
  · rw [pk_un (by omega)]; exact G.2 a z
theorem gx_upd_comm (w : Nat → Int32) {i j : Nat} (h : i ≠ j) (x y : Int32) : upd (upd w i x) j y = upd (upd w j y) i x := by
  funext k
  by_cases e1 : k = i
  · subst e1; rw [pk_un h, pk_us, pk_us]
  · by_cases e2 : k = j
    · subst e2; rw [pk_us, pk_un e1, pk_us]
    · rw [pk_un e2, pk_un e1, pk_un e1, pk_un e2]
theorem gx_mt_of {w : Nat → Int32} {n : Int32} {a : Nat} (h : w (36 + a) = 1) (h2 : w (60 + a) = n ∨ w (84 + a) = n) : gx_mt w n 4 2 a = true := by
  unfold gx_mt gx_of
  rw [decide_eq_true h]
  rcases h2 with h2 | h2
  · rw [decide_eq_true h2]; rfl
  · rw [decide_eq_true (p := w (84 + a) = n) h2]
    generalize decide (w (60 + a) = n) = b
    cases b <;> rfl
/-! what drop leaves: every arrow that touches n is gone, from the first to the last -/
def dr_w (n : Int32) (w : Nat → Int32) : Nat → (Nat → Int32)
  | 0 => w
  | a + 1 => if gx_mt (dr_w n w a) n 4 2 a = true then upd (dr_w n w a) (36 + a) 0 else dr_w n w a
theorem dr_t {n : Int32} {w : Nat → Int32} {a : Nat} (h : gx_mt (dr_w n w a) n 4 2 a = true) : dr_w n w (a + 1) = upd (dr_w n w a) (36 + a) 0 := if_pos h
theorem dr_f {n : Int32} {w : Nat → Int32} {a : Nat} (h : ¬ gx_mt (dr_w n w a) n 4 2 a = true) : dr_w n w (a + 1) = dr_w n w a := if_neg h
theorem dr_out (n : Int32) (w : Nat → Int32) : ∀ a j, (j < 36 ∨ 36 + a ≤ j) → dr_w n w a j = w j := by
  intro a
  induction a with
  | zero => intro j _; rfl
  | succ a ih =>
    intro j hj
    by_cases h : gx_mt (dr_w n w a) n 4 2 a = true
    · rw [dr_t h, pk_un (by omega)]; exact ih j (by omega)
    · rw [dr_f h]; exact ih j (by omega)
theorem dr_mt (n : Int32) (w : Nat → Int32) (a : Nat) (ha : a < 24) : gx_mt (dr_w n w a) n 4 2 a = gx_mt w n 4 2 a := by
  unfold gx_mt gx_of
  rw [dr_out n w a (36 + a) (by omega), dr_out n w a (60 + a) (by omega), dr_out n w a (84 + a) (by omega), dr_out n w a (108 + a) (by omega)]
theorem dr_in (n : Int32) (w : Nat → Int32) : ∀ a, a ≤ 24 → ∀ b, b < a → dr_w n w a (36 + b) = if gx_mt w n 4 2 b = true then 0 else w (36 + b) := by
  intro a
  induction a with
  | zero => intro _ b hb; exact absurd hb (Nat.not_lt_zero _)
  | succ a ih =>
    intro ha b hb
    by_cases e : b = a
    · subst e
      by_cases h : gx_mt (dr_w n w b) n 4 2 b = true
      · rw [dr_t h, pk_us, if_pos ((dr_mt n w b (by omega)).symm.trans h)]
      · rw [dr_f h, if_neg (fun z => h ((dr_mt n w b (by omega)).trans z))]
        exact dr_out n w b (36 + b) (by omega)
    · by_cases h : gx_mt (dr_w n w a) n 4 2 a = true
      · rw [dr_t h, pk_un (by omega)]; exact ih (by omega) b (by omega)
      · rw [dr_f h]; exact ih (by omega) b (by omega)
theorem gd_drop {w : Nat → Int32} (G : gx_gd w) {n : Nat} (hn : n < 12) : gx_gd (upd (dr_w (nI n) w 24) n 0) := by
  have ho : ∀ j, (j < 36 ∨ 60 ≤ j) → dr_w (nI n) w 24 j = w j := fun j hj => dr_out (nI n) w 24 j (by omega)
  refine ⟨fun m z => ?_, fun a z => ?_⟩
  · rw [pk_un (j := 12 + m) (k := n) (by omega), ho (12 + m) (by omega)]
    by_cases e : m = n
    · subst e; exact ⟨Or.inl pk_us, (G.1 m z).2⟩
    · rw [pk_un e, ho m (by omega)]; exact G.1 m z
  · rw [pk_un (j := 36 + a) (k := n) (by omega), pk_un (j := 60 + a) (k := n) (by omega), pk_un (j := 84 + a) (k := n) (by omega), pk_un (j := 108 + a) (k := n) (by omega), pk_un (j := 132 + a) (k := n) (by omega), ho (60 + a) (by omega), ho (84 + a) (by omega), ho (108 + a) (by omega), ho (132 + a) (by omega), dr_in (nI n) w 24 (Nat.le_refl _) a z]
    obtain ⟨h1, ⟨j, hj, e2, h2⟩, ⟨i, hi, e3, h3⟩, h4, h5⟩ := G.2 a z
    by_cases m : gx_mt w (nI n) 4 2 a = true
    · rw [if_pos m]
      exact ⟨Or.inl rfl, ⟨j, hj, e2, fun q => absurd q (by decide)⟩, ⟨i, hi, e3, fun q => absurd q (by decide)⟩, h4, h5⟩
    · rw [if_neg m]
      have key : w (36 + a) = 1 → j ≠ n ∧ i ≠ n := by
        intro q
        constructor
        · intro r
          subst r
          exact m (gx_mt_of q (Or.inl e2))
        · intro r
          subst r
          exact m (gx_mt_of q (Or.inr e3))
      refine ⟨h1, ⟨j, hj, e2, fun q => ?_⟩, ⟨i, hi, e3, fun q => ?_⟩, h4, h5⟩
      · rw [pk_un (key q).1, ho j (by omega)]; exact h2 q
      · rw [pk_un (key q).2, ho i (by omega)]; exact h3 q
