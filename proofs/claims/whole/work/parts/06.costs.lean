/-! the two tables of costs against one of naturals: cost[n] as it stands, far[n] = -1 for what isn't reached -/
def gx_fe (c : Nat) : Int32 := if c = 1000000 then -1 else nI c
theorem gx_fe_n : gx_fe 1000000 = -1 := if_pos rfl
theorem gx_fe_p {c : Nat} (h : c ≤ 99 * 400) : gx_fe c = nI c := if_neg (by omega)
theorem bf_no {act : Nat → Bool} {fr tg wt c : Nat → Nat} {a : Nat} (h : ¬ c (fr a) + wt a < c (tg a)) : bf_rl act fr tg wt c a = c := by
  funext j
  refine bf_rl_f act fr tg wt (fun z => h ?_)
  rw [← z.2.1]; exact z.2.2
theorem bf_far {act : Nat → Bool} {fr tg wt c : Nat → Nat} {a t : Nat} (B : bf_B t c) (ht : t ≤ 400) (h : c (fr a) = 1000000) : bf_rl act fr tg wt c a = c := by
  refine bf_no ?_
  rcases B (tg a) with z | z <;> omega
theorem bf_yes {act : Nat → Bool} {fr tg wt c : Nat → Nat} {a : Nat} (h1 : act a = true) (h2 : c (fr a) + wt a < c (tg a)) (F : Nat → Int32) (E : Nat → Int32) (hE : ∀ j, j < 12 → F j = E (c j)) (hx : Int32) (he : hx = E (c (fr a) + wt a)) : ∀ j, j < 12 → upd F (tg a) hx j = E (bf_rl act fr tg wt c a j) := by
  intro j hj
  by_cases e : j = tg a
  · rw [bf_rl_t act fr tg wt ⟨h1, e, by rw [e]; exact h2⟩, e, pk_us]; exact he
  · rw [bf_rl_f act fr tg wt (fun z => e z.2.1), pk_un e]; exact hE j hj
/-! the tables at the start -/
theorem bf_0x (s : Nat) : ∀ n, bf_i0 s n = if n = s then 0 else 1000000 := fun _ => rfl
/-! a count that goes from place to place: the k-th of those where p holds -/
def gv_at (p : Nat → Bool) (k : Int32) : Nat → Nat → Nat → Int32
  | 0, _, _ => -2
  | d + 1, a, s => if p a = true then (if nI s = k then nI a else gv_at p k d (a + 1) (s + 1)) else gv_at p k d (a + 1) s
theorem gv_at_y {p : Nat → Bool} {k : Int32} {d a s : Nat} (h : p a = true) (hk : nI s = k) : gv_at p k (d + 1) a s = nI a := by
  show (if p a = true then (if nI s = k then nI a else gv_at p k d (a + 1) (s + 1)) else gv_at p k d (a + 1) s) = nI a
  rw [if_pos h, if_pos hk]
theorem gv_at_s {p : Nat → Bool} {k : Int32} {d a s : Nat} (h : p a = true) (hk : ¬ nI s = k) : gv_at p k (d + 1) a s = gv_at p k d (a + 1) (s + 1) := by
  show (if p a = true then (if nI s = k then nI a else gv_at p k d (a + 1) (s + 1)) else gv_at p k d (a + 1) s) = _
  rw [if_pos h, if_neg hk]
theorem gv_at_f {p : Nat → Bool} {k : Int32} {d a s : Nat} (h : ¬ p a = true) : gv_at p k (d + 1) a s = gv_at p k d (a + 1) s := by
  show (if p a = true then (if nI s = k then nI a else gv_at p k d (a + 1) (s + 1)) else gv_at p k d (a + 1) s) = _
  rw [if_neg h]
/-! a sum over the places where p holds -/
def gv_sm (p : Nat → Bool) (f : Nat → Int32) : Nat → Nat → Int32 → Int32
  | 0, _, s => s
  | d + 1, i, s => gv_sm p f d (i + 1) (if p i = true then s + f i else s)
theorem gv_sm_t {p : Nat → Bool} {f : Nat → Int32} {d i : Nat} {s : Int32} (h : p i = true) : gv_sm p f (d + 1) i s = gv_sm p f d (i + 1) (s + f i) := by
  show gv_sm p f d (i + 1) (if p i = true then s + f i else s) = _
  rw [if_pos h]
theorem gv_sm_f {p : Nat → Bool} {f : Nat → Int32} {d i : Nat} {s : Int32} (h : ¬ p i = true) : gv_sm p f (d + 1) i s = gv_sm p f d (i + 1) s := by
  show gv_sm p f d (i + 1) (if p i = true then s + f i else s) = _
  rw [if_neg h]
/-! a sum of naturals -/
def gv_sn (f : Nat → Nat) : Nat → Nat
  | 0 => 0
  | i + 1 => gv_sn f i + f i
theorem gv_sn_congr {f g : Nat → Nat} : ∀ i, (∀ j, j < i → f j = g j) → gv_sn f i = gv_sn g i := by
  intro i
  induction i with
  | zero => intro _; rfl
  | succ i ih =>
    intro h
    show gv_sn f i + f i = gv_sn g i + g i
    rw [ih (fun j hj => h j (by omega)), h i (by omega)]
/-! labels -/
def gx_hl (w : Nat → Int32) (m : Nat) (x : Int32) : Bool := decide (w (12 + m) &&& x = x)
theorem gx_lab : ∀ i, i < 8 → ∀ j, j < 8 → (nI i &&& nI j = nI j ↔ nI j &&& (nI i ^^^ (-1)) = 0) := by decide +kernel
/-! slots -/
theorem gx_12 (o n : Nat) : nI o * 12 + nI n = nI (o * 12 + n) := by
  rw [show (12 : Int32) = nI 12 from rfl, pk_mul, nI_add]
theorem gx_24 (o n : Nat) : nI o * 24 + nI n = nI (o * 24 + n) := by
  rw [show (24 : Int32) = nI 24 from rfl, pk_mul, nI_add]
theorem gx_156 (o n : Nat) : 156 * nI o + nI n = nI (156 * o + n) := by
  rw [show (156 : Int32) = nI 156 from rfl, pk_mul, nI_add]
theorem gx_k (k n : Nat) : nI k + nI n = nI (k + n) := nI_add k n
