/-! masks: the closure over every middle node is what is reached -/
theorem wa_1 : ∀ n, n < 12 → ∀ m, m < 12 → bt ((1 : Int32) <<< (nI n &&& 31)) m = decide (m = n) := by decide +kernel
theorem wa_b1 : ∀ i, i < 32 → bt 1 i = decide (i = 0) := by decide +kernel
theorem wa_and1 (y : Int32) : y &&& 1 = 1 ↔ bt y 0 = true := by
  constructor
  · intro h
    have h1 : bt (y &&& 1) 0 = bt 1 0 := congrArg (fun z => bt z 0) h
    rw [b_and, wa_b1 0 (by decide)] at h1
    cases hb : bt y 0
    · rw [hb] at h1; exact absurd h1 (by decide)
    · rfl
  · intro h
    apply b_ext
    intro i hi
    rw [b_and, wa_b1 i hi]
    by_cases e : i = 0
    · rw [e, h]; rfl
    · rw [decide_eq_false e, Bool.and_false]
theorem wa_bit {m : Nat} (hm : m < 12) (x : Int32) : (x >>> (nI m &&& 31)) &&& 1 = 1 ↔ bt x m = true := by
  rw [wa_and1, b_sshr m (by omega) x (by decide), if_pos (by omega)]
  exact Iff.rfl
def wa_J (act : Nat → Bool) (fr tg wt : Nat → Nat) (k : Nat) (f : Nat → Int32) : Prop := (∀ n, n < 12 → bt (f n) n = true) ∧ (∀ a, a < k → act a = true → bt (f (fr a)) (tg a) = true) ∧ (∀ n, n < 12 → ∀ m, m < 12 → bt (f n) m = true → bf_it act fr tg wt n 12 m < 1000000)
def wa_I (act : Nat → Bool) (fr tg wt : Nat → Nat) (k : Nat) (f : Nat → Int32) : Prop := wa_J act fr tg wt 24 f ∧ (∀ j, j < k → ∀ n, n < 12 → ∀ m, m < 12 → bt (f n) j = true → bt (f j) m = true → bt (f n) m = true)
section
variable (act : Nat → Bool) (fr tg wt : Nat → Nat)
theorem wa_J0 {f : Nat → Int32} (h : ∀ n, n < 12 → f n = (1 : Int32) <<< (nI n &&& 31)) : wa_J act fr tg wt 0 f := by
  refine ⟨?_, ?_, ?_⟩
  · intro n hn
    rw [h n hn, wa_1 n hn n hn]; exact decide_eq_true rfl
  · intro a ha; exact absurd ha (Nat.not_lt_zero _)
  · intro n hn m hm z
    rw [h n hn, wa_1 n hn m hm] at z
    rw [of_decide_eq_true z, bf_it_self]; decide
theorem wa_Jn {k : Nat} {f : Nat → Int32} (h : ¬ act k = true) (J : wa_J act fr tg wt k f) : wa_J act fr tg wt (k + 1) f := by
  refine ⟨J.1, ?_, J.2.2⟩
  intro a ha z
  by_cases e : a = k
  · rw [e] at z; exact absurd z h
  · exact J.2.1 a (by omega) z
theorem wa_Jt (hb : ∀ a, a < 24 → act a = true → fr a < 12 ∧ tg a < 12) (hw : ∀ a, a < 24 → act a = true → wt a ≤ 99) {k : Nat} {f g : Nat → Int32} (hk : k < 24) (h : act k = true) (J : wa_J act fr tg wt k f) (h1 : g (fr k) = f (fr k) ||| (1 : Int32) <<< (nI (tg k) &&& 31)) (h2 : ∀ n, n < 12 → n ≠ fr k → g n = f n) : wa_J act fr tg wt (k + 1) g := by
  have hk2 := hb k hk h
  have up : ∀ n, n < 12 → ∀ m, bt (f n) m = true → bt (g n) m = true := by
    intro n hn m z
    by_cases e : n = fr k
    · subst e; rw [h1, b_or, z, Bool.true_or]
    · rw [h2 n hn e]; exact z
  refine ⟨fun n hn => up n hn n (J.1 n hn), ?_, ?_⟩
  · intro a ha z
    by_cases e : a = k
    · rw [e, h1, b_or, wa_1 _ hk2.2 _ hk2.2, decide_eq_true rfl, Bool.or_true]
    · exact up _ (hb a (by omega) z).1 _ (J.2.1 a (by omega) z)
  · intro n hn m hm z
    by_cases e : n = fr k
    · rw [e, h1, b_or, wa_1 _ hk2.2 _ hm, Bool.or_eq_true] at z
      rw [e]
      rcases z with z | z
      · exact J.2.2 _ hk2.1 m hm z
      · rw [of_decide_eq_true z]
        refine bf_it_cl act fr tg wt hb hw (fr k) k hk h ?_
        rw [bf_it_self]; decide
    · rw [h2 n hn e] at z; exact J.2.2 n hn m hm z
theorem wa_I0 {f : Nat → Int32} (J : wa_J act fr tg wt 24 f) : wa_I act fr tg wt 0 f := ⟨J, fun j hj => absurd hj (Nat.not_lt_zero _)⟩
theorem wa_st (hb : ∀ a, a < 24 → act a = true → fr a < 12 ∧ tg a < 12) (hw : ∀ a, a < 24 → act a = true → wt a ≤ 99) {k : Nat} {f g : Nat → Int32} (hk : k < 12) (I : wa_I act fr tg wt k f) (hg : ∀ n, n < 12 → g n = if bt (f n) k = true then f n ||| f k else f n) : wa_I act fr tg wt (k + 1) g := by
  have hi : ∀ n, n < 12 → ∀ m, bt (g n) m = true ↔ (bt (f n) m = true ∨ (bt (f n) k = true ∧ bt (f k) m = true)) := by
    intro n hn m
    rw [hg n hn]
    by_cases z : bt (f n) k = true
    · rw [if_pos z, b_or, Bool.or_eq_true]
      constructor
      · intro h
        rcases h with h | h
        · exact Or.inl h
        · exact Or.inr ⟨z, h⟩
      · intro h
        rcases h with h | h
        · exact Or.inl h
        · exact Or.inr h.2
    · rw [if_neg z]
      constructor
      · intro h; exact Or.inl h
      · intro h
        rcases h with h | h
        · exact h
        · exact absurd h.1 z
  obtain ⟨⟨J1, J2, J3⟩, C⟩ := I
  refine ⟨⟨?_, ?_, ?_⟩, ?_⟩
  · intro n hn; exact (hi n hn n).mpr (Or.inl (J1 n hn))
  · intro a ha z; exact (hi _ (hb a ha z).1 _).mpr (Or.inl (J2 a ha z))
  · intro n hn m hm z
    rcases (hi n hn m).mp z with h | ⟨h1, h2⟩
    · exact J3 n hn m hm h
    · have q1 := J3 n hn k hk h1
      have q2 := J3 k hk m hm h2
      exact bf_it_S act fr tg wt (S := fun x => bf_it act fr tg wt n 12 x < 1000000) (bf_it_cl act fr tg wt hb hw n) q1 12 m q2
  · intro j hj n hn m hm z1 z2
    have h1 := (hi n hn j).mp z1
    have h2 := (hi j (by omega) m).mp z2
    refine (hi n hn m).mpr ?_
    by_cases e : j = k
    · subst e
      have a1 : bt (f n) j = true := by
        rcases h1 with h | h
        · exact h
        · exact h.1
      have a2 : bt (f j) m = true := by
        rcases h2 with h | h
        · exact h
        · exact h.2
      exact Or.inr ⟨a1, a2⟩
    · have hj2 : j < k := by omega
      rcases h1 with h1 | ⟨h1, h1'⟩
      · rcases h2 with h2 | ⟨h2, h2'⟩
        · exact Or.inl (C j hj2 n hn m hm h1 h2)
        · exact Or.inr ⟨C j hj2 n hn k hk h1 h2, h2'⟩
      · rcases h2 with h2 | ⟨h2, h2'⟩
        · exact Or.inr ⟨h1, C j hj2 k hk m hm h1' h2⟩
        · exact Or.inr ⟨h1, h2'⟩
theorem wa_iff (hb : ∀ a, a < 24 → act a = true → fr a < 12 ∧ tg a < 12) {f : Nat → Int32} (I : wa_I act fr tg wt 12 f) {n m : Nat} (hn : n < 12) (hm : m < 12) : bt (f n) m = true ↔ bf_it act fr tg wt n 12 m < 1000000 := by
  obtain ⟨⟨J1, J2, J3⟩, C⟩ := I
  constructor
  · exact J3 n hn m hm
  · intro h
    refine (bf_it_S act fr tg wt (S := fun x => x < 12 ∧ bt (f n) x = true) ?_ ⟨hn, J1 n hn⟩ 12 m h).2
    intro a ha z hx
    exact ⟨(hb a ha z).2, C (fr a) hx.1 n hn (tg a) (hb a ha z).2 hx.2 (J2 a ha z)⟩
end
