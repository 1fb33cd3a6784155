/-! bridges between answers 0 and 1 and Booleans -/
theorem gb_nt {x : Bool} (z : ¬ x = true) : x = false := by
  cases x
  · rfl
  · exact absurd rfl z
theorem gb_0 {post : Int32 → Prop} {b : Bool} {c : Prop} (z : c ↔ ¬ b = true) (hp : post (gx_b b)) : (c → post 0) ∧ (¬ c → post 1) := by
  cases b
  · exact ⟨fun _ => hp, fun k => absurd (z.mpr (by decide)) k⟩
  · exact ⟨fun k => absurd rfl (z.mp k), fun _ => hp⟩
theorem gb_1 {post : Int32 → Prop} {b : Bool} {c : Prop} (z : c ↔ b = true) (hp : post (gx_b b)) : (c → post 1) ∧ (¬ c → post 0) := by
  cases b
  · exact ⟨fun k => absurd (z.mp k) (by decide), fun _ => hp⟩
  · exact ⟨fun _ => hp, fun k => absurd (z.mpr rfl) k⟩
theorem gb_r {b : Bool} {A B : Prop} (f : ¬ b = true → A) (t : b = true → B) : (gx_b b = 0 → A) ∧ (¬ gx_b b = 0 → B) := ⟨fun z => f (gx_b_eq z), fun z => t (gx_b_ne z)⟩
theorem gb_n {b : Bool} {A B : Prop} (t : b = true → A) (f : ¬ b = true → B) : (gx_b (!b) = 0 → A) ∧ (¬ gx_b (!b) = 0 → B) := by
  cases b
  · exact ⟨fun z => absurd z (by decide), fun _ => f (by decide)⟩
  · exact ⟨fun _ => t rfl, fun z => absurd rfl z⟩
theorem gb_nar (x : Int32) : vp_nar .boolean x = x &&& 1 := rfl
theorem gb_n0 : vp_nar .boolean 0 = 0 := by rw [gb_nar]; decide
theorem gb_n1 : vp_nar .boolean 1 = 1 := by rw [gb_nar]; decide
theorem gb_n01 {x : Int32} (z : x = 0 ∨ x = 1) : vp_nar .boolean x = x := by
  rcases z with rfl | rfl
  · exact gb_n0
  · exact gb_n1
theorem gx_E_n {w : Nat → Int32} {x : Int32} (z : x < 0) : gx_E w x = false := by
  unfold gx_E; rw [decide_eq_false (fun k => k z), Bool.false_and]
theorem gx_E_1 {w : Nat → Int32} {x : Int32} (z : ¬ gx_N w (x / 12) = true) : gx_E w x = false := by
  unfold gx_E; rw [gb_nt z, Bool.false_and, Bool.and_false]
theorem gx_E_2 {w : Nat → Int32} {x : Int32} (z : ¬ gx_N w (x - x / 12 * 12) = true) : gx_E w x = false := by
  unfold gx_E; rw [gb_nt z, Bool.and_false, Bool.and_false]
theorem gx_E_y {w : Nat → Int32} {x : Int32} (z : ¬ x < 0) (z1 : gx_N w (x / 12) = true) (z2 : gx_N w (x - x / 12 * 12) = true) : gx_E w x = true := by
  unfold gx_E; rw [decide_eq_true z, z1, z2]; rfl
theorem gx_E_t {w : Nat → Int32} {x : Int32} (z : gx_E w x = true) : ¬ x < 0 ∧ ∃ i j, i < 12 ∧ j < 12 ∧ x / 12 = nI i ∧ x - x / 12 * 12 = nI j ∧ w i = 1 ∧ w j = 1 := by
  unfold gx_E at z
  rw [Bool.and_eq_true, Bool.and_eq_true] at z
  obtain ⟨i, hi, ei, wi⟩ := gx_N_t z.2.1
  obtain ⟨j, hj, ej, wj⟩ := gx_N_t z.2.2
  exact ⟨of_decide_eq_true z.1, i, j, hi, hj, ei, ej, wi, wj⟩
def gx_K (o : Nat) (ta la va ea fa ga ya ha w : Nat → Int32) : Prop := o ≤ 4 ∧ gx_px o ta la va ea fa ga ya ha w ∧ gx_gd w
section
variable {o : Nat} {ta la va ea fa ga ya ha ca ra w : Nat → Int32}
theorem cx_ns {post : Int32 → Prop} (K : gx_K o ta la va ea fa ga ya ha w) {n : Nat} (hn : n < 12) (H : ∀ s, vp_in s 60 → s.toNatClampNeg = o * 12 + n → post s) : wpX_nodeSlot post (nI o, ta, la, va, ea, fa, ga, ya, ha, ca, ra) (nI n) := by
  have z := K.1
  show post (nI o * 12 + nI n)
  rw [gx_12]
  exact H _ (vp_in_nI (by omega) (by decide)) (nI_clamp (by omega))
theorem cx_as {post : Int32 → Prop} (K : gx_K o ta la va ea fa ga ya ha w) {a : Nat} (ha' : a < 24) (H : ∀ s, vp_in s 120 → s.toNatClampNeg = o * 24 + a → post s) : wpX_arrowSlot post (nI o, ta, la, va, ea, fa, ga, ya, ha, ca, ra) (nI a) := by
  have z := K.1
  show post (nI o * 24 + nI a)
  rw [gx_24]
  exact H _ (vp_in_nI (by omega) (by decide)) (nI_clamp (by omega))
theorem cx_N {post : Int32 → Prop} (K : gx_K o ta la va ea fa ga ya ha w) (x : Int32) (hp : post (gx_b (gx_N w x))) : wpX_goodNode post (nI o, ta, la, va, ea, fa, ga, ya, ha, ca, ra) x := by
  rcases pk_ix x (n := 12) (by decide) with z | z | ⟨j, hj, rfl⟩
  · rw [gx_N_n z] at hp; exact br_t z hp
  · rw [gx_N_b z] at hp; exact br_f (Int32.not_lt.mpr (Int32.le_trans (by decide) z)) (br_t z hp)
  · rw [gx_N_j hj] at hp
    refine br_f (nI_pos (by omega)) (br_f (nI_ge hj (by decide)) (cx_ns K hj (fun s hs es => ⟨hs, ?_⟩)))
    rw [es, (K.2.1.1 j hj).1]
    refine gb_0 ?_ hp
    rcases (K.2.2.1 j hj).1 with z | z
    · rw [z]; decide
    · rw [z]; decide
theorem cx_A {post : Int32 → Prop} (K : gx_K o ta la va ea fa ga ya ha w) (x : Int32) (hp : post (gx_b (gx_A w x))) : wpX_goodArrow post (nI o, ta, la, va, ea, fa, ga, ya, ha, ca, ra) x := by
  rcases pk_ix x (n := 24) (by decide) with z | z | ⟨j, hj, rfl⟩
  · rw [gx_A_n z] at hp; exact br_t z hp
  · rw [gx_A_b z] at hp; exact br_f (Int32.not_lt.mpr (Int32.le_trans (by decide) z)) (br_t z hp)
  · rw [gx_A_j hj] at hp
    refine br_f (nI_pos (by omega)) (br_f (nI_ge hj (by decide)) (cx_as K hj (fun s hs es => ⟨hs, ?_⟩)))
    rw [es, (K.2.1.2 j hj).1]
    refine gb_0 ?_ hp
    rcases (K.2.2.2 j hj).1 with z | z
    · rw [z]; decide
    · rw [z]; decide
theorem cx_L {post : Int32 → Prop} (x : Int32) (hp : post (gx_b (gx_in 7 x))) : wpX_goodLabels post (nI o, ta, la, va, ea, fa, ga, ya, ha, ca, ra) x := by
  by_cases z : x < 0
  · rw [gx_in_n z] at hp; exact br_t z hp
  · by_cases k : nI 7 < x
    · rw [gx_in_b (Int32.not_le.mpr k)] at hp; exact br_f z (br_t k hp)
    · rw [gx_in_y z (Int32.not_lt.mp k)] at hp; exact br_f z (br_f k hp)
theorem cx_W {post : Int32 → Prop} (x : Int32) (hp : post (gx_b (gx_in 99 x))) : wpX_goodWeight post (nI o, ta, la, va, ea, fa, ga, ya, ha, ca, ra) x := by
  by_cases z : x < 0
  · rw [gx_in_n z] at hp; exact br_t z hp
  · by_cases k : nI 99 < x
    · rw [gx_in_b (Int32.not_le.mpr k)] at hp; exact br_f z (br_t k hp)
    · rw [gx_in_y z (Int32.not_lt.mp k)] at hp; exact br_f z (br_f k hp)
theorem cx_T {post : Int32 → Prop} (x : Int32) (hp : post (gx_b (gx_in 4 x))) : wpX_goodType post (nI o, ta, la, va, ea, fa, ga, ya, ha, ca, ra) x := by
  by_cases z : x < 0
  · rw [gx_in_n z] at hp; exact br_t z hp
  · by_cases k : nI 4 < x
    · rw [gx_in_b (Int32.not_le.mpr k)] at hp; exact br_f z (br_t k hp)
    · rw [gx_in_y z (Int32.not_lt.mp k)] at hp; exact br_f z (br_f k hp)
theorem cx_Y {post : Int32 → Prop} (x : Int32) (hp : post (gx_b (gx_in 2 x))) : wpX_goodWay post (nI o, ta, la, va, ea, fa, ga, ya, ha, ca, ra) x := by
  by_cases z : x < 0
  · rw [gx_in_n z] at hp; exact br_t z hp
  · by_cases k : nI 2 < x
    · rw [gx_in_b (Int32.not_le.mpr k)] at hp; exact br_f z (br_t k hp)
    · rw [gx_in_y z (Int32.not_lt.mp k)] at hp; exact br_f z (br_f k hp)
theorem cx_E {post : Int32 → Prop} (K : gx_K o ta la va ea fa ga ya ha w) (x : Int32) (hp : post (gx_b (gx_E w x))) : wpX_goodEnds post (nI o, ta, la, va, ea, fa, ga, ya, ha, ca, ra) x := by
  by_cases z : x < 0
  · rw [gx_E_n z] at hp; exact br_t z hp
  · refine br_f z ⟨by decide, cx_N K (x / 12) (gb_r (fun k => ?_) (fun k => ⟨by decide, cx_N K (x - x / 12 * 12) (gb_r (fun k2 => ?_) (fun k2 => ?_))⟩))⟩
    · rw [gx_E_1 k] at hp; exact hp
    · rw [gx_E_2 k2] at hp; exact hp
    · rw [gx_E_y z k k2] at hp; exact hp
theorem cx_of {post : Int32 → Prop} (K : gx_K o ta la va ea fa ga ya ha w) {a : Nat} (ha' : a < 24) (ty : Int32) (hp : post (gx_b (gx_of w ty a))) : wpX_isOfType post (nI o, ta, la, va, ea, fa, ga, ya, ha, ca, ra) (nI a) ty := by
  unfold wpX_isOfType
  refine cx_A K (nI a) ?_
  rw [gx_A_j ha']
  refine gb_r (fun k => ?_) (fun k => ?_)
  · have z : gx_of w ty a = false := by unfold gx_of; rw [gb_nt k, Bool.false_and]
    rw [z] at hp; exact hp
  · by_cases p4 : ty = 4
    · have z : gx_of w ty a = true := by unfold gx_of; rw [k, decide_eq_true p4]; rfl
      rw [z] at hp; exact br_t p4 hp
    · refine br_f p4 (cx_as K ha' (fun s hs es => ⟨hs, ?_⟩))
      rw [es, (K.2.1.2 a ha').2.2.2.1]
      refine gb_1 ?_ hp
      unfold gx_of
      rw [k, decide_eq_false p4, Bool.true_and, Bool.false_or]
      exact decide_eq_true_iff.symm
theorem cx_m63 {post : Int32 → Prop} (b1 b2 : Bool) (hp : post (gx_b (b1 || b2))) : wX_matches_63 post (gx_b b1) (gx_b b2) (nI o) ta la va ea fa ga ya ha ca ra := by
  cases b1
  · cases b2
    · exact br_t rfl (br_t rfl hp)
    · exact br_t rfl (br_f (by decide) hp)
  · exact br_f (by decide) hp
theorem cx_m40 {post : Int32 → Prop} (K : gx_K o ta la va ea fa ga ya ha w) {a : Nat} (ha' : a < 24) {s : Int32} (hs : vp_in s 120) (es : s.toNatClampNeg = o * 24 + a) (n wy : Int32) (b1 : Bool) (hp : post (gx_b (b1 || (decide (wy ≠ 0) && decide (w (84 + a) = n))))) : wX_matches_40 post n wy s (gx_b b1) (nI o) ta la va ea fa ga ya ha ca ra := by
  by_cases z : wy = 0
  · rw [decide_eq_false (fun k => k z), Bool.false_and] at hp
    exact br_t z (cx_m63 b1 false hp)
  · refine br_f z ⟨hs, ?_⟩
    rw [es, (K.2.1.2 a ha').2.2.1]
    rw [decide_eq_true z, Bool.true_and] at hp
    by_cases q : w (84 + a) = n
    · rw [decide_eq_true q] at hp; exact br_t q (cx_m63 b1 true hp)
    · rw [decide_eq_false q] at hp; exact br_f q (cx_m63 b1 false hp)
theorem cx_mt {post : Int32 → Prop} (K : gx_K o ta la va ea fa ga ya ha w) {a : Nat} (ha' : a < 24) (n ty wy : Int32) (hp : post (gx_b (gx_mt w n ty wy a))) : wpX_matches post (nI o, ta, la, va, ea, fa, ga, ya, ha, ca, ra) (nI a) n ty wy := by
  unfold wpX_matches
  refine cx_of K ha' ty (gb_r (fun k => ?_) (fun k => cx_as K ha' (fun s hs es => ?_)))
  · have z : gx_mt w n ty wy a = false := by unfold gx_mt; rw [gb_nt k, Bool.false_and]
    rw [z] at hp; exact hp
  · unfold gx_mt at hp
    rw [k, Bool.true_and] at hp
    by_cases z : wy = 1
    · rw [decide_eq_false (p := wy ≠ 1) (fun k => k z), Bool.false_and] at hp
      exact br_t z (cx_m40 K ha' hs es n wy false hp)
    · rw [decide_eq_true (p := wy ≠ 1) z, Bool.true_and] at hp
      refine br_f z ⟨hs, ?_⟩
      rw [es, (K.2.1.2 a ha').2.1]
      by_cases q : w (60 + a) = n
      · rw [decide_eq_true q] at hp; exact br_t q (cx_m40 K ha' hs es n wy true hp)
      · rw [decide_eq_false q] at hp; exact br_f q (cx_m40 K ha' hs es n wy false hp)
theorem cx_hl {post : Int32 → Prop} (K : gx_K o ta la va ea fa ga ya ha w) {n : Nat} (hn : n < 12) (x : Int32) (hp : post (gx_b (gx_hl w n x))) : wpX_hasLabels post (nI o, ta, la, va, ea, fa, ga, ya, ha, ca, ra) (nI n) x := by
  unfold wpX_hasLabels
  refine cx_ns K hn (fun s hs es => ⟨hs, ?_⟩)
  rw [es, (K.2.1.1 n hn).2.1]
  exact gb_1 decide_eq_true_iff.symm hp
end
