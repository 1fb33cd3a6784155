/-! counting loops -/
def gx_pA (w : Nat → Int32) (i : Nat) : Bool := decide (w (36 + i) = 1)
def gx_nx (w : Nat → Int32) (k : Nat) (m u : Int32) (i : Nat) : Bool := decide (nI i ≠ nI k) && gx_mt w m u 0 i
def gx_D (w : Nat → Int32) (x ty wy : Int32) : Bool := gx_N w x && (gx_in 4 ty && gx_in 2 wy)
section
variable {o : Nat} {ta la va ea fa ga ya ha ca ra w : Nat → Int32}
theorem cx_ca_l {post : Int32 → Prop} (K : gx_K o ta la va ea fa ga ya ha w) (hp : post (nI (gv_ct (gx_pA w) 24))) : ∀ d i, i + d = 24 → wX_countArrows_4 post (nI o) ta la va ea fa ga ya ha ca ra (d + 1) (nI (gv_ct (gx_pA w) i)) (nI i) := by
  intro d
  induction d with
  | zero =>
    intro i hi
    obtain rfl : i = 24 := by omega
    exact br_t (nI_le (a := 24) (b := 24) (by omega) (by decide)) hp
  | succ d ih =>
    intro i hi
    have q1 := ih (i + 1) (by omega)
    refine br_f (nI_ge (b := 24) (by omega) (by decide)) ?_
    refine cx_A K (nI i) ?_
    rw [gx_A_j (by omega)]
    refine gb_r (fun z => nm_r (nI_1 i) ?_) (fun z => nm_r (nI_1 _) (nm_r (nI_1 i) ?_))
    · rw [gv_ct_f z] at q1; exact q1
    · rw [gv_ct_t z] at q1; exact q1
theorem cx_cm_l {post : Int32 → Prop} (K : gx_K o ta la va ea fa ga ya ha w) (x ty wy : Int32) (hp : post (nI (gv_ct (gx_mt w x ty wy) 24))) : ∀ d i, i + d = 24 → wX_countMatching_6 post x ty wy (nI o) ta la va ea fa ga ya ha ca ra (d + 1) (nI (gv_ct (gx_mt w x ty wy) i)) (nI i) := by
  intro d
  induction d with
  | zero =>
    intro i hi
    obtain rfl : i = 24 := by omega
    exact br_t (nI_le (a := 24) (b := 24) (by omega) (by decide)) hp
  | succ d ih =>
    intro i hi
    have q1 := ih (i + 1) (by omega)
    refine br_f (nI_ge (b := 24) (by omega) (by decide)) ?_
    refine cx_mt K (by omega) x ty wy (gb_r (fun z => nm_r (nI_1 i) ?_) (fun z => nm_r (nI_1 _) (nm_r (nI_1 i) ?_)))
    · rw [gv_ct_f z] at q1; exact q1
    · rw [gv_ct_t z] at q1; exact q1
theorem cx_ca {post : Int32 → Prop} (K : gx_K o ta la va ea fa ga ya ha w) (hp : post (nI (gv_ct (gx_pA w) 24))) : wpX_countArrows post (nI o, ta, la, va, ea, fa, ga, ya, ha, ca, ra) := ⟨25, cx_ca_l K hp 24 0 rfl⟩
theorem cx_cm {post : Int32 → Prop} (K : gx_K o ta la va ea fa ga ya ha w) (x ty wy : Int32) (hp : post (nI (gv_ct (gx_mt w x ty wy) 24))) : wpX_countMatching post (nI o, ta, la, va, ea, fa, ga, ya, ha, ca, ra) x ty wy := ⟨25, cx_cm_l K x ty wy hp 24 0 rfl⟩
theorem cx_cn_l {post : Int32 → Prop} (K : gx_K o ta la va ea fa ga ya ha w) (k : Nat) (m u : Int32) (hp : post (nI (gv_ct (gx_nx w k m u) 24))) : ∀ d i, i + d = 24 → wX_countNextArrows_6 post (nI k) m u (nI o) ta la va ea fa ga ya ha ca ra (d + 1) (nI (gv_ct (gx_nx w k m u) i)) (nI i) := by
  intro d
  induction d with
  | zero =>
    intro i hi
    obtain rfl : i = 24 := by omega
    exact br_t (nI_le (a := 24) (b := 24) (by omega) (by decide)) hp
  | succ d ih =>
    intro i hi
    have q1 := ih (i + 1) (by omega)
    refine br_f (nI_ge (b := 24) (by omega) (by decide)) ?_
    by_cases e1 : nI i = nI k
    · have z : ¬ gx_nx w k m u i = true := by
        unfold gx_nx; rw [decide_eq_false (fun z => z e1), Bool.false_and]; decide
      refine br_t e1 (nm_r (nI_1 i) ?_)
      rw [gv_ct_f z] at q1; exact q1
    · have e2 : gx_nx w k m u i = gx_mt w m u 0 i := by
        unfold gx_nx; rw [decide_eq_true (p := nI i ≠ nI k) e1, Bool.true_and]
      refine br_f e1 (cx_mt K (by omega) m u 0 (gb_r (fun z => nm_r (nI_1 i) ?_) (fun z => nm_r (nI_1 _) (nm_r (nI_1 i) ?_))))
      · rw [gv_ct_f (p := gx_nx w k m u) (by rw [e2]; exact z)] at q1; exact q1
      · rw [gv_ct_t (p := gx_nx w k m u) (by rw [e2]; exact z)] at q1; exact q1
theorem cx_cn {post : Int32 → Prop} (K : gx_K o ta la va ea fa ga ya ha w) (k : Nat) (m u : Int32) (hp : post (nI (gv_ct (gx_nx w k m u) 24))) : wpX_countNextArrows post (nI o, ta, la, va, ea, fa, ga, ya, ha, ca, ra) (nI k) m u := ⟨25, cx_cn_l K k m u hp 24 0 rfl⟩
end
section
variable {q : Int32} {w cp fx : Nat → Int32}
theorem cy_ca_l {post : Int32 → Prop}  (hp : post (nI (gv_ct (gx_pA w) 24))) : ∀ d i, i + d = 24 → wY_countArrows_4 post q w cp fx (d + 1) (nI (gv_ct (gx_pA w) i)) (nI i) := by
  intro d
  induction d with
  | zero =>
    intro i hi
    obtain rfl : i = 24 := by omega
    exact br_t (nI_le (a := 24) (b := 24) (by omega) (by decide)) hp
  | succ d ih =>
    intro i hi
    have q1 := ih (i + 1) (by omega)
    refine br_f (nI_ge (b := 24) (by omega) (by decide)) ?_
    refine cy_A (nI i) ?_
    rw [gx_A_j (by omega)]
    refine gb_r (fun z => nm_r (nI_1 i) ?_) (fun z => nm_r (nI_1 _) (nm_r (nI_1 i) ?_))
    · rw [gv_ct_f z] at q1; exact q1
    · rw [gv_ct_t z] at q1; exact q1
theorem cy_cm_l {post : Int32 → Prop} (x ty wy : Int32) (hy : gx_in 2 wy = true) (hp : post (nI (gv_ct (gx_mt w x ty wy) 24))) : ∀ d i, i + d = 24 → wY_degree_33 post x ty wy q w cp fx (d + 1) (nI (gv_ct (gx_mt w x ty wy) i)) (nI i) := by
  intro d
  induction d with
  | zero =>
    intro i hi
    obtain rfl : i = 24 := by omega
    exact br_t (nI_le (a := 24) (b := 24) (by omega) (by decide)) hp
  | succ d ih =>
    intro i hi
    have q1 := ih (i + 1) (by omega)
    refine br_f (nI_ge (b := 24) (by omega) (by decide)) ?_
    refine cy_mt (by omega) x ty wy hy (gb_r (fun z => nm_r (nI_1 i) ?_) (fun z => nm_r (nI_1 _) (nm_r (nI_1 i) ?_)))
    · rw [gv_ct_f z] at q1; exact q1
    · rw [gv_ct_t z] at q1; exact q1
theorem cy_ca {post : Int32 → Prop} (hp : post (nI (gv_ct (gx_pA w) 24))) : wpY_countArrows post (q, w, cp, fx) := ⟨25, cy_ca_l hp 24 0 rfl⟩
theorem gx_D_t {w : Nat → Int32} {x ty wy : Int32} (z : gx_D w x ty wy = true) : gx_N w x = true ∧ gx_in 4 ty = true ∧ gx_in 2 wy = true := by
  unfold gx_D at z
  rw [Bool.and_eq_true, Bool.and_eq_true] at z
  exact z
theorem gx_D_y {w : Nat → Int32} {x ty wy : Int32} (z : gx_N w x = true) (z1 : gx_in 4 ty = true) (z2 : gx_in 2 wy = true) : gx_D w x ty wy = true := by
  unfold gx_D
  rw [z, z1, z2]; rfl
theorem cy_deg {post : Int32 → Prop} (x ty wy : Int32) (ht : gx_D w x ty wy = true → post (nI (gv_ct (gx_mt w x ty wy) 24))) (hf : ¬ gx_D w x ty wy = true → post (-1)) : wpY_degree post (q, w, cp, fx) x ty wy := by
  unfold wpY_degree
  refine cy_N x (gb_r (fun k => hf (fun z => k (gx_D_t z).1)) (fun k => cy_T ty (gb_n (fun k2 => ?_) (fun k2 => hf (fun z => k2 (gx_D_t z).2.1)))))
  by_cases z1 : wy < 0
  · refine br_t z1 (hf (fun z => ?_))
    have z2 := (gx_D_t z).2.2
    rw [gx_in_n z1] at z2; exact absurd z2 (by decide)
  · by_cases z3 : wy ≤ nI 2
    · have hy := gx_in_y z1 z3
      exact br_f z1 (br_t z3 ⟨25, cy_cm_l x ty wy hy (ht (gx_D_y k k2 hy)) 24 0 rfl⟩)
    · refine br_f z1 (br_f z3 (hf (fun z => ?_)))
      have z2 := (gx_D_t z).2.2
      rw [gx_in_b z3] at z2; exact absurd z2 (by decide)
end
