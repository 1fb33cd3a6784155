/-! faults, digest -/
section
variable {o : Nat} {ta la va ea fa ga ya ha ca ra w : Nat → Int32}
theorem cx_sn {post : Int32 → Prop} (K : gx_K o ta la va ea fa ga ya ha w) {n : Nat} (hn : n < 12) (hp : post 1) : wpX_isSoundNode post (nI o, ta, la, va, ea, fa, ga, ya, ha, ca, ra) (nI n) := by
  unfold wpX_isSoundNode
  refine cx_ns K hn (fun s hs es => ⟨hs, ?_⟩)
  rw [es, (K.2.1.1 n hn).2.1]
  obtain ⟨j, hj, ej⟩ := (K.2.2.1 n hn).2
  rw [ej]
  refine cx_L (nI j) ?_
  rw [gx_in_y (nI_pos (by omega)) (nI_le (b := 7) (by omega) (by decide))]
  exact ⟨rfl, hp⟩
theorem cx_sa {post : Int32 → Prop} (K : gx_K o ta la va ea fa ga ya ha w) {a : Nat} (ha' : a < 24) (wa : w (36 + a) = 1) (hp : post 1) : wpX_isSoundArrow post (nI o, ta, la, va, ea, fa, ga, ya, ha, ca, ra) (nI a) := by
  unfold wpX_isSoundArrow
  have f1 := gx_fd K.2.2 ha'
  have g1 := gx_gd_ K.2.2 ha'
  have h1 := gx_hd K.2.2 ha'
  obtain ⟨j, hj, ej⟩ := (K.2.2.2 a ha').2.2.2.1
  refine cx_as K ha' (fun s hs es => ⟨hs, ?_⟩)
  rw [es, (K.2.1.2 a ha').2.1, (K.2.1.2 a ha').2.2.1, f1.2.1, g1.2.1]
  refine cx_N K (nI (gx_f w a)) ?_
  rw [gx_N_j f1.1, decide_eq_true (f1.2.2 wa)]
  refine gb_r (fun z => absurd rfl z) (fun _ => ⟨hs, cx_N K (nI (gx_g w a)) ?_⟩)
  rw [gx_N_j g1.1, decide_eq_true (g1.2.2 wa)]
  refine gb_r (fun z => absurd rfl z) (fun _ => ⟨hs, ?_⟩)
  rw [es, (K.2.1.2 a ha').2.2.2.1, ej]
  refine br_f (nI_pos (by omega)) ⟨hs, br_f (nI_ge (b := 4) hj (by decide)) (br_f (by decide) (br_f (by decide) ⟨hs, ?_⟩))⟩
  rw [es, (K.2.1.2 a ha').2.2.2.2, h1.2]
  refine cx_W (nI (gx_h w a)) ?_
  rw [gx_in_y (nI_pos (by omega)) (nI_le (b := 99) (by omega) (by decide))]
  exact gb_r (fun z => absurd rfl z) (fun _ => hp)
theorem cx_fl_a {post : Int32 → Prop} (K : gx_K o ta la va ea fa ga ya ha w) (hp : post 0) : ∀ d i, i + d = 24 → wX_faults_37 post (nI o) ta la va ea fa ga ya ha ca ra (d + 1) 0 (nI i) := by
  intro d
  induction d with
  | zero =>
    intro i hi
    obtain rfl : i = 24 := by omega
    exact br_t (nI_le (a := 24) (b := 24) (by omega) (by decide)) hp
  | succ d ih =>
    intro i hi
    have hi2 : i < 24 := by omega
    have q1 := ih (i + 1) (by omega)
    refine br_f (nI_ge (b := 24) (by omega) (by decide)) (cx_A K (nI i) ?_)
    rw [gx_A_j hi2]
    exact gb_r (fun z => nm_r (nI_1 i) q1) (fun z => cx_sa K hi2 (of_decide_eq_true z) (br_f (by decide) (nm_r (nI_1 i) q1)))
theorem cx_fl_n {post : Int32 → Prop} (K : gx_K o ta la va ea fa ga ya ha w) (hp : post 0) : ∀ d i, i + d = 12 → wX_faults_4 post (nI o) ta la va ea fa ga ya ha ca ra (d + 1) 0 (nI i) := by
  intro d
  induction d with
  | zero =>
    intro i hi
    obtain rfl : i = 12 := by omega
    exact br_t (nI_le (a := 12) (b := 12) (by omega) (by decide)) ⟨25, cx_fl_a K hp 24 0 rfl⟩
  | succ d ih =>
    intro i hi
    have hi2 : i < 12 := by omega
    have q1 := ih (i + 1) (by omega)
    refine br_f (nI_ge (b := 12) (by omega) (by decide)) (cx_N K (nI i) ?_)
    rw [gx_N_j hi2]
    exact gb_r (fun z => nm_r (nI_1 i) q1) (fun z => cx_sn K hi2 (br_f (by decide) (nm_r (nI_1 i) q1)))
end
theorem i_vc_faults {k : Nat} {u : SX} {v : SY} (I : i_Rel k u v) (hk : k + 4 ≤ 2048) : wpX_faults (fun r => wpY_faults (fun r' => r' = r ∧ i_Rel (k + 4) u v) v) u := by
  obtain ⟨o, ta, la, va, ea, fa, ga, ya, ha, ca, ra, w, cp, fx, rfl, rfl, R⟩ := I
  exact ⟨13, cx_fl_n (ir_K R) ⟨rfl, ir_mk R⟩ 12 0 rfl⟩
def gx_dn (w : Nat → Int32) (i : Nat) : Int32 := (nI i + 1) * (w (12 + i) + (3 * w (24 + i)))
def gx_da (w : Nat → Int32) (i : Nat) : Int32 := (nI i + 13) * (((w (60 + i) + (5 * w (84 + i))) + (7 * w (108 + i))) + (11 * w (132 + i)))
def gx_pN (w : Nat → Int32) (i : Nat) : Bool := decide (w i = 1)
section
variable {o : Nat} {ta la va ea fa ga ya ha ca ra w : Nat → Int32}
theorem cx_dg_a {post : Int32 → Prop} (K : gx_K o ta la va ea fa ga ya ha w) : ∀ d i x, i + d = 24 → post (gv_sm (gx_pA w) (gx_da w) d i x) → wX_digest_54 post (nI o) ta la va ea fa ga ya ha ca ra (d + 1) x (nI i) := by
  intro d
  induction d with
  | zero =>
    intro i x hi hp
    obtain rfl : i = 24 := by omega
    exact br_t (nI_le (a := 24) (b := 24) (by omega) (by decide)) hp
  | succ d ih =>
    intro i x hi hp
    have hi2 : i < 24 := by omega
    refine br_f (nI_ge (b := 24) (by omega) (by decide)) (cx_A K (nI i) ?_)
    rw [gx_A_j hi2]
    refine gb_r (fun z => nm_r (nI_1 i) ?_) (fun z => cx_as K hi2 (fun s hs es => ⟨hs, hs, hs, hs, ?_⟩))
    · rw [gv_sm_f z] at hp
      exact ih (i + 1) x (by omega) hp
    · rw [es, (K.2.1.2 i hi2).2.1, (K.2.1.2 i hi2).2.2.1, (K.2.1.2 i hi2).2.2.2.1, (K.2.1.2 i hi2).2.2.2.2]
      rw [gv_sm_t z] at hp
      exact nm_e (nm_e (nm_r (nI_1 i) (ih (i + 1) _ (by omega) hp)))
theorem cx_dg_n {post : Int32 → Prop} (K : gx_K o ta la va ea fa ga ya ha w) : ∀ d i x, i + d = 12 → post (gv_sm (gx_pA w) (gx_da w) 24 0 (gv_sm (gx_pN w) (gx_dn w) d i x)) → wX_digest_4 post (nI o) ta la va ea fa ga ya ha ca ra (d + 1) x (nI i) := by
  intro d
  induction d with
  | zero =>
    intro i x hi hp
    obtain rfl : i = 12 := by omega
    exact br_t (nI_le (a := 12) (b := 12) (by omega) (by decide)) ⟨25, cx_dg_a K 24 0 x rfl hp⟩
  | succ d ih =>
    intro i x hi hp
    have hi2 : i < 12 := by omega
    refine br_f (nI_ge (b := 12) (by omega) (by decide)) (cx_N K (nI i) ?_)
    rw [gx_N_j hi2]
    refine gb_r (fun z => nm_r (nI_1 i) ?_) (fun z => cx_ns K hi2 (fun s hs es => ⟨hs, hs, ?_⟩))
    · rw [gv_sm_f (p := gx_pN w) (i := i) z] at hp
      exact ih (i + 1) x (by omega) hp
    · rw [es, (K.2.1.1 i hi2).2.1, (K.2.1.1 i hi2).2.2]
      rw [gv_sm_t (p := gx_pN w) (i := i) z] at hp
      exact nm_e (nm_r (nI_1 i) (ih (i + 1) _ (by omega) hp))
end
section
variable {q : Int32} {w cp fx : Nat → Int32}
theorem cy_dg_a {post : Int32 → Prop} : ∀ d i x, i + d = 24 → post (gv_sm (gx_pA w) (gx_da w) d i x) → wY_digest_54 post q w cp fx (d + 1) x (nI i) := by
  intro d
  induction d with
  | zero =>
    intro i x hi hp
    obtain rfl : i = 24 := by omega
    exact br_t (nI_le (a := 24) (b := 24) (by omega) (by decide)) hp
  | succ d ih =>
    intro i x hi hp
    have hi2 : i < 24 := by omega
    refine br_f (nI_ge (b := 24) (by omega) (by decide)) (cy_A (nI i) ?_)
    rw [gx_A_j hi2]
    refine gb_r (fun z => nm_r (nI_1 i) ?_) (fun z => cy_p0 hi2 (cy_p1 hi2 (cy_p2 hi2 (cy_p3 hi2 ?_))))
    · rw [gv_sm_f z] at hp
      exact ih (i + 1) x (by omega) hp
    · rw [gv_sm_t z] at hp
      exact nm_e (nm_r (nI_1 i) (ih (i + 1) _ (by omega) hp))
theorem cy_dg_n {post : Int32 → Prop} : ∀ d i x, i + d = 12 → post (gv_sm (gx_pA w) (gx_da w) 24 0 (gv_sm (gx_pN w) (gx_dn w) d i x)) → wY_digest_4 post q w cp fx (d + 1) x (nI i) := by
  intro d
  induction d with
  | zero =>
    intro i x hi hp
    obtain rfl : i = 12 := by omega
    exact br_t (nI_le (a := 12) (b := 12) (by omega) (by decide)) ⟨25, cy_dg_a 24 0 x rfl hp⟩
  | succ d ih =>
    intro i x hi hp
    have hi2 : i < 12 := by omega
    refine br_f (nI_ge (b := 12) (by omega) (by decide)) (cy_N (nI i) ?_)
    rw [gx_N_j hi2]
    obtain ⟨i1, i2⟩ := cy_ix 12 i 12 rfl (by omega)
    obtain ⟨j1, j2⟩ := cy_ix 24 i 24 rfl (by omega)
    refine gb_r (fun z => nm_r (nI_1 i) ?_) (fun z => ⟨i1, j1, ?_⟩)
    · rw [gv_sm_f (p := gx_pN w) (i := i) z] at hp
      exact ih (i + 1) x (by omega) hp
    · rw [i2, j2]
      rw [gv_sm_t (p := gx_pN w) (i := i) z] at hp
      exact nm_e (nm_r (nI_1 i) (ih (i + 1) _ (by omega) hp))
end
theorem i_vc_digest {k : Nat} {u : SX} {v : SY} (I : i_Rel k u v) (hk : k + 4 ≤ 2048) : wpX_digest (fun r => wpY_digest (fun r' => r' = r ∧ i_Rel (k + 4) u v) v) u := by
  obtain ⟨o, ta, la, va, ea, fa, ga, ya, ha, ca, ra, w, cp, fx, rfl, rfl, R⟩ := I
  exact ⟨13, cx_dg_n (ir_K R) 12 0 0 rfl ⟨13, cy_dg_n 12 0 0 rfl ⟨rfl, ir_mk R⟩⟩⟩
