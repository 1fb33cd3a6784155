/-! find, chains, faults, digest -/
def gx_fd_p (w : Nat → Int32) (x1 x2 : Int32) (i : Nat) : Bool := decide (w i = 1) && (gx_hl w i x1 && decide (w (24 + i) = x2))
def gx_fdr (m : Nat) : Int32 := if m = 12 then -2 else nI m
theorem gx_fdr_y {m : Nat} (z : m < 12) : gx_fdr m = nI m := if_neg (by omega)
theorem cx_find_l {o : Nat} {ta la va ea fa ga ya ha ca ra w : Nat → Int32} {post : Int32 → Prop} (K : gx_K o ta la va ea fa ga ya ha w) (x1 x2 : Int32) : ∀ d i, i + d = 12 → post (gx_fdr (gv_fi (gx_fd_p w x1 x2) d i)) → wX_find_12 post x1 x2 (nI o) ta la va ea fa ga ya ha ca ra (d + 1) (nI i) := by
  intro d
  induction d with
  | zero =>
    intro i hi hp
    obtain rfl : i = 12 := by omega
    exact br_t (nI_le (a := 12) (b := 12) (by omega) (by decide)) hp
  | succ d ih =>
    intro i hi hp
    have hi2 : i < 12 := by omega
    have nx : ¬ gx_fd_p w x1 x2 i = true → wX_find_12 post x1 x2 (nI o) ta la va ea fa ga ya ha ca ra (d + 1) (nI (i + 1)) := by
      intro z
      rw [gv_fi_f z] at hp
      exact ih (i + 1) (by omega) hp
    have yes : gx_fd_p w x1 x2 i = true → post (nI i) := by
      intro z
      rw [gv_fi_t z, gx_fdr_y hi2] at hp; exact hp
    refine br_f (nI_ge (b := 12) (by omega) (by decide)) (cx_N K (nI i) ?_)
    rw [gx_N_j hi2]
    refine gb_r (fun z => nm_r (nI_1 i) (nx (fun z2 => z ((Bool.and_eq_true _ _).mp z2).1))) (fun z => cx_hl K hi2 x1 (gb_r (fun z1 => nm_r (nI_1 i) (nx (fun z2 => z1 ((Bool.and_eq_true _ _).mp ((Bool.and_eq_true _ _).mp z2).2).1))) (fun z1 => cx_ns K hi2 (fun s hs es => ⟨hs, ?_⟩))))
    rw [es, (K.2.1.1 i hi2).2.2]
    by_cases z3 : w (24 + i) = x2
    · exact br_t z3 (yes (by unfold gx_fd_p; rw [z, z1, decide_eq_true z3]; rfl))
    · exact br_f z3 (nm_r (nI_1 i) (nx (fun z2 => z3 (of_decide_eq_true ((Bool.and_eq_true _ _).mp ((Bool.and_eq_true _ _).mp z2).2).2))))
theorem cy_find_l {q : Int32} {w cp fx : Nat → Int32} {post : Int32 → Prop} (G : gx_gd w) (x1 x2 : Int32) (hx : gx_in 7 x1 = true) : ∀ d i, i + d = 12 → post (gx_fdr (gv_fi (gx_fd_p w x1 x2) d i)) → wY_find_12 post x1 x2 q w cp fx (d + 1) (nI i) := by
  intro d
  induction d with
  | zero =>
    intro i hi hp
    obtain rfl : i = 12 := by omega
    exact br_t (nI_le (a := 12) (b := 12) (by omega) (by decide)) hp
  | succ d ih =>
    intro i hi hp
    have hi2 : i < 12 := by omega
    have nx : ¬ gx_fd_p w x1 x2 i = true → wY_find_12 post x1 x2 q w cp fx (d + 1) (nI (i + 1)) := by
      intro z
      rw [gv_fi_f z] at hp
      exact ih (i + 1) (by omega) hp
    have yes : gx_fd_p w x1 x2 i = true → post (nI i) := by
      intro z
      rw [gv_fi_t z, gx_fdr_y hi2] at hp; exact hp
    refine br_f (nI_ge (b := 12) (by omega) (by decide)) (cy_N (nI i) ?_)
    rw [gx_N_j hi2]
    obtain ⟨i1, i2⟩ := cy_ix 24 i 24 rfl (by omega)
    refine gb_r (fun z => nm_r (nI_1 i) (nx (fun z2 => z ((Bool.and_eq_true _ _).mp z2).1))) (fun z => ⟨i1, ?_⟩)
    rw [i2]
    by_cases z3 : w (24 + i) = x2
    · refine br_t z3 (cy_hl G hi2 x1 hx (gb_r (fun z1 => nm_r (nI_1 i) (nx (fun z2 => z1 ((Bool.and_eq_true _ _).mp ((Bool.and_eq_true _ _).mp z2).2).1))) (fun z1 => yes ?_)))
      unfold gx_fd_p; rw [z, z1, decide_eq_true z3]; rfl
    · exact br_f z3 (nm_r (nI_1 i) (nx (fun z2 => z3 (of_decide_eq_true ((Bool.and_eq_true _ _).mp ((Bool.and_eq_true _ _).mp z2).2).2))))
theorem i_vc_find {k : Nat} {u : SX} {v : SY} (I : i_Rel k u v) (hk : k + 4 ≤ 2048) (v1 : Int32) (v2 : Int32) : wpX_find (fun r => wpY_find (fun r' => r' = r ∧ i_Rel (k + 4) u v) v v1 v2) u v1 v2 := by
  obtain ⟨o, ta, la, va, ea, fa, ga, ya, ha, ca, ra, w, cp, fx, rfl, rfl, R⟩ := I
  have K := ir_K R
  unfold wpX_find wpY_find
  refine cx_L v1 (gb_r (fun z => ?_) (fun z => ⟨13, cx_find_l K v1 v2 12 0 rfl ?_⟩))
  · exact cy_L v1 (gb_n (fun z2 => absurd z2 z) (fun _ => ⟨rfl, ir_mk R⟩))
  · exact cy_L v1 (gb_n (fun _ => ⟨13, cy_find_l K.2.2 v1 v2 z 12 0 rfl ⟨rfl, ir_mk R⟩⟩) (fun z2 => absurd z z2))
/-! chains: couples, first by first -/
def gx_ch (w : Nat → Int32) (t u x : Int32) (i j : Nat) : Bool := decide (nI i ≠ nI j) && (gx_of w t i && (gx_of w u j && (decide (w (84 + i) = w (60 + j)) && gx_hl w (gx_g w i) x)))
def gx_cs (w : Nat → Int32) (t u x : Int32) (i : Nat) : Nat := gv_ct (gx_ch w t u x i) 24
theorem gx_ch_x {w : Nat → Int32} {t u x : Int32} {i : Nat} (h1 : gx_of w t i = true) (h2 : gx_hl w (gx_g w i) x = true) : gv_ct (gx_nx w i (w (84 + i)) u) 24 = gx_cs w t u x i := by
  refine gv_ct_congr 24 (fun j hj => ?_)
  unfold gx_ch gx_nx gx_mt
  rw [h1, h2, Bool.true_and, Bool.and_true, decide_eq_true (show (0 : Int32) ≠ 1 by decide), Bool.true_and, decide_eq_false (show ¬ (0 : Int32) ≠ 0 by decide), Bool.false_and, Bool.or_false]
  have e1 : decide (nI j ≠ nI i) = decide (nI i ≠ nI j) := decide_eq_decide.mpr ⟨fun z k => z k.symm, fun z k => z k.symm⟩
  have e2 : decide (w (60 + j) = w (84 + i)) = decide (w (84 + i) = w (60 + j)) := decide_eq_decide.mpr ⟨Eq.symm, Eq.symm⟩
  rw [e1, e2]
theorem gx_ch_0 {w : Nat → Int32} {t u x : Int32} {i : Nat} (h1 : ¬ (gx_of w t i = true ∧ gx_hl w (gx_g w i) x = true)) : gx_cs w t u x i = 0 := by
  refine gv_ct_0 24 (fun j hj z => h1 ?_)
  unfold gx_ch at z
  obtain ⟨_, z⟩ := (Bool.and_eq_true _ _).mp z
  obtain ⟨z1, z⟩ := (Bool.and_eq_true _ _).mp z
  obtain ⟨_, z⟩ := (Bool.and_eq_true _ _).mp z
  exact ⟨z1, ((Bool.and_eq_true _ _).mp z).2⟩
theorem gv_sn_s (f : Nat → Nat) (i : Nat) : gv_sn f (i + 1) = gv_sn f i + f i := rfl
theorem cx_ch_l {o : Nat} {ta la va ea fa ga ya ha ca ra w : Nat → Int32} {post : Int32 → Prop} (K : gx_K o ta la va ea fa ga ya ha w) (t u x : Int32) (hp : post (nI (gv_sn (gx_cs w t u x) 24))) : ∀ d i, i + d = 24 → wX_chains_32 post t u x (nI o) ta la va ea fa ga ya ha ca ra (d + 1) (nI (gv_sn (gx_cs w t u x) i)) (nI i) := by
  intro d
  induction d with
  | zero =>
    intro i hi
    obtain rfl : i = 24 := by omega
    exact br_t (nI_le (a := 24) (b := 24) (by omega) (by decide)) hp
  | succ d ih =>
    intro i hi
    have hi2 : i < 24 := by omega
    have q1 := ih (i + 1) (by omega)
    rw [gv_sn_s] at q1
    have g1 := gx_gd_ K.2.2 hi2
    refine br_f (nI_ge (b := 24) (by omega) (by decide)) (cx_of K hi2 t (gb_r (fun z => nm_r (nI_1 i) ?_) (fun z => cx_as K hi2 (fun s hs es => ⟨hs, ?_⟩))))
    · rw [gx_ch_0 (fun k => z k.1)] at q1; exact q1
    · rw [es]
      refine nm_r ((K.2.1.2 i hi2).2.2.1.trans g1.2.1) (cx_hl K g1.1 x (gb_r (fun z1 => nm_r (nI_1 i) ?_) (fun z1 => ?_)))
      · rw [gx_ch_0 (fun k => z1 k.2)] at q1; exact q1
      · rw [← g1.2.1]
        refine cx_cn K i (w (84 + i)) u ?_
        rw [gx_ch_x (x := x) z z1]
        exact nm_r (nI_add _ _) (nm_r (nI_1 i) q1)
theorem cy_ch_l2 {q : Int32} {w cp fx : Nat → Int32} {post : Int32 → Prop} {J : Int32 → Int32 → Prop} (G : gx_gd w) (t u x : Int32) (hx : gx_in 7 x = true) {i : Nat} (hi2 : i < 24) (c : Nat) (hJ : J (nI (c + gx_cs w t u x i)) (nI (i + 1))) : ∀ d j, j + d = 24 → wY_chains_42 post J t u x (nI i) q w cp fx (d + 1) (nI (c + gv_ct (gx_ch w t u x i) j)) (nI j) := by
  intro d
  induction d with
  | zero =>
    intro j hj
    obtain rfl : j = 24 := by omega
    exact br_t (nI_le (a := 24) (b := 24) (by omega) (by decide)) (nm_r (nI_1 i) hJ)
  | succ d ih =>
    intro j hj
    have hj2 : j < 24 := by omega
    have q1 := ih (j + 1) (by omega)
    have g1 := gx_gd_ G hi2
    have nx : ¬ gx_ch w t u x i j = true → wY_chains_42 post J t u x (nI i) q w cp fx (d + 1) (nI (c + gv_ct (gx_ch w t u x i) j)) (nI (j + 1)) := by
      intro z
      rw [gv_ct_f z] at q1; exact q1
    have no : ¬ gx_ch w t u x i j = true → wY_chains_80 post J (wY_chains_42 post J t u x (nI i) q w cp fx (d + 1)) t u x (nI (c + gv_ct (gx_ch w t u x i) j)) (nI i) (nI j) q w cp fx := fun z => br_t rfl (nm_r (nI_1 j) (nx z))
    refine br_f (nI_ge (b := 24) (by omega) (by decide)) ?_
    by_cases z : nI i = nI j
    · exact br_t z (no (fun k => of_decide_eq_true ((Bool.and_eq_true _ _).mp k).1 z))
    · refine br_f z (cy_of hi2 t (gb_r (fun z1 => no (fun k => z1 ((Bool.and_eq_true _ _).mp ((Bool.and_eq_true _ _).mp k).2).1)) (fun z1 => cy_of hj2 u (gb_r (fun z2 => no (fun k => z2 ((Bool.and_eq_true _ _).mp ((Bool.and_eq_true _ _).mp ((Bool.and_eq_true _ _).mp k).2).2).1)) (fun z2 => br_f (by decide) (cy_p1 hi2 (cy_p0 hj2 ?_)))))))
      by_cases z3 : w (84 + i) = w (60 + j)
      · refine br_t z3 (cy_p1 hi2 ?_)
        rw [g1.2.1]
        refine cy_hl G g1.1 x hx (gb_r (fun z4 => nm_r (nI_1 j) (nx (fun k => z4 ((Bool.and_eq_true _ _).mp ((Bool.and_eq_true _ _).mp ((Bool.and_eq_true _ _).mp ((Bool.and_eq_true _ _).mp k).2).2).2).2))) (fun z4 => nm_r (nI_1 _) (nm_r (nI_1 j) ?_)))
        have z5 : gx_ch w t u x i j = true := by unfold gx_ch; rw [z1, z2, z4, decide_eq_true z3, decide_eq_true (p := nI i ≠ nI j) z]; rfl
        rw [gv_ct_t z5] at q1
        exact q1
      · exact br_f z3 (nm_r (nI_1 j) (nx (fun k => z3 (of_decide_eq_true ((Bool.and_eq_true _ _).mp ((Bool.and_eq_true _ _).mp ((Bool.and_eq_true _ _).mp ((Bool.and_eq_true _ _).mp k).2).2).2).1))))
theorem cy_ch_l {q : Int32} {w cp fx : Nat → Int32} {post : Int32 → Prop} (G : gx_gd w) (t u x : Int32) (hx : gx_in 7 x = true) (hp : post (nI (gv_sn (gx_cs w t u x) 24))) : ∀ d i, i + d = 24 → wY_chains_32 post t u x q w cp fx (d + 1) (nI (gv_sn (gx_cs w t u x) i)) (nI i) := by
  intro d
  induction d with
  | zero =>
    intro i hi
    obtain rfl : i = 24 := by omega
    exact br_t (nI_le (a := 24) (b := 24) (by omega) (by decide)) hp
  | succ d ih =>
    intro i hi
    have q1 := ih (i + 1) (by omega)
    exact br_f (nI_ge (b := 24) (by omega) (by decide)) ⟨25, cy_ch_l2 G t u x hx (by omega) (gv_sn (gx_cs w t u x) i) q1 24 0 rfl⟩
theorem i_vc_chains {k : Nat} {u : SX} {v : SY} (I : i_Rel k u v) (hk : k + 4 ≤ 2048) (v1 : Int32) (v2 : Int32) (v3 : Int32) : wpX_chains (fun r => wpY_chains (fun r' => r' = r ∧ i_Rel (k + 4) u v) v v1 v2 v3) u v1 v2 v3 := by
  obtain ⟨o, ta, la, va, ea, fa, ga, ya, ha, ca, ra, w, cp, fx, rfl, rfl, R⟩ := I
  have K := ir_K R
  unfold wpX_chains wpY_chains
  refine cx_T v1 (gb_r (fun z => ?_) (fun z => cx_T v2 (gb_r (fun z1 => ?_) (fun z1 => cx_L v3 (gb_r (fun z2 => ?_) (fun z2 => ⟨25, cx_ch_l K v1 v2 v3 ?_ 24 0 rfl⟩))))))
  · exact cy_T v1 (gb_n (fun k => absurd k z) (fun _ => ⟨rfl, ir_mk R⟩))
  · exact cy_T v1 (gb_n (fun _ => cy_T v2 (gb_n (fun k => absurd k z1) (fun _ => ⟨rfl, ir_mk R⟩))) (fun k => absurd z k))
  · exact cy_T v1 (gb_n (fun _ => cy_T v2 (gb_n (fun _ => cy_L v3 (gb_n (fun k => absurd k z2) (fun _ => ⟨rfl, ir_mk R⟩))) (fun k => absurd z1 k))) (fun k => absurd z k))
  · exact cy_T v1 (gb_n (fun _ => cy_T v2 (gb_n (fun _ => cy_L v3 (gb_n (fun _ => ⟨25, cy_ch_l K.2.2 v1 v2 v3 z2 ⟨rfl, ir_mk R⟩ 24 0 rfl⟩) (fun k => absurd z2 k))) (fun k => absurd z1 k))) (fun k => absurd z k))
