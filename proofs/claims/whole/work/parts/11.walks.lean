/-! drop: arrows that touch n go, from the first to the last -/
theorem gx_mt_to {w : Nat → Int32} {n : Int32} {a : Nat} (z : gx_mt w n 4 2 a = true) : w (36 + a) = 1 ∧ (w (60 + a) = n ∨ w (84 + a) = n) := by
  unfold gx_mt gx_of at z
  obtain ⟨z1, z2⟩ := (Bool.and_eq_true _ _).mp z
  obtain ⟨z3, _⟩ := (Bool.and_eq_true _ _).mp z1
  refine ⟨of_decide_eq_true z3, ?_⟩
  rcases (Bool.or_eq_true _ _).mp z2 with z4 | z4
  · exact Or.inl (of_decide_eq_true ((Bool.and_eq_true _ _).mp z4).2)
  · exact Or.inr (of_decide_eq_true ((Bool.and_eq_true _ _).mp z4).2)
section
variable {o : Nat} {ta la va ea fa ga ya ha ca ra w : Nat → Int32}
theorem cx_cat_l {post : SX → Prop} (n : Int32) (hp : ∀ e1, gx_K o ta la va e1 fa ga ya ha (dr_w n w 24) → (∀ j, (j < o * 24 ∨ o * 24 + 24 ≤ j) → e1 j = ea j) → post (nI o, ta, la, va, e1, fa, ga, ya, ha, ca, ra)) : ∀ d i, i + d = 24 → ∀ e1, gx_K o ta la va e1 fa ga ya ha (dr_w n w i) → (∀ j, (j < o * 24 ∨ o * 24 + 24 ≤ j) → e1 j = ea j) → wX_cutAllTouching_2 post n (nI o) (d + 1) (nI i) ta la va e1 fa ga ya ha ca ra := by
  intro d
  induction d with
  | zero =>
    intro i hi e1 K1 H1
    obtain rfl : i = 24 := by omega
    exact br_t (nI_le (a := 24) (b := 24) (by omega) (by decide)) (hp e1 K1 H1)
  | succ d ih =>
    intro i hi e1 K1 H1
    have hi2 : i < 24 := by omega
    refine br_f (nI_ge (b := 24) (by omega) (by decide)) (cx_mt K1 hi2 n 4 2 (gb_r (fun z => nm_r (nI_1 i) ?_) (fun z => cx_as K1 hi2 (fun s hs es => ⟨hs, ?_⟩))))
    · refine ih (i + 1) (by omega) e1 ?_ H1
      rw [dr_f z]; exact K1
    · rw [es, gb_n0]
      refine nm_e (nm_r (nI_1 i) (ih (i + 1) (by omega) (upd e1 (o * 24 + i) 0) ?_ (fun j hj => ?_)))
      · rw [dr_t z]; exact ⟨K1.1, gx_ue K1.2.1 hi2 0, gd_e0 K1.2.2 hi2⟩
      · rw [pk_un (by omega)]; exact H1 j hj
theorem cx_d29 {post : Int32 → SX → Prop} (K : gx_K o ta la va ea fa ga ya ha w) {n : Nat} (hn : n < 12) (x3 : Int32) (hp : ∀ e1, gx_K o ta la va e1 fa ga ya ha (dr_w (nI n) w 24) → (∀ j, (j < o * 24 ∨ o * 24 + 24 ≤ j) → e1 j = ea j) → post x3 (nI o, upd ta (o * 12 + n) 0, la, va, e1, fa, ga, ya, ha, ca, ra)) : wX_drop_29 post (nI n) x3 (nI o) ta la va ea fa ga ya ha ca ra := by
  unfold wX_drop_29
  refine ⟨25, cx_cat_l (nI n) (fun e1 K1 H1 => ?_) 24 0 rfl ea K (fun _ _ => rfl)⟩
  refine cx_ns K1 hn (fun s hs es => ⟨hs, ?_⟩)
  rw [es, gb_n0]
  exact nm_e (hp e1 K1 H1)
theorem cx_drop {post : Int32 → SX → Prop} (K : gx_K o ta la va ea fa ga ya ha w) (x p1 : Int32) (h0 : ¬ gx_N w x = true → post (-1) (nI o, ta, la, va, ea, fa, ga, ya, ha, ca, ra)) (h1 : ∀ n, n < 12 → x = nI n → gx_N w x = true → p1 = 0 → ¬ nI (gv_ct (gx_mt w x 4 2) 24) ≤ 0 → post (-4) (nI o, ta, la, va, ea, fa, ga, ya, ha, ca, ra)) (h2 : ∀ n, n < 12 → x = nI n → gx_N w x = true → ¬ (p1 = 0 ∧ ¬ nI (gv_ct (gx_mt w x 4 2) 24) ≤ 0) → ∀ e1, gx_K o ta la va e1 fa ga ya ha (dr_w (nI n) w 24) → (∀ j, (j < o * 24 ∨ o * 24 + 24 ≤ j) → e1 j = ea j) → post (nI (gv_ct (gx_mt w x 4 2) 24)) (nI o, upd ta (o * 12 + n) 0, la, va, e1, fa, ga, ya, ha, ca, ra)) : wpX_drop post (nI o, ta, la, va, ea, fa, ga, ya, ha, ca, ra) x p1 := by
  unfold wpX_drop
  refine cx_N K x (gb_r h0 (fun z => ?_))
  obtain ⟨n, hn, rfl, wn⟩ := gx_N_t z
  refine cx_cm K (nI n) 4 2 ?_
  by_cases z1 : p1 = 0
  · refine br_t z1 ?_
    by_cases z2 : nI (gv_ct (gx_mt w (nI n) 4 2) 24) ≤ 0
    · exact br_t z2 (cx_d29 K hn _ (h2 n hn rfl z (fun k => k.2 z2)))
    · exact br_f z2 (h1 n hn rfl z z1 z2)
  · exact br_f z1 (cx_d29 K hn _ (h2 n hn rfl z (fun k => z1 k.1)))
end
section
variable {q : Int32} {w cp fx : Nat → Int32}
theorem cy_drop_l {post : Int32 → SY → Prop} (n : Nat) (hn : n < 12) (x3 : Int32) (hp : post x3 (q, upd (dr_w (nI n) w 24) n 0, cp, fx)) : ∀ d i, i + d = 24 → wY_drop_32 post (nI n) x3 q (d + 1) (nI i) (dr_w (nI n) w i) cp fx := by
  intro d
  induction d with
  | zero =>
    intro i hi
    obtain rfl : i = 24 := by omega
    refine br_t (nI_le (a := 24) (b := 24) (by omega) (by decide)) ⟨vp_in_nI (by omega) (by decide), ?_⟩
    rw [nI_clamp (by omega)]
    exact nm_e hp
  | succ d ih =>
    intro i hi
    have q1 := ih (i + 1) (by omega)
    have hi2 : i < 24 := by omega
    have h70 : gx_mt (dr_w (nI n) w i) (nI n) 4 2 i = true → wY_drop_70 post (wY_drop_32 post (nI n) x3 q (d + 1)) (nI n) x3 (nI i) q (dr_w (nI n) w i) cp fx := by
      intro z
      rw [dr_t z] at q1
      obtain ⟨i1, i2⟩ := cy_ix 36 i 36 rfl (by omega)
      unfold wY_drop_70
      rw [i2]
      exact ⟨i1, nm_e (nm_r (nI_1 i) q1)⟩
    have hno : ¬ gx_mt (dr_w (nI n) w i) (nI n) 4 2 i = true → wY_drop_32 post (nI n) x3 q (d + 1) (nI (i + 1)) (dr_w (nI n) w i) cp fx := by
      intro z
      rw [dr_f z] at q1; exact q1
    refine br_f (nI_ge (b := 24) (by omega) (by decide)) (cy_A (nI i) ?_)
    rw [gx_A_j hi2]
    refine gb_r (fun z => nm_r (nI_1 i) (hno (fun k => z (decide_eq_true (gx_mt_to k).1)))) (fun z => cy_p0 hi2 ?_)
    have z0 := of_decide_eq_true z
    by_cases z1 : dr_w (nI n) w i (60 + i) = nI n
    · exact br_t z1 (h70 (gx_mt_of z0 (Or.inl z1)))
    · refine br_f z1 (cy_p1 hi2 ?_)
      by_cases z2 : dr_w (nI n) w i (84 + i) = nI n
      · exact br_t z2 (h70 (gx_mt_of z0 (Or.inr z2)))
      · refine br_f z2 (nm_r (nI_1 i) (hno (fun k => ?_)))
        rcases (gx_mt_to k).2 with k1 | k1
        · exact z1 k1
        · exact z2 k1
theorem cy_drop {post : Int32 → SY → Prop} (x p1 : Int32) (h0 : ¬ gx_N w x = true → post (-1) (q, w, cp, fx)) (h1 : gx_N w x = true → p1 = 0 → ¬ nI (gv_ct (gx_mt w x 4 2) 24) ≤ 0 → post (-4) (q, w, cp, fx)) (h2 : ∀ n, n < 12 → x = nI n → gx_N w x = true → ¬ (p1 = 0 ∧ ¬ nI (gv_ct (gx_mt w x 4 2) 24) ≤ 0) → post (nI (gv_ct (gx_mt w x 4 2) 24)) (q, upd (dr_w (nI n) w 24) n 0, cp, fx)) : wpY_drop post (q, w, cp, fx) x p1 := by
  unfold wpY_drop
  refine cy_N x (gb_r h0 (fun z => ?_))
  obtain ⟨n, hn, rfl, wn⟩ := gx_N_t z
  refine cy_deg (nI n) 4 2 (fun _ => ?_) (fun k => absurd (gx_D_y z (by decide) (by decide)) k)
  by_cases z1 : p1 = 0
  · refine br_t z1 ?_
    by_cases z2 : nI (gv_ct (gx_mt w (nI n) 4 2) 24) ≤ 0
    · exact br_t z2 ⟨25, cy_drop_l n hn _ (h2 n hn rfl z (fun k => k.2 z2)) 24 0 rfl⟩
    · exact br_f z2 (h1 z z1 z2)
  · exact br_f z1 ⟨25, cy_drop_l n hn _ (h2 n hn rfl z (fun k => z1 k.1)) 24 0 rfl⟩
end
/-! copies of a picture -/
section
variable {o : Nat} {ta la va ea fa ga ya ha ca ra w : Nat → Int32}
theorem cx_c74 {post : SX → Prop} {s d : Nat} (hs4 : s ≤ 4) (hd4 : d ≤ 4) (hsd : s < d ∨ d < s) (hb : ∀ a, a < 24 → ea (s * 24 + a) = 0 ∨ ea (s * 24 + a) = 1) (hp : ∀ e1 f1 g1 y1 h1, gx_cp 24 s d 24 ea e1 → gx_cp 24 s d 24 fa f1 → gx_cp 24 s d 24 ga g1 → gx_cp 24 s d 24 ya y1 → gx_cp 24 s d 24 ha h1 → post (nI o, ta, la, va, e1, f1, g1, y1, h1, ca, ra)) : ∀ dd i, i + dd = 24 → ∀ e1 f1 g1 y1 h1, gx_cp 24 s d i ea e1 → gx_cp 24 s d i fa f1 → gx_cp 24 s d i ga g1 → gx_cp 24 s d i ya y1 → gx_cp 24 s d i ha h1 → wX_copyPicture_74 post (nI s) (nI d) (nI o) (dd + 1) (nI i) ta la va e1 f1 g1 y1 h1 ca ra := by
  intro dd
  induction dd with
  | zero =>
    intro i hi e1 f1 g1 y1 h1 c1 c2 c3 c4 c5
    obtain rfl : i = 24 := by omega
    exact br_t (nI_le (a := 24) (b := 24) (by omega) (by decide)) (hp e1 f1 g1 y1 h1 c1 c2 c3 c4 c5)
  | succ dd ih =>
    intro i hi e1 f1 g1 y1 h1 c1 c2 c3 c4 c5
    have hx : s * 24 + i < d * 24 ∨ d * 24 + i ≤ s * 24 + i := by omega
    have e01 : e1 (s * 24 + i) = 0 ∨ e1 (s * 24 + i) = 1 := by rw [c1.2 _ hx]; exact hb i (by omega)
    have vs : vp_in (nI (s * 24 + i)) 120 := vp_in_nI (by omega) (by decide)
    have vd : vp_in (nI (d * 24 + i)) 120 := vp_in_nI (by omega) (by decide)
    refine br_f (nI_ge (b := 24) (by omega) (by decide)) (nm_r (gx_24 s i) (nm_r (gx_24 d i) ?_))
    rw [nI_clamp (n := s * 24 + i) (by omega), nI_clamp (n := d * 24 + i) (by omega), gb_n01 e01]
    exact ⟨vs, vd, nm_e ⟨vs, vd, nm_e ⟨vs, vd, nm_e ⟨vs, vd, nm_e ⟨vs, vd, nm_e (nm_r (nI_1 i) (ih (i + 1) (by omega) _ _ _ _ _ (gx_cps c1 hx) (gx_cps c2 hx) (gx_cps c3 hx) (gx_cps c4 hx) (gx_cps c5 hx)))⟩⟩⟩⟩⟩
theorem cx_c2 {post : SX → Prop} {s d : Nat} (hs4 : s ≤ 4) (hd4 : d ≤ 4) (hsd : s < d ∨ d < s) (hb : ∀ a, a < 24 → ea (s * 24 + a) = 0 ∨ ea (s * 24 + a) = 1) (hb2 : ∀ n, n < 12 → ta (s * 12 + n) = 0 ∨ ta (s * 12 + n) = 1) (hp : ∀ t1 l1 v1, gx_cp 12 s d 12 ta t1 → gx_cp 12 s d 12 la l1 → gx_cp 12 s d 12 va v1 → ∀ e1 f1 g1 y1 h1, gx_cp 24 s d 24 ea e1 → gx_cp 24 s d 24 fa f1 → gx_cp 24 s d 24 ga g1 → gx_cp 24 s d 24 ya y1 → gx_cp 24 s d 24 ha h1 → post (nI o, t1, l1, v1, e1, f1, g1, y1, h1, ca, ra)) : ∀ dd i, i + dd = 12 → ∀ t1 l1 v1, gx_cp 12 s d i ta t1 → gx_cp 12 s d i la l1 → gx_cp 12 s d i va v1 → wX_copyPicture_2 post (nI s) (nI d) (nI o) (dd + 1) (nI i) t1 l1 v1 ea fa ga ya ha ca ra := by
  intro dd
  induction dd with
  | zero =>
    intro i hi t1 l1 v1 c1 c2 c3
    obtain rfl : i = 12 := by omega
    exact br_t (nI_le (a := 12) (b := 12) (by omega) (by decide)) ⟨25, cx_c74 hs4 hd4 hsd hb (hp t1 l1 v1 c1 c2 c3) 24 0 rfl ea fa ga ya ha gx_cp0 gx_cp0 gx_cp0 gx_cp0 gx_cp0⟩
  | succ dd ih =>
    intro i hi t1 l1 v1 c1 c2 c3
    have hx : s * 12 + i < d * 12 ∨ d * 12 + i ≤ s * 12 + i := by omega
    have e01 : t1 (s * 12 + i) = 0 ∨ t1 (s * 12 + i) = 1 := by rw [c1.2 _ hx]; exact hb2 i (by omega)
    have vs : vp_in (nI (s * 12 + i)) 60 := vp_in_nI (by omega) (by decide)
    have vd : vp_in (nI (d * 12 + i)) 60 := vp_in_nI (by omega) (by decide)
    refine br_f (nI_ge (b := 12) (by omega) (by decide)) (nm_r (gx_12 s i) (nm_r (gx_12 d i) ?_))
    rw [nI_clamp (n := s * 12 + i) (by omega), nI_clamp (n := d * 12 + i) (by omega), gb_n01 e01]
    exact ⟨vs, vd, nm_e ⟨vs, vd, nm_e ⟨vs, vd, nm_e (nm_r (nI_1 i) (ih (i + 1) (by omega) _ _ _ (gx_cps c1 hx) (gx_cps c2 hx) (gx_cps c3 hx)))⟩⟩⟩
theorem cx_copy {post : SX → Prop} (K : gx_K o ta la va ea fa ga ya ha w) {d : Nat} (hd4 : d ≤ 4) (hsd : o < d ∨ d < o) (hp : ∀ t1 l1 v1 e1 f1 g1 y1 h1, gx_cp 12 o d 12 ta t1 → gx_cp 12 o d 12 la l1 → gx_cp 12 o d 12 va v1 → gx_cp 24 o d 24 ea e1 → gx_cp 24 o d 24 fa f1 → gx_cp 24 o d 24 ga g1 → gx_cp 24 o d 24 ya y1 → gx_cp 24 o d 24 ha h1 → post (nI o, t1, l1, v1, e1, f1, g1, y1, h1, ca, ra)) : wpX_copyPicture post (nI o, ta, la, va, ea, fa, ga, ya, ha, ca, ra) (nI o) (nI d) := by
  have hb : ∀ a, a < 24 → ea (o * 24 + a) = 0 ∨ ea (o * 24 + a) = 1 := fun a ha' => by rw [(K.2.1.2 a ha').1]; exact (K.2.2.2 a ha').1
  have hb2 : ∀ n, n < 12 → ta (o * 12 + n) = 0 ∨ ta (o * 12 + n) = 1 := fun n hn => by rw [(K.2.1.1 n hn).1]; exact (K.2.2.1 n hn).1
  exact ⟨13, cx_c2 K.1 hd4 hsd hb hb2 (fun t1 l1 v1 c1 c2 c3 e1 f1 g1 y1 h1 c4 c5 c6 c7 c8 => hp t1 l1 v1 e1 f1 g1 y1 h1 c1 c2 c3 c4 c5 c6 c7 c8) 12 0 rfl ta la va gx_cp0 gx_cp0 gx_cp0⟩
end
section
variable {w cp fx : Nat → Int32}
theorem cy_beg_l {post : Int32 → SY → Prop} {o : Nat} (ho : o < 4) (hp : ∀ c1, (∀ j, j < 156 → c1 (156 * o + j) = w j) → (∀ j, j < 156 * o → c1 j = cp j) → post (nI (o + 1)) (nI (o + 1), w, c1, fx)) : ∀ d i, i + d = 156 → ∀ c1, (∀ j, j < i → c1 (156 * o + j) = w j) → (∀ j, j < 156 * o → c1 j = cp j) → wY_begin_13 post (nI o) (d + 1) (nI i) w c1 fx := by
  intro d
  induction d with
  | zero =>
    intro i hi c1 k1 k2
    obtain rfl : i = 156 := by omega
    exact br_t (nI_le (a := 156) (b := 156) (by omega) (by decide)) (nm_r (nI_1 o) (hp c1 k1 k2))
  | succ d ih =>
    intro i hi c1 k1 k2
    refine br_f (nI_ge (b := 156) (by omega) (by decide)) ⟨vp_in_nI (by omega) (by decide), ?_⟩
    rw [gx_156, nI_clamp (n := i) (by omega), nI_clamp (n := 156 * o + i) (by omega)]
    refine ⟨vp_in_nI (by omega) (by decide), nm_e (nm_r (nI_1 i) (ih (i + 1) (by omega) _ (fun j hj => ?_) (fun j hj => ?_)))⟩
    · by_cases e1 : j = i
      · subst e1; exact pk_us
      · rw [pk_un (by omega)]; exact k1 j (by omega)
    · rw [pk_un (by omega)]; exact k2 j hj
theorem cy_gb_l {post : SY → Prop} {q : Int32} {o : Nat} (ho : o < 4) (hp : ∀ w1, (∀ j, j < 156 → w1 j = cp (156 * o + j)) → post (q, w1, cp, fx)) : ∀ d i, i + d = 156 → ∀ w1, (∀ j, j < i → w1 j = cp (156 * o + j)) → wY_goBack_2 post (nI o) q (d + 1) (nI i) w1 cp fx := by
  intro d
  induction d with
  | zero =>
    intro i hi w1 k1
    obtain rfl : i = 156 := by omega
    exact br_t (nI_le (a := 156) (b := 156) (by omega) (by decide)) (hp w1 k1)
  | succ d ih =>
    intro i hi w1 k1
    refine br_f (nI_ge (b := 156) (by omega) (by decide)) ?_
    rw [gx_156, nI_clamp (n := i) (by omega), nI_clamp (n := 156 * o + i) (by omega)]
    refine ⟨vp_in_nI (by omega) (by decide), vp_in_nI (by omega) (by decide), nm_e (nm_r (nI_1 i) (ih (i + 1) (by omega) _ (fun j hj => ?_)))⟩
    by_cases e1 : j = i
    · subst e1; exact pk_us
    · rw [pk_un e1]; exact k1 j (by omega)
theorem cy_gb {post : SY → Prop} {q : Int32} {o : Nat} (ho : o < 4) (hp : ∀ w1, (∀ j, j < 156 → w1 j = cp (156 * o + j)) → post (q, w1, cp, fx)) : wpY_goBack post (q, w, cp, fx) (nI o) := ⟨157, cy_gb_l ho hp 156 0 rfl w (fun j hj => absurd hj (Nat.not_lt_zero _))⟩
end
