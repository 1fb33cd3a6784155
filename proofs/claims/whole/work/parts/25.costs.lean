/-! distance and cheapest: both tables of costs against bf_it -/
def gx_wt (x : Int32) (w : Nat → Int32) (a : Nat) : Nat := if x = 0 then 1 else gx_h w a
theorem gx_wt_0 {x : Int32} {w : Nat → Int32} {a : Nat} (z : x = 0) : gx_wt x w a = 1 := if_pos z
theorem gx_wt_1 {x : Int32} {w : Nat → Int32} {a : Nat} (z : ¬ x = 0) : gx_wt x w a = gx_h w a := if_neg z
theorem gx_wt_le {w : Nat → Int32} (G : gx_gd w) (x : Int32) {a : Nat} (ha' : a < 24) : gx_wt x w a ≤ 99 := by
  by_cases z : x = 0
  · rw [gx_wt_0 z]; omega
  · rw [gx_wt_1 z]; exact (gx_hd G ha').1
def gx_ps (w : Nat → Int32) (ty x : Int32) (c : Nat → Nat) (i : Nat) : Nat → Nat := bf_ps (gx_of w ty) (gx_f w) (gx_g w) (gx_wt x w) c i
def gx_it (w : Nat → Int32) (ty x : Int32) (s k : Nat) : Nat → Nat := bf_it (gx_of w ty) (gx_f w) (gx_g w) (gx_wt x w) s k
def gx_rl (w : Nat → Int32) (ty x : Int32) (c : Nat → Nat) (i : Nat) : Nat → Nat := bf_rl (gx_of w ty) (gx_f w) (gx_g w) (gx_wt x w) c i
theorem gx_ps_s (w : Nat → Int32) (ty x : Int32) (c : Nat → Nat) (i : Nat) : gx_ps w ty x c (i + 1) = gx_rl w ty x (gx_ps w ty x c i) i := rfl
theorem gx_it_s (w : Nat → Int32) (ty x : Int32) (s k : Nat) : gx_it w ty x s (k + 1) = gx_ps w ty x (gx_it w ty x s k) 24 := rfl
theorem gx_it_0 (w : Nat → Int32) (ty x : Int32) (s : Nat) : gx_it w ty x s 0 = bf_i0 s := rfl
theorem gx_rl_n {w : Nat → Int32} {ty x : Int32} {c : Nat → Nat} {i : Nat} (z : ¬ gx_of w ty i = true) : gx_rl w ty x c i = c := bf_rl_n _ _ _ _ z
theorem gx_ps_B {w : Nat → Int32} (G : gx_gd w) (ty x : Int32) {c : Nat → Nat} {t : Nat} (B : bf_B t c) (ht : t ≤ 376) {i : Nat} (hi : i ≤ 24) : bf_B (t + i) (gx_ps w ty x c i) := bf_B_ps _ _ _ _ (fun _ ha' _ => gx_wt_le G x ha') B i hi (by omega)
theorem gx_it_B {w : Nat → Int32} (G : gx_gd w) (ty x : Int32) (s : Nat) {k : Nat} (hk : k ≤ 12) : bf_B (24 * k) (gx_it w ty x s k) := bf_B_it _ _ _ _ (fun _ ha' _ => gx_wt_le G x ha') s k hk
theorem gx_it_fix {w : Nat → Int32} (G : gx_gd w) (ty x : Int32) (s : Nat) : gx_it w ty x s 12 = gx_it w ty x s 11 := bf_fix _ _ _ _ (gx_hb G ty) s
def gx_ans (c : Nat) : Int32 := if c = 1000000 then -2 else nI c
theorem gx_ans_n {c : Nat} (z : c = 1000000) : gx_ans c = -2 := if_pos z
theorem gx_ans_p {c : Nat} (z : ¬ c = 1000000) : gx_ans c = nI c := if_neg z
section
variable {o : Nat} {ta la va ea fa ga ya ha ca ra w : Nat → Int32}
theorem cx_l51 {post : SX → Prop} {J : Int32 → (Nat → Int32) → (Nat → Int32) → (Nat → Int32) → (Nat → Int32) → (Nat → Int32) → (Nat → Int32) → (Nat → Int32) → (Nat → Int32) → (Nat → Int32) → (Nat → Int32) → Prop} (K : gx_K o ta la va ea fa ga ya ha w) (ty x : Int32) {i : Nat} (hi : i < 24) (ho : gx_of w ty i = true) {s : Int32} (hs : vp_in s 120) (es : s.toNatClampNeg = o * 24 + i) {c : Nat → Nat} {t : Nat} (B : bf_B t c) (ht : t ≤ 400) (hc : ∀ j, j < 12 → ca j = nI (c j)) {z0 z1 : Int32} (e0 : z0 = nI (gx_wt x w i)) (e1 : z1 = nI (c (gx_f w i))) (hJ : ∀ c1, (∀ j, j < 12 → c1 j = nI (gx_rl w ty x c i j)) → J (nI (i + 1)) ta la va ea fa ga ya ha c1 ra) : wX_lowerCosts_51 post J ty x (nI i) s z0 z1 (nI o) ta la va ea fa ga ya ha ca ra := by
  unfold wX_lowerCosts_51
  have g1 := gx_gd_ K.2.2 hi
  have w1 := gx_wt_le K.2.2 x hi
  have b1 := B (gx_f w i)
  have b2 := B (gx_g w i)
  subst e0 e1
  refine nm_r (nI_add _ _) ⟨hs, ?_⟩
  rw [es, (K.2.1.2 i hi).2.2.1, g1.2.1, nI_clamp (by omega), hc _ g1.1]
  refine ⟨vp_in_nI g1.1 (by decide), pk_le (c (gx_g w i)) (c (gx_f w i) + gx_wt x w i) (fun z => nm_r (nI_1 i) (hJ ca ?_)) (fun z => ⟨hs, vp_in_nI g1.1 (by decide), nm_e (nm_r (nI_1 i) (hJ _ ?_))⟩)⟩
  · rw [show gx_rl w ty x c i = c from bf_no (by omega)]; exact hc
  · exact bf_yes ho z ca nI hc _ rfl
theorem cx_lc_l {post : SX → Prop} (K : gx_K o ta la va ea fa ga ya ha w) (ty x : Int32) {c : Nat → Nat} {t : Nat} (B : bf_B t c) (ht : t ≤ 376) (hp : ∀ c1, (∀ j, j < 12 → c1 j = nI (gx_ps w ty x c 24 j)) → post (nI o, ta, la, va, ea, fa, ga, ya, ha, c1, ra)) : ∀ d i, i + d = 24 → ∀ c1, (∀ j, j < 12 → c1 j = nI (gx_ps w ty x c i j)) → wX_lowerCosts_2 post ty x (nI o) (d + 1) (nI i) ta la va ea fa ga ya ha c1 ra := by
  intro d
  induction d with
  | zero =>
    intro i hi c1 h1
    obtain rfl : i = 24 := by omega
    exact br_t (nI_le (a := 24) (b := 24) (by omega) (by decide)) (hp c1 h1)
  | succ d ih =>
    intro i hi c1 h1
    have hi2 : i < 24 := by omega
    have q1 := ih (i + 1) (by omega)
    rw [gx_ps_s] at q1
    have B1 := gx_ps_B K.2.2 ty x B ht (i := i) (by omega)
    have f1 := gx_fd K.2.2 hi2
    refine br_f (nI_ge (b := 24) (by omega) (by decide)) (cx_of K hi2 ty (gb_r (fun z => nm_r (nI_1 i) ?_) (fun z => cx_as K hi2 (fun s hs es => ⟨hs, ?_⟩))))
    · rw [gx_rl_n z] at q1; exact q1 c1 h1
    · rw [es, (K.2.1.2 i hi2).2.1, f1.2.1, (K.2.1.2 i hi2).2.2.2.2, nI_clamp (by omega)]
      refine ⟨vp_in_nI f1.1 (by decide), ?_⟩
      by_cases y : x = 0
      · exact br_t y (cx_l51 K ty x hi2 z hs es B1 (by omega) h1 (by rw [gx_wt_0 y]; rfl) (h1 _ f1.1) q1)
      · exact br_f y ⟨hs, cx_l51 K ty x hi2 z hs es B1 (by omega) h1 (by rw [gx_wt_1 y]; exact (gx_hd K.2.2 hi2).2) (h1 _ f1.1) q1⟩
theorem cx_l38 {post : Int32 → SX → Prop} (K : gx_K o ta la va ea fa ga ya ha w) (x1 ty x : Int32) {s g : Nat} (hg : g < 12) (eg : x1 - x1 / 12 * 12 = nI g) (hp : ∀ c1, post (gx_ans (gx_it w ty x s 11 g)) (nI o, ta, la, va, ea, fa, ga, ya, ha, c1, ra)) : ∀ d i, i + d = 11 → ∀ c1, (∀ j, j < 12 → c1 j = nI (gx_it w ty x s i j)) → wX_leastCost_38 post x1 ty x (d + 1) (nI (i + 1)) (nI o) ta la va ea fa ga ya ha c1 ra := by
  intro d
  induction d with
  | zero =>
    intro i hi c1 h1
    obtain rfl : i = 11 := by omega
    have B1 := gx_it_B K.2.2 ty x s (k := 11) (by omega) g
    refine br_t (nI_le (a := 12) (b := 12) (by omega) (by decide)) ⟨by decide, ?_⟩
    rw [eg, nI_clamp (by omega)]
    refine ⟨vp_in_nI hg (by decide), nm_r (h1 g hg) (pk_le 1000000 (gx_it w ty x s 11 g) (fun z => ?_) (fun z => ?_))⟩
    · have p1 := hp c1
      rw [gx_ans_n (by omega)] at p1; exact p1
    · have p1 := hp c1
      rw [gx_ans_p (by omega)] at p1; exact p1
  | succ d ih =>
    intro i hi c1 h1
    have q1 := ih (i + 1) (by omega)
    have B1 := gx_it_B K.2.2 ty x s (k := i) (by omega)
    refine br_f (nI_ge (a := i + 1) (b := 12) (by omega) (by decide)) ⟨25, cx_lc_l K ty x B1 (by omega) (fun c2 h2 => nm_r (nI_1 (i + 1)) (q1 c2 h2)) 24 0 rfl c1 h1⟩
theorem cx_l3 {post : Int32 → SX → Prop} (K : gx_K o ta la va ea fa ga ya ha w) (x1 ty x : Int32) {s g : Nat} (hs : s < 12) (es : x1 / 12 = nI s) (hg : g < 12) (eg : x1 - x1 / 12 * 12 = nI g) (hp : ∀ c1, post (gx_ans (gx_it w ty x s 11 g)) (nI o, ta, la, va, ea, fa, ga, ya, ha, c1, ra)) : ∀ d i, i + d = 12 → ∀ c1, (∀ j, j < i → c1 j = nI 1000000) → wX_leastCost_3 post x1 ty x (nI o) (d + 1) (nI i) ta la va ea fa ga ya ha c1 ra := by
  intro d
  induction d with
  | zero =>
    intro i hi c1 h1
    obtain rfl : i = 12 := by omega
    refine br_t (nI_le (a := 12) (b := 12) (by omega) (by decide)) ⟨by decide, ?_⟩
    refine ⟨by rw [es]; exact vp_in_nI hs (by decide), nm_e ⟨12, cx_l38 K x1 ty x hg eg hp 11 0 rfl _ (fun j hj => ?_)⟩⟩
    rw [es, nI_clamp (by omega), gx_it_0]
    by_cases e1 : j = s
    · subst e1; rw [pk_us, show bf_i0 j j = 0 from if_pos rfl]; rfl
    · rw [pk_un e1, show bf_i0 s j = 1000000 from if_neg e1]; exact h1 j hj
  | succ d ih =>
    intro i hi c1 h1
    refine br_f (nI_ge (b := 12) (by omega) (by decide)) ⟨vp_in_nI (by omega) (by decide), ?_⟩
    rw [nI_clamp (by omega)]
    refine nm_e (nm_r (nI_1 i) (ih (i + 1) (by omega) _ (fun j hj => ?_)))
    by_cases e1 : j = i
    · subst e1; exact pk_us
    · rw [pk_un e1]; exact h1 j (by omega)
theorem cx_lc {post : Int32 → SX → Prop} (K : gx_K o ta la va ea fa ga ya ha w) (x1 ty x : Int32) {s g : Nat} (hs : s < 12) (es : x1 / 12 = nI s) (hg : g < 12) (eg : x1 - x1 / 12 * 12 = nI g) (hp : ∀ c1, post (gx_ans (gx_it w ty x s 11 g)) (nI o, ta, la, va, ea, fa, ga, ya, ha, c1, ra)) : wpX_leastCost post (nI o, ta, la, va, ea, fa, ga, ya, ha, ca, ra) x1 ty x := ⟨13, cx_l3 K x1 ty x hs es hg eg hp 12 0 rfl ca (fun j hj => absurd hj (Nat.not_lt_zero _))⟩
end
section
variable {q : Int32} {w cp fx : Nat → Int32}
theorem cy_115 {post : SY → Prop} {J0 J : Int32 → (Nat → Int32) → (Nat → Int32) → (Nat → Int32) → Prop} (G : gx_gd w) (ty x x4 : Int32) {i : Nat} (hi : i < 24) (ho : gx_of w ty i = true) {c : Nat → Nat} {t : Nat} (B : bf_B t c) (ht : t ≤ 390) (hc : ∀ j, j < 12 → fx j = gx_fe (c j)) (hf : ¬ c (gx_f w i) = 1000000) {z0 z1 : Int32} (e0 : z0 = nI (gx_wt x w i)) (e1 : z1 = nI (c (gx_f w i))) (hJ : ∀ c1, (∀ j, j < 12 → c1 j = gx_fe (gx_rl w ty x c i j)) → J (nI (i + 1)) w cp c1) : wY_measure_115 post J0 J ty x x4 (nI i) (nI (gx_g w i)) z0 z1 q w cp fx := by
  unfold wY_measure_115
  have g1 := gx_gd_ G hi
  have w1 := gx_wt_le G x hi
  have b1 := B (gx_f w i)
  have b2 := B (gx_g w i)
  subst e0 e1
  refine nm_r (nI_add _ _) ⟨vp_in_nI g1.1 (by decide), ?_⟩
  rw [nI_clamp (by omega), hc _ g1.1]
  by_cases z : c (gx_g w i) = 1000000
  · refine br_t (by rw [z, gx_fe_n]; decide) ⟨vp_in_nI g1.1 (by decide), nm_e (nm_r (nI_1 i) (hJ _ ?_))⟩
    exact bf_yes ho (by omega) fx gx_fe hc _ (gx_fe_p (by omega)).symm
  · rw [gx_fe_p (c := c (gx_g w i)) (by omega)]
    refine br_f (nI_pos (by omega)) ⟨vp_in_nI g1.1 (by decide), pk_le (c (gx_g w i)) (c (gx_f w i) + gx_wt x w i) (fun z => nm_r (nI_1 i) (hJ fx ?_)) (fun z => ⟨vp_in_nI g1.1 (by decide), nm_e (nm_r (nI_1 i) (hJ _ ?_))⟩)⟩
    · rw [show gx_rl w ty x c i = c from bf_no (by omega)]; exact hc
    · exact bf_yes ho z fx gx_fe hc _ (gx_fe_p (by omega)).symm
theorem cy_m47 {post : SY → Prop} {J : Int32 → (Nat → Int32) → (Nat → Int32) → (Nat → Int32) → Prop} (G : gx_gd w) (ty x x4 : Int32) {c : Nat → Nat} {t : Nat} (B : bf_B t c) (ht : t ≤ 366) (hJ : ∀ c1, (∀ j, j < 12 → c1 j = gx_fe (gx_ps w ty x c 24 j)) → J (x4 + 1) w cp c1) : ∀ d i, i + d = 24 → ∀ c1, (∀ j, j < 12 → c1 j = gx_fe (gx_ps w ty x c i j)) → wY_measure_47 post J ty x x4 q (d + 1) (nI i) w cp c1 := by
  intro d
  induction d with
  | zero =>
    intro i hi c1 h1
    obtain rfl : i = 24 := by omega
    exact br_t (nI_le (a := 24) (b := 24) (by omega) (by decide)) (nm_e (hJ c1 h1))
  | succ d ih =>
    intro i hi c1 h1
    have hi2 : i < 24 := by omega
    have q1 := ih (i + 1) (by omega)
    rw [gx_ps_s] at q1
    have B1 := gx_ps_B G ty x B (by omega) (i := i) (by omega)
    have f1 := gx_fd G hi2
    have g1 := gx_gd_ G hi2
    have b1 := B1 (gx_f w i)
    refine br_f (nI_ge (b := 24) (by omega) (by decide)) (cy_of hi2 ty (gb_r (fun z => nm_r (nI_1 i) ?_) (fun z => cy_p0 hi2 ?_)))
    · rw [gx_rl_n z] at q1; exact q1 c1 h1
    · rw [f1.2.1, nI_clamp (by omega), h1 _ f1.1]
      refine ⟨vp_in_nI f1.1 (by decide), ?_⟩
      by_cases y : gx_ps w ty x c i (gx_f w i) = 1000000
      · refine br_t (by rw [y, gx_fe_n]; decide) (nm_r (nI_1 i) (q1 c1 ?_))
        rw [show gx_rl w ty x (gx_ps w ty x c i) i = gx_ps w ty x c i from bf_far B1 (by omega) y]; exact h1
      · rw [gx_fe_p (c := gx_ps w ty x c i (gx_f w i)) (by omega)]
        refine br_f (nI_pos (by omega)) (cy_p1 hi2 (cy_p0 hi2 ?_))
        rw [f1.2.1, g1.2.1]
        refine ⟨vp_in_nI f1.1 (by decide), ?_⟩
        have e1 : c1 (nI (gx_f w i)).toNatClampNeg = nI (gx_ps w ty x c i (gx_f w i)) := by rw [nI_clamp (by omega), h1 _ f1.1, gx_fe_p (by omega)]
        by_cases y2 : x = 0
        · exact br_t y2 (cy_115 G ty x x4 hi2 z B1 (by omega) h1 y (by rw [gx_wt_0 y2]; rfl) e1 q1)
        · exact br_f y2 (cy_p3 hi2 (cy_115 G ty x x4 hi2 z B1 (by omega) h1 y (by rw [gx_wt_1 y2]; exact (gx_hd G hi2).2) e1 q1))
theorem cy_m37 {post : SY → Prop} (G : gx_gd w) (ty x : Int32) (s : Nat) (hp : ∀ c1, (∀ j, j < 12 → c1 j = gx_fe (gx_it w ty x s 12 j)) → post (q, w, cp, c1)) : ∀ d i, i + d = 12 → ∀ c1, (∀ j, j < 12 → c1 j = gx_fe (gx_it w ty x s i j)) → wY_measure_37 post ty x q (d + 1) (nI i) w cp c1 := by
  intro d
  induction d with
  | zero =>
    intro i hi c1 h1
    obtain rfl : i = 12 := by omega
    exact br_t (nI_le (a := 12) (b := 12) (by omega) (by decide)) (hp c1 h1)
  | succ d ih =>
    intro i hi c1 h1
    have q1 := ih (i + 1) (by omega)
    have B1 := gx_it_B G ty x s (k := i) (by omega)
    refine br_f (nI_ge (b := 12) (by omega) (by decide)) ⟨25, cy_m47 G ty x (nI i) B1 (by omega) (fun c2 h2 => ?_) 24 0 rfl c1 h1⟩
    rw [nI_1 i]
    exact q1 c2 h2
theorem cy_m3 {post : SY → Prop} (G : gx_gd w) (ty x : Int32) {s : Nat} (hs : s < 12) (hp : ∀ c1, (∀ j, j < 12 → c1 j = gx_fe (gx_it w ty x s 12 j)) → post (q, w, cp, c1)) : ∀ d i, i + d = 12 → ∀ c1, (∀ j, j < i → c1 j = gx_fe (bf_i0 s j)) → wY_measure_3 post (nI s) ty x q (d + 1) (nI i) w cp c1 := by
  intro d
  induction d with
  | zero =>
    intro i hi c1 h1
    obtain rfl : i = 12 := by omega
    exact br_t (nI_le (a := 12) (b := 12) (by omega) (by decide)) ⟨13, cy_m37 G ty x s hp 12 0 rfl c1 h1⟩
  | succ d ih =>
    intro i hi c1 h1
    have q1 := ih (i + 1) (by omega)
    refine br_f (nI_ge (b := 12) (by omega) (by decide)) ?_
    rw [nI_clamp (by omega)]
    have nx : ∀ y, y = gx_fe (bf_i0 s i) → wY_measure_3 post (nI s) ty x q (d + 1) (nI (i + 1)) w cp (upd c1 i y) := by
      intro y ey
      refine q1 _ (fun j hj => ?_)
      by_cases e1 : j = i
      · subst e1; exact pk_us.trans ey
      · rw [pk_un e1]; exact h1 j (by omega)
    refine pk_eq i s (fun e1 => ⟨vp_in_nI (by omega) (by decide), nm_e (nm_r (nI_1 i) (nx _ ?_))⟩) (fun e1 => ⟨vp_in_nI (by omega) (by decide), nm_e (nm_r (nI_1 i) (nx _ ?_))⟩)
    · rw [show bf_i0 s i = 0 from if_pos e1]; rfl
    · rw [show bf_i0 s i = 1000000 from if_neg e1, gx_fe_n]
theorem cy_me {post : SY → Prop} (G : gx_gd w) (ty x : Int32) {s : Nat} (hs : s < 12) (hp : ∀ c1, (∀ j, j < 12 → c1 j = gx_fe (gx_it w ty x s 12 j)) → post (q, w, cp, c1)) : wpY_measure post (q, w, cp, fx) (nI s) ty x := ⟨13, cy_m3 G ty x hs hp 12 0 rfl fx (fun j hj => absurd hj (Nat.not_lt_zero _))⟩
theorem cy_way {post : Int32 → SY → Prop} (G : gx_gd w) (x1 ty x : Int32) (h0 : ¬ (gx_E w x1 = true ∧ gx_in 4 ty = true) → post (-1) (q, w, cp, fx)) (h1 : gx_E w x1 = true → gx_in 4 ty = true → ∀ s g, s < 12 → g < 12 → x1 / 12 = nI s → x1 - x1 / 12 * 12 = nI g → ∀ c1, post (gx_ans (gx_it w ty x s 11 g)) (q, w, cp, c1)) : wpY_way post (q, w, cp, fx) x1 ty x := by
  unfold wpY_way
  refine cy_E x1 (gb_n (fun z => cy_T ty (gb_n (fun z1 => ⟨by decide, ?_⟩) (fun z1 => h0 (fun k => z1 k.2)))) (fun z => h0 (fun k => z k.1)))
  obtain ⟨_, s, g, hs, hg, es, eg, _, _⟩ := gx_E_t z
  have H := h1 z z1 s g hs hg es eg
  rw [eg, es]
  refine cy_me G ty x hs (fun c1 k1 => ⟨by decide, vp_in_nI hg (by decide), ?_⟩)
  have b1 := gx_it_B G ty x s (k := 12) (by omega) g
  rw [nI_clamp (by omega), k1 g hg]
  rw [← gx_it_fix G ty x s] at H
  by_cases y : gx_it w ty x s 12 g = 1000000
  · rw [gx_ans_n y] at H
    exact br_f (by rw [y, gx_fe_n]; decide) (H c1)
  · rw [gx_ans_p y] at H
    rw [gx_fe_p (c := gx_it w ty x s 12 g) (by omega)]
    exact br_t (nI_pos' (by omega)) ⟨by decide, vp_in_nI hg (by decide), H c1⟩
end
theorem i_vc_distance {k : Nat} {u : SX} {v : SY} (I : i_Rel k u v) (hk : k + 4 ≤ 2048) (v1 : Int32) (v2 : Int32) : wpX_distance (fun r u' => wpY_distance (fun r' v' => r' = r ∧ i_Rel (k + 4) u' v') v v1 v2) u v1 v2 := by
  obtain ⟨o, ta, la, va, ea, fa, ga, ya, ha, ca, ra, w, cp, fx, rfl, rfl, R⟩ := I
  have K := ir_K R
  unfold wpX_distance wpY_distance
  refine cx_E K v1 (gb_r (fun z => ?_) (fun z => cx_T v2 (gb_r (fun z1 => ?_) (fun z1 => ?_))))
  · exact cy_way K.2.2 v1 v2 0 (fun _ => ⟨rfl, ir_mk R⟩) (fun k1 => absurd k1 z)
  · exact cy_way K.2.2 v1 v2 0 (fun _ => ⟨rfl, ir_mk R⟩) (fun _ k1 => absurd k1 z1)
  · obtain ⟨_, s, g, hs, hg, es, eg, _, _⟩ := gx_E_t z
    refine cx_lc K v1 v2 0 hs es hg eg (fun c1 => ?_)
    refine cy_way K.2.2 v1 v2 0 (fun k1 => absurd ⟨z, z1⟩ k1) (fun _ _ s2 g2 hs2 hg2 es2 eg2 c2 => ⟨?_, ir_mk R⟩)
    obtain rfl : s = s2 := (nI_eq (by omega) (by omega)).mp (es.symm.trans es2)
    obtain rfl : g = g2 := (nI_eq (by omega) (by omega)).mp (eg.symm.trans eg2)
    rfl
theorem i_vc_cheapest {k : Nat} {u : SX} {v : SY} (I : i_Rel k u v) (hk : k + 4 ≤ 2048) (v1 : Int32) (v2 : Int32) : wpX_cheapest (fun r u' => wpY_cheapest (fun r' v' => r' = r ∧ i_Rel (k + 4) u' v') v v1 v2) u v1 v2 := by
  obtain ⟨o, ta, la, va, ea, fa, ga, ya, ha, ca, ra, w, cp, fx, rfl, rfl, R⟩ := I
  have K := ir_K R
  unfold wpX_cheapest wpY_cheapest
  refine cx_E K v1 (gb_r (fun z => ?_) (fun z => cx_T v2 (gb_r (fun z1 => ?_) (fun z1 => ?_))))
  · exact cy_way K.2.2 v1 v2 1 (fun _ => ⟨rfl, ir_mk R⟩) (fun k1 => absurd k1 z)
  · exact cy_way K.2.2 v1 v2 1 (fun _ => ⟨rfl, ir_mk R⟩) (fun _ k1 => absurd k1 z1)
  · obtain ⟨_, s, g, hs, hg, es, eg, _, _⟩ := gx_E_t z
    refine cx_lc K v1 v2 1 hs es hg eg (fun c1 => ?_)
    refine cy_way K.2.2 v1 v2 1 (fun k1 => absurd ⟨z, z1⟩ k1) (fun _ _ s2 g2 hs2 hg2 es2 eg2 c2 => ⟨?_, ir_mk R⟩)
    obtain rfl : s = s2 := (nI_eq (by omega) (by omega)).mp (es.symm.trans es2)
    obtain rfl : g = g2 := (nI_eq (by omega) (by omega)).mp (eg.symm.trans eg2)
    rfl
