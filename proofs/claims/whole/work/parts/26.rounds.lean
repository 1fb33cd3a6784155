/-! rounds: masks against what bf_it reaches -/
def gx_I (w : Nat → Int32) (ty : Int32) (k : Nat) (f : Nat → Int32) : Prop := wa_I (gx_of w ty) (gx_f w) (gx_g w) (gx_wt 0 w) k f
def gx_J (w : Nat → Int32) (ty : Int32) (k : Nat) (f : Nat → Int32) : Prop := wa_J (gx_of w ty) (gx_f w) (gx_g w) (gx_wt 0 w) k f
def gx_Q (w : Nat → Int32) (ty : Int32) (n m : Nat) : Bool := decide (gx_it w ty 0 n 12 m < 1000000)
theorem gx_I_iff {w : Nat → Int32} (G : gx_gd w) {ty : Int32} {f : Nat → Int32} (I : gx_I w ty 12 f) {n m : Nat} (hn : n < 12) (hm : m < 12) : bt (f n) m = gx_Q w ty n m := by
  have z := wa_iff (gx_of w ty) (gx_f w) (gx_g w) (gx_wt 0 w) (gx_hb G ty) I hn hm
  cases hb : bt (f n) m
  · exact (decide_eq_false (fun k => absurd (hb.symm.trans (z.mpr k)) (by decide))).symm
  · exact (decide_eq_true (z.mp hb)).symm
theorem gx_Q_w {w : Nat → Int32} (G : gx_gd w) {ty : Int32} {n m : Nat} (hn : w n = 1) (z : gx_Q w ty n m = true) : w m = 1 := by
  refine bf_it_S (gx_of w ty) (gx_f w) (gx_g w) (gx_wt 0 w) (S := fun x => w x = 1) (fun a ha' h1 _ => (gx_gd_ G ha').2.2 (gx_of1 h1)) hn 12 m (of_decide_eq_true z)
def gx_fw (k : Nat) (f : Nat → Int32) (i n : Nat) : Int32 := if n < i then (if bt (f n) k = true then f n ||| f k else f n) else f n
theorem gx_fw_k (k : Nat) (f : Nat → Int32) (i : Nat) : gx_fw k f i k = f k := by
  unfold gx_fw
  split
  · split
    · exact Int32.or_self
    · rfl
  · rfl
theorem gx_fw_i (k : Nat) (f : Nat → Int32) (i : Nat) : gx_fw k f i i = f i := if_neg (Nat.lt_irrefl i)
theorem gx_fw_s {k : Nat} {f : Nat → Int32} {i n : Nat} (z : n ≠ i) : gx_fw k f (i + 1) n = gx_fw k f i n := by
  unfold gx_fw
  by_cases h1 : n < i
  · rw [if_pos h1, if_pos (by omega)]
  · rw [if_neg h1, if_neg (by omega)]
theorem gx_fw_t {k : Nat} {f : Nat → Int32} {i : Nat} (z : bt (f i) k = true) : gx_fw k f (i + 1) i = f i ||| f k := by
  unfold gx_fw; rw [if_pos (by omega), if_pos z]
theorem gx_fw_f {k : Nat} {f : Nat → Int32} {i : Nat} (z : ¬ bt (f i) k = true) : gx_fw k f (i + 1) i = f i := by
  unfold gx_fw; rw [if_pos (by omega), if_neg z]
section
variable {o : Nat} {ta la va ea fa ga ya ha ca ra w : Nat → Int32}
theorem cx_re {post : Int32 → Prop} {n m : Nat} (hn : n < 12) (hm : m < 12) (hp : post (gx_b (bt (ra n) m))) : wpX_reaches post (nI o, ta, la, va, ea, fa, ga, ya, ha, ca, ra) (nI n) (nI m) := by
  refine ⟨vp_in_nI hn (by decide), ?_⟩
  rw [nI_clamp (by omega)]
  exact gb_1 (wa_bit hm (ra n)) hp
theorem cx_f84 {post : SX → Prop} {J : Int32 → (Nat → Int32) → (Nat → Int32) → (Nat → Int32) → (Nat → Int32) → (Nat → Int32) → (Nat → Int32) → (Nat → Int32) → (Nat → Int32) → (Nat → Int32) → (Nat → Int32) → Prop} {k : Nat} (hk : k < 12) (f : Nat → Int32) (hJ : ∀ r1, (∀ n, n < 12 → r1 n = gx_fw k f 12 n) → J (nI (k + 1)) ta la va ea fa ga ya ha ca r1) : ∀ d i, i + d = 12 → ∀ r1, (∀ n, n < 12 → r1 n = gx_fw k f i n) → wX_fillReach_84 post J (nI k) (nI o) (d + 1) (nI i) ta la va ea fa ga ya ha ca r1 := by
  intro d
  induction d with
  | zero =>
    intro i hi r1 h1
    obtain rfl : i = 12 := by omega
    exact br_t (nI_le (a := 12) (b := 12) (by omega) (by decide)) (nm_r (nI_1 k) (hJ r1 h1))
  | succ d ih =>
    intro i hi r1 h1
    have hi2 : i < 12 := by omega
    have q1 := ih (i + 1) (by omega)
    have e1 : r1 i = f i := (h1 i hi2).trans (gx_fw_i k f i)
    have e2 : r1 k = f k := (h1 k hk).trans (gx_fw_k k f i)
    refine br_f (nI_ge (b := 12) (by omega) (by decide)) (cx_re hi2 hk ?_)
    rw [e1]
    refine gb_r (fun z => nm_r (nI_1 i) (q1 r1 (fun n hn => ?_))) (fun z => ⟨vp_in_nI hi2 (by decide), vp_in_nI hk (by decide), vp_in_nI hi2 (by decide), ?_⟩)
    · by_cases e : n = i
      · subst e; rw [gx_fw_f z]; exact e1
      · rw [gx_fw_s e]; exact h1 n hn
    · rw [nI_clamp (n := i) (by omega), nI_clamp (n := k) (by omega), e1, e2]
      refine nm_e (nm_r (nI_1 i) (q1 _ (fun n hn => ?_)))
      by_cases e : n = i
      · subst e; rw [gx_fw_t z, pk_us]
      · rw [gx_fw_s e, pk_un e]; exact h1 n hn
theorem cx_f76 {post : SX → Prop} (G : gx_gd w) (ty : Int32) (hp : ∀ r1, gx_I w ty 12 r1 → post (nI o, ta, la, va, ea, fa, ga, ya, ha, ca, r1)) : ∀ d k, k + d = 12 → ∀ r1, gx_I w ty k r1 → wX_fillReach_76 post (nI o) (d + 1) (nI k) ta la va ea fa ga ya ha ca r1 := by
  intro d
  induction d with
  | zero =>
    intro k hk r1 h1
    obtain rfl : k = 12 := by omega
    exact br_t (nI_le (a := 12) (b := 12) (by omega) (by decide)) (hp r1 h1)
  | succ d ih =>
    intro k hk r1 h1
    have q1 := ih (k + 1) (by omega)
    refine br_f (nI_ge (b := 12) (by omega) (by decide)) ⟨13, cx_f84 (by omega) r1 (fun r2 h2 => q1 r2 ?_) 12 0 rfl r1 (fun n _ => (if_neg (Nat.not_lt_zero n)).symm)⟩
    refine wa_st (gx_of w ty) (gx_f w) (gx_g w) (gx_wt 0 w) (gx_hb G ty) (fun a ha' _ => gx_wt_le G 0 ha') (by omega) h1 (fun n hn => ?_)
    rw [h2 n hn]
    exact if_pos hn
theorem cx_f25 {post : SX → Prop} (K : gx_K o ta la va ea fa ga ya ha w) (ty : Int32) (hp : ∀ r1, gx_I w ty 12 r1 → post (nI o, ta, la, va, ea, fa, ga, ya, ha, ca, r1)) : ∀ d i, i + d = 24 → ∀ r1, gx_J w ty i r1 → wX_fillReach_25 post ty (nI o) (d + 1) (nI i) ta la va ea fa ga ya ha ca r1 := by
  intro d
  induction d with
  | zero =>
    intro i hi r1 h1
    obtain rfl : i = 24 := by omega
    exact br_t (nI_le (a := 24) (b := 24) (by omega) (by decide)) ⟨13, cx_f76 K.2.2 ty hp 12 0 rfl r1 (wa_I0 _ _ _ _ h1)⟩
  | succ d ih =>
    intro i hi r1 h1
    have hi2 : i < 24 := by omega
    have q1 := ih (i + 1) (by omega)
    have f1 := gx_fd K.2.2 hi2
    have g1 := gx_gd_ K.2.2 hi2
    refine br_f (nI_ge (b := 24) (by omega) (by decide)) (cx_of K hi2 ty (gb_r (fun z => nm_r (nI_1 i) (q1 r1 (wa_Jn _ _ _ _ z h1))) (fun z => cx_as K hi2 (fun s hs es => ⟨hs, ?_⟩))))
    rw [es, (K.2.1.2 i hi2).2.1, (K.2.1.2 i hi2).2.2.1, f1.2.1, g1.2.1, nI_clamp (by omega)]
    refine ⟨vp_in_nI f1.1 (by decide), hs, vp_in_nI f1.1 (by decide), nm_e (nm_r (nI_1 i) (q1 _ ?_))⟩
    exact wa_Jt (gx_of w ty) (gx_f w) (gx_g w) (gx_wt 0 w) (gx_hb K.2.2 ty) (fun a ha' _ => gx_wt_le K.2.2 0 ha') hi2 z h1 pk_us (fun n _ e => pk_un e)
theorem cx_f2 {post : SX → Prop} (K : gx_K o ta la va ea fa ga ya ha w) (ty : Int32) (hp : ∀ r1, gx_I w ty 12 r1 → post (nI o, ta, la, va, ea, fa, ga, ya, ha, ca, r1)) : ∀ d i, i + d = 12 → ∀ r1, (∀ n, n < i → r1 n = (1 : Int32) <<< (nI n &&& 31)) → wX_fillReach_2 post ty (nI o) (d + 1) (nI i) ta la va ea fa ga ya ha ca r1 := by
  intro d
  induction d with
  | zero =>
    intro i hi r1 h1
    obtain rfl : i = 12 := by omega
    exact br_t (nI_le (a := 12) (b := 12) (by omega) (by decide)) ⟨25, cx_f25 K ty hp 24 0 rfl r1 (wa_J0 _ _ _ _ h1)⟩
  | succ d ih =>
    intro i hi r1 h1
    refine br_f (nI_ge (b := 12) (by omega) (by decide)) ⟨vp_in_nI (by omega) (by decide), ?_⟩
    rw [nI_clamp (by omega)]
    refine nm_e (nm_r (nI_1 i) (ih (i + 1) (by omega) _ (fun n hn => ?_)))
    by_cases e : n = i
    · subst e; exact pk_us
    · rw [pk_un e]; exact h1 n (by omega)
theorem cx_fr {post : SX → Prop} (K : gx_K o ta la va ea fa ga ya ha w) (ty : Int32) (hp : ∀ r1, gx_I w ty 12 r1 → post (nI o, ta, la, va, ea, fa, ga, ya, ha, ca, r1)) : wpX_fillReach post (nI o, ta, la, va, ea, fa, ga, ya, ha, ca, ra) ty := ⟨13, cx_f2 K ty hp 12 0 rfl ra (fun n hn => absurd hn (Nat.not_lt_zero _))⟩
theorem cx_lg {post : Int32 → Prop} {n : Nat} (hn : n < 12) (hp : post (gx_b (gv_no (fun m => bt (ra n) m && bt (ra m) n) n))) : ∀ d m, m + d = n → gv_no (fun m => bt (ra n) m && bt (ra m) n) m = true → wX_isLeastOfItsGroup_2 post (nI n) (nI o) ta la va ea fa ga ya ha ca ra (d + 1) (nI m) := by
  intro d
  induction d with
  | zero =>
    intro m hm z
    obtain rfl : m = n := by omega
    rw [z] at hp
    exact br_t (nI_le (Nat.le_refl _) (by omega)) hp
  | succ d ih =>
    intro m hm z
    have hm2 : m < n := by omega
    have q1 := ih (m + 1) (by omega)
    have nx : ¬ (bt (ra n) m && bt (ra m) n) = true → wX_isLeastOfItsGroup_2 post (nI n) (nI o) ta la va ea fa ga ya ha ca ra (d + 1) (nI (m + 1)) := by
      intro k
      apply q1
      show (gv_no (fun m => bt (ra n) m && bt (ra m) n) m && !(bt (ra n) m && bt (ra m) n)) = true
      rw [z, gb_nt k]; rfl
    refine br_f (nI_ge hm2 (by omega)) (cx_re hn (by omega) (gb_r (fun z1 => nm_r (nI_1 m) (nx (fun k => z1 ((Bool.and_eq_true _ _).mp k).1))) (fun z1 => cx_re (by omega) hn (gb_r (fun z2 => nm_r (nI_1 m) (nx (fun k => z2 ((Bool.and_eq_true _ _).mp k).2))) (fun z2 => ?_)))))
    rw [gv_no_t n m hm2 (by show (bt (ra n) m && bt (ra m) n) = true; rw [z1, z2]; rfl)] at hp
    exact hp
def gx_rx (w r : Nat → Int32) (n : Nat) : Bool := decide (w n = 1) && gv_no (fun m => bt (r n) m && bt (r m) n) n
theorem cx_r19 {post : Int32 → SX → Prop} (K : gx_K o ta la va ea fa ga ya ha w) (hp : post (nI (gv_ct (gx_rx w ra) 12)) (nI o, ta, la, va, ea, fa, ga, ya, ha, ca, ra)) : ∀ d i, i + d = 12 → wX_rounds_19 post (nI o) ta la va ea fa ga ya ha ca ra (d + 1) (nI (gv_ct (gx_rx w ra) i)) (nI i) := by
  intro d
  induction d with
  | zero =>
    intro i hi
    obtain rfl : i = 12 := by omega
    exact br_t (nI_le (a := 12) (b := 12) (by omega) (by decide)) hp
  | succ d ih =>
    intro i hi
    have hi2 : i < 12 := by omega
    have q1 := ih (i + 1) (by omega)
    have nx : ¬ gx_rx w ra i = true → wX_rounds_19 post (nI o) ta la va ea fa ga ya ha ca ra (d + 1) (nI (gv_ct (gx_rx w ra) i)) (nI (i + 1)) := by
      intro z
      rw [gv_ct_f z] at q1; exact q1
    refine br_f (nI_ge (b := 12) (by omega) (by decide)) (cx_N K (nI i) ?_)
    rw [gx_N_j hi2]
    refine gb_r (fun z => nm_r (nI_1 i) (nx (fun k => z ((Bool.and_eq_true _ _).mp k).1))) (fun z => ⟨i + 1, cx_lg hi2 (gb_r (fun z1 => nm_r (nI_1 i) (nx (fun k => z1 ((Bool.and_eq_true _ _).mp k).2))) (fun z1 => nm_r (nI_1 _) (nm_r (nI_1 i) ?_))) i 0 (Nat.zero_add i) rfl⟩)
    have z2 : gx_rx w ra i = true := by unfold gx_rx; rw [z, z1]; rfl
    rw [gv_ct_t z2] at q1
    exact q1
end
def gx_back (w : Nat → Int32) (ty : Int32) (n m : Nat) : Bool := decide (w m = 1) && (gx_Q w ty n m && gx_Q w ty m n)
def gx_bn (w : Nat → Int32) (ty : Int32) (n m : Nat) : Bool := decide (w n = 1) && gv_no (gx_back w ty n) m
theorem gx_bn_s (w : Nat → Int32) (ty : Int32) (n m : Nat) : gx_bn w ty n (m + 1) = (gx_bn w ty n m && !(gx_back w ty n m)) := by
  show (decide (w n = 1) && (gv_no (gx_back w ty n) m && !(gx_back w ty n m))) = _
  rw [← Bool.and_assoc]; rfl
section
variable {q : Int32} {w cp fx : Nat → Int32}
theorem cy_cb {post : Int32 → SY → Prop} (G : gx_gd w) (ty : Int32) {n m : Nat} (hn : n < 12) (hm : m < 12) (hp : ∀ c1, post (gx_b (gx_Q w ty n m && gx_Q w ty m n)) (q, w, cp, c1)) : wpY_comesBack post (q, w, cp, fx) (nI n) (nI m) ty := by
  unfold wpY_comesBack
  refine cy_me G ty 0 hn (fun c1 k1 => ⟨vp_in_nI hm (by decide), ?_⟩)
  rw [nI_clamp (by omega), k1 m hm]
  have b1 := gx_it_B G ty 0 n (k := 12) (by omega) m
  by_cases y : gx_it w ty 0 n 12 m = 1000000
  · refine br_f (by rw [y, gx_fe_n]; decide) ?_
    have p1 := hp c1
    rw [show gx_Q w ty n m = false from decide_eq_false (by omega), Bool.false_and] at p1
    exact p1
  · rw [gx_fe_p (c := gx_it w ty 0 n 12 m) (by omega)]
    refine br_t (nI_pos' (by omega)) (cy_me G ty 0 hm (fun c2 k2 => ⟨vp_in_nI hn (by decide), ?_⟩))
    rw [nI_clamp (by omega), k2 n hn]
    have p1 := hp c2
    rw [show gx_Q w ty n m = true from decide_eq_true (by omega), Bool.true_and] at p1
    have b2 := gx_it_B G ty 0 m (k := 12) (by omega) n
    by_cases y2 : gx_it w ty 0 m 12 n = 1000000
    · rw [show gx_Q w ty m n = false from decide_eq_false (by omega)] at p1
      exact br_t (by rw [y2, gx_fe_n]; decide) p1
    · rw [show gx_Q w ty m n = true from decide_eq_true (by omega)] at p1
      rw [gx_fe_p (c := gx_it w ty 0 m 12 n) (by omega)]
      exact br_f (nI_pos (by omega)) p1
theorem cy_r30 {post : Int32 → SY → Prop} {J : Int32 → Int32 → Int32 → (Nat → Int32) → (Nat → Int32) → (Nat → Int32) → Prop} (G : gx_gd w) (ty x2 : Int32) {n : Nat} (hn : n < 12) (hf : ¬ gx_bn w ty n n = true → ∀ c1, J x2 (nI (n + 1)) q w cp c1) (ht : gx_bn w ty n n = true → ∀ c1, J (x2 + 1) (nI (n + 1)) q w cp c1) : ∀ d m, m + d = n → ∀ c1, wY_rounds_30 post J ty x2 (nI n) (d + 1) (gx_b (gx_bn w ty n m)) (nI m) q w cp c1 := by
  intro d
  induction d with
  | zero =>
    intro m hm c1
    obtain rfl : m = n := by omega
    exact br_t (nI_le (Nat.le_refl _) (by omega)) (gb_r (fun z => nm_r (nI_1 m) (hf z c1)) (fun z => nm_e (nm_r (nI_1 m) (ht z c1))))
  | succ d ih =>
    intro m hm c1
    have hm2 : m < n := by omega
    have q1 := ih (m + 1) (by omega)
    rw [gx_bn_s] at q1
    refine br_f (nI_ge hm2 (by omega)) (gb_r (fun z => nm_r (nI_1 m) ?_) (fun z => cy_N (nI m) ?_))
    · rw [gb_nt z, Bool.false_and] at q1; exact q1 c1
    · rw [z, Bool.true_and] at q1
      rw [gx_N_j (by omega)]
      refine gb_r (fun z1 => nm_r (nI_1 m) ?_) (fun z1 => cy_cb G ty hn (by omega) (fun c2 => ?_))
      · rw [show gx_back w ty n m = false by unfold gx_back; rw [gb_nt z1, Bool.false_and]] at q1
        exact q1 c1
      · have e1 : gx_back w ty n m = (gx_Q w ty n m && gx_Q w ty m n) := by unfold gx_back; rw [z1, Bool.true_and]
        rw [e1] at q1
        refine gb_r (fun z2 => nm_r (nI_1 m) ?_) (fun z2 => nm_r (nI_1 m) ?_)
        · rw [gb_nt z2] at q1; exact q1 c2
        · rw [z2] at q1; exact q1 c2
theorem cy_r14 {post : Int32 → SY → Prop} (G : gx_gd w) (ty : Int32) (hp : ∀ c1, post (nI (gv_ct (fun n => gx_bn w ty n n) 12)) (q, w, cp, c1)) : ∀ d i, i + d = 12 → ∀ c1, wY_rounds_14 post ty (d + 1) (nI (gv_ct (fun n => gx_bn w ty n n) i)) (nI i) q w cp c1 := by
  intro d
  induction d with
  | zero =>
    intro i hi c1
    obtain rfl : i = 12 := by omega
    exact br_t (nI_le (a := 12) (b := 12) (by omega) (by decide)) (hp c1)
  | succ d ih =>
    intro i hi c1
    have hi2 : i < 12 := by omega
    have q1 := ih (i + 1) (by omega)
    refine br_f (nI_ge (b := 12) (by omega) (by decide)) (cy_N (nI i) ?_)
    rw [gx_N_j hi2]
    have e1 : decide (w i = 1) = gx_bn w ty i 0 := (Bool.and_true _).symm
    rw [e1]
    refine ⟨i + 1, cy_r30 G ty _ hi2 (fun z c2 => ?_) (fun z c2 => ?_) i 0 (Nat.zero_add i) c1⟩
    · rw [gv_ct_f (p := fun n => gx_bn w ty n n) z] at q1; exact q1 c2
    · rw [gv_ct_t (p := fun n => gx_bn w ty n n) z] at q1
      rw [nI_1]
      exact q1 c2
end
theorem gx_r_eq {w r : Nat → Int32} (G : gx_gd w) {ty : Int32} (I : gx_I w ty 12 r) : gv_ct (fun n => gx_bn w ty n n) 12 = gv_ct (gx_rx w r) 12 := by
  refine gv_ct_congr 12 (fun n hn => ?_)
  show (decide (w n = 1) && gv_no (gx_back w ty n) n) = (decide (w n = 1) && gv_no (fun m => bt (r n) m && bt (r m) n) n)
  by_cases z : w n = 1
  · rw [gv_no_congr (p := gx_back w ty n) (q := fun m => bt (r n) m && bt (r m) n) n (fun m hm => ?_)]
    show (decide (w m = 1) && (gx_Q w ty n m && gx_Q w ty m n)) = (bt (r n) m && bt (r m) n)
    rw [gx_I_iff G I hn (by omega), gx_I_iff G I (by omega) hn]
    cases hq : gx_Q w ty n m
    · rw [Bool.false_and, Bool.and_false]
    · rw [decide_eq_true (gx_Q_w G z hq), Bool.true_and]
  · rw [decide_eq_false z, Bool.false_and, Bool.false_and]
theorem i_vc_rounds {k : Nat} {u : SX} {v : SY} (I : i_Rel k u v) (hk : k + 4 ≤ 2048) (v1 : Int32) : wpX_rounds (fun r u' => wpY_rounds (fun r' v' => r' = r ∧ i_Rel (k + 4) u' v') v v1) u v1 := by
  obtain ⟨o, ta, la, va, ea, fa, ga, ya, ha, ca, ra, w, cp, fx, rfl, rfl, R⟩ := I
  have K := ir_K R
  unfold wpX_rounds wpY_rounds
  refine cx_T v1 (gb_r (fun z => ?_) (fun z => cx_fr K v1 (fun r1 I1 => ⟨13, cx_r19 K ?_ 12 0 rfl⟩)))
  · exact cy_T v1 (gb_n (fun k1 => absurd k1 z) (fun _ => ⟨rfl, ir_mk R⟩))
  · refine cy_T v1 (gb_n (fun _ => ⟨13, cy_r14 K.2.2 v1 (fun c1 => ⟨?_, ir_mk R⟩) 12 0 rfl fx⟩) (fun k1 => absurd z k1))
    rw [gx_r_eq K.2.2 I1]
