/-! the picture of one depth: the component's eight arrays at depth d against one row of 156 cells -/
def gx_px (d : Nat) (t l v e f g y h w : Nat → Int32) : Prop := (∀ n, n < 12 → t (d * 12 + n) = w n ∧ l (d * 12 + n) = w (12 + n) ∧ v (d * 12 + n) = w (24 + n)) ∧ (∀ a, a < 24 → e (d * 24 + a) = w (36 + a) ∧ f (d * 24 + a) = w (60 + a) ∧ g (d * 24 + a) = w (84 + a) ∧ y (d * 24 + a) = w (108 + a) ∧ h (d * 24 + a) = w (132 + a))
/-! a good arrow, a good picture -/
def gx_ga (w : Nat → Int32) (e f g y h : Int32) : Prop := (e = 0 ∨ e = 1) ∧ (∃ j, j < 12 ∧ f = nI j ∧ (e = 1 → w j = 1)) ∧ (∃ j, j < 12 ∧ g = nI j ∧ (e = 1 → w j = 1)) ∧ (∃ j, j < 4 ∧ y = nI j) ∧ (∃ j, j ≤ 99 ∧ h = nI j)
def gx_gd (w : Nat → Int32) : Prop := (∀ n, n < 12 → (w n = 0 ∨ w n = 1) ∧ ∃ j, j < 8 ∧ w (12 + n) = nI j) ∧ (∀ a, a < 24 → gx_ga w (w (36 + a)) (w (60 + a)) (w (84 + a)) (w (108 + a)) (w (132 + a)))
def gx_f (w : Nat → Int32) (a : Nat) : Nat := (w (60 + a)).toNatClampNeg
def gx_g (w : Nat → Int32) (a : Nat) : Nat := (w (84 + a)).toNatClampNeg
def gx_h (w : Nat → Int32) (a : Nat) : Nat := (w (132 + a)).toNatClampNeg
def gx_of (w : Nat → Int32) (ty : Int32) (a : Nat) : Bool := decide (w (36 + a) = 1) && (decide (ty = 4) || decide (w (108 + a) = ty))
def gx_mt (w : Nat → Int32) (n ty wy : Int32) (a : Nat) : Bool := gx_of w ty a && ((decide (wy ≠ 1) && decide (w (60 + a) = n)) || (decide (wy ≠ 0) && decide (w (84 + a) = n)))
theorem gx_fd {w : Nat → Int32} (G : gx_gd w) {a : Nat} (ha : a < 24) : gx_f w a < 12 ∧ w (60 + a) = nI (gx_f w a) ∧ (w (36 + a) = 1 → w (gx_f w a) = 1) := by
  obtain ⟨j, hj, e1, e2⟩ := (G.2 a ha).2.1
  have e3 : gx_f w a = j := by
    show (w (60 + a)).toNatClampNeg = j
    rw [e1, nI_clamp (by omega)]
  rw [e3]
  exact ⟨hj, e1, e2⟩
theorem gx_gd_ {w : Nat → Int32} (G : gx_gd w) {a : Nat} (ha : a < 24) : gx_g w a < 12 ∧ w (84 + a) = nI (gx_g w a) ∧ (w (36 + a) = 1 → w (gx_g w a) = 1) := by
  obtain ⟨j, hj, e1, e2⟩ := (G.2 a ha).2.2.1
  have e3 : gx_g w a = j := by
    show (w (84 + a)).toNatClampNeg = j
    rw [e1, nI_clamp (by omega)]
  rw [e3]
  exact ⟨hj, e1, e2⟩
theorem gx_hd {w : Nat → Int32} (G : gx_gd w) {a : Nat} (ha : a < 24) : gx_h w a ≤ 99 ∧ w (132 + a) = nI (gx_h w a) := by
  obtain ⟨j, hj, e1⟩ := (G.2 a ha).2.2.2.2
  have e3 : gx_h w a = j := by
    show (w (132 + a)).toNatClampNeg = j
    rw [e1, nI_clamp (by omega)]
  rw [e3]
  exact ⟨hj, e1⟩
theorem gx_of1 {w : Nat → Int32} {ty : Int32} {a : Nat} (h : gx_of w ty a = true) : w (36 + a) = 1 := by
  unfold gx_of at h
  rw [Bool.and_eq_true] at h
  exact of_decide_eq_true h.1
theorem gx_hb {w : Nat → Int32} (G : gx_gd w) (ty : Int32) : ∀ a, a < 24 → gx_of w ty a = true → gx_f w a < 12 ∧ gx_g w a < 12 := fun _ ha _ => ⟨(gx_fd G ha).1, (gx_gd_ G ha).1⟩
theorem gx_px_ext {d : Nat} {t l v e f g y h w t' l' v' e' f' g' y' h' w' : Nat → Int32} (P : gx_px d t l v e f g y h w) (hn : ∀ n, n < 12 → t' (d * 12 + n) = t (d * 12 + n) ∧ l' (d * 12 + n) = l (d * 12 + n) ∧ v' (d * 12 + n) = v (d * 12 + n)) (ha : ∀ a, a < 24 → e' (d * 24 + a) = e (d * 24 + a) ∧ f' (d * 24 + a) = f (d * 24 + a) ∧ g' (d * 24 + a) = g (d * 24 + a) ∧ y' (d * 24 + a) = y (d * 24 + a) ∧ h' (d * 24 + a) = h (d * 24 + a)) (hw : ∀ j, j < 156 → w' j = w j) : gx_px d t' l' v' e' f' g' y' h' w' := by
  refine ⟨fun n z => ?_, fun a z => ?_⟩
  · obtain ⟨p1, p2, p3⟩ := P.1 n z
    obtain ⟨q1, q2, q3⟩ := hn n z
    exact ⟨q1.trans (p1.trans (hw _ (by omega)).symm), q2.trans (p2.trans (hw _ (by omega)).symm), q3.trans (p3.trans (hw _ (by omega)).symm)⟩
  · obtain ⟨p1, p2, p3, p4, p5⟩ := P.2 a z
    obtain ⟨q1, q2, q3, q4, q5⟩ := ha a z
    exact ⟨q1.trans (p1.trans (hw _ (by omega)).symm), q2.trans (p2.trans (hw _ (by omega)).symm), q3.trans (p3.trans (hw _ (by omega)).symm), q4.trans (p4.trans (hw _ (by omega)).symm), q5.trans (p5.trans (hw _ (by omega)).symm)⟩
theorem gx_ga_w {w w' : Nat → Int32} {e f g y h : Int32} (hw : ∀ j, j < 12 → w j = 1 → w' j = 1) (H : gx_ga w e f g y h) : gx_ga w' e f g y h := by
  obtain ⟨h1, ⟨j, hj, e2, h2⟩, ⟨i, hi, e3, h3⟩, h4, h5⟩ := H
  exact ⟨h1, ⟨j, hj, e2, fun z => hw j hj (h2 z)⟩, ⟨i, hi, e3, fun z => hw i hi (h3 z)⟩, h4, h5⟩
theorem gx_gd_ext {w w' : Nat → Int32} (G : gx_gd w) (hw : ∀ j, j < 156 → w' j = w j) : gx_gd w' := by
  refine ⟨fun n z => ?_, fun a z => ?_⟩
  · rw [hw n (by omega), hw (12 + n) (by omega)]; exact G.1 n z
  · rw [hw (36 + a) (by omega), hw (60 + a) (by omega), hw (84 + a) (by omega), hw (108 + a) (by omega), hw (132 + a) (by omega)]
    exact gx_ga_w (fun j hj e => (hw j (by omega)).trans e) (G.2 a z)
theorem gx_gd0 : gx_gd (fun _ => 0) := ⟨fun _ _ => ⟨Or.inl rfl, 0, by omega, rfl⟩, fun _ _ => ⟨Or.inl rfl, ⟨0, by omega, rfl, fun z => absurd (show (0 : Int32) = 1 from z) (by decide)⟩, ⟨0, by omega, rfl, fun z => absurd (show (0 : Int32) = 1 from z) (by decide)⟩, ⟨0, by omega, rfl⟩, ⟨0, by omega, rfl⟩⟩⟩
theorem gx_ut {d : Nat} {t l v e f g y h w : Nat → Int32} (P : gx_px d t l v e f g y h w) {k : Nat} (hk : k < 12) (x : Int32) : gx_px d (upd t (d * 12 + k) x) l v e f g y h (upd w (k) x) := by
  refine ⟨fun n z => ?_, fun a z => ?_⟩
  · obtain ⟨p1, p2, p3⟩ := P.1 n z
    by_cases q : n = k
    · subst q
      exact ⟨pk_us.trans pk_us.symm, p2.trans (pk_un (by omega)).symm, p3.trans (pk_un (by omega)).symm⟩
    · exact ⟨(pk_un (by omega)).trans (p1.trans (pk_un (by omega)).symm), p2.trans (pk_un (by omega)).symm, p3.trans (pk_un (by omega)).symm⟩
  · obtain ⟨p1, p2, p3, p4, p5⟩ := P.2 a z
    exact ⟨p1.trans (pk_un (by omega)).symm, p2.trans (pk_un (by omega)).symm, p3.trans (pk_un (by omega)).symm, p4.trans (pk_un (by omega)).symm, p5.trans (pk_un (by omega)).symm⟩
theorem gx_qt {d o : Nat} {t l v e f g y h w : Nat → Int32} (P : gx_px d t l v e f g y h w) {k : Nat} (hk : k < 12) (ho : d < o) (x : Int32) : gx_px d (upd t (o * 12 + k) x) l v e f g y h w := by
  exact gx_px_ext P (fun n z => ⟨pk_un (by omega), rfl, rfl⟩) (fun a z => ⟨rfl, rfl, rfl, rfl, rfl⟩) (fun _ _ => rfl)
theorem gx_ul {d : Nat} {t l v e f g y h w : Nat → Int32} (P : gx_px d t l v e f g y h w) {k : Nat} (hk : k < 12) (x : Int32) : gx_px d t (upd l (d * 12 + k) x) v e f g y h (upd w (12 + k) x) := by
  refine ⟨fun n z => ?_, fun a z => ?_⟩
  · obtain ⟨p1, p2, p3⟩ := P.1 n z
    by_cases q : n = k
    · subst q
      exact ⟨p1.trans (pk_un (by omega)).symm, pk_us.trans pk_us.symm, p3.trans (pk_un (by omega)).symm⟩
    · exact ⟨p1.trans (pk_un (by omega)).symm, (pk_un (by omega)).trans (p2.trans (pk_un (by omega)).symm), p3.trans (pk_un (by omega)).symm⟩
  · obtain ⟨p1, p2, p3, p4, p5⟩ := P.2 a z
    exact ⟨p1.trans (pk_un (by omega)).symm, p2.trans (pk_un (by omega)).symm, p3.trans (pk_un (by omega)).symm, p4.trans (pk_un (by omega)).symm, p5.trans (pk_un (by omega)).symm⟩
theorem gx_ql {d o : Nat} {t l v e f g y h w : Nat → Int32} (P : gx_px d t l v e f g y h w) {k : Nat} (hk : k < 12) (ho : d < o) (x : Int32) : gx_px d t (upd l (o * 12 + k) x) v e f g y h w := by
  exact gx_px_ext P (fun n z => ⟨rfl, pk_un (by omega), rfl⟩) (fun a z => ⟨rfl, rfl, rfl, rfl, rfl⟩) (fun _ _ => rfl)
theorem gx_uv {d : Nat} {t l v e f g y h w : Nat → Int32} (P : gx_px d t l v e f g y h w) {k : Nat} (hk : k < 12) (x : Int32) : gx_px d t l (upd v (d * 12 + k) x) e f g y h (upd w (24 + k) x) := by
  refine ⟨fun n z => ?_, fun a z => ?_⟩
  · obtain ⟨p1, p2, p3⟩ := P.1 n z
    by_cases q : n = k
    · subst q
      exact ⟨p1.trans (pk_un (by omega)).symm, p2.trans (pk_un (by omega)).symm, pk_us.trans pk_us.symm⟩
    · exact ⟨p1.trans (pk_un (by omega)).symm, p2.trans (pk_un (by omega)).symm, (pk_un (by omega)).trans (p3.trans (pk_un (by omega)).symm)⟩
  · obtain ⟨p1, p2, p3, p4, p5⟩ := P.2 a z
    exact ⟨p1.trans (pk_un (by omega)).symm, p2.trans (pk_un (by omega)).symm, p3.trans (pk_un (by omega)).symm, p4.trans (pk_un (by omega)).symm, p5.trans (pk_un (by omega)).symm⟩
theorem gx_qv {d o : Nat} {t l v e f g y h w : Nat → Int32} (P : gx_px d t l v e f g y h w) {k : Nat} (hk : k < 12) (ho : d < o) (x : Int32) : gx_px d t l (upd v (o * 12 + k) x) e f g y h w := by
  exact gx_px_ext P (fun n z => ⟨rfl, rfl, pk_un (by omega)⟩) (fun a z => ⟨rfl, rfl, rfl, rfl, rfl⟩) (fun _ _ => rfl)
theorem gx_ue {d : Nat} {t l v e f g y h w : Nat → Int32} (P : gx_px d t l v e f g y h w) {k : Nat} (hk : k < 24) (x : Int32) : gx_px d t l v (upd e (d * 24 + k) x) f g y h (upd w (36 + k) x) := by
  refine ⟨fun n z => ?_, fun a z => ?_⟩
  · obtain ⟨p1, p2, p3⟩ := P.1 n z
    exact ⟨p1.trans (pk_un (by omega)).symm, p2.trans (pk_un (by omega)).symm, p3.trans (pk_un (by omega)).symm⟩
  · obtain ⟨p1, p2, p3, p4, p5⟩ := P.2 a z
    by_cases q : a = k
    · subst q
      exact ⟨pk_us.trans pk_us.symm, p2.trans (pk_un (by omega)).symm, p3.trans (pk_un (by omega)).symm, p4.trans (pk_un (by omega)).symm, p5.trans (pk_un (by omega)).symm⟩
    · exact ⟨(pk_un (by omega)).trans (p1.trans (pk_un (by omega)).symm), p2.trans (pk_un (by omega)).symm, p3.trans (pk_un (by omega)).symm, p4.trans (pk_un (by omega)).symm, p5.trans (pk_un (by omega)).symm⟩
theorem gx_qe {d o : Nat} {t l v e f g y h w : Nat → Int32} (P : gx_px d t l v e f g y h w) {k : Nat} (hk : k < 24) (ho : d < o) (x : Int32) : gx_px d t l v (upd e (o * 24 + k) x) f g y h w := by
  exact gx_px_ext P (fun n z => ⟨rfl, rfl, rfl⟩) (fun a z => ⟨pk_un (by omega), rfl, rfl, rfl, rfl⟩) (fun _ _ => rfl)
theorem gx_uf {d : Nat} {t l v e f g y h w : Nat → Int32} (P : gx_px d t l v e f g y h w) {k : Nat} (hk : k < 24) (x : Int32) : gx_px d t l v e (upd f (d * 24 + k) x) g y h (upd w (60 + k) x) := by
  refine ⟨fun n z => ?_, fun a z => ?_⟩
  · obtain ⟨p1, p2, p3⟩ := P.1 n z
    exact ⟨p1.trans (pk_un (by omega)).symm, p2.trans (pk_un (by omega)).symm, p3.trans (pk_un (by omega)).symm⟩
  · obtain ⟨p1, p2, p3, p4, p5⟩ := P.2 a z
    by_cases q : a = k
    · subst q
      exact ⟨p1.trans (pk_un (by omega)).symm, pk_us.trans pk_us.symm, p3.trans (pk_un (by omega)).symm, p4.trans (pk_un (by omega)).symm, p5.trans (pk_un (by omega)).symm⟩
    · exact ⟨p1.trans (pk_un (by omega)).symm, (pk_un (by omega)).trans (p2.trans (pk_un (by omega)).symm), p3.trans (pk_un (by omega)).symm, p4.trans (pk_un (by omega)).symm, p5.trans (pk_un (by omega)).symm⟩
theorem gx_qf {d o : Nat} {t l v e f g y h w : Nat → Int32} (P : gx_px d t l v e f g y h w) {k : Nat} (hk : k < 24) (ho : d < o) (x : Int32) : gx_px d t l v e (upd f (o * 24 + k) x) g y h w := by
  exact gx_px_ext P (fun n z => ⟨rfl, rfl, rfl⟩) (fun a z => ⟨rfl, pk_un (by omega), rfl, rfl, rfl⟩) (fun _ _ => rfl)
theorem gx_ug {d : Nat} {t l v e f g y h w : Nat → Int32} (P : gx_px d t l v e f g y h w) {k : Nat} (hk : k < 24) (x : Int32) : gx_px d t l v e f (upd g (d * 24 + k) x) y h (upd w (84 + k) x) := by
  refine ⟨fun n z => ?_, fun a z => ?_⟩
  · obtain ⟨p1, p2, p3⟩ := P.1 n z
    exact ⟨p1.trans (pk_un (by omega)).symm, p2.trans (pk_un (by omega)).symm, p3.trans (pk_un (by omega)).symm⟩
  · obtain ⟨p1, p2, p3, p4, p5⟩ := P.2 a z
    by_cases q : a = k
    · subst q
      exact ⟨p1.trans (pk_un (by omega)).symm, p2.trans (pk_un (by omega)).symm, pk_us.trans pk_us.symm, p4.trans (pk_un (by omega)).symm, p5.trans (pk_un (by omega)).symm⟩
    · exact ⟨p1.trans (pk_un (by omega)).symm, p2.trans (pk_un (by omega)).symm, (pk_un (by omega)).trans (p3.trans (pk_un (by omega)).symm), p4.trans (pk_un (by omega)).symm, p5.trans (pk_un (by omega)).symm⟩
theorem gx_qg {d o : Nat} {t l v e f g y h w : Nat → Int32} (P : gx_px d t l v e f g y h w) {k : Nat} (hk : k < 24) (ho : d < o) (x : Int32) : gx_px d t l v e f (upd g (o * 24 + k) x) y h w := by
  exact gx_px_ext P (fun n z => ⟨rfl, rfl, rfl⟩) (fun a z => ⟨rfl, rfl, pk_un (by omega), rfl, rfl⟩) (fun _ _ => rfl)
theorem gx_uy {d : Nat} {t l v e f g y h w : Nat → Int32} (P : gx_px d t l v e f g y h w) {k : Nat} (hk : k < 24) (x : Int32) : gx_px d t l v e f g (upd y (d * 24 + k) x) h (upd w (108 + k) x) := by
  refine ⟨fun n z => ?_, fun a z => ?_⟩
  · obtain ⟨p1, p2, p3⟩ := P.1 n z
    exact ⟨p1.trans (pk_un (by omega)).symm, p2.trans (pk_un (by omega)).symm, p3.trans (pk_un (by omega)).symm⟩
  · obtain ⟨p1, p2, p3, p4, p5⟩ := P.2 a z
    by_cases q : a = k
    · subst q
      exact ⟨p1.trans (pk_un (by omega)).symm, p2.trans (pk_un (by omega)).symm, p3.trans (pk_un (by omega)).symm, pk_us.trans pk_us.symm, p5.trans (pk_un (by omega)).symm⟩
    · exact ⟨p1.trans (pk_un (by omega)).symm, p2.trans (pk_un (by omega)).symm, p3.trans (pk_un (by omega)).symm, (pk_un (by omega)).trans (p4.trans (pk_un (by omega)).symm), p5.trans (pk_un (by omega)).symm⟩
theorem gx_qy {d o : Nat} {t l v e f g y h w : Nat → Int32} (P : gx_px d t l v e f g y h w) {k : Nat} (hk : k < 24) (ho : d < o) (x : Int32) : gx_px d t l v e f g (upd y (o * 24 + k) x) h w := by
  exact gx_px_ext P (fun n z => ⟨rfl, rfl, rfl⟩) (fun a z => ⟨rfl, rfl, rfl, pk_un (by omega), rfl⟩) (fun _ _ => rfl)
theorem gx_uh {d : Nat} {t l v e f g y h w : Nat → Int32} (P : gx_px d t l v e f g y h w) {k : Nat} (hk : k < 24) (x : Int32) : gx_px d t l v e f g y (upd h (d * 24 + k) x) (upd w (132 + k) x) := by
  refine ⟨fun n z => ?_, fun a z => ?_⟩
  · obtain ⟨p1, p2, p3⟩ := P.1 n z
    exact ⟨p1.trans (pk_un (by omega)).symm, p2.trans (pk_un (by omega)).symm, p3.trans (pk_un (by omega)).symm⟩
  · obtain ⟨p1, p2, p3, p4, p5⟩ := P.2 a z
    by_cases q : a = k
    · subst q
      exact ⟨p1.trans (pk_un (by omega)).symm, p2.trans (pk_un (by omega)).symm, p3.trans (pk_un (by omega)).symm, p4.trans (pk_un (by omega)).symm, pk_us.trans pk_us.symm⟩
    · exact ⟨p1.trans (pk_un (by omega)).symm, p2.trans (pk_un (by omega)).symm, p3.trans (pk_un (by omega)).symm, p4.trans (pk_un (by omega)).symm, (pk_un (by omega)).trans (p5.trans (pk_un (by omega)).symm)⟩
theorem gx_qh {d o : Nat} {t l v e f g y h w : Nat → Int32} (P : gx_px d t l v e f g y h w) {k : Nat} (hk : k < 24) (ho : d < o) (x : Int32) : gx_px d t l v e f g y (upd h (o * 24 + k) x) w := by
  exact gx_px_ext P (fun n z => ⟨rfl, rfl, rfl⟩) (fun a z => ⟨rfl, rfl, rfl, rfl, pk_un (by omega)⟩) (fun _ _ => rfl)
