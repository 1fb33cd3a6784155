/-! the relation of the two states, without scratch -/
def gx_R (o : Nat) (t l v e f g y h w cp : Nat → Int32) : Prop := o ≤ 4 ∧ gx_px o t l v e f g y h w ∧ gx_gd w ∧ (∀ d, d < o → gx_px d t l v e f g y h (fun j => cp (156 * d + j)) ∧ gx_gd (fun j => cp (156 * d + j)))
/-! one array copied from depth s to depth d, p cells a depth, the first i of them -/
def gx_cp (p s d i : Nat) (x x' : Nat → Int32) : Prop := (∀ n, n < i → x' (d * p + n) = x (s * p + n)) ∧ (∀ j, (j < d * p ∨ d * p + i ≤ j) → x' j = x j)
theorem gx_cp0 {p s d : Nat} {x : Nat → Int32} : gx_cp p s d 0 x x := ⟨fun n hn => absurd hn (Nat.not_lt_zero _), fun _ _ => rfl⟩
theorem gx_cps {p s d i : Nat} {x x' : Nat → Int32} (C : gx_cp p s d i x x') (hs : s * p + i < d * p ∨ d * p + i ≤ s * p + i) : gx_cp p s d (i + 1) x (upd x' (d * p + i) (x' (s * p + i))) := by
  have h0 : x' (s * p + i) = x (s * p + i) := C.2 _ (by omega)
  refine ⟨fun n hn => ?_, fun j hj => ?_⟩
  · by_cases e : n = i
    · subst e; rw [pk_us]; exact h0
    · rw [pk_un (by omega)]; exact C.1 n (by omega)
  · rw [pk_un (by omega)]; exact C.2 j (by omega)
theorem gx_cp_px {s d : Nat} {t l v e f g y h t' l' v' e' f' g' y' h' w : Nat → Int32} (P : gx_px s t l v e f g y h w) (ct : gx_cp 12 s d 12 t t') (cl : gx_cp 12 s d 12 l l') (cv : gx_cp 12 s d 12 v v') (ce : gx_cp 24 s d 24 e e') (cf : gx_cp 24 s d 24 f f') (cg : gx_cp 24 s d 24 g g') (cy : gx_cp 24 s d 24 y y') (ch : gx_cp 24 s d 24 h h') : gx_px d t' l' v' e' f' g' y' h' w := by
  refine ⟨fun n z => ?_, fun a z => ?_⟩
  · obtain ⟨p1, p2, p3⟩ := P.1 n z
    exact ⟨(ct.1 n z).trans p1, (cl.1 n z).trans p2, (cv.1 n z).trans p3⟩
  · obtain ⟨p1, p2, p3, p4, p5⟩ := P.2 a z
    exact ⟨(ce.1 a z).trans p1, (cf.1 a z).trans p2, (cg.1 a z).trans p3, (cy.1 a z).trans p4, (ch.1 a z).trans p5⟩
theorem gx_cp_o {s d m : Nat} {t l v e f g y h t' l' v' e' f' g' y' h' w : Nat → Int32} (P : gx_px m t l v e f g y h w) (hm : m < d) (ct : gx_cp 12 s d 12 t t') (cl : gx_cp 12 s d 12 l l') (cv : gx_cp 12 s d 12 v v') (ce : gx_cp 24 s d 24 e e') (cf : gx_cp 24 s d 24 f f') (cg : gx_cp 24 s d 24 g g') (cy : gx_cp 24 s d 24 y y') (ch : gx_cp 24 s d 24 h h') : gx_px m t' l' v' e' f' g' y' h' w :=
  gx_px_ext P (fun n z => ⟨ct.2 _ (by omega), cl.2 _ (by omega), cv.2 _ (by omega)⟩) (fun a z => ⟨ce.2 _ (by omega), cf.2 _ (by omega), cg.2 _ (by omega), cy.2 _ (by omega), ch.2 _ (by omega)⟩) (fun _ _ => rfl)
theorem gx_R_begin {o : Nat} {t l v e f g y h t' l' v' e' f' g' y' h' w cp cp' : Nat → Int32} (R : gx_R o t l v e f g y h w cp) (ho : o < 4) (ct : gx_cp 12 o (o + 1) 12 t t') (cl : gx_cp 12 o (o + 1) 12 l l') (cv : gx_cp 12 o (o + 1) 12 v v') (ce : gx_cp 24 o (o + 1) 24 e e') (cf : gx_cp 24 o (o + 1) 24 f f') (cg : gx_cp 24 o (o + 1) 24 g g') (cy : gx_cp 24 o (o + 1) 24 y y') (ch : gx_cp 24 o (o + 1) 24 h h') (h1 : ∀ j, j < 156 → cp' (156 * o + j) = w j) (h2 : ∀ j, j < 156 * o → cp' j = cp j) : gx_R (o + 1) t' l' v' e' f' g' y' h' w cp' := by
  obtain ⟨_, P, G, D⟩ := R
  refine ⟨by omega, gx_cp_px P ct cl cv ce cf cg cy ch, G, fun d hd => ?_⟩
  by_cases e : d = o
  · subst e
    exact ⟨gx_px_ext (gx_cp_o P (by omega) ct cl cv ce cf cg cy ch) (fun _ _ => ⟨rfl, rfl, rfl⟩) (fun _ _ => ⟨rfl, rfl, rfl, rfl, rfl⟩) h1, gx_gd_ext G h1⟩
  · obtain ⟨Pd, Gd⟩ := D d (by omega)
    have h3 : ∀ j, j < 156 → cp' (156 * d + j) = cp (156 * d + j) := fun j hj => h2 _ (by omega)
    exact ⟨gx_px_ext (gx_cp_o Pd (by omega) ct cl cv ce cf cg cy ch) (fun _ _ => ⟨rfl, rfl, rfl⟩) (fun _ _ => ⟨rfl, rfl, rfl, rfl, rfl⟩) h3, gx_gd_ext Gd h3⟩
theorem gx_R_end {o : Nat} {t l v e f g y h t' l' v' e' f' g' y' h' w cp : Nat → Int32} (R : gx_R (o + 1) t l v e f g y h w cp) (ct : gx_cp 12 (o + 1) o 12 t t') (cl : gx_cp 12 (o + 1) o 12 l l') (cv : gx_cp 12 (o + 1) o 12 v v') (ce : gx_cp 24 (o + 1) o 24 e e') (cf : gx_cp 24 (o + 1) o 24 f f') (cg : gx_cp 24 (o + 1) o 24 g g') (cy : gx_cp 24 (o + 1) o 24 y y') (ch : gx_cp 24 (o + 1) o 24 h h') : gx_R o t' l' v' e' f' g' y' h' w cp := by
  obtain ⟨ho, P, G, D⟩ := R
  refine ⟨by omega, gx_cp_px P ct cl cv ce cf cg cy ch, G, fun d hd => ?_⟩
  obtain ⟨Pd, Gd⟩ := D d (by omega)
  exact ⟨gx_cp_o Pd hd ct cl cv ce cf cg cy ch, Gd⟩
theorem gx_R_back {o q : Nat} {t l v e f g y h w w' cp : Nat → Int32} (R : gx_R o t l v e f g y h w cp) (hq : q < o) (h1 : ∀ j, j < 156 → w' j = cp (156 * q + j)) : gx_R q t l v e f g y h w' cp := by
  obtain ⟨ho, P, G, D⟩ := R
  obtain ⟨Pq, Gq⟩ := D q hq
  exact ⟨by omega, gx_px_ext Pq (fun _ _ => ⟨rfl, rfl, rfl⟩) (fun _ _ => ⟨rfl, rfl, rfl, rfl, rfl⟩) h1, gx_gd_ext Gq h1, fun d hd => D d (by omega)⟩
theorem gx_R0 : gx_R 0 (fun _ => 0) (fun _ => 0) (fun _ => 0) (fun _ => 0) (fun _ => 0) (fun _ => 0) (fun _ => 0) (fun _ => 0) (fun _ => 0) (fun _ => 0) := ⟨by omega, ⟨fun _ _ => ⟨rfl, rfl, rfl⟩, fun _ _ => ⟨rfl, rfl, rfl, rfl, rfl⟩⟩, gx_gd0, fun d hd => absurd hd (Nat.not_lt_zero _)⟩
theorem gx_pt {o : Nat} {t l v e f g y h cp : Nat → Int32} (D : ∀ d, d < o → gx_px d t l v e f g y h (fun j => cp (156 * d + j)) ∧ gx_gd (fun j => cp (156 * d + j))) {k : Nat} (hk : k < 12) (x : Int32) : ∀ d, d < o → gx_px d (upd t (o * 12 + k) x) l v e f g y h (fun j => cp (156 * d + j)) ∧ gx_gd (fun j => cp (156 * d + j)) := fun d hd => ⟨gx_qt (D d hd).1 hk hd x, (D d hd).2⟩
theorem gx_pl {o : Nat} {t l v e f g y h cp : Nat → Int32} (D : ∀ d, d < o → gx_px d t l v e f g y h (fun j => cp (156 * d + j)) ∧ gx_gd (fun j => cp (156 * d + j))) {k : Nat} (hk : k < 12) (x : Int32) : ∀ d, d < o → gx_px d t (upd l (o * 12 + k) x) v e f g y h (fun j => cp (156 * d + j)) ∧ gx_gd (fun j => cp (156 * d + j)) := fun d hd => ⟨gx_ql (D d hd).1 hk hd x, (D d hd).2⟩
theorem gx_pv {o : Nat} {t l v e f g y h cp : Nat → Int32} (D : ∀ d, d < o → gx_px d t l v e f g y h (fun j => cp (156 * d + j)) ∧ gx_gd (fun j => cp (156 * d + j))) {k : Nat} (hk : k < 12) (x : Int32) : ∀ d, d < o → gx_px d t l (upd v (o * 12 + k) x) e f g y h (fun j => cp (156 * d + j)) ∧ gx_gd (fun j => cp (156 * d + j)) := fun d hd => ⟨gx_qv (D d hd).1 hk hd x, (D d hd).2⟩
theorem gx_pe {o : Nat} {t l v e f g y h cp : Nat → Int32} (D : ∀ d, d < o → gx_px d t l v e f g y h (fun j => cp (156 * d + j)) ∧ gx_gd (fun j => cp (156 * d + j))) {k : Nat} (hk : k < 24) (x : Int32) : ∀ d, d < o → gx_px d t l v (upd e (o * 24 + k) x) f g y h (fun j => cp (156 * d + j)) ∧ gx_gd (fun j => cp (156 * d + j)) := fun d hd => ⟨gx_qe (D d hd).1 hk hd x, (D d hd).2⟩
theorem gx_pf {o : Nat} {t l v e f g y h cp : Nat → Int32} (D : ∀ d, d < o → gx_px d t l v e f g y h (fun j => cp (156 * d + j)) ∧ gx_gd (fun j => cp (156 * d + j))) {k : Nat} (hk : k < 24) (x : Int32) : ∀ d, d < o → gx_px d t l v e (upd f (o * 24 + k) x) g y h (fun j => cp (156 * d + j)) ∧ gx_gd (fun j => cp (156 * d + j)) := fun d hd => ⟨gx_qf (D d hd).1 hk hd x, (D d hd).2⟩
theorem gx_pg {o : Nat} {t l v e f g y h cp : Nat → Int32} (D : ∀ d, d < o → gx_px d t l v e f g y h (fun j => cp (156 * d + j)) ∧ gx_gd (fun j => cp (156 * d + j))) {k : Nat} (hk : k < 24) (x : Int32) : ∀ d, d < o → gx_px d t l v e f (upd g (o * 24 + k) x) y h (fun j => cp (156 * d + j)) ∧ gx_gd (fun j => cp (156 * d + j)) := fun d hd => ⟨gx_qg (D d hd).1 hk hd x, (D d hd).2⟩
theorem gx_py {o : Nat} {t l v e f g y h cp : Nat → Int32} (D : ∀ d, d < o → gx_px d t l v e f g y h (fun j => cp (156 * d + j)) ∧ gx_gd (fun j => cp (156 * d + j))) {k : Nat} (hk : k < 24) (x : Int32) : ∀ d, d < o → gx_px d t l v e f g (upd y (o * 24 + k) x) h (fun j => cp (156 * d + j)) ∧ gx_gd (fun j => cp (156 * d + j)) := fun d hd => ⟨gx_qy (D d hd).1 hk hd x, (D d hd).2⟩
theorem gx_ph {o : Nat} {t l v e f g y h cp : Nat → Int32} (D : ∀ d, d < o → gx_px d t l v e f g y h (fun j => cp (156 * d + j)) ∧ gx_gd (fun j => cp (156 * d + j))) {k : Nat} (hk : k < 24) (x : Int32) : ∀ d, d < o → gx_px d t l v e f g y (upd h (o * 24 + k) x) (fun j => cp (156 * d + j)) ∧ gx_gd (fun j => cp (156 * d + j)) := fun d hd => ⟨gx_qh (D d hd).1 hk hd x, (D d hd).2⟩
