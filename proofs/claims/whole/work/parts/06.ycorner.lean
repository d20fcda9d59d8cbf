/-! ===== the reference: corners ===== -/
def wg_s (p : Nat) : Nat := if p < 6 then p + 6 else if p % 2 = 0 then p / 2 else p / 2 - 3
def wg_t (w : Nat) : Nat := if 6 ≤ w then w - 6 else if w < 3 then 2 * w + 7 else 2 * w
theorem wg_lo {p : Nat} (h : p < 6) : wg_s p = p + 6 := if_pos h
theorem wg_hi {p : Nat} (h : 6 ≤ p) (h' : p < 12) : wg_s p < 6 := by
  unfold wg_s
  rw [if_neg (by omega)]
  by_cases e : p % 2 = 0
  · rw [if_pos e]; omega
  · rw [if_neg e]; omega
theorem wg_ts {w : Nat} (h : w < 12) : wg_s (wg_t w) = w := by
  unfold wg_t
  by_cases a : 6 ≤ w
  · rw [if_pos a, wg_lo (by omega)]; omega
  · rw [if_neg a]
    by_cases b : w < 3
    · rw [if_pos b]
      unfold wg_s
      rw [if_neg (by omega), if_neg (by omega)]
      omega
    · rw [if_neg b]
      unfold wg_s
      rw [if_neg (by omega), if_pos (by omega)]
      omega
theorem wg_tn {w n : Nat} (h : w < 6 + n) (hn : n ≤ 6) : wg_t w < 12 ∧ (6 ≤ wg_t w ∨ wg_t w < n) := by
  unfold wg_t
  by_cases a : 6 ≤ w
  · rw [if_pos a]; omega
  · rw [if_neg a]
    by_cases b : w < 3
    · rw [if_pos b]; omega
    · rw [if_neg b]; omega
theorem wg_sn {p n : Nat} (h : p < 12) (hc : 6 ≤ p ∨ p < n) (hn : n ≤ 6) : wg_s p < 6 + n := by
  by_cases a : p < 6
  · rw [wg_lo a]; omega
  · have := wg_hi (p := p) (by omega) h
    omega
/-- plane p stands for a row of the table -/
def ya_R (pl : Nat → Int32) (A : Nat → Nat → Int) (p : Nat) : Prop := p < 12 ∧ ∀ i, i < 4 → ir_I (pl (4 * p + i)) (A (wg_s p) i) 99
/-- the planes that count -/
def ya_C (n : Nat) (Ex : Nat → Prop) (p : Nat) : Prop := (6 ≤ p ∨ p < n) ∧ ¬ Ex (wg_s p)
theorem yc_i (p c : Nat) : 4 * nI p + nI c = nI (4 * p + c) := by
  rw [← nI_add, ← pk_mul]; rfl
def yd_c (j t : Nat) : Nat := if j = t then 3 else j
theorem yd_c4 {j t : Nat} (h : j < 3) : yd_c j t < 4 := by
  unfold yd_c
  by_cases e : j = t
  · rw [if_pos e]; omega
  · rw [if_neg e]; omega
theorem yd_br {j t : Nat} (hj : j < 3) (ht : t < 4) (W : Int32 → Prop) (h : W (nI (yd_c j t))) : (nI j = nI t → W 3) ∧ (¬ nI j = nI t → W (nI j)) := by
  constructor
  · intro e
    rw [nI_eq (by omega) (by omega)] at e
    rw [yd_c, if_pos e] at h
    exact h
  · intro e
    rw [nI_eq (by omega) (by omega)] at e
    rw [yd_c, if_neg e] at h
    exact h
def yd_1 (A : Nat → Nat → Int) (p q r t i : Nat) : Int := A p (yd_c i t) * (A q (yd_c ((i + 1) % 3) t) * A r (yd_c ((i + 2) % 3) t) - A q (yd_c ((i + 2) % 3) t) * A r (yd_c ((i + 1) % 3) t))
theorem yd_d (A : Nat → Nat → Int) (p q r : Nat) : 0 + yd_1 A p q r 3 0 + yd_1 A p q r 3 1 + yd_1 A p q r 3 2 = cm_d A p q r := by
  unfold yd_1 cm_d cm_x yd_c
  simp
theorem yd_t {A : Nat → Nat → Int} {p q r t : Nat} (h : t < 3) : 0 + yd_1 A p q r t 0 + yd_1 A p q r t 1 + yd_1 A p q r t 2 = cm_t A p q r t := by
  match t, h with
  | 0, _ =>
    unfold yd_1 cm_t cm_x yd_c
    simp
    grind
  | 1, _ =>
    unfold yd_1 cm_t cm_x yd_c
    simp
    grind
  | 2, _ =>
    unfold yd_1 cm_t cm_x yd_c
    simp
    grind
section
variable {fn fo : Int32} {to bo : Int64} {ts go pl : Nat → Int32} {cr : Nat → Int64} {A : Nat → Nat → Int} {n : Nat} {Ex : Nat → Prop}
theorem yd_step {post : Int64 → Prop} {p q r t i m : Nat} (hp : ya_R pl A p) (hq : ya_R pl A q) (hr : ya_R pl A r) (ht : t < 4) (hi : i < 3) {x5 : Int64} {X5 : Int} {B : Nat} (hx : ir_L x5 X5 B) (hB : B ≤ 4000000)
    (hP : ∀ x5', ir_L x5' (X5 + yd_1 (fun x y => A (wg_s x) y) p q r t i) (B + 1940598) → wY_determinant_6 post (nI p) (nI q) (nI r) (nI t) fn fo to bo ts go pl cr m x5' (nI (i + 1))) :
    wY_determinant_6 post (nI p) (nI q) (nI r) (nI t) fn fo to bo ts go pl cr (m + 1) x5 (nI i) := by
  have e1 : nI i + 1 - (nI i + 1) / 3 * 3 = nI ((i + 1) % 3) := by
    rw [nI_1]; exact pk_rem (d := 3) (by omega) (by omega) (by omega)
  have e2 : nI i + 2 - (nI i + 2) / 3 * 3 = nI ((i + 2) % 3) := by
    rw [show nI i + 2 = nI (i + 2) from nI_add i 2]; exact pk_rem (d := 3) (by omega) (by omega) (by omega)
  have j1 : (i + 1) % 3 < 3 := Nat.mod_lt _ (by omega)
  have j2 : (i + 2) % 3 < 3 := Nat.mod_lt _ (by omega)
  unfold yd_1 at hP
  generalize (i + 1) % 3 = j at *
  generalize (i + 2) % 3 = k at *
  have a0 := yd_c4 (j := i) (t := t) hi
  have a1 := yd_c4 (j := j) (t := t) j1
  have a2 := yd_c4 (j := k) (t := t) j2
  have q0 := hp.1
  have q1 := hq.1
  have q2 := hr.1
  refine br_f (nI_ge (b := 3) (a := i) hi (by omega)) ⟨by decide, nm_r e1 ⟨by decide, nm_r e2 ?_⟩⟩
  refine yd_br hi ht (fun z => wY_determinant_52 post (wY_determinant_6 post (nI p) (nI q) (nI r) (nI t) fn fo to bo ts go pl cr m) (nI p) (nI q) (nI r) (nI t) x5 (nI i) (nI j) (nI k) z (4 * nI p) fn fo to bo ts go pl cr) ?_
  generalize yd_c i t = c0 at *
  refine ⟨by rw [yc_i]; exact vp_in_nI (by omega) (by omega), nm_r (e' := (pl (4 * p + c0)).toInt64) (by rw [yc_i, nI_clamp (by omega)]) ?_⟩
  refine yd_br j1 ht (fun z => wY_determinant_77 post (wY_determinant_6 post (nI p) (nI q) (nI r) (nI t) fn fo to bo ts go pl cr m) (nI p) (nI q) (nI r) (nI t) x5 (nI i) (nI j) (nI k) (pl (4 * p + c0)).toInt64 z (4 * nI q) fn fo to bo ts go pl cr) ?_
  generalize ec1 : yd_c j t = c1 at *
  refine ⟨by rw [yc_i]; exact vp_in_nI (by omega) (by omega), nm_r (e' := (pl (4 * q + c1)).toInt64) (by rw [yc_i, nI_clamp (by omega)]) ?_⟩
  refine yd_br j2 ht (fun z => wY_determinant_102 post (wY_determinant_6 post (nI p) (nI q) (nI r) (nI t) fn fo to bo ts go pl cr m) (nI p) (nI q) (nI r) (nI t) x5 (nI i) (nI j) (nI k) (pl (4 * p + c0)).toInt64 (pl (4 * q + c1)).toInt64 z (4 * nI r) fn fo to bo ts go pl cr) ?_
  generalize ec2 : yd_c k t = c2 at *
  refine ⟨by rw [yc_i]; exact vp_in_nI (by omega) (by omega), nm_r (e' := (pl (4 * r + c2)).toInt64) (by rw [yc_i, nI_clamp (by omega)]) ?_⟩
  refine yd_br j2 ht (fun z => wY_determinant_127 post (wY_determinant_6 post (nI p) (nI q) (nI r) (nI t) fn fo to bo ts go pl cr m) (nI p) (nI q) (nI r) (nI t) x5 (nI i) (nI j) (pl (4 * p + c0)).toInt64 (pl (4 * q + c1)).toInt64 (pl (4 * r + c2)).toInt64 z (4 * nI q) fn fo to bo ts go pl cr) ?_
  rw [ec2]
  refine ⟨by rw [yc_i]; exact vp_in_nI (by omega) (by omega), nm_r (e' := (pl (4 * q + c2)).toInt64) (by rw [yc_i, nI_clamp (by omega)]) ?_⟩
  refine yd_br j1 ht (fun z => wY_determinant_152 post (wY_determinant_6 post (nI p) (nI q) (nI r) (nI t) fn fo to bo ts go pl cr m) (nI p) (nI q) (nI r) (nI t) x5 (nI i) (pl (4 * p + c0)).toInt64 (pl (4 * q + c1)).toInt64 (pl (4 * r + c2)).toInt64 (pl (4 * q + c2)).toInt64 z (4 * nI r) fn fo to bo ts go pl cr) ?_
  rw [ec1]
  refine ⟨by rw [yc_i]; exact vp_in_nI (by omega) (by omega), nm_r (e' := (pl (4 * r + c1)).toInt64) (by rw [yc_i, nI_clamp (by omega)]) (nm_e (nm_r (nI_1 i) ?_))⟩
  exact hP _ (ir_ladd hx (ir_lmul (ir_il (hp.2 c0 a0)) (ir_lsub (ir_lmul (ir_il (hq.2 c1 a1)) (ir_il (hr.2 c2 a2)) (by decide)) (ir_lmul (ir_il (hq.2 c2 a2)) (ir_il (hr.2 c1 a1)) (by decide)) (by decide)) (by decide)) (by omega))
theorem yd_all {post : Int64 → Prop} {p q r t : Nat} (hp : ya_R pl A p) (hq : ya_R pl A q) (hr : ya_R pl A r) (ht : t < 4)
    (hP : ∀ d, ir_L d (0 + yd_1 (fun x y => A (wg_s x) y) p q r t 0 + yd_1 (fun x y => A (wg_s x) y) p q r t 1 + yd_1 (fun x y => A (wg_s x) y) p q r t 2) 5821794 → post d) :
    wpY_determinant post (fn, fo, to, bo, ts, go, pl, cr) (nI p) (nI q) (nI r) (nI t) := by
  refine ⟨4, ?_⟩
  refine yd_step (i := 0) hp hq hr ht (by omega) ir_l0 (by omega) (fun y0 hy0 => ?_)
  refine yd_step (i := 1) hp hq hr ht (by omega) hy0 (by omega) (fun y1 hy1 => ?_)
  refine yd_step (i := 2) hp hq hr ht (by omega) hy1 (by omega) (fun y2 hy2 => ?_)
  exact br_t (nI_le (a := 3) (b := 3) (by omega) (by omega)) (hP _ hy2)
theorem yd_det {post : Int64 → Prop} {p q r : Nat} (hp : ya_R pl A p) (hq : ya_R pl A q) (hr : ya_R pl A r)
    (hP : ∀ d, ir_L d (cm_d A (wg_s p) (wg_s q) (wg_s r)) 5821794 → post d) : wpY_determinant post (fn, fo, to, bo, ts, go, pl, cr) (nI p) (nI q) (nI r) 3 := by
  refine yd_all (t := 3) hp hq hr (by omega) (fun d hd => hP d ?_)
  rw [yd_d] at hd
  exact hd
theorem yd_top {post : Int64 → Prop} {p q r t : Nat} (hp : ya_R pl A p) (hq : ya_R pl A q) (hr : ya_R pl A r) (ht : t < 3)
    (hP : ∀ d, ir_L d (cm_t A (wg_s p) (wg_s q) (wg_s r) t) 5821794 → post d) : wpY_determinant post (fn, fo, to, bo, ts, go, pl, cr) (nI p) (nI q) (nI r) (nI t) := by
  refine yd_all hp hq hr (by omega) (fun d hd => hP d ?_)
  rw [yd_t ht] at hd
  exact hd
theorem yc_counts {post : Int32 → Prop} {out : Int32} {k : Nat} (hk : k < 12) (hn : n ≤ 6) (ho : ∀ x, x < 6 → (nI x = out ↔ Ex (wg_s x))) (hs : ∀ x, 6 ≤ x → x < 12 → ¬ Ex (wg_s x)) (hT : ya_C n Ex k → post 1) (hF : ¬ ya_C n Ex k → post 0) : wpY_counts post (nI n, fo, to, bo, ts, go, pl, cr) (nI k) out := by
  refine pk_le 6 k (fun h => hT ⟨Or.inl h, hs k h hk⟩) (fun h => ?_)
  refine pk_le n k (fun h' => hF (fun c => ?_)) (fun h' => ?_)
  · have := c.1
    omega
  · exact ir_if (ho k h) (fun z => hF (fun c => c.2 z)) (fun z => hT ⟨Or.inr h', z⟩)
theorem yc_91 {post : Int32 → SY → Prop} {out : Int32} {T0 T1 T2 B : Int} (hn : n ≤ 6) (ho : ∀ x, x < 6 → (nI x = out ↔ Ex (wg_s x))) (hs : ∀ x, 6 ≤ x → x < 12 → ¬ Ex (wg_s x)) (hR : ∀ x, x < 12 → (6 ≤ x ∨ x < n) → ya_R pl A x)
    (h0 : ir_L (cr 0) T0 5821794) (h1 : ir_L (cr 1) T1 5821794) (h2 : ir_L (cr 2) T2 5821794) (hb : ir_L (cr 3) B 5821794)
    (hT : (∀ x, x < 12 → ya_C n Ex x → A (wg_s x) 0 * T0 + A (wg_s x) 1 * T1 + A (wg_s x) 2 * T2 ≤ A (wg_s x) 3 * B) → post 1 (nI n, fo, to, bo, ts, go, pl, cr))
    (hF : ¬ (∀ x, x < 12 → ya_C n Ex x → A (wg_s x) 0 * T0 + A (wg_s x) 1 * T1 + A (wg_s x) 2 * T2 ≤ A (wg_s x) 3 * B) → post 0 (nI n, fo, to, bo, ts, go, pl, cr)) :
    ∀ (m f x : Nat), x + m = 12 → m < f → (∀ y, y < x → ya_C n Ex y → A (wg_s y) 0 * T0 + A (wg_s y) 1 * T1 + A (wg_s y) 2 * T2 ≤ A (wg_s y) 3 * B) → wY_corner_91 post out (nI n) fo to bo ts go pl cr f (nI x) := by
  intro m
  induction m with
  | zero =>
    intro f x hx hf hI
    obtain ⟨f, rfl⟩ : ∃ f', f = f' + 1 := ⟨f - 1, by omega⟩
    exact br_t (nI_le (a := 12) (by omega) (by omega)) (hT (fun y hy => hI y (by omega)))
  | succ m ih =>
    intro f x hx hf hI
    obtain ⟨f, rfl⟩ : ∃ f', f = f' + 1 := ⟨f - 1, by omega⟩
    have e0 : 4 * nI x = nI (4 * x + 0) := pk_mul 4 x
    have e1 : 4 * nI x + 1 = nI (4 * x + 1) := yc_i x 1
    have e2 : 4 * nI x + 2 = nI (4 * x + 2) := yc_i x 2
    have e3 : 4 * nI x + 3 = nI (4 * x + 3) := yc_i x 3
    refine br_f (nI_ge (b := 12) (a := x) (by omega) (by omega)) ⟨by rw [e0]; exact vp_in_nI (by omega) (by omega), by rw [e1]; exact vp_in_nI (by omega) (by omega), by rw [e2]; exact vp_in_nI (by omega) (by omega), ?_⟩
    refine nm_r (e' := (pl (4 * x + 0)).toInt64 * cr 0 + (pl (4 * x + 1)).toInt64 * cr 1 + (pl (4 * x + 2)).toInt64 * cr 2) (by rw [e1, e2, e0, nI_clamp (by omega), nI_clamp (by omega), nI_clamp (by omega)]) ?_
    refine yc_counts (by omega) hn ho hs (fun c => ?_) (fun c => ?_)
    · refine br_f (by decide) ⟨by rw [e3]; exact vp_in_nI (by omega) (by omega), ?_⟩
      rw [e3, nI_clamp (by omega)]
      have R := hR x (by omega) c.1
      have hsum := ir_ladd (ir_ladd (ir_lmul (ir_il (R.2 0 (by omega))) h0 (by decide)) (ir_lmul (ir_il (R.2 1 (by omega))) h1 (by decide)) (by decide)) (ir_lmul (ir_il (R.2 2 (by omega))) h2 (by decide)) (by decide)
      refine ir_if (ir_lle hsum (ir_lmul (ir_il (R.2 3 (by omega))) hb (by decide))) (fun k => nm_r (nI_1 x) ?_) (fun k => hF (fun al => k (al x (by omega) c)))
      exact ih f (x + 1) (by omega) (by omega) (fun y hy hE => if e : y = x then e ▸ k else hI y (by omega) hE)
    · refine br_t rfl (nm_r (nI_1 x) ?_)
      exact ih f (x + 1) (by omega) (by omega) (fun y hy hE => if e : y = x then absurd (e ▸ hE) c else hI y (by omega) hE)
end
