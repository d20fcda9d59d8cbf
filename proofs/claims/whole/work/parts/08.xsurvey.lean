/-! ===== the whole points: what both sides go through ===== -/
def sv_c (F : Nat → Bool) : Nat → Nat
  | 0 => 0
  | p + 1 => if F p = true then sv_c F p + 1 else sv_c F p
def sv_p (g : Nat → Int32) (p : Nat) : Option Nat → Option Nat
  | none => some p
  | some q => if g p ≤ g q then some q else some p
def sv_b (F : Nat → Bool) (g : Nat → Int32) : Nat → Option Nat
  | 0 => none
  | p + 1 => if F p = true then sv_p g p (sv_b F g p) else sv_b F g p
def sv_l (F : Nat → Bool) (h : Nat → Int32) : Nat → Int32
  | 0 => -1002
  | p + 1 => if F p = true then (if h p ≤ sv_l F h p then sv_l F h p else h p) else sv_l F h p
/-- the value of a best point's own number, or NONE -/
def sv_o (h : Nat → Int32) : Option Nat → Int32
  | none => -1002
  | some q => h q
def sv_x (i p : Nat) : Nat := if i = 0 then p / 49 else if i = 1 then p / 7 % 7 else p % 7
def sv_h (i p : Nat) : Int32 := nI (sv_x i p)
def sv_g (gc : Nat → Int32) (p : Nat) : Int32 := gc 0 * sv_h 0 p + gc 1 * sv_h 1 p + gc 2 * sv_h 2 p
/-- point p keeps all walls -/
def sv_F (A : Nat → Nat → Int) (N p : Nat) : Prop := ∀ x, x < N → ¬ False → A x 0 * (sv_x 0 p : Int) + A x 1 * (sv_x 1 p : Int) + A x 2 * (sv_x 2 p : Int) ≤ A x 3 * 1
def sv_I (F : Nat → Bool) (gc : Nat → Int32) (p : Nat) (fi bg : Int32) (bp lv : Nat → Int32) : Prop := fi = nI (sv_c F p) ∧ bg = sv_o (sv_g gc) (sv_b F (sv_g gc) p) ∧ (∀ i, i < 3 → bp i = sv_o (sv_h i) (sv_b F (sv_g gc) p)) ∧ (∀ i, i < 3 → lv i = sv_l F (sv_h i) p)
theorem sv_no {F : Nat → Bool} {gc : Nat → Int32} {p : Nat} {fi bg : Int32} {bp lv : Nat → Int32} (h : F p = false) (I : sv_I F gc p fi bg bp lv) : sv_I F gc (p + 1) fi bg bp lv := by
  obtain ⟨h1, h2, h3, h4⟩ := I
  have n : ¬ F p = true := by rw [h]; decide
  refine ⟨?_, ?_, fun i hi => ?_, fun i hi => ?_⟩
  · rw [sv_c, if_neg n]; exact h1
  · rw [sv_b, if_neg n]; exact h2
  · rw [sv_b, if_neg n]; exact h3 i hi
  · rw [sv_l, if_neg n]; exact h4 i hi
theorem sv_yes {F : Nat → Bool} {gc : Nat → Int32} {p : Nat} {fi bg bg' : Int32} {bp lv bp' lv' : Nat → Int32} (h : F p = true) (hg : ¬ sv_g gc p ≤ -1002) (I : sv_I F gc p fi bg bp lv) (hl : ∀ i, i < 3 → lv' i = if sv_h i p ≤ lv i then lv i else sv_h i p)
    (hb : (sv_g gc p ≤ bg ∧ bg' = bg ∧ bp' = bp) ∨ (¬ sv_g gc p ≤ bg ∧ bg' = sv_g gc p ∧ ∀ i, i < 3 → bp' i = sv_h i p)) : sv_I F gc (p + 1) (fi + 1) bg' bp' lv' := by
  obtain ⟨h1, h2, h3, h4⟩ := I
  have key : bg' = sv_o (sv_g gc) (sv_b F (sv_g gc) (p + 1)) ∧ ∀ i, i < 3 → bp' i = sv_o (sv_h i) (sv_b F (sv_g gc) (p + 1)) := by
    rw [sv_b, if_pos h]
    cases e : sv_b F (sv_g gc) p with
    | none =>
      rw [e] at h2 h3
      rcases hb with ⟨k1, k2, k3⟩ | ⟨k1, k2, k3⟩
      · rw [h2] at k1
        exact absurd k1 hg
      · exact ⟨k2, k3⟩
    | some q =>
      rw [e] at h2 h3
      rcases hb with ⟨k1, k2, k3⟩ | ⟨k1, k2, k3⟩
      · rw [h2] at k1
        have k1' : sv_g gc p ≤ sv_g gc q := k1
        rw [sv_p, if_pos k1', k2, k3]
        exact ⟨h2, h3⟩
      · rw [h2] at k1
        have k1' : ¬ sv_g gc p ≤ sv_g gc q := k1
        rw [sv_p, if_neg k1']
        exact ⟨k2, k3⟩
  refine ⟨?_, key.1, key.2, fun i hi => ?_⟩
  · rw [sv_c, if_pos h, h1, nI_1]
  · rw [sv_l, if_pos h, ← h4 i hi]; exact hl i hi
section
variable {wc fi bg cb : Int32} {pt pb : Int64} {co wl gc bp lv ct : Nat → Int32} {A : Nat → Nat → Int} {N : Nat} {F : Nat → Bool}
theorem xv_note {post : SX → Prop} {i : Nat} {v : Int32} (hi : i < 3) (hp : ∀ lv', (∀ j, j ≠ i → lv' j = lv j) → lv' i = (if v ≤ lv i then lv i else v) → post (wc, fi, bg, cb, pt, pb, co, wl, gc, bp, lv', ct)) : wpX_noteValue post (wc, fi, bg, cb, pt, pb, co, wl, gc, bp, lv, ct) (nI i) v := by
  refine ⟨vp_in_nI (by omega) (by omega), ?_⟩
  rw [nI_clamp (by omega)]
  refine br_c (fun h => hp _ (fun _ _ => rfl) (if_pos h).symm) (fun h => ⟨vp_in_nI (by omega) (by omega), nm_e (hp _ (fun j hj => pk_un hj) ?_)⟩)
  rw [pk_us, if_neg h]
theorem xf_note {post : SX → Prop} {p0 p1 p2 : Int32} (hp : ∀ lv' bg' bp', lv' 0 = (if p0 ≤ lv 0 then lv 0 else p0) → lv' 1 = (if p1 ≤ lv 1 then lv 1 else p1) → lv' 2 = (if p2 ≤ lv 2 then lv 2 else p2) → ((gc 0 * p0 + gc 1 * p1 + gc 2 * p2 ≤ bg ∧ bg' = bg ∧ bp' = bp) ∨ (¬ gc 0 * p0 + gc 1 * p1 + gc 2 * p2 ≤ bg ∧ bg' = gc 0 * p0 + gc 1 * p1 + gc 2 * p2 ∧ bp' 0 = p0 ∧ bp' 1 = p1 ∧ bp' 2 = p2)) → post (wc, fi + 1, bg', cb, pt, pb, co, wl, gc, bp', lv', ct)) : wpX_noteFitPoint post (wc, fi, bg, cb, pt, pb, co, wl, gc, bp, lv, ct) p0 p1 p2 := by
  refine nm_e ?_
  refine xv_note (i := 0) (by omega) (fun l0 a0 b0 => ?_)
  refine xv_note (i := 1) (by omega) (fun l1 a1 b1 => ?_)
  refine xv_note (i := 2) (by omega) (fun l2 a2 b2 => ?_)
  have c0 : l2 0 = (if p0 ≤ lv 0 then lv 0 else p0) := by rw [a2 0 (by omega), a1 0 (by omega)]; exact b0
  have c1 : l2 1 = (if p1 ≤ lv 1 then lv 1 else p1) := by rw [a2 1 (by omega), b1, a0 1 (by omega)]
  have c2 : l2 2 = (if p2 ≤ lv 2 then lv 2 else p2) := by rw [b2, a1 2 (by omega), a0 2 (by omega)]
  refine nm_e (br_c (fun h => hp _ _ _ c0 c1 c2 (Or.inl ⟨h, rfl, rfl⟩)) (fun h => nm_e (nm_e (nm_e (hp _ _ _ c0 c1 c2 (Or.inr ⟨h, rfl, rfl, rfl, rfl⟩))))))
/-- the coordinates of 49 a + 7 b + c -/
theorem sv_at {a b c : Nat} (hb : b < 7) (hc : c < 7) : sv_x 0 (49 * a + 7 * b + c) = a ∧ sv_x 1 (49 * a + 7 * b + c) = b ∧ sv_x 2 (49 * a + 7 * b + c) = c := by
  have e0 : sv_x 0 (49 * a + 7 * b + c) = (49 * a + 7 * b + c) / 49 := if_pos rfl
  have e1 : sv_x 1 (49 * a + 7 * b + c) = (49 * a + 7 * b + c) / 7 % 7 := rfl
  have e2 : sv_x 2 (49 * a + 7 * b + c) = (49 * a + 7 * b + c) % 7 := rfl
  omega
theorem xw_61 {post : SX → Prop} {J45 J53 : Int32 → Int32 → Int32 → Int32 → Int32 → Int64 → Int64 → (Nat → Int32) → (Nat → Int32) → (Nat → Int32) → (Nat → Int32) → (Nat → Int32) → (Nat → Int32) → Prop} (hW : xa_W co wl A N) (hN : N ≤ 12) (hF : ∀ p, p < 343 → (F p = true ↔ sv_F A N p)) (hg : ∀ p, p < 343 → ¬ sv_g gc p ≤ -1002) {a b : Nat} (ha : a < 7) (hb : b < 7)
    (hJ : ∀ fi bg bp lv, sv_I F gc (49 * a + 7 * (b + 1)) fi bg bp lv → J53 (nI (b + 1)) (nI N) fi bg cb pt pb co wl gc bp lv ct) :
    ∀ (m f c : Nat) (fi bg : Int32) (bp lv : Nat → Int32), c + m = 7 → m < f → sv_I F gc (49 * a + 7 * b + c) fi bg bp lv → wX_surveyWholePoints_61 post J45 J53 (nI a) (nI b) f (nI c) (nI N) fi bg cb pt pb co wl gc bp lv ct := by
  intro m
  induction m with
  | zero =>
    intro f c fi bg bp lv hc hf hI
    obtain ⟨f, rfl⟩ : ∃ f', f = f' + 1 := ⟨f - 1, by omega⟩
    have e : c = 7 := by omega
    subst e
    exact br_t (nI_lt (a := 6) (b := 7) (by omega) (by omega)) (nm_r (nI_1 b) (hJ _ _ _ _ hI))
  | succ m ih =>
    intro f c fi bg bp lv hc hf hI
    obtain ⟨f, rfl⟩ : ∃ f', f = f' + 1 := ⟨f - 1, by omega⟩
    obtain ⟨e0, e1, e2⟩ := sv_at (a := a) hb (c := c) (by omega)
    have hp : 49 * a + 7 * b + c < 343 := by omega
    refine br_f (nI_nlt (a := 6) (b := c) (by omega) (by omega)) ?_
    refine xk_keeps (Ex := fun _ => False) (T0 := (a : Int)) (T1 := (b : Int)) (T2 := (c : Int)) (B := 1) hW hN (ir_nI _ (by omega) (by omega)) (ir_nI _ (by omega) (by omega)) (ir_nI _ (by omega) (by omega)) (ir_iup _ ir_i1 (by omega)) (fun x hx => ⟨fun e => ?_, fun e => e.elim⟩) (fun ok => br_f (by decide) ?_) (fun nok => br_t rfl (nm_r (nI_1 c) ?_))
    · have h1 := ir_nI (n := x) 12 (by omega) (by omega)
      have h2 : ir_I (-1) (-1) 1 := ⟨by decide, by decide, by decide⟩
      have := (ir_ieq h1 h2).mp e
      omega
    · have fp : F (49 * a + 7 * b + c) = true := (hF _ hp).mpr (by unfold sv_F; rw [e0, e1, e2]; exact ok)
      have g0 : sv_h 0 (49 * a + 7 * b + c) = nI a := by rw [sv_h, e0]
      have g1 : sv_h 1 (49 * a + 7 * b + c) = nI b := by rw [sv_h, e1]
      have g2 : sv_h 2 (49 * a + 7 * b + c) = nI c := by rw [sv_h, e2]
      have gg : sv_g gc (49 * a + 7 * b + c) = gc 0 * nI a + gc 1 * nI b + gc 2 * nI c := by rw [sv_g, g0, g1, g2]
      refine xf_note (fun lv' bg' bp' l0 l1 l2 hb' => nm_r (nI_1 c) ?_)
      refine ih f (c + 1) _ _ _ _ (by omega) (by omega) (sv_yes (p := 49 * a + 7 * b + c) fp (hg _ hp) hI ?_ ?_)
      · intro i hi
        match i, hi with
        | 0, _ => rw [g0]; exact l0
        | 1, _ => rw [g1]; exact l1
        | 2, _ => rw [g2]; exact l2
      · rw [gg]
        rcases hb' with h | ⟨k1, k2, k3, k4, k5⟩
        · exact Or.inl h
        · refine Or.inr ⟨k1, k2, ?_⟩
          intro i hi
          match i, hi with
          | 0, _ => rw [g0]; exact k3
          | 1, _ => rw [g1]; exact k4
          | 2, _ => rw [g2]; exact k5
    · have fp : F (49 * a + 7 * b + c) = false := by
        cases e : F (49 * a + 7 * b + c) with
        | false => rfl
        | true =>
          have := (hF _ hp).mp e
          unfold sv_F at this
          rw [e0, e1, e2] at this
          exact absurd this nok
      exact ih f (c + 1) _ _ _ _ (by omega) (by omega) (sv_no fp hI)
theorem xw_53 {post : SX → Prop} {J45 : Int32 → Int32 → Int32 → Int32 → Int32 → Int64 → Int64 → (Nat → Int32) → (Nat → Int32) → (Nat → Int32) → (Nat → Int32) → (Nat → Int32) → (Nat → Int32) → Prop} (hW : xa_W co wl A N) (hN : N ≤ 12) (hF : ∀ p, p < 343 → (F p = true ↔ sv_F A N p)) (hg : ∀ p, p < 343 → ¬ sv_g gc p ≤ -1002) {a : Nat} (ha : a < 7)
    (hJ : ∀ fi bg bp lv, sv_I F gc (49 * (a + 1)) fi bg bp lv → J45 (nI (a + 1)) (nI N) fi bg cb pt pb co wl gc bp lv ct) :
    ∀ (m f b : Nat) (fi bg : Int32) (bp lv : Nat → Int32), b + m = 7 → m < f → sv_I F gc (49 * a + 7 * b) fi bg bp lv → wX_surveyWholePoints_53 post J45 (nI a) f (nI b) (nI N) fi bg cb pt pb co wl gc bp lv ct := by
  intro m
  induction m with
  | zero =>
    intro f b fi bg bp lv hb hf hI
    obtain ⟨f, rfl⟩ : ∃ f', f = f' + 1 := ⟨f - 1, by omega⟩
    have e : b = 7 := by omega
    subst e
    exact br_t (nI_lt (a := 6) (b := 7) (by omega) (by omega)) (nm_r (nI_1 a) (hJ _ _ _ _ hI))
  | succ m ih =>
    intro f b fi bg bp lv hb hf hI
    obtain ⟨f, rfl⟩ : ∃ f', f = f' + 1 := ⟨f - 1, by omega⟩
    refine br_f (nI_nlt (a := 6) (b := b) (by omega) (by omega)) ⟨8, ?_⟩
    exact xw_61 hW hN hF hg ha (by omega) (fun fi bg bp lv h => ih f (b + 1) fi bg bp lv (by omega) (by omega) h) 7 8 0 fi bg bp lv (by omega) (by omega) hI
theorem xw_45 {post : SX → Prop} (hW : xa_W co wl A N) (hN : N ≤ 12) (hF : ∀ p, p < 343 → (F p = true ↔ sv_F A N p)) (hg : ∀ p, p < 343 → ¬ sv_g gc p ≤ -1002)
    (hp : ∀ fi bg bp lv, sv_I F gc 343 fi bg bp lv → post (nI N, fi, bg, cb, pt, pb, co, wl, gc, bp, lv, ct)) :
    ∀ (m f a : Nat) (fi bg : Int32) (bp lv : Nat → Int32), a + m = 7 → m < f → sv_I F gc (49 * a) fi bg bp lv → wX_surveyWholePoints_45 post f (nI a) (nI N) fi bg cb pt pb co wl gc bp lv ct := by
  intro m
  induction m with
  | zero =>
    intro f a fi bg bp lv ha hf hI
    obtain ⟨f, rfl⟩ : ∃ f', f = f' + 1 := ⟨f - 1, by omega⟩
    have e : a = 7 := by omega
    subst e
    exact br_t (nI_lt (a := 6) (b := 7) (by omega) (by omega)) (hp _ _ _ _ hI)
  | succ m ih =>
    intro f a fi bg bp lv ha hf hI
    obtain ⟨f, rfl⟩ : ∃ f', f = f' + 1 := ⟨f - 1, by omega⟩
    refine br_f (nI_nlt (a := 6) (b := a) (by omega) (by omega)) ⟨8, ?_⟩
    exact xw_53 hW hN hF hg (by omega) (fun fi bg bp lv h => ih f (a + 1) fi bg bp lv (by omega) (by omega) h) 7 8 0 fi bg bp lv (by omega) (by omega) hI
/-- what the survey leaves -/
theorem xw_survey {post : SX → Prop} (hW : xa_W co wl A N) (hN : N ≤ 12) (hF : ∀ p, p < 343 → (F p = true ↔ sv_F A N p)) (hg : ∀ p, p < 343 → ¬ sv_g gc p ≤ -1002)
    (hp : ∀ fi bg bp lv, sv_I F gc 343 fi bg bp lv → post (nI N, fi, bg, cb, pt, pb, co, wl, gc, bp, lv, ct)) : wpX_surveyWholePoints post (nI N, fi, bg, cb, pt, pb, co, wl, gc, bp, lv, ct) := by
  have v0 : vp_in 0 3 := vp_in_nI (n := 0) (by omega) (by omega)
  have v1 : vp_in (0 + 1) 3 := vp_in_nI (n := 1) (by omega) (by omega)
  have v2 : vp_in (0 + 1 + 1) 3 := vp_in_nI (n := 2) (by omega) (by omega)
  refine ⟨4, br_f (by decide) ⟨v0, nm_e ⟨v0, nm_e (nm_e (br_f (by decide) ⟨v1, nm_e ⟨v1, nm_e (nm_e (br_f (by decide) ⟨v2, nm_e ⟨v2, nm_e (nm_e (br_t (by decide) ⟨8, ?_⟩))⟩⟩))⟩⟩))⟩⟩⟩
  refine xw_45 hW hN hF hg hp 7 8 0 _ _ _ _ (by omega) (by omega) ⟨rfl, rfl, ?_, ?_⟩
  · intro i hi
    match i, hi with
    | 0, _ => rfl
    | 1, _ => rfl
    | 2, _ => rfl
  · intro i hi
    match i, hi with
    | 0, _ => rfl
    | 1, _ => rfl
    | 2, _ => rfl
end
