/-! ===== rule and drop ===== -/
theorem ru_e {f : Nat → Int32} {k j : Nat} {x : Int32} (h : j = k) : upd f k x j = x := if_pos h
theorem r_rule {n : Nat} {co wl gc ts go pl : Nat → Int32} (R : r_R n co wl gc ts go pl) (hn : n < 6) {a0 a1 a2 li : Int32} (h0 : rb_d a0 9) (h1 : rb_d a1 9) (h2 : rb_d a2 9) (h3 : rb_d li 99) :
    r_R (n + 1) (upd (upd (upd co ((6 + n) * 3) a0) ((6 + n) * 3 + 1) a1) ((6 + n) * 3 + 2) a2) (upd wl (6 + n) li) gc ts go (upd (upd (upd (upd pl (4 * n) a0) (4 * n + 1) a1) (4 * n + 2) a2) (4 * n + 3) li) := by
  obtain ⟨ra, rb, rc, rd, re, rf, rg, rh, ri⟩ := R
  have cN : ∀ i, i < 3 → upd (upd (upd co ((6 + n) * 3) a0) ((6 + n) * 3 + 1) a1) ((6 + n) * 3 + 2) a2 ((n + 6) * 3 + i) = (if i = 0 then a0 else if i = 1 then a1 else a2) := by
    intro i hi
    match i, hi with
    | 0, _ => rw [pk_un (by omega), pk_un (by omega), ru_e (by omega)]; rfl
    | 1, _ => rw [pk_un (by omega), ru_e (by omega)]; rfl
    | 2, _ => rw [ru_e (by omega)]; rfl
  refine ⟨by omega, rb, fun w hw i hi => ?_, fun i hi => ⟨?_, ?_, (rd i hi).2.2⟩, fun k hk => ⟨fun i hi => ?_, ?_⟩, fun p hp hp' i hi => ?_, fun i hi => ⟨?_, ?_⟩, fun k hk => ⟨fun i hi => ?_, ?_⟩, ri⟩
  · rw [pk_un (by omega), pk_un (by omega), pk_un (by omega)]; exact rc w hw i hi
  · rw [pk_un (by omega)]; exact (rd i hi).1
  · rw [pk_un (by omega)]; exact (rd i hi).2.1
  · by_cases e : k = n
    · subst e
      rw [cN i hi]
      match i, hi with
      | 0, _ => exact h0
      | 1, _ => exact h1
      | 2, _ => exact h2
    · rw [pk_un (by omega), pk_un (by omega), pk_un (by omega)]; exact (re k (by omega)).1 i hi
  · by_cases e : k = n
    · rw [ru_e (by omega)]; exact h3
    · rw [pk_un (by omega)]; exact (re k (by omega)).2
  · rw [pk_un (by omega), pk_un (by omega), pk_un (by omega), pk_un (by omega)]; exact rf p hp hp' i hi
  · rw [pk_un (by omega), pk_un (by omega), pk_un (by omega), pk_un (by omega)]; exact (rg i hi).1
  · rw [pk_un (by omega), pk_un (by omega), pk_un (by omega), pk_un (by omega)]; exact (rg i hi).2
  · by_cases e : k = n
    · subst e
      rw [cN i hi]
      match i, hi with
      | 0, _ => rw [pk_un (by omega), pk_un (by omega), pk_un (by omega), ru_e (by omega)]; rfl
      | 1, _ => rw [pk_un (by omega), pk_un (by omega), ru_e (by omega)]; rfl
      | 2, _ => rw [pk_un (by omega), ru_e (by omega)]; rfl
    · rw [pk_un (by omega), pk_un (by omega), pk_un (by omega), pk_un (by omega), pk_un (by omega), pk_un (by omega), pk_un (by omega)]; exact (rh k (by omega)).1 i hi
  · by_cases e : k = n
    · rw [ru_e (by omega), ru_e (by omega)]
    · rw [pk_un (by omega), pk_un (by omega), pk_un (by omega), pk_un (by omega), pk_un (by omega)]; exact (rh k (by omega)).2
theorem rb_99 {x : Int32} (h : ¬ x < -99) (h' : x ≤ 99) : rb_d x 99 := by
  rw [ir_ilt (rb_any x) (show ir_I (-99) (-99) 99 from ⟨by decide, by decide, by decide⟩)] at h
  rw [ir_ile (rb_any x) (show ir_I 99 99 99 from ⟨by decide, by decide, by decide⟩)] at h'
  exact ⟨by omega, by omega⟩
theorem i_vc_rule {k : Nat} {u : SX} {v : SY} (I : i_Rel k u v) (hk : k + 5 ≤ 2560) (v1 : Int32) (v2 : Int32) (v3 : Int32) (v4 : Int32) : wpX_rule (fun r u' => wpY_rule (fun r' v' => r' = r ∧ i_Rel (k + 5) u' v') v v1 v2 v3 v4) u v1 v2 v3 v4 := by
  obtain ⟨wc, fi, bg, cb, pt, pb, co, wl, gc, bp, lv, ct⟩ := u
  obtain ⟨fn, fo, to, bo, ts, go, pl, cr⟩ := v
  obtain ⟨n, rfl, rfl, R⟩ := I
  have ra := R.1
  unfold wpX_rule wpY_rule
  dsimp only
  refine pk_lt (6 + n) 12 (fun h6 => ?_) (fun h6 => pk_eq n 6 (fun _ => ⟨rfl, n, rfl, rfl, R⟩) (fun e => absurd e (by omega)))
  have ne : ¬ nI n = 6 := fun z => absurd ((nI_eq (b := 6) (by omega) (by omega)).mp z) (by omega)
  refine xv_cos (fun h => br_t rfl (br_f ne ?_)) (fun h1 h2 h3 => br_f (by decide) ?_)
  · refine yv_co (fun _ => br_t rfl ⟨rfl, n, rfl, rfl, R⟩) (fun h1 => br_f (by decide) ?_)
    refine yv_co (fun _ => br_t rfl ⟨rfl, n, rfl, rfl, R⟩) (fun h2 => br_f (by decide) ?_)
    exact yv_co (fun _ => br_t rfl ⟨rfl, n, rfl, rfl, R⟩) (fun h3 => absurd ⟨h1, h2, h3⟩ h)
  · have yes : ∀ {x : Int32} {post : Int32 → Prop}, rb_d x 9 → post 1 → wpY_isFactor post (nI n, fo, to, bo, ts, go, pl, cr) x := fun hx hp => yv_co (fun h => absurd hx h) (fun _ => hp)
    by_cases g1 : v4 < -99
    · refine br_t g1 (br_f ne ?_)
      refine yes h1 (br_f (by decide) ?_)
      refine yes h2 (br_f (by decide) ?_)
      exact yes h3 (br_f (by decide) (br_t g1 ⟨rfl, n, rfl, rfl, R⟩))
    · refine br_f g1 ?_
      by_cases g2 : v4 ≤ 99
      · refine br_t g2 ?_
        have e0 : nI (6 + n) * 3 = nI ((6 + n) * 3) := pk_mul (6 + n) 3
        have e2 : nI ((6 + n) * 3) + 2 = nI ((6 + n) * 3 + 2) := nI_add _ 2
        have q0 : 4 * nI n = nI (4 * n) := pk_mul 4 n
        have q2 : nI (4 * n) + 2 = nI (4 * n + 2) := nI_add _ 2
        have q3 : nI (4 * n) + 3 = nI (4 * n + 3) := nI_add _ 3
        rw [e0, nI_1, e2, nI_clamp (by omega), nI_clamp (by omega), nI_clamp (by omega), nI_clamp (by omega)]
        refine ⟨vp_in_nI (by omega) (by omega), nm_e ⟨vp_in_nI (by omega) (by omega), nm_e ⟨vp_in_nI (by omega) (by omega), nm_e ⟨vp_in_nI (by omega) (by omega), nm_e (nm_r (nI_1 (6 + n)) (br_f ne ?_))⟩⟩⟩⟩
        refine yes h1 (br_f (by decide) ?_)
        refine yes h2 (br_f (by decide) ?_)
        refine yes h3 (br_f (by decide) (br_f g1 (br_t g2 ?_)))
        rw [q0, nI_1 (4 * n), q2, q3, nI_clamp (by omega), nI_clamp (by omega), nI_clamp (by omega), nI_clamp (by omega)]
        refine ⟨vp_in_nI (by omega) (by omega), nm_e ⟨vp_in_nI (by omega) (by omega), nm_e ⟨vp_in_nI (by omega) (by omega), nm_e ⟨vp_in_nI (by omega) (by omega), nm_e (nm_r (nI_1 n) ⟨?_, n + 1, rfl, rfl, r_rule R (by omega) h1 h2 h3 (rb_99 g1 g2)⟩)⟩⟩⟩⟩
        rw [nI_pred]
        have : nI (6 + n) - nI 6 = nI (6 + n - 6) := pk_sub (by omega)
        rw [show 6 + n - 6 = n from by omega] at this
        exact this.symm
      · refine br_f g2 (br_f ne ?_)
        refine yes h1 (br_f (by decide) ?_)
        refine yes h2 (br_f (by decide) ?_)
        exact yes h3 (br_f (by decide) (br_f g1 (br_f g2 ⟨rfl, n, rfl, rfl, R⟩)))
/-- c from lo up to hi is moved down by d -/
def sh_I (c : Nat → Int32) (lo hi d : Nat) (a : Nat → Int32) : Prop := ∀ x, a x = if lo ≤ x ∧ x < hi then c (x + d) else c x
theorem sh_0 {c : Nat → Int32} {lo d : Nat} : sh_I c lo lo d c := fun x => by rw [if_neg (by omega)]
theorem sh_s {c a : Nat → Int32} {lo hi d : Nat} (h : sh_I c lo hi d a) (hl : lo ≤ hi) : sh_I c lo (hi + 1) d (upd a hi (a (hi + d))) := by
  intro x
  by_cases e : x = hi
  · subst e
    rw [pk_us, if_pos ⟨hl, by omega⟩, h, if_neg (by omega)]
  · rw [pk_un e, h]
    by_cases z : lo ≤ x ∧ x < hi
    · rw [if_pos z, if_pos (by omega)]
    · rw [if_neg z, if_neg (by omega)]
section
variable {wc fi bg cb : Int32} {pt pb : Int64} {co wl gc bp lv ct : Nat → Int32} {fn fo : Int32} {to bo : Int64} {ts go pl : Nat → Int32} {cr : Nat → Int64} {n : Nat}
theorem xd_step {post : SX → Prop} {b i m : Nat} (hb : b + 1 < 12) (hi : i < 3) (h : wX_moveDown_2 post (nI (b + 1)) wc fi bg cb pt pb m (nI (i + 1)) (upd co (b * 3 + i) (co (b * 3 + i + 3))) wl gc bp lv ct) : wX_moveDown_2 post (nI (b + 1)) wc fi bg cb pt pb (m + 1) (nI i) co wl gc bp lv ct := by
  have e1 : nI (b + 1) * 3 + nI i = nI (b * 3 + i + 3) := by
    rw [xc_i]
    exact congrArg nI (by omega)
  have e2 : (nI (b + 1) - 1) * 3 + nI i = nI (b * 3 + i) := by rw [nI_pred]; exact xc_i b i
  refine br_f (nI_ge (b := 3) (a := i) hi (by omega)) ?_
  rw [e1, e2, nI_clamp (by omega), nI_clamp (by omega)]
  exact ⟨vp_in_nI (by omega) (by omega), vp_in_nI (by omega) (by omega), nm_e (nm_r (nI_1 i) h)⟩
theorem xd_move {post : SX → Prop} {b lo lo' : Nat} {c0 w0 : Nat → Int32} (hb : b + 1 < 12) (h1 : sh_I c0 lo (b * 3) 3 co) (hlo : lo ≤ b * 3) (h2 : sh_I w0 lo' b 1 wl) (hlo' : lo' ≤ b) (hp : ∀ co' wl', sh_I c0 lo ((b + 1) * 3) 3 co' → sh_I w0 lo' (b + 1) 1 wl' → post (wc, fi, bg, cb, pt, pb, co', wl', gc, bp, lv, ct)) : wpX_moveDown post (wc, fi, bg, cb, pt, pb, co, wl, gc, bp, lv, ct) (nI (b + 1)) := by
  refine ⟨4, xd_step (i := 0) hb (by omega) (xd_step (i := 1) hb (by omega) (xd_step (i := 2) hb (by omega) (br_t (nI_le (a := 3) (b := 3) (by omega) (by omega)) ?_)))⟩
  rw [nI_pred, nI_clamp (by omega), nI_clamp (by omega)]
  refine ⟨vp_in_nI (by omega) (by omega), vp_in_nI (by omega) (by omega), nm_e (hp _ _ ?_ (sh_s h2 hlo'))⟩
  have s1 := sh_s h1 hlo
  have s2 := sh_s s1 (by omega)
  have s3 := sh_s s2 (by omega)
  rw [show (b + 1) * 3 = b * 3 + 1 + 1 + 1 from by omega]
  exact s3
theorem xd_loop {post : Int32 → SX → Prop} {c0 w0 : Nat → Int32} {q : Nat} (hn : 0 < n) (hn6 : n ≤ 6) (hq : q < n)
    (hp : ∀ co' wl', sh_I c0 ((6 + q) * 3) ((6 + (n - 1)) * 3) 3 co' → sh_I w0 (6 + q) (6 + (n - 1)) 1 wl' → post (nI (n - 1)) (nI (6 + (n - 1)), fi, bg, cb, pt, pb, co', wl', gc, bp, lv, ct)) :
    ∀ (m f b : Nat) (co wl : Nat → Int32), b + m = 6 + (n - 1) → m < f → 6 + q ≤ b → sh_I c0 ((6 + q) * 3) (b * 3) 3 co → sh_I w0 (6 + q) b 1 wl → wX_drop_17 post f (nI b) (nI (6 + n)) fi bg cb pt pb co wl gc bp lv ct := by
  intro m
  induction m with
  | zero =>
    intro f b co wl hb hf hqb h1 h2
    obtain ⟨f, rfl⟩ : ∃ f', f = f' + 1 := ⟨f - 1, by omega⟩
    have e : b = 6 + (n - 1) := by omega
    subst e
    have e1 : nI (6 + n) - 1 = nI (6 + (n - 1)) := by
      rw [show 6 + n = 6 + (n - 1) + 1 from by omega, nI_pred]
    have e2 : nI (6 + (n - 1)) - 6 = nI (n - 1) := by
      have : nI (6 + (n - 1)) - nI 6 = nI (6 + (n - 1) - 6) := pk_sub (by omega)
      rw [show 6 + (n - 1) - 6 = n - 1 from by omega] at this
      exact this
    refine br_t (by rw [nI_1]; exact nI_le (by omega) (by omega)) (nm_r e1 ?_)
    rw [e2]
    exact hp _ _ h1 h2
  | succ m ih =>
    intro f b co wl hb hf hqb h1 h2
    obtain ⟨f, rfl⟩ : ∃ f', f = f' + 1 := ⟨f - 1, by omega⟩
    refine br_f (by rw [nI_1]; exact nI_ge (by omega) (by omega)) ?_
    rw [nI_1]
    refine xd_move (by omega) h1 (by omega) h2 hqb (fun co' wl' k1 k2 => nm_e ?_)
    exact ih f (b + 1) co' wl' (by omega) (by omega) (by omega) k1 k2
theorem yd_loop {post : Int32 → SY → Prop} {p0 : Nat → Int32} {q : Nat} (hn : 0 < n) (hn6 : n ≤ 6) (hq : q < n)
    (hp : ∀ pl', sh_I p0 (4 * q) (4 * (n - 1)) 4 pl' → post (nI (n - 1)) (nI (n - 1), fo, to, bo, ts, go, pl', cr)) :
    ∀ (m f b : Nat) (pl : Nat → Int32), b + m = 4 * (n - 1) → m < f → 4 * q ≤ b → sh_I p0 (4 * q) b 4 pl → wY_drop_20 post (nI n) fo to bo f (nI b) ts go pl cr := by
  have e1 : nI n - 1 = nI (n - 1) := by
    obtain ⟨m, rfl⟩ : ∃ m, n = m + 1 := ⟨n - 1, by omega⟩
    exact nI_pred m
  have e2 : 4 * (nI n - 1) = nI (4 * (n - 1)) := by rw [e1]; exact pk_mul 4 (n - 1)
  intro m
  induction m with
  | zero =>
    intro f b pl hb hf hqb h1
    obtain ⟨f, rfl⟩ : ∃ f', f = f' + 1 := ⟨f - 1, by omega⟩
    have e : b = 4 * (n - 1) := by omega
    subst e
    exact br_t (by rw [e2]; exact nI_le (by omega) (by omega)) (nm_r e1 (hp _ h1))
  | succ m ih =>
    intro f b pl hb hf hqb h1
    obtain ⟨f, rfl⟩ : ∃ f', f = f' + 1 := ⟨f - 1, by omega⟩
    have e4 : nI b + 4 = nI (b + 4) := nI_add b 4
    refine br_f (by rw [e2]; exact nI_ge (by omega) (by omega)) ?_
    rw [e4, nI_clamp (by omega), nI_clamp (by omega)]
    refine ⟨vp_in_nI (by omega) (by omega), vp_in_nI (by omega) (by omega), nm_e (nm_r (nI_1 b) ?_)⟩
    exact ih f (b + 1) _ (by omega) (by omega) (by omega) (sh_s h1 hqb)
end
theorem r_drop {n q : Nat} {co wl gc ts go pl co' wl' pl' : Nat → Int32} (R : r_R n co wl gc ts go pl) (hq : q < n) (h1 : sh_I co ((6 + q) * 3) ((6 + (n - 1)) * 3) 3 co') (h2 : sh_I wl (6 + q) (6 + (n - 1)) 1 wl') (h3 : sh_I pl (4 * q) (4 * (n - 1)) 4 pl') : r_R (n - 1) co' wl' gc ts go pl' := by
  obtain ⟨ra, rb, rc, rd, re, rf, rg, rh, ri⟩ := R
  refine ⟨by omega, rb, fun w hw i hi => ?_, fun i hi => ⟨?_, ?_, (rd i hi).2.2⟩, fun k hk => ?_, fun p hp hp' i hi => ?_, fun i hi => ⟨?_, ?_⟩, fun k hk => ?_, ri⟩
  · rw [h1, if_neg (by omega)]; exact rc w hw i hi
  · rw [h2, if_neg (by omega)]; exact (rd i hi).1
  · rw [h2, if_neg (by omega)]; exact (rd i hi).2.1
  · by_cases z : q ≤ k
    · refine ⟨fun i hi => ?_, ?_⟩
      · rw [h1, if_pos (by omega), show (k + 6) * 3 + i + 3 = (k + 1 + 6) * 3 + i from by omega]
        exact (re (k + 1) (by omega)).1 i hi
      · rw [h2, if_pos (by omega), show k + 6 + 1 = k + 1 + 6 from by omega]
        exact (re (k + 1) (by omega)).2
    · refine ⟨fun i hi => ?_, ?_⟩
      · rw [h1, if_neg (by omega)]; exact (re k (by omega)).1 i hi
      · rw [h2, if_neg (by omega)]; exact (re k (by omega)).2
  · rw [h3, if_neg (by omega)]; exact rf p hp hp' i hi
  · rw [h3, if_neg (by omega)]; exact (rg i hi).1
  · rw [h3, if_neg (by omega)]; exact (rg i hi).2
  · by_cases z : q ≤ k
    · refine ⟨fun i hi => ?_, ?_⟩
      · rw [h1, if_pos (by omega), h3, if_pos (by omega), show (k + 6) * 3 + i + 3 = (k + 1 + 6) * 3 + i from by omega, show 4 * k + i + 4 = 4 * (k + 1) + i from by omega]
        exact (rh (k + 1) (by omega)).1 i hi
      · rw [h2, if_pos (by omega), h3, if_pos (by omega), show k + 6 + 1 = k + 1 + 6 from by omega, show 4 * k + 3 + 4 = 4 * (k + 1) + 3 from by omega]
        exact (rh (k + 1) (by omega)).2
    · refine ⟨fun i hi => ?_, ?_⟩
      · rw [h1, if_neg (by omega), h3, if_neg (by omega)]; exact (rh k (by omega)).1 i hi
      · rw [h2, if_neg (by omega), h3, if_neg (by omega)]; exact (rh k (by omega)).2
theorem xv_rule {post : Int32 → Prop} {x fi bg cb : Int32} {pt pb : Int64} {co wl gc bp lv ct : Nat → Int32} {n : Nat} (hn : n ≤ 6) (hF : (¬ ∃ j : Nat, j < n ∧ x = nI j) → post 0) (hT : ∀ j : Nat, j < n → x = nI j → post 1) : wpX_isRule post (nI (6 + n), fi, bg, cb, pt, pb, co, wl, gc, bp, lv, ct) x := by
  have e : nI (6 + n) - 6 = nI n := by
    have : nI (6 + n) - nI 6 = nI (6 + n - 6) := pk_sub (by omega)
    rw [show 6 + n - 6 = n from by omega] at this
    exact this
  rcases pk_ix x (n := n) (by omega) with h | h | ⟨j, hj, rfl⟩
  · exact br_t h (hF (fun ⟨j, hj, e⟩ => nI_pos (by omega) (e ▸ h)))
  · have h0 : ¬ x < 0 := Int32.not_lt.mpr (Int32.le_trans (nI_pos' (by omega)) h)
    exact br_f h0 (br_t (by rw [e]; exact h) (hF (fun ⟨j, hj, e⟩ => nI_ge hj (by omega) (e ▸ h))))
  · exact br_f (nI_pos (by omega)) (br_f (by rw [e]; exact nI_ge hj (by omega)) (hT j hj rfl))
/-- x is no rule's number -/
theorem rn_no {x : Int32} {n : Nat} (hn : n ≤ 6) (h : ¬ ∃ j : Nat, j < n ∧ x = nI j) : ¬ x < 0 → ¬ x < nI n := by
  intro h0 h1
  obtain ⟨j, hj, rfl⟩ := nI_of h0
  exact h ⟨j, (nI_ltI hj (by omega)).mp h1, rfl⟩
theorem i_vc_drop {k : Nat} {u : SX} {v : SY} (I : i_Rel k u v) (hk : k + 5 ≤ 2560) (v1 : Int32) : wpX_drop (fun r u' => wpY_drop (fun r' v' => r' = r ∧ i_Rel (k + 5) u' v') v v1) u v1 := by
  obtain ⟨wc, fi, bg, cb, pt, pb, co, wl, gc, bp, lv, ct⟩ := u
  obtain ⟨fn, fo, to, bo, ts, go, pl, cr⟩ := v
  obtain ⟨n, rfl, rfl, R⟩ := I
  have ra := R.1
  unfold wpX_drop wpY_drop
  dsimp only
  refine xv_rule ra (fun h => br_t rfl ?_) (fun q hq e => br_f (by decide) ?_)
  · exact br_c (fun _ => ⟨rfl, n, rfl, rfl, R⟩) (fun h0 => br_f (rn_no ra h h0) ⟨rfl, n, rfl, rfl, R⟩)
  · subst e
    refine nm_r (e' := nI (6 + q)) (nI_add 6 q) ⟨n - q, ?_⟩
    refine xd_loop (q := q) (by omega) ra hq (fun co' wl' h1 h2 => ?_) (n - q - 1) (n - q) (6 + q) co wl (by omega) (by omega) (by omega) sh_0 sh_0
    refine br_f (nI_pos (by omega)) (br_t (nI_lt hq (by omega)) (nm_r (e' := nI (4 * q)) (pk_mul 4 q) ⟨4 * (n - q), ?_⟩))
    exact yd_loop (q := q) (by omega) ra hq (fun pl' h3 => ⟨rfl, n - 1, rfl, rfl, r_drop R hq h1 h2 h3⟩) (4 * (n - 1 - q)) (4 * (n - q)) (4 * q) pl (by omega) (by omega) (by omega) sh_0
