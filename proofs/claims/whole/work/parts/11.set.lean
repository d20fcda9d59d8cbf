/-! ===== the constructors, top, goal, rule ===== -/
section
variable {wc fi bg cb : Int32} {pt pb : Int64} {co wl gc bp lv ct : Nat → Int32} {fn fo : Int32} {to bo : Int64} {ts go pl : Nat → Int32} {cr : Nat → Int64} {n : Nat}
theorem xi_step {post : SX → Prop} {m i : Nat} (hi : i < 3) (h : wX_init_50 post wc fi bg cb pt pb m (nI (i + 1)) (upd (upd co (i * 3 + i) (-1)) ((3 + i) * 3 + i) 1) (upd wl (3 + i) 6) gc bp lv ct) : wX_init_50 post wc fi bg cb pt pb (m + 1) (nI i) co wl gc bp lv ct := by
  have e1 : nI i * 3 + nI i = nI (i * 3 + i) := xc_i i i
  have e0 : 3 + nI i = nI (3 + i) := nI_add 3 i
  have e2 : (3 + nI i) * 3 + nI i = nI ((3 + i) * 3 + i) := by rw [e0]; exact xc_i (3 + i) i
  refine br_f (nI_ge (b := 3) (a := i) hi (by omega)) ?_
  rw [e1, e2, e0, nI_clamp (by omega), nI_clamp (by omega), nI_clamp (by omega)]
  exact ⟨vp_in_nI (by omega) (by omega), nm_e ⟨vp_in_nI (by omega) (by omega), nm_e ⟨vp_in_nI (by omega) (by omega), nm_e (nm_r (nI_1 i) h)⟩⟩⟩
theorem yi_step {post : SY → Prop} {m i : Nat} (hi : i < 3) (h : wY_init_40 post fn fo to bo m (nI (i + 1)) (upd ts i 6) go (upd (upd pl (24 + 8 * i + i) 1) (28 + 8 * i + i) (-1)) cr) : wY_init_40 post fn fo to bo (m + 1) (nI i) ts go pl cr := by
  have e8 : 8 * nI i = nI (8 * i) := pk_mul 8 i
  have e1 : 24 + 8 * nI i + nI i = nI (24 + 8 * i + i) := by rw [e8, ← nI_add, ← nI_add]; rfl
  have e2 : 28 + 8 * nI i + nI i = nI (28 + 8 * i + i) := by rw [e8, ← nI_add, ← nI_add]; rfl
  refine br_f (nI_ge (b := 3) (a := i) hi (by omega)) ?_
  rw [e1, e2, nI_clamp (by omega), nI_clamp (by omega), nI_clamp (by omega)]
  exact ⟨vp_in_nI (by omega) (by omega), nm_e ⟨vp_in_nI (by omega) (by omega), nm_e ⟨vp_in_nI (by omega) (by omega), nm_e (nm_r (nI_1 i) h)⟩⟩⟩
theorem yt_step {post : SY → Prop} {m i : Nat} (hi : i < 3) (h : wY_setSides_2 post fn fo to bo m (nI (i + 1)) ts go (upd (upd pl (24 + 8 * i + 3) (ts i)) (28 + 8 * i + 3) 0) cr) : wY_setSides_2 post fn fo to bo (m + 1) (nI i) ts go pl cr := by
  have e8 : 8 * nI i = nI (8 * i) := pk_mul 8 i
  have e1 : 24 + 8 * nI i + 3 = nI (24 + 8 * i + 3) := by rw [e8, ← nI_add, ← nI_add]; rfl
  have e2 : 28 + 8 * nI i + 3 = nI (28 + 8 * i + 3) := by rw [e8, ← nI_add, ← nI_add]; rfl
  refine br_f (nI_ge (b := 3) (a := i) hi (by omega)) ?_
  rw [e1, e2, nI_clamp (by omega), nI_clamp (by omega), nI_clamp (by omega)]
  exact ⟨vp_in_nI (by omega) (by omega), vp_in_nI (by omega) (by omega), nm_e ⟨vp_in_nI (by omega) (by omega), nm_e (nm_r (nI_1 i) h)⟩⟩
theorem yt_sides {post : SY → Prop} (hp : ∀ pl', (∀ j, j < 3 → pl' (27 + 8 * j) = ts j ∧ pl' (31 + 8 * j) = 0) → (∀ x, (x < 27 ∨ x % 4 ≠ 3) → pl' x = pl x) → post (fn, fo, to, bo, ts, go, pl', cr)) : wpY_setSides post (fn, fo, to, bo, ts, go, pl, cr) := by
  refine ⟨4, yt_step (i := 0) (by omega) (yt_step (i := 1) (by omega) (yt_step (i := 2) (by omega) (br_t (nI_le (a := 3) (b := 3) (by omega) (by omega)) (hp _ ?_ ?_))))⟩
  · intro j hj
    match j, hj with
    | 0, _ => exact ⟨rfl, rfl⟩
    | 1, _ => exact ⟨rfl, rfl⟩
    | 2, _ => exact ⟨rfl, rfl⟩
  · intro x hx
    rw [pk_un (by omega), pk_un (by omega), pk_un (by omega), pk_un (by omega), pk_un (by omega), pk_un (by omega)]
theorem xv_var {post : Int32 → Prop} {x : Int32} (hF : (¬ ∃ j : Nat, j < 3 ∧ x = nI j) → post 0) (hT : ∀ j : Nat, j < 3 → x = nI j → post 1) : wpX_isVariable post x := by
  refine br_c (fun h => hF (fun ⟨j, hj, e⟩ => ?_)) (fun h => br_c (fun h' => hF (fun ⟨j, hj, e⟩ => ?_)) (fun h' => ?_))
  · rw [e] at h
    exact nI_pos (by omega) h
  · rw [e] at h'
    exact nI_ge (b := 3) hj (by omega) h'
  · obtain ⟨j, hj, e⟩ := nI_of h
    subst e
    refine hT j ?_ rfl
    have : ¬ 3 ≤ j := fun z => h' ((nI_leI (a := 3) (by omega) hj).mpr z)
    omega
theorem yv_var {post : Int32 → Prop} {x : Int32} (hF : (¬ ∃ j : Nat, j < 3 ∧ x = nI j) → post 0) (hT : ∀ j : Nat, j < 3 → x = nI j → post 1) : wpY_isVariable post (fn, fo, to, bo, ts, go, pl, cr) x := by
  refine br_c (fun h => hF (fun ⟨j, hj, e⟩ => ?_)) (fun h => br_c (fun h' => hF (fun ⟨j, hj, e⟩ => ?_)) (fun h' => ?_))
  · rw [e] at h
    exact nI_pos (by omega) h
  · rw [e] at h'
    exact nI_nlt (a := 2) (b := j) (by omega) (by omega) h'
  · obtain ⟨j, hj, e⟩ := nI_of h
    subst e
    refine hT j ?_ rfl
    have : ¬ 2 < j := fun z => h' ((nI_ltI (a := 2) (by omega) hj).mpr z)
    omega
theorem rb_9 {x : Int32} (h : ¬ x < -9) (h' : ¬ 9 < x) : rb_d x 9 := by
  rw [ir_ilt (rb_any x) (show ir_I (-9) (-9) 9 from ⟨by decide, by decide, by decide⟩)] at h
  rw [ir_ilt (show ir_I 9 9 9 from ⟨by decide, by decide, by decide⟩) (rb_any x)] at h'
  exact ⟨by omega, by omega⟩
theorem rb_n9 {x : Int32} (h : rb_d x 9) : ¬ x < -9 ∧ ¬ 9 < x := by
  obtain ⟨h1, h2⟩ := h
  rw [ir_ilt (rb_any x) (show ir_I (-9) (-9) 9 from ⟨by decide, by decide, by decide⟩), ir_ilt (show ir_I 9 9 9 from ⟨by decide, by decide, by decide⟩) (rb_any x)]
  exact ⟨by omega, by omega⟩
theorem xv_co {post : Int32 → Prop} {x : Int32} (hF : ¬ rb_d x 9 → post 0) (hT : rb_d x 9 → post 1) : wpX_isCoefficient post x :=
  br_c (fun h => hF (fun z => (rb_n9 z).1 h)) (fun h => br_c (fun h' => hF (fun z => (rb_n9 z).2 h')) (fun h' => hT (rb_9 h h')))
theorem yv_co {post : Int32 → Prop} {x : Int32} (hF : ¬ rb_d x 9 → post 0) (hT : rb_d x 9 → post 1) : wpY_isFactor post (fn, fo, to, bo, ts, go, pl, cr) x :=
  br_c (fun h => hF (fun z => (rb_n9 z).1 h)) (fun h => br_c (fun h' => hF (fun z => (rb_n9 z).2 h')) (fun h' => hT (rb_9 h h')))
theorem xv_cos {post : Int32 → Prop} {x y z : Int32} (hF : ¬ (rb_d x 9 ∧ rb_d y 9 ∧ rb_d z 9) → post 0) (hT : rb_d x 9 → rb_d y 9 → rb_d z 9 → post 1) : wpX_areCoefficients post x y z := by
  refine xv_co (fun h => br_t rfl (hF (fun k => h k.1))) (fun h1 => br_f (by decide) ?_)
  refine xv_co (fun h => br_t rfl (hF (fun k => h k.2.1))) (fun h2 => br_f (by decide) ?_)
  exact xv_co (fun h => br_t rfl (hF (fun k => h k.2.2))) (fun h3 => br_f (by decide) (hT h1 h2 h3))
end
theorem i_vc0 : wpX_init (fun u => wpY_init (fun v => i_Rel 0 u v)) := by
  refine ⟨4, xi_step (i := 0) (by omega) (xi_step (i := 1) (by omega) (xi_step (i := 2) (by omega) (br_t (nI_le (a := 3) (b := 3) (by omega) (by omega)) ?_)))⟩
  refine ⟨4, yi_step (i := 0) (by omega) (yi_step (i := 1) (by omega) (yi_step (i := 2) (by omega) (br_t (nI_le (a := 3) (b := 3) (by omega) (by omega)) ?_)))⟩
  refine yt_sides (fun pl' h1 h2 => ⟨0, rfl, rfl, by omega, rfl, ?_, ?_, ?_, ?_, ?_, ?_, ?_⟩)
  · decide +kernel
  · intro i hi
    match i, hi with
    | 0, _ => exact ⟨rfl, rfl, by decide, by decide⟩
    | 1, _ => exact ⟨rfl, rfl, by decide, by decide⟩
    | 2, _ => exact ⟨rfl, rfl, by decide, by decide⟩
  · exact fun k hk => absurd hk (by omega)
  · have key : ∀ p, p < 12 → ∀ i, i < 3 → 6 ≤ p → upd (upd (upd (upd (upd (upd (fun _ => (0 : Int32)) (24 + 8 * 0 + 0) 1) (28 + 8 * 0 + 0) (-1)) (24 + 8 * 1 + 1) 1) (28 + 8 * 1 + 1) (-1)) (24 + 8 * 2 + 2) 1) (28 + 8 * 2 + 2) (-1) (4 * p + i) = rs_c (wg_s p) i := by
      decide +kernel
    intro p hp hp' i hi
    rw [h2 _ (by omega)]
    exact key p hp' i hi hp
  · exact h1
  · exact fun k hk => absurd hk (by omega)
  · exact fun i hi => (show rb_d 0 9 from ⟨by decide, by decide⟩)
theorem r_top {n : Nat} {co wl gc ts go pl pl' : Nat → Int32} (R : r_R n co wl gc ts go pl) {j : Nat} (hj : j < 3) {t : Int32} (ht : rb_d t 6) (h1 : ∀ i, i < 3 → pl' (27 + 8 * i) = upd ts j t i ∧ pl' (31 + 8 * i) = 0) (h2 : ∀ x, (x < 27 ∨ x % 4 ≠ 3) → pl' x = pl x) : r_R n co (upd wl (3 + j) t) gc (upd ts j t) go pl' := by
  obtain ⟨ra, rb, rc, rd, re, rf, rg, rh, ri⟩ := R
  refine ⟨ra, rb, rc, fun i hi => ⟨?_, ?_, ?_⟩, fun k hk => ⟨(re k hk).1, ?_⟩, fun p hp hp' i hi => ?_, h1, fun k hk => ⟨fun i hi => ?_, ?_⟩, ri⟩
  · rw [pk_un (by omega)]; exact (rd i hi).1
  · by_cases e : i = j
    · subst e; rw [pk_us, pk_us]
    · rw [pk_un (by omega), pk_un e]; exact (rd i hi).2.1
  · by_cases e : i = j
    · subst e; rw [pk_us]; exact ht
    · rw [pk_un e]; exact (rd i hi).2.2
  · rw [pk_un (by omega)]; exact (re k hk).2
  · rw [h2 _ (by omega)]; exact rf p hp hp' i hi
  · rw [h2 _ (by omega)]; exact (rh k hk).1 i hi
  · rw [h2 _ (by omega), pk_un (by omega)]; exact (rh k hk).2
theorem i_vc_top {k : Nat} {u : SX} {v : SY} (I : i_Rel k u v) (hk : k + 5 ≤ 2560) (v1 : Int32) (v2 : Int32) : wpX_top (fun r u' => wpY_top (fun r' v' => r' = r ∧ i_Rel (k + 5) u' v') v v1 v2) u v1 v2 := by
  obtain ⟨wc, fi, bg, cb, pt, pb, co, wl, gc, bp, lv, ct⟩ := u
  obtain ⟨fn, fo, to, bo, ts, go, pl, cr⟩ := v
  obtain ⟨n, rfl, rfl, R⟩ := I
  unfold wpX_top wpY_top
  dsimp only
  refine xv_var (fun h => br_t rfl ?_) (fun j hj e => br_f (by decide) ?_)
  · exact yv_var (fun _ => br_t rfl ⟨rfl, n, rfl, rfl, R⟩) (fun j hj e => absurd ⟨j, hj, e⟩ h)
  · subst e
    have yes : ∀ {post : Int32 → Prop}, post 1 → wpY_isVariable post (nI n, fo, to, bo, ts, go, pl, cr) (nI j) := fun hp => yv_var (fun h => absurd ⟨j, hj, rfl⟩ h) (fun _ _ _ => hp)
    by_cases h0 : v2 < 0
    · exact br_t h0 (yes (br_f (by decide) (br_t h0 ⟨rfl, n, rfl, rfl, R⟩)))
    · refine br_f h0 ?_
      by_cases h6 : v2 ≤ 6
      · obtain ⟨t, ht, rfl⟩ := nI_of2 (n := 6) (by decide) h0 h6
        refine br_t h6 ?_
        rw [show 3 + nI j = nI (3 + j) from nI_add 3 j, nI_clamp (by omega)]
        refine ⟨vp_in_nI (by omega) (by omega), nm_e (yes (br_f (by decide) (br_f h0 (br_t h6 ⟨vp_in_nI (by omega) (by omega), nm_r (e' := upd ts j (nI t)) (by rw [nI_clamp (by omega)]) ?_⟩))))⟩
        have hr := ir_nI (n := t) 6 ht (by omega)
        refine yt_sides (fun pl' h1 h2 => ⟨rfl, n, rfl, rfl, r_top R hj ⟨?_, ?_⟩ h1 h2⟩)
        · rw [hr.1]; exact hr.2.1
        · rw [hr.1]; exact hr.2.2
      · exact br_f h6 (yes (br_f (by decide) (br_f h0 (br_f h6 ⟨rfl, n, rfl, rfl, R⟩))))
theorem i_vc_goal {k : Nat} {u : SX} {v : SY} (I : i_Rel k u v) (hk : k + 5 ≤ 2560) (v1 : Int32) (v2 : Int32) (v3 : Int32) : wpX_goal (fun r u' => wpY_goal (fun r' v' => r' = r ∧ i_Rel (k + 5) u' v') v v1 v2 v3) u v1 v2 v3 := by
  obtain ⟨wc, fi, bg, cb, pt, pb, co, wl, gc, bp, lv, ct⟩ := u
  obtain ⟨fn, fo, to, bo, ts, go, pl, cr⟩ := v
  obtain ⟨n, rfl, rfl, R⟩ := I
  unfold wpX_goal wpY_goal
  dsimp only
  refine xv_cos (fun h => br_t rfl ?_) (fun h1 h2 h3 => br_f (by decide) (nm_e (nm_e (nm_e ?_))))
  · refine yv_co (fun _ => br_t rfl ⟨rfl, n, rfl, rfl, R⟩) (fun h1 => br_f (by decide) ?_)
    refine yv_co (fun _ => br_t rfl ⟨rfl, n, rfl, rfl, R⟩) (fun h2 => br_f (by decide) ?_)
    exact yv_co (fun _ => br_t rfl ⟨rfl, n, rfl, rfl, R⟩) (fun h3 => absurd ⟨h1, h2, h3⟩ h)
  · refine yv_co (fun h => absurd h1 h) (fun _ => br_f (by decide) ?_)
    refine yv_co (fun h => absurd h2 h) (fun _ => br_f (by decide) ?_)
    refine yv_co (fun h => absurd h3 h) (fun _ => br_f (by decide) (nm_e (nm_e (nm_e ⟨rfl, n, rfl, rfl, ?_⟩))))
    obtain ⟨ra, rb, rc, rd, re, rf, rg, rh, ri⟩ := R
    subst rb
    refine ⟨ra, rfl, rc, rd, re, rf, rg, rh, fun i hi => ?_⟩
    match i, hi with
    | 0, _ => exact h1
    | 1, _ => exact h2
    | 2, _ => exact h3
