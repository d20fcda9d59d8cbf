/-! ===== best, point, fits, largest ===== -/
theorem i_vc_best {k : Nat} {u : SX} {v : SY} (I : i_Rel k u v) (hk : k + 5 ≤ 2560) : wpX_best (fun r u' => wpY_best (fun r' => r' = r ∧ i_Rel (k + 5) u' v) v) u := by
  obtain ⟨wc, fi, bg, cb, pt, pb, co, wl, gc, bp, lv, ct⟩ := u
  obtain ⟨fn, fo, to, bo, ts, go, pl, cr⟩ := v
  obtain ⟨n, rfl, rfl, R⟩ := I
  obtain rfl : gc = go := R.2.1
  have ra := R.1
  unfold wpX_best wpY_best
  dsimp only
  refine xw_survey (A := ta_A co wl) (F := rt_F (ta_A co wl) (6 + n)) (rt_W R) (by omega) (fun p _ => rt_Fi _ _ p) (fun p hp => rt_g R hp) (fun fi bg bp lv hI => ?_)
  refine yf_bestPoint (A := ta_A co wl) (F := rt_F (ta_A co wl) (6 + n)) ra (rt_sd R) (fun j hj => rt_R R (by omega) (Or.inr hj)) (fun p _ => rt_Fi _ _ p) ?_
  have h2 := hI.2.1
  cases e : sv_b (rt_F (ta_A co wl) (6 + n)) (sv_g gc) 343 with
  | none =>
    rw [e] at h2
    exact br_f (by decide) ⟨h2.symm, n, rfl, rfl, R⟩
  | some q =>
    rw [e] at h2
    have := sv_blt e
    exact br_t (nI_pos' (by omega)) (yf_gain (by omega) ⟨h2.symm, n, rfl, rfl, R⟩)
theorem i_vc_point {k : Nat} {u : SX} {v : SY} (I : i_Rel k u v) (hk : k + 5 ≤ 2560) (v1 : Int32) : wpX_point (fun r u' => wpY_point (fun r' => r' = r ∧ i_Rel (k + 5) u' v) v v1) u v1 := by
  obtain ⟨wc, fi, bg, cb, pt, pb, co, wl, gc, bp, lv, ct⟩ := u
  obtain ⟨fn, fo, to, bo, ts, go, pl, cr⟩ := v
  obtain ⟨n, rfl, rfl, R⟩ := I
  obtain rfl : gc = go := R.2.1
  have ra := R.1
  unfold wpX_point wpY_point
  dsimp only
  refine xv_var (fun h => br_t rfl ?_) (fun j hj e => br_f (by decide) ?_)
  · exact yv_var (fun _ => br_t rfl ⟨rfl, n, rfl, rfl, R⟩) (fun j hj e => absurd ⟨j, hj, e⟩ h)
  · subst e
    refine xw_survey (A := ta_A co wl) (F := rt_F (ta_A co wl) (6 + n)) (rt_W R) (by omega) (fun p _ => rt_Fi _ _ p) (fun p hp => rt_g R hp) (fun fi bg bp lv hI => ⟨vp_in_nI (by omega) (by omega), ?_⟩)
    rw [nI_clamp (by omega)]
    refine yv_var (fun h => absurd ⟨j, hj, rfl⟩ h) (fun _ _ _ => br_f (by decide) ?_)
    refine yf_bestPoint (A := ta_A co wl) (F := rt_F (ta_A co wl) (6 + n)) ra (rt_sd R) (fun j hj => rt_R R (by omega) (Or.inr hj)) (fun p _ => rt_Fi _ _ p) ?_
    have h2 := hI.2.2.1 j hj
    cases e : sv_b (rt_F (ta_A co wl) (6 + n)) (sv_g gc) 343 with
    | none =>
      rw [e] at h2
      exact br_f (by decide) ⟨h2.symm, n, rfl, rfl, R⟩
    | some q =>
      rw [e] at h2
      have := sv_blt e
      exact br_t (nI_pos' (by omega)) (yf_part (by omega) hj ⟨h2.symm, n, rfl, rfl, R⟩)
theorem i_vc_fits {k : Nat} {u : SX} {v : SY} (I : i_Rel k u v) (hk : k + 5 ≤ 2560) : wpX_fits (fun r u' => wpY_fits (fun r' => r' = r ∧ i_Rel (k + 5) u' v) v) u := by
  obtain ⟨wc, fi, bg, cb, pt, pb, co, wl, gc, bp, lv, ct⟩ := u
  obtain ⟨fn, fo, to, bo, ts, go, pl, cr⟩ := v
  obtain ⟨n, rfl, rfl, R⟩ := I
  obtain rfl : gc = go := R.2.1
  have ra := R.1
  unfold wpX_fits wpY_fits
  dsimp only
  refine xw_survey (A := ta_A co wl) (F := rt_F (ta_A co wl) (6 + n)) (rt_W R) (by omega) (fun p _ => rt_Fi _ _ p) (fun p hp => rt_g R hp) (fun fi bg bp lv hI => ⟨344, ?_⟩)
  exact yf_fits (A := ta_A co wl) (F := rt_F (ta_A co wl) (6 + n)) ra (rt_sd R) (fun j hj => rt_R R (by omega) (Or.inr hj)) (fun p _ => rt_Fi _ _ p) ⟨hI.1.symm, n, rfl, rfl, R⟩ 343 344 0 (by omega) (by omega)
theorem i_vc_largest {k : Nat} {u : SX} {v : SY} (I : i_Rel k u v) (hk : k + 5 ≤ 2560) (v1 : Int32) : wpX_largest (fun r u' => wpY_largest (fun r' => r' = r ∧ i_Rel (k + 5) u' v) v v1) u v1 := by
  obtain ⟨wc, fi, bg, cb, pt, pb, co, wl, gc, bp, lv, ct⟩ := u
  obtain ⟨fn, fo, to, bo, ts, go, pl, cr⟩ := v
  obtain ⟨n, rfl, rfl, R⟩ := I
  obtain rfl : gc = go := R.2.1
  have ra := R.1
  unfold wpX_largest wpY_largest
  dsimp only
  refine xv_var (fun h => br_t rfl ?_) (fun j hj e => br_f (by decide) ?_)
  · exact yv_var (fun _ => br_t rfl ⟨rfl, n, rfl, rfl, R⟩) (fun j hj e => absurd ⟨j, hj, e⟩ h)
  · subst e
    refine xw_survey (A := ta_A co wl) (F := rt_F (ta_A co wl) (6 + n)) (rt_W R) (by omega) (fun p _ => rt_Fi _ _ p) (fun p hp => rt_g R hp) (fun fi bg bp lv hI => ⟨vp_in_nI (by omega) (by omega), ?_⟩)
    rw [nI_clamp (by omega)]
    refine yv_var (fun h => absurd ⟨j, hj, rfl⟩ h) (fun _ _ _ => br_f (by decide) ⟨344, ?_⟩)
    exact yf_largest (A := ta_A co wl) (F := rt_F (ta_A co wl) (6 + n)) hj ra (rt_sd R) (fun j hj => rt_R R (by omega) (Or.inr hj)) (fun p _ => rt_Fi _ _ p) ⟨(hI.2.2.2 j hj).symm, n, rfl, rfl, R⟩ 343 344 0 (by omega) (by omega)
