/-! ===== solvable, gainTop, gainBottom, needless ===== -/
theorem ra_n0 : narrow .boolean (.int 0) = .int 0 := rfl
theorem ra_n1 : narrow .boolean (.int 1) = .int 1 := rfl
theorem ra_m1 {x : Nat} (h : x < 12) : nI x = -1 ↔ False := by
  refine ⟨fun e => ?_, fun e => e.elim⟩
  have h1 := ir_nI (n := x) 12 (by omega) (by omega)
  have h2 : ir_I (-1) (-1) 1 := ⟨by decide, by decide, by decide⟩
  have := (ir_ieq h1 h2).mp e
  omega
theorem ra_ec {A : Nat → Nat → Int} {N : Nat} {c0 c1 c2 : Int} (s d : Int) : cm_E A N (fun _ => False) c0 c1 c2 s d ↔ cm_C A N (fun _ => False) c0 c1 c2 s d := by
  constructor
  · rintro ⟨u, v, w, h1, h2, h3, k⟩
    exact ⟨u, v, w, h1.1, h2.1, h3.1, k⟩
  · rintro ⟨u, v, w, h1, h2, h3, k⟩
    exact ⟨u, v, w, ⟨h1, id⟩, ⟨h2, id⟩, ⟨h3, id⟩, k⟩
theorem ra_no {A : Nat → Nat → Int} {N : Nat} {Ex : Nat → Prop} {c0 c1 c2 b0 b1 b2 : Int} (h : ∀ s d, ¬ cm_C A N Ex c0 c1 c2 s d) : ∀ s d, ¬ cm_C A N Ex b0 b1 b2 s d := by
  rintro s d ⟨u, v, w, h1, h2, h3, k⟩
  exact h _ _ ⟨u, v, w, h1, h2, h3, k.1, rfl, rfl⟩
theorem ra_Cp {A : Nat → Nat → Int} {N : Nat} {Ex : Nat → Prop} {c0 c1 c2 : Int} : ∀ s d, cm_C A N Ex c0 c1 c2 s d → 0 < d := by
  rintro s d ⟨u, v, w, h1, h2, h3, k⟩
  rw [k.2.2]
  exact cm_bp k.1.1
theorem ra_Ep {A : Nat → Nat → Int} {N : Nat} {Ex : Nat → Prop} {c0 c1 c2 : Int} : ∀ s d, cm_E A N Ex c0 c1 c2 s d → 0 < d := by
  rintro s d ⟨u, v, w, h1, h2, h3, k⟩
  rw [k.2.2]
  exact cm_bp k.1.1
section
variable {fi bg cb : Int32} {pt pb : Int64} {co wl gc bp lv ct : Nat → Int32} {fo : Int32} {to bo : Int64} {ts go pl : Nat → Int32} {cr : Nat → Int64} {n : Nat}
theorem ra_Y {post : SY → Prop} (R : r_R n co wl gc ts go pl) (hp : ∀ fo to bo cr, ys_F (cm_C (ta_A co wl) (6 + n) (fun _ => False) (go 0).toInt (go 1).toInt (go 2).toInt) fo to bo → post (nI n, fo, to, bo, ts, go, pl, cr)) : wpY_searchGoal post (nI n, fo, to, bo, ts, go, pl, cr) := by
  unfold wpY_searchGoal
  dsimp only
  exact ys_search (A := ta_A co wl) (Ex := fun _ => False) R.1 (fun x hx => ra_m1 (by omega)) (fun x _ _ h => h) (fun x hx hc => rt_R R hx hc) (rt_G R (by omega)) (rt_G R (by omega)) (rt_G R (by omega)) (fun fo to bo cr h => hp _ _ _ _ (ys_iff (fun s d => (ra_ec s d).symm) h))
theorem ra_X {post : SX → Prop} (R : r_R n co wl go ts go pl)
    (hp0 : ∀ cb pt ct, (∀ s d, ¬ cm_C (ta_A co wl) (6 + n) (fun _ => False) (go 0).toInt (go 1).toInt (go 2).toInt s d) → post (nI (6 + n), fi, bg, cb, pt, 0, co, wl, go, bp, lv, ct))
    (hp1 : ∀ cb pt pb ct t (b g : Nat), 0 < b → pq_K (cm_C (ta_A co wl) (6 + n) (fun _ => False) (go 0).toInt (go 1).toInt (go 2).toInt) t (b : Int) → g = Nat.gcd t.natAbs b → (∀ q (d : Nat), t = (g : Int) * q → b = g * d → pt.toInt = q ∧ pb.toInt = (d : Int)) → post (nI (6 + n), fi, bg, cb, pt, pb, co, wl, go, bp, lv, ct)) :
    wpX_seekGoalPeak post (nI (6 + n), fi, bg, cb, pt, pb, co, wl, go, bp, lv, ct) := by
  have ra := R.1
  unfold wpX_seekGoalPeak
  dsimp only
  refine xs_seek (A := ta_A co wl) (Ex := fun _ => False) (rt_W R) (by omega) (rt_G R (by omega)) (rt_G R (by omega)) (rt_G R (by omega)) (fun x hx => ra_m1 (by omega)) (fun cb pt pb ct t b h1 h2 h3 => ?_)
  have hb0 : 0 ≤ b := by
    rcases h3 with z | z
    · have := z.1; omega
    · have := z.1; omega
  obtain ⟨b, rfl⟩ : ∃ b' : Nat, b = (b' : Int) := ⟨b.toNat, by omega⟩
  have bb := h2.2.2
  unfold wpX_reducePeak
  dsimp only
  refine eu_wX h1 (ir_lup _ h2 (by decide)) (by decide) ?_
  by_cases e : b = 0
  · subst e
    rcases h3 with ⟨_, z2, z3⟩ | ⟨z1, _⟩
    · subst z2
      refine br_t (by decide) ?_
      have : pb = 0 := (ir_leq h2 ir_l0).mpr rfl
      subst this
      exact hp0 _ _ _ z3
    · omega
  · have gp : 0 < Nat.gcd t.natAbs b := Nat.gcd_pos_of_pos_right _ (by omega)
    have gl : Nat.gcd t.natAbs b ≤ b := Nat.gcd_le_right _ (by omega)
    have gn : ¬ lN (Nat.gcd t.natAbs b) = 0 := fun z => by
      have := (pk_lEQ (b := 0) (by omega) (by omega)).mp z
      omega
    refine br_f gn ⟨gn, nm_e ⟨gn, nm_e ?_⟩⟩
    refine hp1 _ _ _ _ t b _ (by omega) h3 rfl (fun q d hq hd => ⟨?_, ?_⟩)
    · exact eu_div (hq ▸ h1) rfl gp (by omega) (by decide)
    · have h2' : ir_L pb ((Nat.gcd t.natAbs b : Int) * (d : Int)) 5821794 := by
        have ec : ((b : Nat) : Int) = (Nat.gcd t.natAbs b : Int) * (d : Int) := by
          rw [← Int.natCast_mul]
          exact congrArg Nat.cast hd
        rw [← ec]; exact h2
      exact eu_div h2' rfl gp (by omega) (by decide)
end
theorem i_vc_solvable {k : Nat} {u : SX} {v : SY} (I : i_Rel k u v) (hk : k + 5 ≤ 2560) : wpX_solvable (fun r u' => wpY_solvable (fun r' v' => r' = r ∧ i_Rel (k + 5) u' v') v) u := by
  obtain ⟨wc, fi, bg, cb, pt, pb, co, wl, gc, bp, lv, ct⟩ := u
  obtain ⟨fn, fo, to, bo, ts, go, pl, cr⟩ := v
  obtain ⟨n, rfl, rfl, R⟩ := I
  have ra := R.1
  unfold wpX_solvable wpY_solvable
  dsimp only
  have z9 : ir_I 0 0 99 := ir_iup _ ir_i0 (by omega)
  refine xs_seek (A := ta_A co wl) (Ex := fun _ => False) (rt_W R) (by omega) z9 z9 z9 (fun x hx => ra_m1 (by omega)) (fun cb pt pb ct t b h1 h2 h3 => ?_)
  have hX := pq_none h3
  refine ir_if (ir_leq h2 ir_l0) (fun z => ?_) (fun z => ?_)
  · refine ra_Y R (fun fo to bo cr hf => ?_)
    rcases hf with ⟨rfl, _, _, _⟩ | ⟨rfl, t', b', hb, _, _, hK⟩
    · exact ⟨ra_n0, rfl, n, rfl, rfl, R⟩
    · exact absurd ((pq_none hK).mpr (ra_no (hX.mp z))) hb
  · refine ra_Y R (fun fo to bo cr hf => ?_)
    rcases hf with ⟨rfl, _, _, hK⟩ | ⟨rfl, _⟩
    · exact absurd (hX.mpr (ra_no ((pq_none hK).mp rfl))) z
    · exact ⟨ra_n1, rfl, n, rfl, rfl, R⟩
/-- what both sides find of the goal -/
theorem ra_both {S : Int → Int → Prop} {fo : Int32} {to bo : Int64} {t : Int} {b g : Nat} (hb : 0 < b) (hK : pq_K S t (b : Int)) (hg : g = Nat.gcd t.natAbs b) (hF : ys_F S fo to bo) : fo = 1 ∧ ∃ (t' : Int) (b' : Nat) (q : Int) (d : Nat), ir_L to t' 1729072818 ∧ ir_L bo (b' : Int) 5821794 ∧ 0 < b' ∧ 0 < d ∧ t = (g : Int) * q ∧ b = g * d ∧ t' = (Nat.gcd t'.natAbs b' : Int) * q ∧ b' = Nat.gcd t'.natAbs b' * d := by
  rcases hF with ⟨_, _, _, hN⟩ | ⟨rfl, t', b', hb', k1, k2, hK'⟩
  · have := (pq_none hK).mpr ((pq_none hN).mp rfl)
    omega
  · have p' : 0 < b' := by
      rcases hK' with ⟨z, _⟩ | ⟨z, _⟩
      · exact absurd z hb'
      · exact z
    obtain ⟨b', rfl⟩ : ∃ c : Nat, b' = (c : Int) := ⟨b'.toNat, by omega⟩
    obtain ⟨q, d, e1, e2, e3, e4⟩ := eu_red (pq_one hK hK') hb (by omega) hg rfl
    refine ⟨rfl, t', b', q, d, k1, k2, by omega, ?_, e1, e2, e3, e4⟩
    exact Nat.pos_of_ne_zero (fun z => by rw [z, Nat.mul_zero] at e2; omega)
theorem i_vc_gainTop {k : Nat} {u : SX} {v : SY} (I : i_Rel k u v) (hk : k + 5 ≤ 2560) : wpX_gainTop (fun r u' => wpY_gainTop (fun r' v' => r' = r ∧ i_Rel (k + 5) u' v') v) u := by
  obtain ⟨wc, fi, bg, cb, pt, pb, co, wl, gc, bp, lv, ct⟩ := u
  obtain ⟨fn, fo, to, bo, ts, go, pl, cr⟩ := v
  obtain ⟨n, rfl, rfl, R⟩ := I
  obtain rfl : gc = go := R.2.1
  have ra := R.1
  unfold wpX_gainTop wpY_gainTop
  dsimp only
  refine ra_X R (fun cb pt ct no => br_t rfl ?_) (fun cb pt pb ct t b g hb hK hg hq => ?_)
  · refine ra_Y R (fun fo to bo cr hf => ?_)
    rcases hf with ⟨rfl, rfl, rfl, _⟩ | ⟨rfl, t', b', hb, _, _, hK⟩
    · exact eu_wY (d := 1) (B := 1) (ir_lup 1 ir_l0 (by omega)) (show ir_L 1 ((1 : Nat) : Int) 1 from ir_l1) (by decide) (by decide) (by decide) (br_t rfl ⟨rfl, n, rfl, rfl, R⟩)
    · exact absurd ((pq_none hK).mpr no) hb
  · have pn : ¬ pb = 0 := by
      obtain ⟨q, d, e1, e2, _, _⟩ := eu_red (t := t) (b := b) rfl hb hb hg hg
      have h := (hq q d e1 e2).2
      have dp : d ≠ 0 := fun z => by rw [z, Nat.mul_zero] at e2; omega
      intro z
      rw [z, show (0 : Int64).toInt = 0 from by decide] at h
      omega
    refine br_f pn ?_
    refine ra_Y R (fun fo to bo cr hf => ?_)
    obtain ⟨rfl, t', b', q, d, k1, k2, hb', hd, e1, e2, e3, e4⟩ := ra_both hb hK hg hf
    have bb := k2.2.2
    have gp : 0 < Nat.gcd t'.natAbs b' := Nat.gcd_pos_of_pos_right _ hb'
    have gl : Nat.gcd t'.natAbs b' ≤ b' := Nat.gcd_le_right _ hb'
    refine eu_wY k1 (ir_lup _ k2 (by decide)) (by decide) (by omega) hb' ?_
    generalize Nat.gcd t'.natAbs b' = g' at *
    have gn : ¬ lN g' = 0 := fun z => by
      have := (pk_lEQ (b := 0) (by omega) (by omega)).mp z
      omega
    refine br_f (show ¬ (1 : Int32) = 0 by decide) ⟨gn, ?_, n, rfl, rfl, R⟩
    have k1' : ir_L to ((g' : Int) * q) 1729072818 := by rw [← e3]; exact k1
    exact congrArg Int64.toInt32 (Int64.toInt_inj.mp ((eu_div k1' rfl gp (by omega) (by decide)).trans (hq q d e1 e2).1.symm))
theorem i_vc_gainBottom {k : Nat} {u : SX} {v : SY} (I : i_Rel k u v) (hk : k + 5 ≤ 2560) : wpX_gainBottom (fun r u' => wpY_gainBottom (fun r' v' => r' = r ∧ i_Rel (k + 5) u' v') v) u := by
  obtain ⟨wc, fi, bg, cb, pt, pb, co, wl, gc, bp, lv, ct⟩ := u
  obtain ⟨fn, fo, to, bo, ts, go, pl, cr⟩ := v
  obtain ⟨n, rfl, rfl, R⟩ := I
  obtain rfl : gc = go := R.2.1
  have ra := R.1
  unfold wpX_gainBottom wpY_gainBottom
  dsimp only
  refine ra_X R (fun cb pt ct no => br_t rfl ?_) (fun cb pt pb ct t b g hb hK hg hq => ?_)
  · refine ra_Y R (fun fo to bo cr hf => ?_)
    rcases hf with ⟨rfl, rfl, rfl, _⟩ | ⟨rfl, t', b', hb, _, _, hK⟩
    · exact eu_wY (d := 1) (B := 1) (ir_lup 1 ir_l0 (by omega)) (show ir_L 1 ((1 : Nat) : Int) 1 from ir_l1) (by decide) (by decide) (by decide) (br_t rfl ⟨rfl, n, rfl, rfl, R⟩)
    · exact absurd ((pq_none hK).mpr no) hb
  · have pn : ¬ pb = 0 := by
      obtain ⟨q, d, e1, e2, _, _⟩ := eu_red (t := t) (b := b) rfl hb hb hg hg
      have h := (hq q d e1 e2).2
      have dp : d ≠ 0 := fun z => by rw [z, Nat.mul_zero] at e2; omega
      intro z
      rw [z, show (0 : Int64).toInt = 0 from by decide] at h
      omega
    refine br_f pn ?_
    refine ra_Y R (fun fo to bo cr hf => ?_)
    obtain ⟨rfl, t', b', q, d, k1, k2, hb', hd, e1, e2, e3, e4⟩ := ra_both hb hK hg hf
    have bb := k2.2.2
    have gp : 0 < Nat.gcd t'.natAbs b' := Nat.gcd_pos_of_pos_right _ hb'
    have gl : Nat.gcd t'.natAbs b' ≤ b' := Nat.gcd_le_right _ hb'
    refine eu_wY k1 (ir_lup _ k2 (by decide)) (by decide) (by omega) hb' ?_
    generalize Nat.gcd t'.natAbs b' = g' at *
    have gn : ¬ lN g' = 0 := fun z => by
      have := (pk_lEQ (b := 0) (by omega) (by omega)).mp z
      omega
    refine br_f (show ¬ (1 : Int32) = 0 by decide) ⟨gn, ?_, n, rfl, rfl, R⟩
    have k2' : ir_L bo ((g' : Int) * (d : Int)) 5821794 := by
      have ec : ((b' : Nat) : Int) = (g' : Int) * (d : Int) := by
        rw [← Int.natCast_mul]
        exact congrArg Nat.cast e4
      rw [← ec]; exact k2
    exact congrArg Int64.toInt32 (Int64.toInt_inj.mp ((eu_div k2' rfl gp (by omega) (by decide)).trans (hq q d e1 e2).2.symm))
/-- corners on the wall that is left out don't count for needless -/
theorem rn_iff {A : Nat → Nat → Int} {N K : Nat} : (∀ s d, cm_C A N (fun x => x = K) (A K 0) (A K 1) (A K 2) s d → s ≤ A K 3 * d) ↔ (∀ s d, cm_E A N (fun x => x = K) (A K 0) (A K 1) (A K 2) s d → s ≤ A K 3 * d) := by
  constructor
  · rintro h s d ⟨u, v, w, h1, h2, h3, k⟩
    exact h s d ⟨u, v, w, h1.1, h2.1, h3.1, k⟩
  · rintro h s d ⟨u, v, w, h1, h2, h3, k⟩
    by_cases e : u = K ∨ v = K ∨ w = K
    · rw [cm_onK k e]
      exact Int.le_refl _
    · exact h s d ⟨u, v, w, ⟨h1, fun z => e (Or.inl z)⟩, ⟨h2, fun z => e (Or.inr (Or.inl z))⟩, ⟨h3, fun z => e (Or.inr (Or.inr z))⟩, k⟩
theorem i_vc_needless {k : Nat} {u : SX} {v : SY} (I : i_Rel k u v) (hk : k + 5 ≤ 2560) (v1 : Int32) : wpX_needless (fun r u' => wpY_needless (fun r' v' => r' = r ∧ i_Rel (k + 5) u' v') v v1) u v1 := by
  obtain ⟨wc, fi, bg, cb, pt, pb, co, wl, gc, bp, lv, ct⟩ := u
  obtain ⟨fn, fo, to, bo, ts, go, pl, cr⟩ := v
  obtain ⟨n, rfl, rfl, R⟩ := I
  have ra := R.1
  unfold wpX_needless wpY_needless
  dsimp only
  refine xv_rule ra (fun h => br_t rfl ?_) (fun q hq e => br_f (by decide) ?_)
  · exact br_c (fun _ => ⟨rfl, n, rfl, rfl, R⟩) (fun h0 => br_f (rn_no ra h h0) ⟨rfl, n, rfl, rfl, R⟩)
  · subst e
    have W := rt_W R (q + 6) (by omega)
    have P := rt_R R (p := q) (by omega) (Or.inr hq)
    have P2 := P.2
    rw [wg_lo (by omega)] at P2
    have Y : ∀ (r : Int32) (u' : SX), (∃ fi bg cb pt pb bp lv ct, u' = (nI (6 + n), fi, bg, cb, pt, pb, co, wl, gc, bp, lv, ct)) → ((∀ s d, cm_E (ta_A co wl) (6 + n) (fun x => x = q + 6) (ta_A co wl (q + 6) 0) (ta_A co wl (q + 6) 1) (ta_A co wl (q + 6) 2) s d → s ≤ ta_A co wl (q + 6) 3 * d) → r = 1) → (¬ (∀ s d, cm_E (ta_A co wl) (6 + n) (fun x => x = q + 6) (ta_A co wl (q + 6) 0) (ta_A co wl (q + 6) 1) (ta_A co wl (q + 6) 2) s d → s ≤ ta_A co wl (q + 6) 3 * d) → r = 0) → wpY_needless (fun r' v' => r' = r ∧ i_Rel (k + 5) u' v') (nI n, fo, to, bo, ts, go, pl, cr) (nI q) := by
      rintro r u' ⟨fi, bg, cb, pt, pb, bp, lv, ct, rfl⟩ hT hF
      have e0 : 4 * nI q = nI (4 * q + 0) := pk_mul 4 q
      have e1 : 4 * nI q + 1 = nI (4 * q + 1) := yc_i q 1
      have e2 : 4 * nI q + 2 = nI (4 * q + 2) := yc_i q 2
      have e3 : 4 * nI q + 3 = nI (4 * q + 3) := yc_i q 3
      unfold wpY_needless
      dsimp only
      refine br_f (nI_pos (by omega)) (br_t (nI_lt hq (by omega)) ?_)
      rw [e1, e2, e3, e0, nI_clamp (by omega), nI_clamp (by omega), nI_clamp (by omega), nI_clamp (by omega)]
      refine ⟨vp_in_nI (by omega) (by omega), vp_in_nI (by omega) (by omega), vp_in_nI (by omega) (by omega), ?_⟩
      refine ys_search (A := ta_A co wl) (Ex := fun x => x = q + 6) ra (fun x hx => ?_) (fun x h6 h12 h => ?_) (fun x hx hc => rt_R R hx hc) (P2 0 (by omega)) (P2 1 (by omega)) (P2 2 (by omega)) (fun fo to bo cr hf => ?_)
      · rw [wg_lo hx, nI_eq (by omega) (by omega)]
        omega
      · have := wg_hi h6 h12
        omega
      · rcases hf with ⟨rfl, _, _, hK⟩ | ⟨rfl, t', b', hb, k1, k2, hK⟩
        · exact br_t rfl ⟨(hT (fun s d z => absurd z ((pq_none hK).mp rfl s d))).symm, n, rfl, rfl, R⟩
        · refine br_f (show ¬ (1 : Int32) = 0 by decide) ⟨vp_in_nI (by omega) (by omega), ?_⟩
          have B := pq_below (l := ta_A co wl (q + 6) 3) ra_Ep hK hb
          refine ir_if (ir_llt (ir_lmul (ir_il (P2 3 (by omega))) k2 (by decide)) k1) (fun z => ⟨(hF (fun al => B.mpr al z)).symm, n, rfl, rfl, R⟩) (fun z => ⟨(hT (B.mp z)).symm, n, rfl, rfl, R⟩)
    refine nm_r (e' := nI (q + 6)) (by rw [show 6 + nI q = nI (6 + q) from nI_add 6 q, Nat.add_comm]) (nm_r (e' := nI ((q + 6) * 3)) (pk_mul (q + 6) 3) ?_)
    have e2 : nI ((q + 6) * 3) + 2 = nI ((q + 6) * 3 + 2) := nI_add _ 2
    rw [nI_1, e2, nI_clamp (by omega), nI_clamp (by omega), nI_clamp (by omega), nI_clamp (by omega)]
    refine ⟨vp_in_nI (by omega) (by omega), vp_in_nI (by omega) (by omega), vp_in_nI (by omega) (by omega), ?_⟩
    refine xs_seek (A := ta_A co wl) (Ex := fun x => x = q + 6) (rt_W R) (by omega) (W.1 0 (by omega)) (W.1 1 (by omega)) (W.1 2 (by omega)) (fun x hx => nI_eq (by omega) (by omega)) (fun cb pt pb ct t b h1 h2 h3 => ?_)
    have hX := pq_none h3
    refine ir_if (ir_leq h2 ir_l0) (fun z => Y 1 _ ⟨_, _, _, _, _, _, _, _, rfl⟩ (fun _ => rfl) (fun al => ?_)) (fun z => ⟨vp_in_nI (by omega) (by omega), ?_⟩)
    · exact absurd (rn_iff.mp (fun s d h => absurd h (hX.mp z s d))) al
    · have B := pq_below (l := ta_A co wl (q + 6) 3) ra_Cp h3 z
      refine ir_if (ir_llt (ir_lmul (ir_il W.2) h2 (by decide)) h1) (fun y => Y 0 _ ⟨_, _, _, _, _, _, _, _, rfl⟩ (fun al => ?_) (fun _ => rfl)) (fun y => Y 1 _ ⟨_, _, _, _, _, _, _, _, rfl⟩ (fun _ => rfl) (fun al => ?_))
      · exact absurd y (B.mpr (rn_iff.mpr al))
      · exact absurd (rn_iff.mp (B.mp y)) al
