/-! ===== the component: corners ===== -/
def xa_W (co wl : Nat → Int32) (A : Nat → Nat → Int) (N : Nat) : Prop := ∀ w, w < N → (∀ i, i < 3 → ir_I (co (w * 3 + i)) (A w i) 99) ∧ ir_I (wl w) (A w 3) 99
theorem xc_i (v j : Nat) : nI v * 3 + nI j = nI (v * 3 + j) := by
  rw [← nI_add, ← pk_mul]; rfl
theorem cm_b0 (A : Nat → Nat → Int) (u v w : Nat) : cm_b A u v w = 0 ↔ cm_d A u v w = 0 := by
  unfold cm_b cm_s
  by_cases z : cm_d A u v w < 0
  · rw [if_pos z]; omega
  · rw [if_neg z]; omega
section
variable {wc fi bg cb : Int32} {pt pb : Int64} {co wl gc bp lv ct : Nat → Int32} {A : Nat → Nat → Int} {N : Nat} {Ex : Nat → Prop}
theorem xc_cross {post : Int32 → Prop} (hW : xa_W co wl A N) (hN : N ≤ 12) {v w i : Nat} (hv : v < N) (hw : w < N) (hi : i < 3) (hp : ∀ r, ir_I r (cm_x A v w ((i + 1) % 3) ((i + 2) % 3)) 19602 → post r) : wpX_cross post (wc, fi, bg, cb, pt, pb, co, wl, gc, bp, lv, ct) (nI v) (nI w) (nI i) := by
  have e1 : nI i + 1 - (nI i + 1) / 3 * 3 = nI ((i + 1) % 3) := by
    rw [nI_1]; exact pk_rem (d := 3) (by omega) (by omega) (by omega)
  have e2 : nI i + 2 - (nI i + 2) / 3 * 3 = nI ((i + 2) % 3) := by
    rw [show nI i + 2 = nI (i + 2) from nI_add i 2]; exact pk_rem (d := 3) (by omega) (by omega) (by omega)
  have j1 : (i + 1) % 3 < 3 := Nat.mod_lt _ (by omega)
  have j2 : (i + 2) % 3 < 3 := Nat.mod_lt _ (by omega)
  generalize (i + 1) % 3 = j at *
  generalize (i + 2) % 3 = k at *
  refine ⟨by decide, nm_r e1 ⟨by decide, nm_r e2 ⟨?_, ?_, ?_, ?_, ?_⟩⟩⟩
  · rw [xc_i]; exact vp_in_nI (by omega) (by omega)
  · rw [xc_i]; exact vp_in_nI (by omega) (by omega)
  · rw [xc_i]; exact vp_in_nI (by omega) (by omega)
  · rw [xc_i]; exact vp_in_nI (by omega) (by omega)
  · rw [xc_i, xc_i, xc_i, xc_i, nI_clamp (by omega), nI_clamp (by omega), nI_clamp (by omega), nI_clamp (by omega)]
    exact hp _ (ir_isub (ir_imul ((hW v hv).1 j j1) ((hW w hw).1 k j2) (by decide)) (ir_imul ((hW v hv).1 k j2) ((hW w hw).1 j j1) (by decide)) (by decide))
theorem xt_turn {post : SX → Prop} (hp : ∀ ct', (∀ i, i < 3 → ct' i = - ct i) → post (wc, fi, bg, -cb, pt, pb, co, wl, gc, bp, lv, ct')) : wpX_turnCornerSigns post (wc, fi, bg, cb, pt, pb, co, wl, gc, bp, lv, ct) := by
  have v0 : vp_in 0 3 := vp_in_nI (n := 0) (by omega) (by omega)
  have v1 : vp_in (0 + 1) 3 := vp_in_nI (n := 1) (by omega) (by omega)
  have v2 : vp_in (0 + 1 + 1) 3 := vp_in_nI (n := 2) (by omega) (by omega)
  refine nm_e ⟨4, br_f (by decide) ⟨v0, v0, nm_e (nm_e (br_f (by decide) ⟨v1, v1, nm_e (nm_e (br_f (by decide) ⟨v2, v2, nm_e (nm_e (br_t (by decide) (hp _ ?_)))⟩))⟩))⟩⟩
  intro i hi
  match i, hi with
  | 0, _ => rfl
  | 1, _ => rfl
  | 2, _ => rfl
theorem xm_step {post : SX → Prop} (hW : xa_W co wl A N) (hN : N ≤ 12) {u v w i : Nat} (hu : u < N) (hv : v < N) (hw : w < N) (hi : i < 3) {n : Nat} {x4 : Int32} {X4 : Int} {B : Nat} (hx : ir_I x4 X4 B) (hB : B ≤ 4000000) (hp : ∀ x4' r, ir_I x4' (X4 + A u i * cm_x A v w ((i + 1) % 3) ((i + 2) % 3)) (B + 1940598) → ir_I r (cm_t A u v w i) 5821794 → wX_meetWalls_6 post (nI u) (nI v) (nI w) wc fi bg cb pt pb n x4' (nI (i + 1)) co wl gc bp lv (upd ct i r)) : wX_meetWalls_6 post (nI u) (nI v) (nI w) wc fi bg cb pt pb (n + 1) x4 (nI i) co wl gc bp lv ct := by
  refine br_f (nI_ge (b := 3) (a := i) hi (by omega)) ?_
  refine xc_cross hW hN hv hw hi (fun r1 h1 => ?_)
  refine ⟨by rw [xc_i]; exact vp_in_nI (by omega) (by omega), nm_r (e' := x4 + co (u * 3 + i) * r1) (by rw [xc_i, nI_clamp (by omega)]) ⟨vp_in_nI (by omega) (by omega), vp_in_nI (by omega) (by omega), ?_⟩⟩
  refine xc_cross hW hN hw hu hi (fun r2 h2 => ⟨vp_in_nI (by omega) (by omega), ?_⟩)
  refine xc_cross hW hN hu hv hi (fun r3 h3 => ⟨vp_in_nI (by omega) (by omega), ?_⟩)
  refine nm_r (e' := upd ct i (wl u * r1 + wl v * r2 + wl w * r3)) (by rw [nI_clamp (by omega), nI_clamp (by omega), nI_clamp (by omega), nI_clamp (by omega)]) (nm_r (nI_1 i) ?_)
  refine hp _ _ (ir_iadd hx (ir_imul ((hW u hu).1 i hi) h1 (by decide)) (by omega)) ?_
  exact ir_iadd (ir_iadd (ir_imul (hW u hu).2 h1 (by decide)) (ir_imul (hW v hv).2 h2 (by decide)) (by decide)) (ir_imul (hW w hw).2 h3 (by decide)) (by decide)
/-- what meetWalls leaves: the corner, with a bottom that isn't below 0 -/
theorem xm_meet {post : SX → Prop} (hW : xa_W co wl A N) (hN : N ≤ 12) {u v w : Nat} (hu : u < N) (hv : v < N) (hw : w < N) (hp : ∀ cb' ct', ir_I cb' (cm_b A u v w) 5821794 → (∀ i, i < 3 → ir_I (ct' i) (cm_n A u v w i) 5821794) → post (wc, fi, bg, cb', pt, pb, co, wl, gc, bp, lv, ct')) : wpX_meetWalls post (wc, fi, bg, cb, pt, pb, co, wl, gc, bp, lv, ct) (nI u) (nI v) (nI w) := by
  refine ⟨4, ?_⟩
  refine xm_step (i := 0) hW hN hu hv hw (by omega) ir_i0 (by omega) (fun y0 r0 hy0 hr0 => ?_)
  refine xm_step (i := 1) hW hN hu hv hw (by omega) hy0 (by omega) (fun y1 r1 hy1 hr1 => ?_)
  refine xm_step (i := 2) hW hN hu hv hw (by omega) hy1 (by omega) (fun y2 r2 hy2 hr2 => ?_)
  have hd : ir_I y2 (cm_d A u v w) 5821794 := by
    have e : cm_d A u v w = 0 + A u 0 * cm_x A v w ((0 + 1) % 3) ((0 + 2) % 3) + A u 1 * cm_x A v w ((1 + 1) % 3) ((1 + 2) % 3) + A u 2 * cm_x A v w ((2 + 1) % 3) ((2 + 2) % 3) := by
      rw [Int.zero_add]; rfl
    rw [e]; exact hy2
  have ht : ∀ i, i < 3 → ir_I (upd (upd (upd ct 0 r0) 1 r1) 2 r2 i) (cm_t A u v w i) 5821794 := by
    intro i hi
    match i, hi with
    | 0, _ => exact hr0
    | 1, _ => exact hr1
    | 2, _ => exact hr2
  generalize upd (upd (upd ct 0 r0) 1 r1) 2 r2 = ct2 at *
  refine br_t (nI_le (a := 3) (b := 3) (by omega) (by omega)) (ir_if (ir_ile ir_i0 hd) (fun z => ?_) (fun z => ?_))
  · have es : cm_s A u v w = 1 := if_neg (by omega)
    refine hp _ _ ?_ (fun i hi => ?_)
    · rw [cm_b, es, Int.one_mul]; exact hd
    · rw [cm_n, es, Int.one_mul]; exact ht i hi
  · have es : cm_s A u v w = -1 := if_pos (by omega)
    refine xt_turn (fun ct' hc => hp _ _ ?_ (fun i hi => ?_))
    · rw [cm_b, es, Int.neg_one_mul]; exact ir_ineg hd (by decide)
    · rw [cm_n, es, Int.neg_one_mul, hc i hi]; exact ir_ineg (ht i hi) (by decide)
theorem xk_loop {post : Int32 → Prop} {t0 t1 t2 b s : Int32} {T0 T1 T2 B : Int} (hW : xa_W co wl A N) (hN : N ≤ 12) (h0 : ir_I t0 T0 5821794) (h1 : ir_I t1 T1 5821794) (h2 : ir_I t2 T2 5821794) (hb : ir_I b B 5821794) (hs : ∀ x, x < N → (nI x = s ↔ Ex x))
    (hT : (∀ x, x < N → ¬ Ex x → A x 0 * T0 + A x 1 * T1 + A x 2 * T2 ≤ A x 3 * B) → post 1) (hF : ¬ (∀ x, x < N → ¬ Ex x → A x 0 * T0 + A x 1 * T1 + A x 2 * T2 ≤ A x 3 * B) → post 0) :
    ∀ (m n x : Nat), x + m = N → m < n → (∀ y, y < x → ¬ Ex y → A y 0 * T0 + A y 1 * T1 + A y 2 * T2 ≤ A y 3 * B) → wX_keepsWalls_3 post t0 t1 t2 b s (nI N) fi bg cb pt pb co wl gc bp lv ct n (nI x) := by
  intro m
  induction m with
  | zero =>
    intro n x hx hn hI
    obtain ⟨n, rfl⟩ : ∃ n', n = n' + 1 := ⟨n - 1, by omega⟩
    exact br_t (nI_le (by omega) (by omega)) (hT (fun y hy => hI y (by omega)))
  | succ m ih =>
    intro n x hx hn hI
    obtain ⟨n, rfl⟩ : ∃ n', n = n' + 1 := ⟨n - 1, by omega⟩
    refine br_f (nI_ge (by omega) (by omega)) (nm_r (e' := nI (x * 3)) (pk_mul x 3) ?_)
    refine ⟨vp_in_nI (by omega) (by omega), by rw [nI_1]; exact vp_in_nI (by omega) (by omega), ?_, ?_⟩
    · rw [show nI (x * 3) + 2 = nI (x * 3 + 2) from nI_add _ 2]; exact vp_in_nI (by omega) (by omega)
    · refine nm_r (e' := co (x * 3 + 0) * t0 + co (x * 3 + 1) * t1 + co (x * 3 + 2) * t2) (by rw [nI_1, show nI (x * 3) + 2 = nI (x * 3 + 2) from nI_add _ 2, nI_clamp (by omega), nI_clamp (by omega), nI_clamp (by omega)]; rfl) ?_
      have hx' : x < N := by omega
      have hsum := ir_iadd (ir_iadd (ir_imul ((hW x hx').1 0 (by omega)) h0 (by decide)) (ir_imul ((hW x hx').1 1 (by omega)) h1 (by decide)) (by decide)) (ir_imul ((hW x hx').1 2 (by omega)) h2 (by decide)) (by decide)
      refine ir_if (hs x hx') (fun z => nm_r (nI_1 x) ?_) (fun z => ⟨vp_in_nI (by omega) (by omega), ?_⟩)
      · exact ih n (x + 1) (by omega) (by omega) (fun y hy hE => if e : y = x then absurd (e ▸ z) hE else hI y (by omega) hE)
      · rw [nI_clamp (by omega)]
        refine ir_if (ir_ile hsum (ir_imul (hW x hx').2 hb (by decide))) (fun k => nm_r (nI_1 x) ?_) (fun k => hF (fun al => k (al x hx' z)))
        exact ih n (x + 1) (by omega) (by omega) (fun y hy hE => if e : y = x then e ▸ k else hI y (by omega) hE)
theorem xk_keeps {post : Int32 → Prop} {t0 t1 t2 b s : Int32} {T0 T1 T2 B : Int} (hW : xa_W co wl A N) (hN : N ≤ 12) (h0 : ir_I t0 T0 5821794) (h1 : ir_I t1 T1 5821794) (h2 : ir_I t2 T2 5821794) (hb : ir_I b B 5821794) (hs : ∀ x, x < N → (nI x = s ↔ Ex x))
    (hT : (∀ x, x < N → ¬ Ex x → A x 0 * T0 + A x 1 * T1 + A x 2 * T2 ≤ A x 3 * B) → post 1) (hF : ¬ (∀ x, x < N → ¬ Ex x → A x 0 * T0 + A x 1 * T1 + A x 2 * T2 ≤ A x 3 * B) → post 0) :
    wpX_keepsWalls post (nI N, fi, bg, cb, pt, pb, co, wl, gc, bp, lv, ct) t0 t1 t2 b s :=
  ⟨N + 1, xk_loop hW hN h0 h1 h2 hb hs hT hF N (N + 1) 0 (by omega) (by omega) (fun y hy => absurd hy (by omega))⟩
theorem xn_note {post : SX → Prop} {c0 c1 c2 s : Int32} {C0 C1 C2 : Int} (hW : xa_W co wl A N) (hN : N ≤ 12) (h0 : ir_I c0 C0 99) (h1 : ir_I c1 C1 99) (h2 : ir_I c2 C2 99) (hs : ∀ x, x < N → (nI x = s ↔ Ex x)) {u v w : Nat} (hcb : ir_I cb (cm_b A u v w) 5821794) (hct : ∀ i, i < 3 → ir_I (ct i) (cm_n A u v w i) 5821794)
    {S S' : Int → Int → Prop} {t b : Int} (hpt : ir_L pt t 1729072818) (hpb : ir_L pb b 5821794) (hS : pq_K S t b) (hSp : ∀ s d, S s d → 0 < d) (hS' : ∀ s d, S' s d ↔ S s d ∨ cm_K A N Ex C0 C1 C2 s d u v w)
    (hp : ∀ pt' pb' t' b', ir_L pt' t' 1729072818 → ir_L pb' b' 5821794 → pq_K S' t' b' → post (nI N, fi, bg, cb, pt', pb', co, wl, gc, bp, lv, ct)) : wpX_noteCorner post (nI N, fi, bg, cb, pt, pb, co, wl, gc, bp, lv, ct) c0 c1 c2 s := by
  have stay : ¬ cm_G A N Ex u v w → post (nI N, fi, bg, cb, pt, pb, co, wl, gc, bp, lv, ct) := fun z =>
    hp _ _ t b hpt hpb (pq_iff (fun s d => ⟨fun k => ((hS' s d).mp k).elim id (fun q => absurd q.1 z), fun k => (hS' s d).mpr (Or.inl k)⟩) hS)
  refine ir_if (ir_ieq hcb ir_i0) (fun z => stay (fun g => g.1 ((cm_b0 A u v w).mp z))) (fun z => ?_)
  have hd : cm_d A u v w ≠ 0 := fun k => z ((cm_b0 A u v w).mpr k)
  refine xk_keeps hW hN (hct 0 (by omega)) (hct 1 (by omega)) (hct 2 (by omega)) hcb hs (fun ok => ?_) (fun nok => br_t rfl (stay (fun g => nok g.2)))
  have g : cm_G A N Ex u v w := ⟨hd, ok⟩
  have hx := ir_iadd (ir_iadd (ir_imul h0 (hct 0 (by omega)) (by decide)) (ir_imul h1 (hct 1 (by omega)) (by decide)) (by decide)) (ir_imul h2 (hct 2 (by omega)) (by decide)) (by decide)
  have e : ∀ s d, S' s d ↔ S s d ∨ (s = C0 * cm_n A u v w 0 + C1 * cm_n A u v w 1 + C2 * cm_n A u v w 2 ∧ d = cm_b A u v w) := fun s d =>
    (hS' s d).trans ⟨fun k => k.elim Or.inl (fun q => Or.inr q.2), fun k => k.elim Or.inl (fun q => Or.inr ⟨g, q⟩)⟩
  refine br_f (by decide) (nm_e (ir_if (ir_leq hpb ir_l0) (fun y => ?_) (fun y => ?_)))
  · exact hp _ _ _ _ (ir_il hx) (ir_il hcb) (pq_first e hS y (cm_bp hd))
  · refine ir_if (ir_lle (ir_lmul (ir_il hx) hpb (by decide)) (ir_lmul hpt (ir_il hcb) (by decide))) (fun k => ?_) (fun k => ?_)
    · exact hp _ _ _ _ hpt hpb (pq_keep e hS y k)
    · exact hp _ _ _ _ (ir_il hx) (ir_il hcb) (pq_new e hSp hS y (cm_bp hd) k)
end
