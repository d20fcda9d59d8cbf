/-! ===== the reference: the search ===== -/
/-- all planes that count keep it, all walls that aren't left out keep it: the same -/
theorem yc_same {A : Nat → Nat → Int} {n : Nat} {Ex : Nat → Prop} (hn : n ≤ 6) (P : Nat → Prop) : (∀ x, x < 12 → ya_C n Ex x → P (wg_s x)) ↔ (∀ x, x < 6 + n → ¬ Ex x → P x) := by
  constructor
  · intro h x hx hE
    have e := wg_ts (w := x) (by omega)
    obtain ⟨a, b⟩ := wg_tn hx hn
    have := h (wg_t x) a ⟨b, by rw [e]; exact hE⟩
    rw [e] at this
    exact this
  · intro h x hx hc
    exact h _ (wg_sn hx hc.1 hn) hc.2
section
variable {fn fo : Int32} {to bo : Int64} {ts go pl : Nat → Int32} {cr : Nat → Int64} {A : Nat → Nat → Int} {n : Nat} {Ex : Nat → Prop}
theorem yc_step {post : Int32 → SY → Prop} {p q r i m : Nat} {out : Int32} (hp : ya_R pl A p) (hq : ya_R pl A q) (hr : ya_R pl A r) (hi : i < 3) {x5 : Int64} (hx : ir_L x5 (cm_d A (wg_s p) (wg_s q) (wg_s r)) 5821794)
    (hP : ∀ v, ir_L v (cm_n A (wg_s p) (wg_s q) (wg_s r) i) 5821794 → wY_corner_22 post (nI p) (nI q) (nI r) out x5 fn fo to bo m (nI (i + 1)) ts go pl (vp_updL cr i v)) :
    wY_corner_22 post (nI p) (nI q) (nI r) out x5 fn fo to bo (m + 1) (nI i) ts go pl cr := by
  refine br_f (nI_ge (b := 3) (a := i) hi (by omega)) ?_
  refine yd_top hp hq hr hi (fun d hd => ?_)
  refine ir_if (ir_lle ir_l0 hx) (fun z => ⟨vp_in_nI (by omega) (by omega), nm_r (e' := vp_updL cr i d) (by rw [nI_clamp (by omega)]) (nm_r (nI_1 i) (hP _ ?_))⟩) (fun z => ⟨vp_in_nI (by omega) (by omega), nm_r (e' := vp_updL cr i (-d)) (by rw [nI_clamp (by omega)]) (nm_r (nI_1 i) (hP _ ?_))⟩)
  · have es : cm_s A (wg_s p) (wg_s q) (wg_s r) = 1 := if_neg (by omega)
    rw [cm_n, es, Int.one_mul]; exact hd
  · have es : cm_s A (wg_s p) (wg_s q) (wg_s r) = -1 := if_pos (by omega)
    rw [cm_n, es, Int.neg_one_mul]; exact ir_lneg hd (by decide)
/-- what corner answers and leaves -/
theorem yc_corner {post : Int32 → SY → Prop} {p q r : Nat} {out : Int32} (hn : n ≤ 6) (ho : ∀ x, x < 6 → (nI x = out ↔ Ex (wg_s x))) (hs : ∀ x, 6 ≤ x → x < 12 → ¬ Ex (wg_s x)) (hR : ∀ x, x < 12 → (6 ≤ x ∨ x < n) → ya_R pl A x) (hp : ya_R pl A p) (hq : ya_R pl A q) (hr : ya_R pl A r)
    (hF : ∀ cr, ¬ cm_G A (6 + n) Ex (wg_s p) (wg_s q) (wg_s r) → post 0 (nI n, fo, to, bo, ts, go, pl, cr))
    (hT : ∀ cr, cm_G A (6 + n) Ex (wg_s p) (wg_s q) (wg_s r) → ir_L (cr 3) (cm_b A (wg_s p) (wg_s q) (wg_s r)) 5821794 → (∀ i, i < 3 → ir_L (cr i) (cm_n A (wg_s p) (wg_s q) (wg_s r) i) 5821794) → post 1 (nI n, fo, to, bo, ts, go, pl, cr)) :
    wpY_corner post (nI n, fo, to, bo, ts, go, pl, cr) (nI p) (nI q) (nI r) out := by
  refine yd_det hp hq hr (fun d hd => ?_)
  refine ir_if (ir_leq hd ir_l0) (fun z => hF _ (fun g => g.1 z)) (fun z => ⟨4, ?_⟩)
  refine yc_step (i := 0) hp hq hr (by omega) hd (fun v0 k0 => ?_)
  refine yc_step (i := 1) hp hq hr (by omega) hd (fun v1 k1 => ?_)
  refine yc_step (i := 2) hp hq hr (by omega) hd (fun v2 k2 => ?_)
  refine br_t (nI_le (a := 3) (b := 3) (by omega) (by omega)) ?_
  have fin : ∀ v3, ir_L v3 (cm_b A (wg_s p) (wg_s q) (wg_s r)) 5821794 → ∃ n91, wY_corner_91 post out (nI n) fo to bo ts go pl (vp_updL (vp_updL (vp_updL (vp_updL cr 0 v0) 1 v1) 2 v2) 3 v3) n91 0 := by
    intro v3 k3
    refine ⟨13, ?_⟩
    refine yc_91 (T0 := cm_n A (wg_s p) (wg_s q) (wg_s r) 0) (T1 := cm_n A (wg_s p) (wg_s q) (wg_s r) 1) (T2 := cm_n A (wg_s p) (wg_s q) (wg_s r) 2) (B := cm_b A (wg_s p) (wg_s q) (wg_s r)) hn ho hs hR k0 k1 k2 k3 (fun al => ?_) (fun al => ?_) 12 13 0 (by omega) (by omega) (fun y hy => absurd hy (by omega))
    · refine hT _ ⟨z, (yc_same (A := A) hn (fun x => A x 0 * cm_n A (wg_s p) (wg_s q) (wg_s r) 0 + A x 1 * cm_n A (wg_s p) (wg_s q) (wg_s r) 1 + A x 2 * cm_n A (wg_s p) (wg_s q) (wg_s r) 2 ≤ A x 3 * cm_b A (wg_s p) (wg_s q) (wg_s r))).mp al⟩ k3 ?_
      intro i hi
      match i, hi with
      | 0, _ => exact k0
      | 1, _ => exact k1
      | 2, _ => exact k2
    · exact hF _ (fun g => al ((yc_same (A := A) hn (fun x => A x 0 * cm_n A (wg_s p) (wg_s q) (wg_s r) 0 + A x 1 * cm_n A (wg_s p) (wg_s q) (wg_s r) 1 + A x 2 * cm_n A (wg_s p) (wg_s q) (wg_s r) 2 ≤ A x 3 * cm_b A (wg_s p) (wg_s q) (wg_s r))).mpr g.2))
  refine ir_if (ir_lle ir_l0 hd) (fun y => nm_e (fin _ ?_)) (fun y => nm_e (fin _ ?_))
  · have es : cm_s A (wg_s p) (wg_s q) (wg_s r) = 1 := if_neg (by omega)
    rw [cm_b, es, Int.one_mul]; exact hd
  · have es : cm_s A (wg_s p) (wg_s q) (wg_s r) = -1 := if_pos (by omega)
    rw [cm_b, es, Int.neg_one_mul]; exact ir_lneg hd (by decide)
end
/-- the reference's greatest so far -/
def ys_F (S : Int → Int → Prop) (fo : Int32) (to bo : Int64) : Prop := (fo = 0 ∧ to = 0 ∧ bo = 1 ∧ pq_K S 0 0) ∨ (fo = 1 ∧ ∃ t b, b ≠ 0 ∧ ir_L to t 1729072818 ∧ ir_L bo b 5821794 ∧ pq_K S t b)
theorem ys_iff {S S' : Int → Int → Prop} {fo : Int32} {to bo : Int64} (e : ∀ s d, S' s d ↔ S s d) (h : ys_F S fo to bo) : ys_F S' fo to bo := by
  rcases h with ⟨h1, h2, h3, h4⟩ | ⟨h1, t, b, h2, h3, h4, h5⟩
  · exact Or.inl ⟨h1, h2, h3, pq_iff e h4⟩
  · exact Or.inr ⟨h1, t, b, h2, h3, h4, pq_iff e h5⟩
/-- the corners that the reference has looked at -/
def ys_S (A : Nat → Nat → Int) (n : Nat) (Ex : Nat → Prop) (C0 C1 C2 : Int) (a r : Nat) (s d : Int) : Prop := ∃ p q r', (p * 12 + q < a ∨ (p * 12 + q = a ∧ r' < r)) ∧ p < q ∧ q < r' ∧ r' < 12 ∧ (ya_C n Ex p ∧ ya_C n Ex q ∧ ya_C n Ex r') ∧ cm_K A (6 + n) Ex C0 C1 C2 s d (wg_s p) (wg_s q) (wg_s r')
section
variable {fn fo : Int32} {to bo : Int64} {ts go pl : Nat → Int32} {cr : Nat → Int64} {A : Nat → Nat → Int} {n : Nat} {Ex : Nat → Prop} {c0 c1 c2 out : Int32} {C0 C1 C2 : Int}
theorem ys_look {post : SY → Prop} {T0 T1 T2 D : Int} {S S' : Int → Int → Prop} (h0 : ir_I c0 C0 99) (h1 : ir_I c1 C1 99) (h2 : ir_I c2 C2 99) (k0 : ir_L (cr 0) T0 5821794) (k1 : ir_L (cr 1) T1 5821794) (k2 : ir_L (cr 2) T2 5821794) (k3 : ir_L (cr 3) D 5821794) (hD : 0 < D)
    (hI : ys_F S fo to bo) (hSp : ∀ s d, S s d → 0 < d) (e : ∀ s d, S' s d ↔ S s d ∨ (s = C0 * T0 + C1 * T1 + C2 * T2 ∧ d = D))
    (hp : ∀ fo to bo, ys_F S' fo to bo → post (fn, fo, to, bo, ts, go, pl, cr)) : wpY_look post (fn, fo, to, bo, ts, go, pl, cr) c0 c1 c2 := by
  have hx := ir_ladd (ir_ladd (ir_lmul (ir_il h0) k0 (by decide)) (ir_lmul (ir_il h1) k1 (by decide)) (by decide)) (ir_lmul (ir_il h2) k2 (by decide)) (by decide)
  rcases hI with ⟨z1, z2, z3, z4⟩ | ⟨z1, t, b, z2, z3, z4, z5⟩
  · exact nm_e (br_t z1 (nm_e (hp _ _ _ (Or.inr ⟨rfl, _, _, by omega, hx, k3, pq_first e z4 rfl hD⟩))))
  · refine nm_e (br_f (by rw [z1]; decide) ?_)
    refine ir_if (ir_lle (ir_lmul hx z4 (by decide)) (ir_lmul z3 k3 (by decide))) (fun k => ?_) (fun k => ?_)
    · exact hp _ _ _ (Or.inr ⟨z1, t, b, z2, z3, z4, pq_keep e z5 z2 k⟩)
    · exact nm_e (hp _ _ _ (Or.inr ⟨rfl, _, _, by omega, hx, k3, pq_new e hSp z5 z2 hD k⟩))
theorem ys_29 {post : SY → Prop} {J18 : Int32 → Int32 → Int32 → Int64 → Int64 → (Nat → Int32) → (Nat → Int32) → (Nat → Int32) → (Nat → Int64) → Prop} (hn : n ≤ 6) (ho : ∀ x, x < 6 → (nI x = out ↔ Ex (wg_s x))) (hs : ∀ x, 6 ≤ x → x < 12 → ¬ Ex (wg_s x)) (hR : ∀ x, x < 12 → (6 ≤ x ∨ x < n) → ya_R pl A x) (h0 : ir_I c0 C0 99) (h1 : ir_I c1 C1 99) (h2 : ir_I c2 C2 99) {a : Nat} (ha : a < 144)
    (hJ : ∀ fo to bo cr, ys_F (ys_S A n Ex C0 C1 C2 a 12) fo to bo → J18 (nI (a + 1)) (nI n) fo to bo ts go pl cr) :
    ∀ (m f r : Nat) (fo : Int32) (to bo : Int64) (cr : Nat → Int64), r + m = 12 → m < f → ys_F (ys_S A n Ex C0 C1 C2 a r) fo to bo → wY_search_29 post J18 c0 c1 c2 out (nI a) f (nI r) (nI n) fo to bo ts go pl cr := by
  intro m
  induction m with
  | zero =>
    intro f r fo to bo cr hr hf hI
    obtain ⟨f, rfl⟩ : ∃ f', f = f' + 1 := ⟨f - 1, by omega⟩
    have e : r = 12 := by omega
    subst e
    exact br_t (nI_le (a := 12) (b := 12) (by omega) (by omega)) (nm_r (nI_1 a) (hJ _ _ _ _ hI))
  | succ m ih =>
    intro f r fo to bo cr hr hf hI
    obtain ⟨f, rfl⟩ : ∃ f', f = f' + 1 := ⟨f - 1, by omega⟩
    have ed : nI a / 12 = nI (a / 12) := pk_div (d := 12) (by omega) (by omega) (by omega)
    have em : nI a - nI a / 12 * 12 = nI (a % 12) := pk_rem (d := 12) (by omega) (by omega) (by omega)
    have next : ∀ fo to bo cr, ys_F (ys_S A n Ex C0 C1 C2 a (r + 1)) fo to bo → wY_search_29 post J18 c0 c1 c2 out (nI a) f (nI (r + 1)) (nI n) fo to bo ts go pl cr := fun fo to bo cr h => ih f (r + 1) fo to bo cr (by omega) (by omega) h
    have skip : ¬ (a / 12 < a % 12 ∧ a % 12 < r ∧ ya_C n Ex (a / 12) ∧ ya_C n Ex (a % 12) ∧ ya_C n Ex r) → wY_search_102 post J18 (wY_search_29 post J18 c0 c1 c2 out (nI a) f) c0 c1 c2 out (nI a) (nI r) (nI (a / 12)) (nI (a % 12)) 0 (nI n) fo to bo ts go pl cr := by
      intro z
      refine br_t rfl (nm_r (nI_1 r) (next _ _ _ _ (ys_iff (fun s d => ?_) hI)))
      constructor
      · rintro ⟨p, q, r', j1, j2, j3, j4, ⟨c1, c2, c3⟩, j5⟩
        refine ⟨p, q, r', ?_, j2, j3, j4, ⟨c1, c2, c3⟩, j5⟩
        by_cases e : p * 12 + q = a ∧ r' = r
        · obtain ⟨e1, rfl⟩ := e
          have ep : p = a / 12 := by omega
          have eq : q = a % 12 := by omega
          rw [ep] at j2 c1
          rw [eq] at j2 j3 c2
          exact absurd ⟨j2, j3, c1, c2, c3⟩ z
        · omega
      · rintro ⟨p, q, r', j1, j2, j3, j4, c, j5⟩
        exact ⟨p, q, r', by omega, j2, j3, j4, c, j5⟩
    refine br_f (nI_ge (b := 12) (a := r) (by omega) (by omega)) ⟨by decide, nm_r ed ⟨by decide, nm_r em ?_⟩⟩
    refine pk_le (a % 12) (a / 12) (fun z => skip (fun k => by have := k.1; omega)) (fun z1 => ?_)
    refine pk_le r (a % 12) (fun z => skip (fun k => by have := k.2.1; omega)) (fun z2 => ?_)
    refine yc_counts (by omega) hn ho hs (fun q1 => br_f (by decide) ?_) (fun q => br_t rfl (skip (fun k => q k.2.2.1)))
    refine yc_counts (by omega) hn ho hs (fun q2 => br_f (by decide) ?_) (fun q => br_t rfl (skip (fun k => q k.2.2.2.1)))
    refine yc_counts (by omega) hn ho hs (fun q3 => br_f (by decide) ?_) (fun q => br_t rfl (skip (fun k => q k.2.2.2.2)))
    have three : ∀ s d, ys_S A n Ex C0 C1 C2 a (r + 1) s d ↔ ys_S A n Ex C0 C1 C2 a r s d ∨ cm_K A (6 + n) Ex C0 C1 C2 s d (wg_s (a / 12)) (wg_s (a % 12)) (wg_s r) := by
      intro s d
      constructor
      · rintro ⟨p, q, r', j1, j2, j3, j4, c, j5⟩
        by_cases e : p * 12 + q = a ∧ r' = r
        · obtain ⟨e1, rfl⟩ := e
          have ep : p = a / 12 := by omega
          have eq : q = a % 12 := by omega
          rw [ep, eq] at j5
          exact Or.inr j5
        · exact Or.inl ⟨p, q, r', by omega, j2, j3, j4, c, j5⟩
      · rintro (⟨p, q, r', j1, j2, j3, j4, c, j5⟩ | k)
        · exact ⟨p, q, r', by omega, j2, j3, j4, c, j5⟩
        · exact ⟨a / 12, a % 12, r, by omega, z1, z2, by omega, ⟨q1, q2, q3⟩, k⟩
    refine br_f (by decide) ?_
    refine yc_corner hn ho hs hR (hR _ (by omega) q1.1) (hR _ (by omega) q2.1) (hR _ (by omega) q3.1) (fun cr g => br_t rfl (nm_r (nI_1 r) (next _ _ _ _ (ys_iff (fun s d => ?_) hI)))) (fun cr g hb ht => br_f (by decide) ?_)
    · exact (three s d).trans ⟨fun k => k.elim id (fun k => absurd k.1 g), Or.inl⟩
    · refine ys_look h0 h1 h2 (ht 0 (by omega)) (ht 1 (by omega)) (ht 2 (by omega)) hb (cm_bp g.1) hI ?_ (S' := ys_S A n Ex C0 C1 C2 a (r + 1)) (fun s d => ?_) (fun fo to bo h => nm_r (nI_1 r) (next _ _ _ _ h))
      · rintro s d ⟨p, q, r', _, _, _, _, _, k⟩
        rw [k.2.2]
        exact cm_bp k.1.1
      · exact (three s d).trans ⟨fun k => k.elim Or.inl (fun k => Or.inr k.2), fun k => k.elim Or.inl (fun k => Or.inr ⟨g, k⟩)⟩
theorem ys_18 {post : SY → Prop} (hn : n ≤ 6) (ho : ∀ x, x < 6 → (nI x = out ↔ Ex (wg_s x))) (hs : ∀ x, 6 ≤ x → x < 12 → ¬ Ex (wg_s x)) (hR : ∀ x, x < 12 → (6 ≤ x ∨ x < n) → ya_R pl A x) (h0 : ir_I c0 C0 99) (h1 : ir_I c1 C1 99) (h2 : ir_I c2 C2 99)
    (hp : ∀ fo to bo cr, ys_F (ys_S A n Ex C0 C1 C2 144 0) fo to bo → post (nI n, fo, to, bo, ts, go, pl, cr)) :
    ∀ (m f a : Nat) (fo : Int32) (to bo : Int64) (cr : Nat → Int64), a + m = 144 → m < f → ys_F (ys_S A n Ex C0 C1 C2 a 0) fo to bo → wY_search_18 post c0 c1 c2 out f (nI a) (nI n) fo to bo ts go pl cr := by
  intro m
  induction m with
  | zero =>
    intro f a fo to bo cr ha hf hI
    obtain ⟨f, rfl⟩ : ∃ f', f = f' + 1 := ⟨f - 1, by omega⟩
    have e : a = 144 := by omega
    subst e
    exact br_t (nI_le (a := 144) (b := 144) (by omega) (by omega)) (hp _ _ _ _ hI)
  | succ m ih =>
    intro f a fo to bo cr ha hf hI
    obtain ⟨f, rfl⟩ : ∃ f', f = f' + 1 := ⟨f - 1, by omega⟩
    refine br_f (nI_ge (b := 144) (a := a) (by omega) (by omega)) ⟨13, ?_⟩
    refine ys_29 hn ho hs hR h0 h1 h2 (by omega) (fun fo to bo cr h => ih f (a + 1) fo to bo cr (by omega) (by omega) (ys_iff (fun s d => ?_) h)) 12 13 0 fo to bo cr (by omega) (by omega) hI
    constructor
    · rintro ⟨p, q, r', j1, j2, j3, j4, c, j5⟩
      exact ⟨p, q, r', by omega, j2, j3, j4, c, j5⟩
    · rintro ⟨p, q, r', j1, j2, j3, j4, c, j5⟩
      exact ⟨p, q, r', by omega, j2, j3, j4, c, j5⟩
/-- what search finds: the greatest of the sums at corners on no plane that is left out -/
theorem ys_search {post : SY → Prop} (hn : n ≤ 6) (ho : ∀ x, x < 6 → (nI x = out ↔ Ex (wg_s x))) (hs : ∀ x, 6 ≤ x → x < 12 → ¬ Ex (wg_s x)) (hR : ∀ x, x < 12 → (6 ≤ x ∨ x < n) → ya_R pl A x) (h0 : ir_I c0 C0 99) (h1 : ir_I c1 C1 99) (h2 : ir_I c2 C2 99)
    (hp : ∀ fo to bo cr, ys_F (cm_E A (6 + n) Ex C0 C1 C2) fo to bo → post (nI n, fo, to, bo, ts, go, pl, cr)) : wpY_search post (nI n, fo, to, bo, ts, go, pl, cr) c0 c1 c2 out := by
  refine ⟨145, ?_⟩
  refine ys_18 hn ho hs hR h0 h1 h2 (fun fo to bo cr h => hp _ _ _ _ (ys_iff (fun s d => ?_) h)) 144 145 0 0 0 1 cr (by omega) (by omega) ?_
  · constructor
    · rintro ⟨u, v, w, ⟨hu, eu⟩, ⟨hv, ev⟩, ⟨hw, ew⟩, k⟩
      have tu := wg_ts (w := u) (by omega)
      have tv := wg_ts (w := v) (by omega)
      have tw := wg_ts (w := w) (by omega)
      obtain ⟨a1, b1⟩ := wg_tn hu hn
      obtain ⟨a2, b2⟩ := wg_tn hv hn
      obtain ⟨a3, b3⟩ := wg_tn hw hn
      obtain ⟨p, q, r, j1, j2, j3, j4, j5, j6⟩ := cm_sort (P := fun x => x < 12 ∧ ya_C n Ex x) (K := fun p q r => cm_K A (6 + n) Ex C0 C1 C2 s d (wg_s p) (wg_s q) (wg_s r)) (fun _ _ _ => cm_K1 _ _ _) (fun _ _ _ => cm_K2 _ _ _) (fun _ _ _ h => ⟨fun e => (cm_Kne _ _ _ h).1 (by rw [e]), fun e => (cm_Kne _ _ _ h).2.1 (by rw [e]), fun e => (cm_Kne _ _ _ h).2.2 (by rw [e])⟩) (u := wg_t u) (v := wg_t v) (w := wg_t w) ⟨a1, b1, by rw [tu]; exact eu⟩ ⟨a2, b2, by rw [tv]; exact ev⟩ ⟨a3, b3, by rw [tw]; exact ew⟩ (by rw [tu, tv, tw]; exact k)
      have := j5.1
      exact ⟨p, q, r, by omega, j1, j2, j5.1, ⟨j3.2, j4.2, j5.2⟩, j6⟩
    · rintro ⟨p, q, r, j1, j2, j3, j4, ⟨c1, c2, c3⟩, j5⟩
      exact ⟨_, _, _, ⟨wg_sn (by omega) c1.1 hn, c1.2⟩, ⟨wg_sn (by omega) c2.1 hn, c2.2⟩, ⟨wg_sn (by omega) c3.1 hn, c3.2⟩, j5⟩
  · refine Or.inl ⟨rfl, rfl, rfl, Or.inl ⟨rfl, rfl, ?_⟩⟩
    rintro s d ⟨p, q, r', j1, j2, j3, j4, c, j5⟩
    omega
end
