/-! ===== the component: the search over all corners ===== -/
def xs_S (A : Nat → Nat → Int) (N : Nat) (Ex : Nat → Prop) (C0 C1 C2 : Int) (u v w : Nat) (s d : Int) : Prop := ∃ u' v' w', (u' < u ∨ (u' = u ∧ (v' < v ∨ (v' = v ∧ w' < w)))) ∧ u' < v' ∧ v' < w' ∧ w' < N ∧ cm_K A N Ex C0 C1 C2 s d u' v' w'
def xs_I (A : Nat → Nat → Int) (N : Nat) (Ex : Nat → Prop) (C0 C1 C2 : Int) (u v w : Nat) (pt pb : Int64) : Prop := ∃ t b, ir_L pt t 1729072818 ∧ ir_L pb b 5821794 ∧ pq_K (xs_S A N Ex C0 C1 C2 u v w) t b
section
variable {wc fi bg cb : Int32} {pt pb : Int64} {co wl gc bp lv ct : Nat → Int32} {A : Nat → Nat → Int} {N : Nat} {Ex : Nat → Prop} {c0 c1 c2 s : Int32} {C0 C1 C2 : Int}
theorem xs_re {u v w u1 v1 w1 : Nat} (e : ∀ u' v' w', u' < v' → v' < w' → w' < N → ((u' < u1 ∨ (u' = u1 ∧ (v' < v1 ∨ (v' = v1 ∧ w' < w1)))) ↔ (u' < u ∨ (u' = u ∧ (v' < v ∨ (v' = v ∧ w' < w)))))) (h : xs_I A N Ex C0 C1 C2 u v w pt pb) : xs_I A N Ex C0 C1 C2 u1 v1 w1 pt pb := by
  obtain ⟨t, b, h1, h2, h3⟩ := h
  refine ⟨t, b, h1, h2, pq_iff (fun s d => ?_) h3⟩
  constructor
  · rintro ⟨u', v', w', k1, k2, k3, k4, k5⟩
    exact ⟨u', v', w', (e u' v' w' k2 k3 k4).mp k1, k2, k3, k4, k5⟩
  · rintro ⟨u', v', w', k1, k2, k3, k4, k5⟩
    exact ⟨u', v', w', (e u' v' w' k2 k3 k4).mpr k1, k2, k3, k4, k5⟩
theorem xs_43 {post : SX → Prop} {J13 J28 : Int32 → Int32 → Int32 → Int32 → Int32 → Int64 → Int64 → (Nat → Int32) → (Nat → Int32) → (Nat → Int32) → (Nat → Int32) → (Nat → Int32) → (Nat → Int32) → Prop} (hW : xa_W co wl A N) (hN : N ≤ 12) (h0 : ir_I c0 C0 99) (h1 : ir_I c1 C1 99) (h2 : ir_I c2 C2 99) (hs : ∀ x, x < N → (nI x = s ↔ Ex x)) {u v : Nat} (huv : u < v) (hv : v < N)
    (hJ : ∀ cb pt pb ct, xs_I A N Ex C0 C1 C2 u v N pt pb → J28 (nI (v + 1)) (nI N) fi bg cb pt pb co wl gc bp lv ct) :
    ∀ (m n w : Nat) (cb : Int32) (pt pb : Int64) (ct : Nat → Int32), w + m = N → m < n → v < w → xs_I A N Ex C0 C1 C2 u v w pt pb → wX_seekPeak_43 post J13 J28 c0 c1 c2 s (nI u) (nI v) n (nI w) (nI N) fi bg cb pt pb co wl gc bp lv ct := by
  intro m
  induction m with
  | zero =>
    intro n w cb pt pb ct hw hn hvw hI
    obtain ⟨n, rfl⟩ : ∃ n', n = n' + 1 := ⟨n - 1, by omega⟩
    have e : w = N := by omega
    subst e
    exact br_t (nI_le (by omega) (by omega)) (nm_r (nI_1 v) (hJ _ _ _ _ hI))
  | succ m ih =>
    intro n w cb pt pb ct hw hn hvw hI
    obtain ⟨n, rfl⟩ : ∃ n', n = n' + 1 := ⟨n - 1, by omega⟩
    refine br_f (nI_ge (by omega) (by omega)) ?_
    refine xm_meet hW hN (by omega) hv (by omega) (fun cb' ct' hb ht => ?_)
    obtain ⟨t, b, k1, k2, k3⟩ := hI
    refine xn_note (S := xs_S A N Ex C0 C1 C2 u v w) (S' := xs_S A N Ex C0 C1 C2 u v (w + 1)) hW hN h0 h1 h2 hs hb ht k1 k2 k3 ?_ (fun s d => ?_) (fun pt' pb' t' b' q1 q2 q3 => nm_r (nI_1 w) ?_)
    · rintro s d ⟨u', v', w', _, _, _, _, k⟩
      rw [k.2.2]
      exact cm_bp k.1.1
    · constructor
      · rintro ⟨u', v', w', j1, j2, j3, j4, j5⟩
        by_cases e : u' = u ∧ v' = v ∧ w' = w
        · obtain ⟨rfl, rfl, rfl⟩ := e
          exact Or.inr j5
        · exact Or.inl ⟨u', v', w', by omega, j2, j3, j4, j5⟩
      · rintro (⟨u', v', w', j1, j2, j3, j4, j5⟩ | k)
        · exact ⟨u', v', w', by omega, j2, j3, j4, j5⟩
        · exact ⟨u, v, w, by omega, huv, hvw, by omega, k⟩
    · exact ih n (w + 1) _ _ _ _ (by omega) (by omega) (by omega) ⟨t', b', q1, q2, q3⟩
theorem xs_28 {post : SX → Prop} {J13 : Int32 → Int32 → Int32 → Int32 → Int32 → Int64 → Int64 → (Nat → Int32) → (Nat → Int32) → (Nat → Int32) → (Nat → Int32) → (Nat → Int32) → (Nat → Int32) → Prop} (hW : xa_W co wl A N) (hN : N ≤ 12) (h0 : ir_I c0 C0 99) (h1 : ir_I c1 C1 99) (h2 : ir_I c2 C2 99) (hs : ∀ x, x < N → (nI x = s ↔ Ex x)) {u : Nat}
    (hJ : ∀ cb pt pb ct, xs_I A N Ex C0 C1 C2 u N (N + 1) pt pb → J13 (nI (u + 1)) (nI N) fi bg cb pt pb co wl gc bp lv ct) :
    ∀ (m n v : Nat) (cb : Int32) (pt pb : Int64) (ct : Nat → Int32), v + m = N → m < n → u < v → xs_I A N Ex C0 C1 C2 u v (v + 1) pt pb → wX_seekPeak_28 post J13 c0 c1 c2 s (nI u) n (nI v) (nI N) fi bg cb pt pb co wl gc bp lv ct := by
  intro m
  induction m with
  | zero =>
    intro n v cb pt pb ct hv hn huv hI
    obtain ⟨n, rfl⟩ : ∃ n', n = n' + 1 := ⟨n - 1, by omega⟩
    have e : v = N := by omega
    subst e
    exact br_t (nI_le (by omega) (by omega)) (nm_r (nI_1 u) (hJ _ _ _ _ hI))
  | succ m ih =>
    intro n v cb pt pb ct hv hn huv hI
    obtain ⟨n, rfl⟩ : ∃ n', n = n' + 1 := ⟨n - 1, by omega⟩
    refine br_f (nI_ge (by omega) (by omega)) (nm_r (nI_1 v) ⟨m + 1, ?_⟩)
    refine xs_43 hW hN h0 h1 h2 hs huv (by omega) (fun cb pt pb ct hI' => ?_) m (m + 1) (v + 1) cb pt pb ct (by omega) (by omega) (by omega) hI
    exact ih n (v + 1) _ _ _ _ (by omega) (by omega) (by omega) (xs_re (by intros; omega) hI')
theorem xs_13 {post : SX → Prop} (hW : xa_W co wl A N) (hN : N ≤ 12) (h0 : ir_I c0 C0 99) (h1 : ir_I c1 C1 99) (h2 : ir_I c2 C2 99) (hs : ∀ x, x < N → (nI x = s ↔ Ex x))
    (hp : ∀ cb pt pb ct, xs_I A N Ex C0 C1 C2 N (N + 1) (N + 2) pt pb → post (nI N, fi, bg, cb, pt, pb, co, wl, gc, bp, lv, ct)) :
    ∀ (m n u : Nat) (cb : Int32) (pt pb : Int64) (ct : Nat → Int32), u + m = N → m < n → xs_I A N Ex C0 C1 C2 u (u + 1) (u + 2) pt pb → wX_seekPeak_13 post c0 c1 c2 s n (nI u) (nI N) fi bg cb pt pb co wl gc bp lv ct := by
  intro m
  induction m with
  | zero =>
    intro n u cb pt pb ct hu hn hI
    obtain ⟨n, rfl⟩ : ∃ n', n = n' + 1 := ⟨n - 1, by omega⟩
    have e : u = N := by omega
    subst e
    exact br_t (nI_le (by omega) (by omega)) (hp _ _ _ _ hI)
  | succ m ih =>
    intro n u cb pt pb ct hu hn hI
    obtain ⟨n, rfl⟩ : ∃ n', n = n' + 1 := ⟨n - 1, by omega⟩
    refine br_f (nI_ge (by omega) (by omega)) (nm_r (nI_1 u) ⟨m + 1, ?_⟩)
    refine xs_28 hW hN h0 h1 h2 hs (fun cb pt pb ct hI' => ?_) m (m + 1) (u + 1) cb pt pb ct (by omega) (by omega) (by omega) hI
    exact ih n (u + 1) _ _ _ _ (by omega) (by omega) (xs_re (by intros; omega) hI')
/-- what seekPeak finds: the greatest of all corners' sums -/
theorem xs_seek {post : SX → Prop} (hW : xa_W co wl A N) (hN : N ≤ 12) (h0 : ir_I c0 C0 99) (h1 : ir_I c1 C1 99) (h2 : ir_I c2 C2 99) (hs : ∀ x, x < N → (nI x = s ↔ Ex x))
    (hp : ∀ cb pt pb ct t b, ir_L pt t 1729072818 → ir_L pb b 5821794 → pq_K (cm_C A N Ex C0 C1 C2) t b → post (nI N, fi, bg, cb, pt, pb, co, wl, gc, bp, lv, ct)) :
    wpX_seekPeak post (nI N, fi, bg, cb, pt, pb, co, wl, gc, bp, lv, ct) c0 c1 c2 s := by
  refine ⟨N + 1, ?_⟩
  refine xs_13 hW hN h0 h1 h2 hs (fun cb pt pb ct hI => ?_) N (N + 1) 0 cb 0 0 ct (by omega) (by omega) ?_
  · obtain ⟨t, b, k1, k2, k3⟩ := hI
    refine hp _ _ _ _ t b k1 k2 (pq_iff (fun s d => ?_) k3)
    constructor
    · rintro ⟨u, v, w, hu, hv, hw, k⟩
      obtain ⟨u, v, w, j1, j2, j3, j4, j5, j6⟩ := cm_sort (P := fun x => x < N) (K := cm_K A N Ex C0 C1 C2 s d) cm_K1 cm_K2 cm_Kne hu hv hw k
      exact ⟨u, v, w, Or.inl j3, j1, j2, j5, j6⟩
    · rintro ⟨u, v, w, _, j1, j2, j3, j4⟩
      exact ⟨u, v, w, by omega, by omega, j3, j4⟩
  · refine ⟨0, 0, ir_lup _ ir_l0 (by decide), ir_lup _ ir_l0 (by decide), Or.inl ⟨rfl, rfl, ?_⟩⟩
    rintro s d ⟨u', v', w', j1, j2, j3, j4, j5⟩
    omega
end
