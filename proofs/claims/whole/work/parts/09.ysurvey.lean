/-! ===== the reference: the whole points ===== -/
/-- the six sides of the table -/
def sd_A (A : Nat → Nat → Int) (ts : Nat → Int32) : Prop := ∀ i, i < 3 → (∀ j, j < 3 → A i j = (if i = j then -1 else 0) ∧ A (3 + i) j = (if i = j then 1 else 0)) ∧ A i 3 = 0 ∧ ir_I (ts i) (A (3 + i) 3) 99
theorem sd_iff {A : Nat → Nat → Int} {ts : Nat → Int32} {n : Nat} (h : sd_A A ts) (x y z : Nat) : (∀ w, w < 6 + n → ¬ False → A w 0 * (x : Int) + A w 1 * (y : Int) + A w 2 * (z : Int) ≤ A w 3 * 1) ↔ ((x : Int) ≤ A 3 3 ∧ (y : Int) ≤ A 4 3 ∧ (z : Int) ≤ A 5 3 ∧ ∀ k, k < n → A (k + 6) 0 * (x : Int) + A (k + 6) 1 * (y : Int) + A (k + 6) 2 * (z : Int) ≤ A (k + 6) 3) := by
  have a00 : A 0 0 = -1 := ((h 0 (by omega)).1 0 (by omega)).1
  have a01 : A 0 1 = 0 := ((h 0 (by omega)).1 1 (by omega)).1
  have a02 : A 0 2 = 0 := ((h 0 (by omega)).1 2 (by omega)).1
  have a10 : A 1 0 = 0 := ((h 1 (by omega)).1 0 (by omega)).1
  have a11 : A 1 1 = -1 := ((h 1 (by omega)).1 1 (by omega)).1
  have a12 : A 1 2 = 0 := ((h 1 (by omega)).1 2 (by omega)).1
  have a20 : A 2 0 = 0 := ((h 2 (by omega)).1 0 (by omega)).1
  have a21 : A 2 1 = 0 := ((h 2 (by omega)).1 1 (by omega)).1
  have a22 : A 2 2 = -1 := ((h 2 (by omega)).1 2 (by omega)).1
  have a30 : A 3 0 = 1 := ((h 0 (by omega)).1 0 (by omega)).2
  have a31 : A 3 1 = 0 := ((h 0 (by omega)).1 1 (by omega)).2
  have a32 : A 3 2 = 0 := ((h 0 (by omega)).1 2 (by omega)).2
  have a40 : A 4 0 = 0 := ((h 1 (by omega)).1 0 (by omega)).2
  have a41 : A 4 1 = 1 := ((h 1 (by omega)).1 1 (by omega)).2
  have a42 : A 4 2 = 0 := ((h 1 (by omega)).1 2 (by omega)).2
  have a50 : A 5 0 = 0 := ((h 2 (by omega)).1 0 (by omega)).2
  have a51 : A 5 1 = 0 := ((h 2 (by omega)).1 1 (by omega)).2
  have a52 : A 5 2 = 1 := ((h 2 (by omega)).1 2 (by omega)).2
  have a03 : A 0 3 = 0 := (h 0 (by omega)).2.1
  have a13 : A 1 3 = 0 := (h 1 (by omega)).2.1
  have a23 : A 2 3 = 0 := (h 2 (by omega)).2.1
  constructor
  · intro al
    have b3 := al 3 (by omega) id
    have b4 := al 4 (by omega) id
    have b5 := al 5 (by omega) id
    rw [a30, a31, a32] at b3
    rw [a40, a41, a42] at b4
    rw [a50, a51, a52] at b5
    refine ⟨by omega, by omega, by omega, fun k hk => ?_⟩
    have := al (k + 6) (by omega) id
    rw [Int.mul_one] at this
    exact this
  · rintro ⟨b3, b4, b5, br⟩ w hw _
    by_cases h6 : w < 6
    · match w, h6 with
      | 0, _ => rw [a00, a01, a02, a03]; omega
      | 1, _ => rw [a10, a11, a12, a13]; omega
      | 2, _ => rw [a20, a21, a22, a23]; omega
      | 3, _ => rw [a30, a31, a32]; omega
      | 4, _ => rw [a40, a41, a42]; omega
      | 5, _ => rw [a50, a51, a52]; omega
    · obtain ⟨k, rfl⟩ : ∃ k, w = k + 6 := ⟨w - 6, by omega⟩
      rw [Int.mul_one]
      exact br k (by omega)
def sv_q : Option Nat → Int32
  | none => -1
  | some q => nI q
theorem sv_blt {F : Nat → Bool} {g : Nat → Int32} : ∀ {p q : Nat}, sv_b F g p = some q → q < p := by
  intro p
  induction p with
  | zero => intro q h; exact nomatch h
  | succ p ih =>
    intro q h
    rw [sv_b] at h
    by_cases f : F p = true
    · rw [if_pos f] at h
      cases e : sv_b F g p with
      | none =>
        rw [e, sv_p] at h
        have := Option.some.inj h
        omega
      | some r =>
        rw [e, sv_p] at h
        have := ih e
        by_cases c : g p ≤ g r
        · rw [if_pos c] at h
          have := Option.some.inj h
          omega
        · rw [if_neg c] at h
          have := Option.some.inj h
          omega
    · rw [if_neg f] at h
      have := ih h
      omega
theorem yp_0 {p : Nat} (h : p < 343) : nI p / 49 = sv_h 0 p := pk_div (d := 49) (by omega) (by omega) (by omega)
theorem yp_1 {p : Nat} (h : p < 343) : nI p / 7 - nI p / 7 / 7 * 7 = sv_h 1 p := by
  have e : nI p / 7 = nI (p / 7) := pk_div (d := 7) (by omega) (by omega) (by omega)
  rw [e]
  exact pk_rem (d := 7) (by omega) (by omega) (by omega)
theorem yp_2 {p : Nat} (h : p < 343) : nI p - nI p / 7 * 7 = sv_h 2 p := pk_rem (d := 7) (by omega) (by omega) (by omega)
theorem sv_x6 {i p : Nat} (h : p < 343) : sv_x i p ≤ 6 := by
  unfold sv_x
  by_cases a : i = 0
  · rw [if_pos a]; omega
  · rw [if_neg a]
    by_cases b : i = 1
    · rw [if_pos b]; omega
    · rw [if_neg b]; omega
section
variable {fn fo : Int32} {to bo : Int64} {ts go pl : Nat → Int32} {cr : Nat → Int64} {A : Nat → Nat → Int} {n : Nat} {F : Nat → Bool}
theorem yf_35 {post : Int32 → Prop} {x y z : Nat} (hn : n ≤ 6) (hR : ∀ k, k < n → ya_R pl A k) (hx : x ≤ 6) (hy : y ≤ 6) (hz : z ≤ 6)
    (hT : (∀ k, k < n → A (k + 6) 0 * (x : Int) + A (k + 6) 1 * (y : Int) + A (k + 6) 2 * (z : Int) ≤ A (k + 6) 3) → post 1) (hF : ¬ (∀ k, k < n → A (k + 6) 0 * (x : Int) + A (k + 6) 1 * (y : Int) + A (k + 6) 2 * (z : Int) ≤ A (k + 6) 3) → post 0) :
    ∀ (m f k : Nat), k + m = n → m < f → (∀ j, j < k → A (j + 6) 0 * (x : Int) + A (j + 6) 1 * (y : Int) + A (j + 6) 2 * (z : Int) ≤ A (j + 6) 3) → wY_isFit_35 post (nI x) (nI y) (nI z) (nI n) fo to bo ts go pl cr f (nI k) := by
  intro m
  induction m with
  | zero =>
    intro f k hk hf hI
    obtain ⟨f, rfl⟩ : ∃ f', f = f' + 1 := ⟨f - 1, by omega⟩
    exact br_t (nI_le (by omega) (by omega)) (hT (fun j hj => hI j (by omega)))
  | succ m ih =>
    intro f k hk hf hI
    obtain ⟨f, rfl⟩ : ∃ f', f = f' + 1 := ⟨f - 1, by omega⟩
    have e0 : 4 * nI k = nI (4 * k + 0) := pk_mul 4 k
    have e1 : 4 * nI k + 1 = nI (4 * k + 1) := yc_i k 1
    have e2 : 4 * nI k + 2 = nI (4 * k + 2) := yc_i k 2
    have e3 : 4 * nI k + 3 = nI (4 * k + 3) := yc_i k 3
    refine br_f (nI_ge (by omega) (by omega)) ?_
    rw [e1, e2, e3, e0, nI_clamp (by omega), nI_clamp (by omega), nI_clamp (by omega), nI_clamp (by omega)]
    refine ⟨vp_in_nI (by omega) (by omega), vp_in_nI (by omega) (by omega), vp_in_nI (by omega) (by omega), vp_in_nI (by omega) (by omega), ?_⟩
    have R := (hR k (by omega)).2
    rw [wg_lo (by omega)] at R
    have hx' := ir_nI (n := x) 6 hx (by omega)
    have hy' := ir_nI (n := y) 6 hy (by omega)
    have hz' := ir_nI (n := z) 6 hz (by omega)
    have hsum := ir_iadd (ir_iadd (ir_imul (R 0 (by omega)) hx' (by decide)) (ir_imul (R 1 (by omega)) hy' (by decide)) (by decide)) (ir_imul (R 2 (by omega)) hz' (by decide)) (by decide)
    refine ir_if (ir_ile hsum (R 3 (by omega))) (fun c => nm_r (nI_1 k) ?_) (fun c => hF (fun al => c (al k (by omega))))
    exact ih f (k + 1) (by omega) (by omega) (fun j hj => if e : j = k then e ▸ c else hI j (by omega))
theorem yf_fit {post : Int32 → Prop} {x y z : Nat} (hn : n ≤ 6) (hd : sd_A A ts) (hR : ∀ k, k < n → ya_R pl A k) (hx : x ≤ 6) (hy : y ≤ 6) (hz : z ≤ 6)
    (hT : (∀ w, w < 6 + n → ¬ False → A w 0 * (x : Int) + A w 1 * (y : Int) + A w 2 * (z : Int) ≤ A w 3 * 1) → post 1) (hF : ¬ (∀ w, w < 6 + n → ¬ False → A w 0 * (x : Int) + A w 1 * (y : Int) + A w 2 * (z : Int) ≤ A w 3 * 1) → post 0) :
    wpY_isFit post (nI n, fo, to, bo, ts, go, pl, cr) (nI x) (nI y) (nI z) := by
  rw [sd_iff hd] at hT hF
  have h0 : ir_I (ts 0) (A 3 3) 99 := (hd 0 (by omega)).2.2
  have h1 : ir_I (ts 1) (A 4 3) 99 := (hd 1 (by omega)).2.2
  have h2 : ir_I (ts 2) (A 5 3) 99 := (hd 2 (by omega)).2.2
  refine ir_if (ir_ilt h0 (ir_nI (n := x) 6 hx (by omega))) (fun c => hF (fun k => by omega)) (fun c0 => ?_)
  refine ir_if (ir_ilt h1 (ir_nI (n := y) 6 hy (by omega))) (fun c => hF (fun k => by omega)) (fun c1 => ?_)
  refine ir_if (ir_ile (ir_nI (n := z) 6 hz (by omega)) h2) (fun c2 => ⟨n + 1, ?_⟩) (fun c => hF (fun k => by omega))
  exact yf_35 hn hR hx hy hz (fun al => hT ⟨by omega, by omega, by omega, al⟩) (fun al => hF (fun k => al k.2.2.2)) n (n + 1) 0 (by omega) (by omega) (fun j hj => absurd hj (by omega))
theorem yf_at {post : Int32 → Prop} {p : Nat} (hn : n ≤ 6) (hd : sd_A A ts) (hR : ∀ k, k < n → ya_R pl A k) (hF : ∀ p, p < 343 → (F p = true ↔ sv_F A (6 + n) p)) (hp : p < 343) (h1 : F p = true → post 1) (h0 : F p = false → post 0) : wpY_isFit post (nI n, fo, to, bo, ts, go, pl, cr) (nI p / 49) (nI p / 7 - nI p / 7 / 7 * 7) (nI p - nI p / 7 * 7) := by
  rw [yp_0 hp, yp_1 hp, yp_2 hp]
  refine yf_fit hn hd hR (sv_x6 hp) (sv_x6 hp) (sv_x6 hp) (fun ok => h1 ((hF p hp).mpr ok)) (fun nok => h0 ?_)
  cases e : F p with
  | false => rfl
  | true => exact absurd ((hF p hp).mp e) nok
theorem yf_gain {post : Int32 → Prop} {p : Nat} (hp : p < 343) (h : post (sv_g go p)) : wpY_gain post (fn, fo, to, bo, ts, go, pl, cr) (nI p) := by
  refine ⟨by decide, by decide, by decide, by decide, ?_⟩
  rw [yp_0 hp, yp_1 hp, yp_2 hp]
  exact h
theorem yf_part {post : Int32 → Prop} {p i : Nat} (hp : p < 343) (hi : i < 3) (h : post (sv_h i p)) : wpY_part post (fn, fo, to, bo, ts, go, pl, cr) (nI p) (nI i) := by
  match i, hi with
  | 0, _ => exact br_t rfl ⟨by decide, by rw [yp_0 hp]; exact h⟩
  | 1, _ => exact br_f (by decide) (br_t rfl ⟨by decide, by decide, by rw [yp_1 hp]; exact h⟩)
  | 2, _ => exact br_f (by decide) (br_f (by decide) ⟨by decide, by rw [yp_2 hp]; exact h⟩)
theorem yf_fits {post : Int32 → Prop} (hn : n ≤ 6) (hd : sd_A A ts) (hR : ∀ k, k < n → ya_R pl A k) (hF : ∀ p, p < 343 → (F p = true ↔ sv_F A (6 + n) p)) (hP : post (nI (sv_c F 343))) :
    ∀ (m f p : Nat), p + m = 343 → m < f → wY_fits_4 post (nI n) fo to bo ts go pl cr f (nI (sv_c F p)) (nI p) := by
  intro m
  induction m with
  | zero =>
    intro f p hp hf
    obtain ⟨f, rfl⟩ : ∃ f', f = f' + 1 := ⟨f - 1, by omega⟩
    have e : p = 343 := by omega
    subst e
    exact br_t (nI_le (a := 343) (b := 343) (by omega) (by omega)) hP
  | succ m ih =>
    intro f p hp hf
    obtain ⟨f, rfl⟩ : ∃ f', f = f' + 1 := ⟨f - 1, by omega⟩
    have st := ih f (p + 1) (by omega) (by omega)
    refine br_f (nI_ge (b := 343) (a := p) (by omega) (by omega)) ⟨by decide, by decide, by decide, by decide, ?_⟩
    refine yf_at hn hd hR hF (by omega) (fun h => br_f (by decide) (nm_r (nI_1 _) (nm_r (nI_1 p) ?_))) (fun h => br_t rfl (nm_r (nI_1 p) ?_))
    · rw [sv_c, if_pos h] at st; exact st
    · rw [sv_c, if_neg (by rw [h]; decide)] at st; exact st
theorem yf_best {post : Int32 → Prop} (hn : n ≤ 6) (hd : sd_A A ts) (hR : ∀ k, k < n → ya_R pl A k) (hF : ∀ p, p < 343 → (F p = true ↔ sv_F A (6 + n) p)) (hP : post (sv_q (sv_b F (sv_g go) 343))) :
    ∀ (m f p : Nat), p + m = 343 → m < f → wY_bestPoint_4 post (nI n) fo to bo ts go pl cr f (sv_q (sv_b F (sv_g go) p)) (nI p) := by
  intro m
  induction m with
  | zero =>
    intro f p hp hf
    obtain ⟨f, rfl⟩ : ∃ f', f = f' + 1 := ⟨f - 1, by omega⟩
    have e : p = 343 := by omega
    subst e
    exact br_t (nI_le (a := 343) (b := 343) (by omega) (by omega)) hP
  | succ m ih =>
    intro f p hp hf
    obtain ⟨f, rfl⟩ : ∃ f', f = f' + 1 := ⟨f - 1, by omega⟩
    have st := ih f (p + 1) (by omega) (by omega)
    refine br_f (nI_ge (b := 343) (a := p) (by omega) (by omega)) ⟨by decide, by decide, by decide, by decide, ?_⟩
    refine yf_at hn hd hR hF (by omega) (fun h => br_f (by decide) ?_) (fun h => br_t rfl (nm_r (nI_1 p) ?_))
    · refine yf_gain (by omega) ?_
      rw [sv_b, if_pos h] at st
      cases e : sv_b F (sv_g go) p with
      | none =>
        rw [e] at st
        exact br_t (by decide) (nm_r (nI_1 p) st)
      | some q =>
        rw [e, sv_p] at st
        have := sv_blt e
        refine br_f (nI_pos (by omega)) (yf_gain (by omega) (br_c (fun c => nm_r (nI_1 p) ?_) (fun c => nm_r (nI_1 p) ?_)))
        · rw [if_pos c] at st; exact st
        · rw [if_neg c] at st; exact st
    · rw [sv_b, if_neg (by rw [h]; decide)] at st; exact st
theorem yf_bestPoint {post : Int32 → Prop} (hn : n ≤ 6) (hd : sd_A A ts) (hR : ∀ k, k < n → ya_R pl A k) (hF : ∀ p, p < 343 → (F p = true ↔ sv_F A (6 + n) p)) (hP : post (sv_q (sv_b F (sv_g go) 343))) : wpY_bestPoint post (nI n, fo, to, bo, ts, go, pl, cr) :=
  ⟨344, yf_best hn hd hR hF hP 343 344 0 (by omega) (by omega)⟩
theorem yf_largest {post : Int32 → Prop} {i : Nat} (hi : i < 3) (hn : n ≤ 6) (hd : sd_A A ts) (hR : ∀ k, k < n → ya_R pl A k) (hF : ∀ p, p < 343 → (F p = true ↔ sv_F A (6 + n) p)) (hP : post (sv_l F (sv_h i) 343)) :
    ∀ (m f p : Nat), p + m = 343 → m < f → wY_largest_18 post (nI i) (nI n) fo to bo ts go pl cr f (sv_l F (sv_h i) p) (nI p) := by
  intro m
  induction m with
  | zero =>
    intro f p hp hf
    obtain ⟨f, rfl⟩ : ∃ f', f = f' + 1 := ⟨f - 1, by omega⟩
    have e : p = 343 := by omega
    subst e
    exact br_t (nI_le (a := 343) (b := 343) (by omega) (by omega)) hP
  | succ m ih =>
    intro f p hp hf
    obtain ⟨f, rfl⟩ : ∃ f', f = f' + 1 := ⟨f - 1, by omega⟩
    have st := ih f (p + 1) (by omega) (by omega)
    rw [sv_l] at st
    refine br_f (nI_ge (b := 343) (a := p) (by omega) (by omega)) ?_
    refine yf_part (by omega) hi (br_c (fun c => nm_r (nI_1 p) ?_) (fun c => ⟨by decide, by decide, by decide, by decide, ?_⟩))
    · rw [if_pos c] at st
      by_cases h : F p = true
      · rw [if_pos h] at st; exact st
      · rw [if_neg h] at st; exact st
    · rw [if_neg c] at st
      refine yf_at hn hd hR hF (by omega) (fun h => br_f (by decide) (nm_r (nI_1 p) ?_)) (fun h => br_t rfl (nm_r (nI_1 p) ?_))
      · rw [if_pos h] at st; exact st
      · rw [if_neg (by rw [h]; decide)] at st; exact st
end
