/-! ===== Euclid, and lowest terms ===== -/
def eu_g : Nat → Nat → Nat → Nat
  | 0, x, _ => x
  | m + 1, x, y => if y = 0 then x else eu_g m y (x % y)
theorem eu_0 (m x : Nat) : eu_g m x 0 = x := by
  cases m with
  | zero => rfl
  | succ m => exact if_pos rfl
theorem eu_s {m x y : Nat} (h : y ≠ 0) : eu_g (m + 1) x y = eu_g m y (x % y) := if_neg h
theorem eu_half {y r : Nat} (h0 : r ≠ 0) (h : r < y) : 2 * (y % r) < y := by
  have h1 := Nat.mod_lt y (Nat.pos_of_ne_zero h0)
  have h2 := Nat.div_add_mod y r
  have h3 : 1 ≤ y / r := Nat.div_pos (by omega) (by omega)
  have h4 : r * 1 ≤ r * (y / r) := Nat.mul_le_mul_left r h3
  omega
theorem eu_gcd : ∀ (k m x y : Nat), y < 2 ^ k → 2 * k ≤ m → eu_g m x y = Nat.gcd x y := by
  intro k
  induction k with
  | zero =>
    intro m x y hy hm
    have : y = 0 := by omega
    subst this
    rw [eu_0, Nat.gcd_zero_right]
  | succ k ih =>
    intro m x y hy hm
    obtain ⟨m, rfl⟩ : ∃ m', m = m' + 2 := ⟨m - 2, by omega⟩
    by_cases h : y = 0
    · subst h; rw [eu_0, Nat.gcd_zero_right]
    · rw [eu_s h]
      have e1 : Nat.gcd x y = Nat.gcd y (x % y) := by rw [Nat.gcd_comm x y, Nat.gcd_rec y x, Nat.gcd_comm]
      by_cases h' : x % y = 0
      · rw [e1, h', eu_0, Nat.gcd_zero_right]
      · rw [eu_s h']
        have e2 : Nat.gcd y (x % y) = Nat.gcd (x % y) (y % (x % y)) := by rw [Nat.gcd_comm y (x % y), Nat.gcd_rec (x % y) y, Nat.gcd_comm]
        have := eu_half h' (Nat.mod_lt x (Nat.pos_of_ne_zero h))
        rw [e1, e2]
        exact ih m _ _ (by rw [Nat.pow_succ] at hy; omega) (by omega)
/-- lowest terms are one -/
theorem eu_low {q d q' d' : Nat} (h : q * d' = q' * d) (c : Nat.gcd q d = 1) (c' : Nat.gcd q' d' = 1) (hd : 0 < d) : d = d' ∧ q = q' := by
  have h1 : d ∣ d' := by
    have : d ∣ q * d' := ⟨q', by rw [h, Nat.mul_comm]⟩
    exact Nat.Coprime.dvd_of_dvd_mul_left (k := d) (by rw [Nat.Coprime, Nat.gcd_comm]; exact c) this
  have h2 : d' ∣ d := by
    have : d' ∣ q' * d := ⟨q, by rw [← h, Nat.mul_comm]⟩
    exact Nat.Coprime.dvd_of_dvd_mul_left (k := d') (by rw [Nat.Coprime, Nat.gcd_comm]; exact c') this
  have e : d = d' := Nat.dvd_antisymm h1 h2
  subst e
  exact ⟨rfl, Nat.eq_of_mul_eq_mul_right hd h⟩
/-- two fractions of one value, each by its own divisor: the same top, the same bottom -/
theorem eu_red {t t' : Int} {b b' g g' : Nat} (h : t * (b' : Int) = t' * (b : Int)) (hb : 0 < b) (hb' : 0 < b') (hg : g = Nat.gcd t.natAbs b) (hg' : g' = Nat.gcd t'.natAbs b') : ∃ (q : Int) (d : Nat), t = (g : Int) * q ∧ b = g * d ∧ t' = (g' : Int) * q ∧ b' = g' * d := by
  have gp : 0 < g := by rw [hg]; exact Nat.gcd_pos_of_pos_right _ hb
  have gp' : 0 < g' := by rw [hg']; exact Nat.gcd_pos_of_pos_right _ hb'
  have d1 : g ∣ t.natAbs := by rw [hg]; exact Nat.gcd_dvd_left _ _
  have d1' : g' ∣ t'.natAbs := by rw [hg']; exact Nat.gcd_dvd_left _ _
  obtain ⟨d, hd⟩ : g ∣ b := by rw [hg]; exact Nat.gcd_dvd_right _ _
  obtain ⟨d', hd'⟩ : g' ∣ b' := by rw [hg']; exact Nat.gcd_dvd_right _ _
  obtain ⟨q, hq⟩ : (g : Int) ∣ t := Int.ofNat_dvd_left.mpr d1
  obtain ⟨q', hq'⟩ : (g' : Int) ∣ t' := Int.ofNat_dvd_left.mpr d1'
  have aq : t.natAbs = g * q.natAbs := by rw [hq, Int.natAbs_mul]; simp
  have aq' : t'.natAbs = g' * q'.natAbs := by rw [hq', Int.natAbs_mul]; simp
  have c : Nat.gcd q.natAbs d = 1 := by
    have e : g * Nat.gcd q.natAbs d = g * 1 := by rw [← Nat.gcd_mul_left, ← aq, ← hd, ← hg, Nat.mul_one]
    exact Nat.eq_of_mul_eq_mul_left gp e
  have c' : Nat.gcd q'.natAbs d' = 1 := by
    have e : g' * Nat.gcd q'.natAbs d' = g' * 1 := by rw [← Nat.gcd_mul_left, ← aq', ← hd', ← hg', Nat.mul_one]
    exact Nat.eq_of_mul_eq_mul_left gp' e
  have dp : 0 < d := Nat.pos_of_ne_zero (fun z => by rw [z, Nat.mul_zero] at hd; omega)
  have key : q * (d' : Int) = q' * (d : Int) := by
    have e : ((g : Int) * (g' : Int)) * (q * (d' : Int)) = ((g : Int) * (g' : Int)) * (q' * (d : Int)) := by
      have h2 := h
      rw [hq, hq', hd, hd', Int.natCast_mul, Int.natCast_mul] at h2
      calc ((g : Int) * (g' : Int)) * (q * (d' : Int)) = (g : Int) * q * ((g' : Int) * (d' : Int)) := by grind
        _ = (g' : Int) * q' * ((g : Int) * (d : Int)) := h2
        _ = _ := by grind
    exact Int.eq_of_mul_eq_mul_left (Int.mul_ne_zero (by omega) (by omega)) e
  have kn : q.natAbs * d' = q'.natAbs * d := by
    have := congrArg Int.natAbs key
    rw [Int.natAbs_mul, Int.natAbs_mul] at this
    exact this
  obtain ⟨ed, _⟩ := eu_low kn c c' dp
  subst ed
  have eq : q = q' := Int.eq_of_mul_eq_mul_right (by omega) key
  subst eq
  exact ⟨q, d, hq, hd, hq', hd'⟩
/-- the division of a long that is a multiple -/
theorem eu_div {a b : Int64} {g : Nat} {q : Int} {B : Nat} (ha : ir_L a ((g : Int) * q) B) (hb : b = lN g) (hg : 0 < g) (hg' : g < 2 ^ 63) (hB : B < 2 ^ 63) : (a / b).toInt = q := by
  rw [Int64.toInt_div, ha.1, hb, pk_lT hg', Int.mul_tdiv_cancel_left _ (by omega)]
  have k1 := ha.2.1
  have k2 := ha.2.2
  have k3 : q.natAbs ≤ B := by
    have e : ((g : Int) * q).natAbs = g * q.natAbs := by rw [Int.natAbs_mul]; rfl
    have : 1 * q.natAbs ≤ g * q.natAbs := Nat.mul_le_mul_right _ hg
    generalize (g : Int) * q = z at *
    omega
  exact Int.bmod_eq_of_le (by omega) (by omega)
/-! ===== the walks of the two divisors ===== -/
theorem eu_X (post : Int64 → Prop) : ∀ (m n st x y : Nat), st + m = 100 → m < n → x < 2 ^ 63 → y < 2 ^ 63 → post (lN (eu_g m x y)) → wX_commonDivisor_20 post n (lN x) (lN y) (nI st) := by
  intro m
  induction m with
  | zero =>
    intro n st x y hs hn hx hy hp
    obtain ⟨n, rfl⟩ : ∃ n', n = n' + 1 := ⟨n - 1, by omega⟩
    exact br_t (nI_le (a := 100) (b := st) (by omega) (by omega)) hp
  | succ m ih =>
    intro n st x y hs hn hx hy hp
    obtain ⟨n, rfl⟩ : ∃ n', n = n' + 1 := ⟨n - 1, by omega⟩
    refine br_f (nI_ge (b := 100) (a := st) (by omega) (by omega)) ?_
    by_cases h : y = 0
    · subst h
      rw [eu_0] at hp
      exact br_t rfl hp
    · have h' : ¬ lN y = 0 := fun z => h ((pk_lEQ hy (b := 0) (by omega)).mp z)
      refine br_f h' ⟨h', nm_r (pk_lRem hx (by omega) hy) (nm_r (nI_1 st) ?_)⟩
      have := Nat.mod_lt x (Nat.pos_of_ne_zero h)
      rw [eu_s h] at hp
      exact ih n (st + 1) y (x % y) (by omega) (by omega) hy (by omega) hp
theorem eu_Y (post : Int64 → Prop) (fn fo : Int32) (to bo : Int64) (ts go pl : Nat → Int32) (cr : Nat → Int64) : ∀ (m n st x y : Nat), st + m = 64 → m < n → x < 2 ^ 63 → y < 2 ^ 63 → post (lN (if eu_g m x y = 0 then 1 else eu_g m x y)) → wY_common_30 post fn fo to bo ts go pl cr n (lN x) (lN y) (nI st) := by
  intro m
  induction m with
  | zero =>
    intro n st x y hs hn hx hy hp
    obtain ⟨n, rfl⟩ : ∃ n', n = n' + 1 := ⟨n - 1, by omega⟩
    refine br_t (nI_le (a := 64) (b := st) (by omega) (by omega)) ?_
    change post (lN (if x = 0 then 1 else x)) at hp
    by_cases h : x = 0
    · subst h
      rw [if_pos rfl] at hp
      exact br_f (by decide) hp
    · rw [if_neg h] at hp
      exact br_t ((pk_lLE (a := 1) (by omega) hx).mpr (by omega)) hp
  | succ m ih =>
    intro n st x y hs hn hx hy hp
    obtain ⟨n, rfl⟩ : ∃ n', n = n' + 1 := ⟨n - 1, by omega⟩
    refine br_f (nI_ge (b := 64) (a := st) (by omega) (by omega)) ?_
    by_cases h : y = 0
    · subst h
      rw [eu_0] at hp
      refine br_t rfl (nm_r (nI_1 st) ?_)
      exact ih n (st + 1) x 0 (by omega) (by omega) hx hy (by rw [eu_0]; exact hp)
    · have h' : ¬ lN y = 0 := fun z => h ((pk_lEQ hy (b := 0) (by omega)).mp z)
      refine br_f h' (br_f h' ⟨h', nm_r (pk_lRem hx (by omega) hy) (nm_r (nI_1 st) ?_)⟩)
      have := Nat.mod_lt x (Nat.pos_of_ne_zero h)
      rw [eu_s h] at hp
      exact ih n (st + 1) y (x % y) (by omega) (by omega) hy (by omega) hp
/-- |a| of a long -/
theorem eu_abs {a : Int64} {x : Int} {B : Nat} (ha : ir_L a x B) (hB : B < 2 ^ 63) : (0 ≤ a → a = lN x.natAbs) ∧ (¬ 0 ≤ a → -a = lN x.natAbs) := by
  constructor
  · intro h
    rw [ir_lle ir_l0 ha] at h
    exact ir_ofN ha (by omega)
  · intro h
    rw [ir_lle ir_l0 ha] at h
    exact ir_ofN (ir_lneg ha hB) (by omega)
theorem eu_wX {post : Int64 → Prop} {a b : Int64} {t : Int} {d B : Nat} (ha : ir_L a t B) (hb : ir_L b (d : Int) B) (hB : B < 2 ^ 50) (hp : post (lN (Nat.gcd t.natAbs d))) : wpX_commonDivisor post a b := by
  have eb : b = lN d := ir_ofN hb rfl
  have hd : d < 2 ^ 50 := by have := hb.2.2; omega
  have ht : t.natAbs < 2 ^ 50 := by have := ha.2.1; have := ha.2.2; omega
  have key : wX_commonDivisor_20 post 101 (lN t.natAbs) (lN d) (nI 0) := eu_X post 100 101 0 t.natAbs d rfl (by omega) (by omega) (by omega) (by rw [eu_gcd 50 100 _ _ hd (by omega)]; exact hp)
  rw [nI_0] at key
  obtain ⟨h1, h2⟩ := eu_abs ha (by omega)
  refine br_c (fun z => ⟨101, ?_⟩) (fun z => nm_r (h2 z) ⟨101, ?_⟩)
  · rw [h1 z, eb]; exact key
  · rw [eb]; exact key
theorem eu_wY {post : Int64 → Prop} {fn fo : Int32} {to bo : Int64} {ts go pl : Nat → Int32} {cr : Nat → Int64} {t : Int} {d B : Nat} (ha : ir_L to t B) (hb : ir_L bo (d : Int) B) (hB : B < 2 ^ 50) (hd : d < 2 ^ 30) (h0 : 0 < d) (hp : post (lN (Nat.gcd t.natAbs d))) : wpY_common post (fn, fo, to, bo, ts, go, pl, cr) := by
  have eb : bo = lN d := ir_ofN hb rfl
  have ht : t.natAbs < 2 ^ 50 := by have := ha.2.1; have := ha.2.2; omega
  have gp : Nat.gcd t.natAbs d ≠ 0 := Nat.ne_of_gt (Nat.gcd_pos_of_pos_right _ h0)
  have key : wY_common_30 post fn fo to bo ts go pl cr 65 (lN t.natAbs) (lN d) (nI 0) := eu_Y post fn fo to bo ts go pl cr 64 65 0 t.natAbs d rfl (by omega) (by omega) (by omega) (by rw [eu_gcd 30 64 _ _ hd (by omega), if_neg gp]; exact hp)
  rw [nI_0, ← eb] at key
  obtain ⟨h1, h2⟩ := eu_abs ha (by omega)
  refine br_c (fun z => ⟨65, ?_⟩) (fun z => nm_r (h2 z) ⟨65, ?_⟩)
  · have e := h1 z
    rw [← e] at key
    exact key
  · exact key
