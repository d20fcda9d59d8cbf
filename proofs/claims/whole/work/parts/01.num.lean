theorem pk_us {f : Nat → Int32} {k : Nat} {x : Int32} : upd f k x k = x := if_pos rfl
theorem pk_un {f : Nat → Int32} {k j : Nat} {x : Int32} (h : j ≠ k) : upd f k x j = f j := if_neg h
theorem pk_uLs {f : Nat → Int64} {k : Nat} {x : Int64} : vp_updL f k x k = x := if_pos rfl
theorem pk_uLn {f : Nat → Int64} {k j : Nat} {x : Int64} (h : j ≠ k) : vp_updL f k x j = f j := if_neg h
theorem pk_sub {a b : Nat} (h : b ≤ a) : nI a - nI b = nI (a - b) := by
  obtain ⟨c, rfl⟩ : ∃ c, a = c + b := ⟨a - b, by omega⟩
  rw [← nI_add, Int32.add_sub_cancel, Nat.add_sub_cancel]
theorem pk_m1 (n : Nat) : nI (n + 1) + (-1) = nI n := by
  rw [← nI_1, Int32.add_assoc, show (1 : Int32) + (-1) = 0 from rfl, Int32.add_zero]
theorem pk_mul (a b : Nat) : nI a * nI b = nI (a * b) := (Int32.ofNat_mul a b).symm
theorem pk_div {a d : Nat} (ha : a < 2 ^ 31) (h0 : 0 < d) (hd : d < 2 ^ 31) : nI a / nI d = nI (a / d) := by
  apply Int32.toInt_inj.mp
  rw [lg_idiv_nonneg (by rw [nI_toInt ha]; omega) (by rw [nI_toInt hd]; omega), nI_toInt ha, nI_toInt hd, nI_toInt (Nat.lt_of_le_of_lt (Nat.div_le_self a d) ha)]
  first | rfl | exact (Int.natCast_ediv _ _).symm
theorem pk_rem {a d : Nat} (ha : a < 2 ^ 31) (h0 : 0 < d) (hd : d < 2 ^ 31) : nI a - nI a / nI d * nI d = nI (a % d) := by
  rw [pk_div ha h0 hd, pk_mul, pk_sub (Nat.div_mul_le_self a d)]
  exact congrArg nI (by have := Nat.div_add_mod' a d; omega)
theorem pk_sub_toInt {a b : Nat} (ha : a < 2 ^ 30) (hb : b < 2 ^ 30) : (nI a - nI b).toInt = (a : Int) - b := by
  rw [Int32.toInt_sub, nI_toInt (by omega), nI_toInt (by omega)]
  exact Int.bmod_eq_of_le (by omega) (by omega)
theorem pk_sneg {a b : Nat} (hb : b < 2 ^ 30) (h : a < b) : nI a - nI b < 0 := by
  rw [Int32.lt_iff_toInt_lt, pk_sub_toInt (by omega) hb, show (0 : Int32).toInt = 0 from by decide]
  omega
theorem pk_ix (x : Int32) {n : Nat} (hn : n < 2 ^ 31) : x < 0 ∨ nI n ≤ x ∨ ∃ j : Nat, j < n ∧ x = nI j := by
  by_cases h : x < 0
  · exact Or.inl h
  · obtain ⟨j, hj, rfl⟩ := nI_of h
    by_cases h2 : j < n
    · exact Or.inr (Or.inr ⟨j, h2, rfl⟩)
    · exact Or.inr (Or.inl (nI_le (by omega) hj))
theorem pk_le {x y : Int32} {A B : Prop} (a b : Nat) (f : a ≤ b → A) (g : b < a → B) (hx : x = nI a := by rfl) (hy : y = nI b := by rfl) (ha : a < 2 ^ 31 := by omega) (hb : b < 2 ^ 31 := by omega) : (x ≤ y → A) ∧ (¬ x ≤ y → B) := by
  subst hx hy
  rw [nI_leI ha hb]
  exact ⟨f, fun z => g (by omega)⟩
theorem pk_lt {x y : Int32} {A B : Prop} (a b : Nat) (f : a < b → A) (g : b ≤ a → B) (hx : x = nI a := by rfl) (hy : y = nI b := by rfl) (ha : a < 2 ^ 31 := by omega) (hb : b < 2 ^ 31 := by omega) : (x < y → A) ∧ (¬ x < y → B) := by
  subst hx hy
  rw [nI_ltI ha hb]
  exact ⟨f, fun z => g (by omega)⟩
theorem pk_eq {x y : Int32} {A B : Prop} (a b : Nat) (f : a = b → A) (g : a ≠ b → B) (hx : x = nI a := by rfl) (hy : y = nI b := by rfl) (ha : a < 2 ^ 31 := by omega) (hb : b < 2 ^ 31 := by omega) : (x = y → A) ∧ (¬ x = y → B) := by
  subst hx hy
  rw [nI_eq ha hb]
  exact ⟨f, g⟩
theorem pk_in {x : Int32} (n N : Nat) (h : n < N) (hx : x = nI n := by rfl) (hN : N < 2 ^ 31 := by omega) : vp_in x N := by
  subst hx
  exact vp_in_nI h hN
theorem pk_cl {x : Int32} (n : Nat) (hx : x = nI n := by rfl) (h : n < 2 ^ 31 := by omega) : x.toNatClampNeg = n := by
  subst hx
  exact nI_clamp h
theorem pk_lT {n : Nat} (h : n < 2 ^ 63) : (lN n).toInt = (n : Int) := lg_ofNat_toInt h
theorem pk_lLT {a b : Nat} (ha : a < 2 ^ 63) (hb : b < 2 ^ 63) : lN a < lN b ↔ a < b := by
  rw [Int64.lt_iff_toInt_lt, pk_lT ha, pk_lT hb]; omega
theorem pk_lLE {a b : Nat} (ha : a < 2 ^ 63) (hb : b < 2 ^ 63) : lN a ≤ lN b ↔ a ≤ b := by
  rw [Int64.le_iff_toInt_le, pk_lT ha, pk_lT hb]; omega
theorem pk_lEQ {a b : Nat} (ha : a < 2 ^ 63) (hb : b < 2 ^ 63) : lN a = lN b ↔ a = b := by
  rw [← Int64.toInt_inj, pk_lT ha, pk_lT hb]; omega
theorem pk_lOf {x : Int64} (h : ¬ x < 0) : ∃ k : Nat, k < 2 ^ 63 ∧ x = lN k := by
  rw [Int64.lt_iff_toInt_lt] at h
  have h0 : (0 : Int64).toInt = 0 := by decide
  have hx := Int64.toInt_lt x
  refine ⟨x.toInt.toNat, by omega, Int64.toInt_inj.mp ?_⟩
  rw [pk_lT (by omega)]
  omega
theorem pk_lDiv {a b : Nat} (ha : a < 2 ^ 63) (h0 : 0 < b) (hb : b < 2 ^ 63) : lN a / lN b = lN (a / b) := by
  apply Int64.toInt_inj.mp
  rw [lg_ldiv_nonneg (by rw [pk_lT ha]; omega) (by rw [pk_lT hb]; omega), pk_lT ha, pk_lT hb, pk_lT (Nat.lt_of_le_of_lt (Nat.div_le_self a b) ha)]
  rfl
theorem pk_lRem {a b : Nat} (ha : a < 2 ^ 63) (h0 : 0 < b) (hb : b < 2 ^ 63) : lN a - lN a / lN b * lN b = lN (a % b) := by
  rw [pk_lDiv ha h0 hb, lN_mul, lN_sub (Nat.div_mul_le_self a b)]
  exact congrArg lN (by have := Nat.div_add_mod' a b; omega)
theorem pk_loop {σ : Type} (W : Nat → Nat → σ → Prop) (I : Nat → σ → Prop) (e i0 : Nat) (s : σ) (hi : i0 ≤ e) (h0 : I i0 s) (hx : ∀ n s, I e s → W (n + 1) e s)
    (hs : ∀ n i s, i < e → I i s → (∀ s', I (i + 1) s' → W n (i + 1) s') → W (n + 1) i s) : ∃ n, W n i0 s :=
  ⟨e + 1, loop_i W I e hx hs (e + 1) i0 s hi (by omega) h0⟩
theorem ir_if {c d A B : Prop} (e : c ↔ d) (f : d → A) (g : ¬ d → B) : (c → A) ∧ (¬ c → B) := ⟨fun h => f (e.mp h), fun h => g (fun z => h (e.mpr z))⟩
/-- an int, a long that stands for x, with a bound -/
def ir_I (a : Int32) (x : Int) (B : Nat) : Prop := a.toInt = x ∧ -(B : Int) ≤ x ∧ x ≤ (B : Int)
def ir_L (a : Int64) (x : Int) (B : Nat) : Prop := a.toInt = x ∧ -(B : Int) ≤ x ∧ x ≤ (B : Int)
theorem ir_bm {x y : Int} {A B : Nat} (h1 : -(A : Int) ≤ x) (h2 : x ≤ (A : Int)) (h3 : -(B : Int) ≤ y) (h4 : y ≤ (B : Int)) : -((A * B : Nat) : Int) ≤ x * y ∧ x * y ≤ ((A * B : Nat) : Int) := by
  have h : (x * y).natAbs ≤ A * B := by
    rw [Int.natAbs_mul]
    exact Nat.mul_le_mul (by omega) (by omega)
  generalize x * y = z at h
  generalize A * B = C at h
  omega
theorem ir_imul {a b : Int32} {x y : Int} {A B : Nat} (ha : ir_I a x A) (hb : ir_I b y B) (h : A * B < 2 ^ 31) : ir_I (a * b) (x * y) (A * B) := by
  have k := ir_bm ha.2.1 ha.2.2 hb.2.1 hb.2.2
  refine ⟨?_, k⟩
  rw [Int32.toInt_mul, ha.1, hb.1]
  exact Int.bmod_eq_of_le (by omega) (by omega)
theorem ir_iadd {a b : Int32} {x y : Int} {A B : Nat} (ha : ir_I a x A) (hb : ir_I b y B) (h : A + B < 2 ^ 31) : ir_I (a + b) (x + y) (A + B) := by
  obtain ⟨e1, k1, k2⟩ := ha
  obtain ⟨e2, k3, k4⟩ := hb
  refine ⟨?_, by omega, by omega⟩
  rw [Int32.toInt_add, e1, e2]
  exact Int.bmod_eq_of_le (by omega) (by omega)
theorem ir_isub {a b : Int32} {x y : Int} {A B : Nat} (ha : ir_I a x A) (hb : ir_I b y B) (h : A + B < 2 ^ 31) : ir_I (a - b) (x - y) (A + B) := by
  obtain ⟨e1, k1, k2⟩ := ha
  obtain ⟨e2, k3, k4⟩ := hb
  refine ⟨?_, by omega, by omega⟩
  rw [Int32.toInt_sub, e1, e2]
  exact Int.bmod_eq_of_le (by omega) (by omega)
theorem ir_ineg {a : Int32} {x : Int} {A : Nat} (ha : ir_I a x A) (h : A < 2 ^ 31) : ir_I (-a) (-x) A := by
  obtain ⟨e1, k1, k2⟩ := ha
  refine ⟨?_, by omega, by omega⟩
  rw [Int32.toInt_neg, e1]
  exact Int.bmod_eq_of_le (by omega) (by omega)
theorem ir_lmul {a b : Int64} {x y : Int} {A B : Nat} (ha : ir_L a x A) (hb : ir_L b y B) (h : A * B < 2 ^ 63) : ir_L (a * b) (x * y) (A * B) := by
  have k := ir_bm ha.2.1 ha.2.2 hb.2.1 hb.2.2
  refine ⟨?_, k⟩
  rw [Int64.toInt_mul, ha.1, hb.1]
  exact Int.bmod_eq_of_le (by omega) (by omega)
theorem ir_ladd {a b : Int64} {x y : Int} {A B : Nat} (ha : ir_L a x A) (hb : ir_L b y B) (h : A + B < 2 ^ 63) : ir_L (a + b) (x + y) (A + B) := by
  obtain ⟨e1, k1, k2⟩ := ha
  obtain ⟨e2, k3, k4⟩ := hb
  refine ⟨?_, by omega, by omega⟩
  rw [Int64.toInt_add, e1, e2]
  exact Int.bmod_eq_of_le (by omega) (by omega)
theorem ir_lsub {a b : Int64} {x y : Int} {A B : Nat} (ha : ir_L a x A) (hb : ir_L b y B) (h : A + B < 2 ^ 63) : ir_L (a - b) (x - y) (A + B) := by
  obtain ⟨e1, k1, k2⟩ := ha
  obtain ⟨e2, k3, k4⟩ := hb
  refine ⟨?_, by omega, by omega⟩
  rw [Int64.toInt_sub, e1, e2]
  exact Int.bmod_eq_of_le (by omega) (by omega)
theorem ir_lneg {a : Int64} {x : Int} {A : Nat} (ha : ir_L a x A) (h : A < 2 ^ 63) : ir_L (-a) (-x) A := by
  obtain ⟨e1, k1, k2⟩ := ha
  refine ⟨?_, by omega, by omega⟩
  rw [Int64.toInt_neg, e1]
  exact Int.bmod_eq_of_le (by omega) (by omega)
theorem ir_il {a : Int32} {x : Int} {A : Nat} (ha : ir_I a x A) : ir_L a.toInt64 x A := ⟨(Int32.toInt_toInt64 a).trans ha.1, ha.2⟩
theorem ir_iup {a : Int32} {x : Int} {A : Nat} (B : Nat) (ha : ir_I a x A) (h : A ≤ B) : ir_I a x B := ⟨ha.1, by have := ha.2.1; omega, by have := ha.2.2; omega⟩
theorem ir_lup {a : Int64} {x : Int} {A : Nat} (B : Nat) (ha : ir_L a x A) (h : A ≤ B) : ir_L a x B := ⟨ha.1, by have := ha.2.1; omega, by have := ha.2.2; omega⟩
theorem ir_ile {a b : Int32} {x y : Int} {A B : Nat} (ha : ir_I a x A) (hb : ir_I b y B) : a ≤ b ↔ x ≤ y := by rw [Int32.le_iff_toInt_le, ha.1, hb.1]
theorem ir_ilt {a b : Int32} {x y : Int} {A B : Nat} (ha : ir_I a x A) (hb : ir_I b y B) : a < b ↔ x < y := by rw [Int32.lt_iff_toInt_lt, ha.1, hb.1]
theorem ir_ieq {a b : Int32} {x y : Int} {A B : Nat} (ha : ir_I a x A) (hb : ir_I b y B) : a = b ↔ x = y := by rw [← Int32.toInt_inj, ha.1, hb.1]
theorem ir_lle {a b : Int64} {x y : Int} {A B : Nat} (ha : ir_L a x A) (hb : ir_L b y B) : a ≤ b ↔ x ≤ y := by rw [Int64.le_iff_toInt_le, ha.1, hb.1]
theorem ir_llt {a b : Int64} {x y : Int} {A B : Nat} (ha : ir_L a x A) (hb : ir_L b y B) : a < b ↔ x < y := by rw [Int64.lt_iff_toInt_lt, ha.1, hb.1]
theorem ir_leq {a b : Int64} {x y : Int} {A B : Nat} (ha : ir_L a x A) (hb : ir_L b y B) : a = b ↔ x = y := by rw [← Int64.toInt_inj, ha.1, hb.1]
theorem ir_i0 : ir_I 0 0 0 := ⟨by decide, by decide, by decide⟩
theorem ir_l0 : ir_L 0 0 0 := ⟨by decide, by decide, by decide⟩
theorem ir_i1 : ir_I 1 1 1 := ⟨by decide, by decide, by decide⟩
theorem ir_l1 : ir_L 1 1 1 := ⟨by decide, by decide, by decide⟩
theorem ir_nI {n : Nat} (B : Nat) (h : n ≤ B) (hB : B < 2 ^ 31) : ir_I (nI n) (n : Int) B := ⟨nI_toInt (by omega), by omega, by omega⟩
theorem ir_ofN {n : Nat} {a : Int64} {x : Int} {B : Nat} (h : ir_L a x B) (e : x = (n : Int)) : a = lN n := by
  have h1 := h.1
  have h2 := Int64.toInt_lt a
  rw [← Int64.toInt_inj, pk_lT (by omega)]
  omega
