section
theorem pk_us {f : Nat → Int32} {k : Nat} {x : Int32} : upd f k x k = x := if_pos rfl
theorem pk_un {f : Nat → Int32} {k j : Nat} {x : Int32} (h : j ≠ k) : upd f k x j = f j := if_neg h
theorem pk_uLs {f : Nat → Int64} {k : Nat} {x : Int64} : vp_updL f k x k = x := if_pos rfl
theorem pk_uLn {f : Nat → Int64} {k j : Nat} {x : Int64} (h : j ≠ k) : vp_updL f k x j = f j := if_neg h
theorem pk_sub {a b : Nat} (h : b ≤ a) : nI a - nI b = nI (a - b) := by
  obtain ⟨c, rfl⟩ : ∃ c, a = c + b := ⟨a - b, by omega⟩
  rw [← nI_add, Int32.add_sub_cancel, Nat.add_sub_cancel]
theorem pk_m1 (n : Nat) : nI (n + 1) + (-1) = nI n := by
  rw [← nI_1, Int32.add_assoc, show (1 : Int32) + (-1) = 0 from rfl, Int32.add_zero]
theorem pk_mul (a b : Nat) : nI a * nI b = nI (a * b) := (Int32.ofNat_mul a b).symm
theorem pk_div {a d : Nat} (ha : a < 2 ^ 31) (h0 : 0 < d) (hd : d < 2 ^ 31) : nI a / nI d = nI (a / d) := by
  apply Int32.toInt_inj.mp
  rw [lg_idiv_nonneg (by rw [nI_toInt ha]; omega) (by rw [nI_toInt hd]; omega), nI_toInt ha, nI_toInt hd, nI_toInt (Nat.lt_of_le_of_lt (Nat.div_le_self a d) ha)]
  first | rfl | exact (Int.natCast_ediv _ _).symm
theorem pk_rem {a d : Nat} (ha : a < 2 ^ 31) (h0 : 0 < d) (hd : d < 2 ^ 31) : nI a - nI a / nI d * nI d = nI (a % d) := by
  rw [pk_div ha h0 hd, pk_mul, pk_sub (Nat.div_mul_le_self a d)]
  exact congrArg nI (by have := Nat.div_add_mod' a d; omega)
theorem pk_sub_toInt {a b : Nat} (ha : a < 2 ^ 30) (hb : b < 2 ^ 30) : (nI a - nI b).toInt = (a : Int) - b := by
  rw [Int32.toInt_sub, nI_toInt (by omega), nI_toInt (by omega)]
  exact Int.bmod_eq_of_le (by omega) (by omega)
theorem pk_sneg {a b : Nat} (hb : b < 2 ^ 30) (h : a < b) : nI a - nI b < 0 := by
  rw [Int32.lt_iff_toInt_lt, pk_sub_toInt (by omega) hb, show (0 : Int32).toInt = 0 from by decide]
  omega
theorem pk_ix (x : Int32) {n : Nat} (hn : n < 2 ^ 31) : x < 0 ∨ nI n ≤ x ∨ ∃ j : Nat, j < n ∧ x = nI j := by
  by_cases h : x < 0
  · exact Or.inl h
  · obtain ⟨j, hj, rfl⟩ := nI_of h
    by_cases h2 : j < n
    · exact Or.inr (Or.inr ⟨j, h2, rfl⟩)
    · exact Or.inr (Or.inl (nI_le (by omega) hj))
theorem pk_le {x y : Int32} {A B : Prop} (a b : Nat) (f : a ≤ b → A) (g : b < a → B) (hx : x = nI a := by rfl) (hy : y = nI b := by rfl) (ha : a < 2 ^ 31 := by omega) (hb : b < 2 ^ 31 := by omega) : (x ≤ y → A) ∧ (¬ x ≤ y → B) := by
  subst hx hy
  rw [nI_leI ha hb]
  exact ⟨f, fun z => g (by omega)⟩
theorem pk_lt {x y : Int32} {A B : Prop} (a b : Nat) (f : a < b → A) (g : b ≤ a → B) (hx : x = nI a := by rfl) (hy : y = nI b := by rfl) (ha : a < 2 ^ 31 := by omega) (hb : b < 2 ^ 31 := by omega) : (x < y → A) ∧ (¬ x < y → B) := by
  subst hx hy
  rw [nI_ltI ha hb]
  exact ⟨f, fun z => g (by omega)⟩
theorem pk_eq {x y : Int32} {A B : Prop} (a b : Nat) (f : a = b → A) (g : a ≠ b → B) (hx : x = nI a := by rfl) (hy : y = nI b := by rfl) (ha : a < 2 ^ 31 := by omega) (hb : b < 2 ^ 31 := by omega) : (x = y → A) ∧ (¬ x = y → B) := by
  subst hx hy
  rw [nI_eq ha hb]
  exact ⟨f, g⟩
theorem pk_in {x : Int32} (n N : Nat) (h : n < N) (hx : x = nI n := by rfl) (hN : N < 2 ^ 31 := by omega) : vp_in x N := by
  subst hx
  exact vp_in_nI h hN
theorem pk_cl {x : Int32} (n : Nat) (hx : x = nI n := by rfl) (h : n < 2 ^ 31 := by omega) : x.toNatClampNeg = n := by
  subst hx
  exact nI_clamp h
theorem pk_lT {n : Nat} (h : n < 2 ^ 63) : (lN n).toInt = (n : Int) := lg_ofNat_toInt h
theorem pk_lLT {a b : Nat} (ha : a < 2 ^ 63) (hb : b < 2 ^ 63) : lN a < lN b ↔ a < b := by
  rw [Int64.lt_iff_toInt_lt, pk_lT ha, pk_lT hb]; omega
theorem pk_lLE {a b : Nat} (ha : a < 2 ^ 63) (hb : b < 2 ^ 63) : lN a ≤ lN b ↔ a ≤ b := by
  rw [Int64.le_iff_toInt_le, pk_lT ha, pk_lT hb]; omega
theorem pk_lEQ {a b : Nat} (ha : a < 2 ^ 63) (hb : b < 2 ^ 63) : lN a = lN b ↔ a = b := by
  rw [← Int64.toInt_inj, pk_lT ha, pk_lT hb]; omega
theorem pk_lOf {x : Int64} (h : ¬ x < 0) : ∃ k : Nat, k < 2 ^ 63 ∧ x = lN k := by
  rw [Int64.lt_iff_toInt_lt] at h
  have h0 : (0 : Int64).toInt = 0 := by decide
  have hx := Int64.toInt_lt x
  refine ⟨x.toInt.toNat, by omega, Int64.toInt_inj.mp ?_⟩
  rw [pk_lT (by omega)]
  omega
theorem pk_lDiv {a b : Nat} (ha : a < 2 ^ 63) (h0 : 0 < b) (hb : b < 2 ^ 63) : lN a / lN b = lN (a / b) := by
  apply Int64.toInt_inj.mp
  rw [lg_ldiv_nonneg (by rw [pk_lT ha]; omega) (by rw [pk_lT hb]; omega), pk_lT ha, pk_lT hb, pk_lT (Nat.lt_of_le_of_lt (Nat.div_le_self a b) ha)]
  rfl
theorem pk_lRem {a b : Nat} (ha : a < 2 ^ 63) (h0 : 0 < b) (hb : b < 2 ^ 63) : lN a - lN a / lN b * lN b = lN (a % b) := by
  rw [pk_lDiv ha h0 hb, lN_mul, lN_sub (Nat.div_mul_le_self a b)]
  exact congrArg lN (by have := Nat.div_add_mod' a b; omega)
theorem pk_loop {σ : Type} (W : Nat → Nat → σ → Prop) (I : Nat → σ → Prop) (e i0 : Nat) (s : σ) (hi : i0 ≤ e) (h0 : I i0 s) (hx : ∀ n s, I e s → W (n + 1) e s)
    (hs : ∀ n i s, i < e → I i s → (∀ s', I (i + 1) s' → W n (i + 1) s') → W (n + 1) i s) : ∃ n, W n i0 s :=
  ⟨e + 1, loop_i W I e hx hs (e + 1) i0 s hi (by omega) h0⟩
theorem ir_if {c d A B : Prop} (e : c ↔ d) (f : d → A) (g : ¬ d → B) : (c → A) ∧ (¬ c → B) := ⟨fun h => f (e.mp h), fun h => g (fun z => h (e.mpr z))⟩
/-- an int, a long that stands for x, with a bound -/
def ir_I (a : Int32) (x : Int) (B : Nat) : Prop := a.toInt = x ∧ -(B : Int) ≤ x ∧ x ≤ (B : Int)
def ir_L (a : Int64) (x : Int) (B : Nat) : Prop := a.toInt = x ∧ -(B : Int) ≤ x ∧ x ≤ (B : Int)
theorem ir_bm {x y : Int} {A B : Nat} (h1 : -(A : Int) ≤ x) (h2 : x ≤ (A : Int)) (h3 : -(B : Int) ≤ y) (h4 : y ≤ (B : Int)) : -((A * B : Nat) : Int) ≤ x * y ∧ x * y ≤ ((A * B : Nat) : Int) := by
  have h : (x * y).natAbs ≤ A * B := by
    rw [Int.natAbs_mul]
    exact Nat.mul_le_mul (by omega) (by omega)
  generalize x * y = z at h
  generalize A * B = C at h
  omega
theorem ir_imul {a b : Int32} {x y : Int} {A B : Nat} (ha : ir_I a x A) (hb : ir_I b y B) (h : A * B < 2 ^ 31) : ir_I (a * b) (x * y) (A * B) := by
  have k := ir_bm ha.2.1 ha.2.2 hb.2.1 hb.2.2
  refine ⟨?_, k⟩
  rw [Int32.toInt_mul, ha.1, hb.1]
  exact Int.bmod_eq_of_le (by omega) (by omega)
theorem ir_iadd {a b : Int32} {x y : Int} {A B : Nat} (ha : ir_I a x A) (hb : ir_I b y B) (h : A + B < 2 ^ 31) : ir_I (a + b) (x + y) (A + B) := by
  obtain ⟨e1, k1, k2⟩ := ha
  obtain ⟨e2, k3, k4⟩ := hb
  refine ⟨?_, by omega, by omega⟩
  rw [Int32.toInt_add, e1, e2]
  exact Int.bmod_eq_of_le (by omega) (by omega)
theorem ir_isub {a b : Int32} {x y : Int} {A B : Nat} (ha : ir_I a x A) (hb : ir_I b y B) (h : A + B < 2 ^ 31) : ir_I (a - b) (x - y) (A + B) := by
  obtain ⟨e1, k1, k2⟩ := ha
  obtain ⟨e2, k3, k4⟩ := hb
  refine ⟨?_, by omega, by omega⟩
  rw [Int32.toInt_sub, e1, e2]
  exact Int.bmod_eq_of_le (by omega) (by omega)
theorem ir_ineg {a : Int32} {x : Int} {A : Nat} (ha : ir_I a x A) (h : A < 2 ^ 31) : ir_I (-a) (-x) A := by
  obtain ⟨e1, k1, k2⟩ := ha
  refine ⟨?_, by omega, by omega⟩
  rw [Int32.toInt_neg, e1]
  exact Int.bmod_eq_of_le (by omega) (by omega)
theorem ir_lmul {a b : Int64} {x y : Int} {A B : Nat} (ha : ir_L a x A) (hb : ir_L b y B) (h : A * B < 2 ^ 63) : ir_L (a * b) (x * y) (A * B) := by
  have k := ir_bm ha.2.1 ha.2.2 hb.2.1 hb.2.2
  refine ⟨?_, k⟩
  rw [Int64.toInt_mul, ha.1, hb.1]
  exact Int.bmod_eq_of_le (by omega) (by omega)
theorem ir_ladd {a b : Int64} {x y : Int} {A B : Nat} (ha : ir_L a x A) (hb : ir_L b y B) (h : A + B < 2 ^ 63) : ir_L (a + b) (x + y) (A + B) := by
  obtain ⟨e1, k1, k2⟩ := ha
  obtain ⟨e2, k3, k4⟩ := hb
  refine ⟨?_, by omega, by omega⟩
  rw [Int64.toInt_add, e1, e2]
  exact Int.bmod_eq_of_le (by omega) (by omega)
theorem ir_lsub {a b : Int64} {x y : Int} {A B : Nat} (ha : ir_L a x A) (hb : ir_L b y B) (h : A + B < 2 ^ 63) : ir_L (a - b) (x - y) (A + B) := by
  obtain ⟨e1, k1, k2⟩ := ha
  obtain ⟨e2, k3, k4⟩ := hb
  refine ⟨?_, by omega, by omega⟩
  rw [Int64.toInt_sub, e1, e2]
  exact Int.bmod_eq_of_le (by omega) (by omega)
theorem ir_lneg {a : Int64} {x : Int} {A : Nat} (ha : ir_L a x A) (h : A < 2 ^ 63) : ir_L (-a) (-x) A := by
  obtain ⟨e1, k1, k2⟩ := ha
  refine ⟨?_, by omega, by omega⟩
  rw [Int64.toInt_neg, e1]
  exact Int.bmod_eq_of_le (by omega) (by omega)
theorem ir_il {a : Int32} {x : Int} {A : Nat} (ha : ir_I a x A) : ir_L a.toInt64 x A := ⟨(Int32.toInt_toInt64 a).trans ha.1, ha.2⟩
theorem ir_iup {a : Int32} {x : Int} {A : Nat} (B : Nat) (ha : ir_I a x A) (h : A ≤ B) : ir_I a x B := ⟨ha.1, by have := ha.2.1; omega, by have := ha.2.2; omega⟩
theorem ir_lup {a : Int64} {x : Int} {A : Nat} (B : Nat) (ha : ir_L a x A) (h : A ≤ B) : ir_L a x B := ⟨ha.1, by have := ha.2.1; omega, by have := ha.2.2; omega⟩
theorem ir_ile {a b : Int32} {x y : Int} {A B : Nat} (ha : ir_I a x A) (hb : ir_I b y B) : a ≤ b ↔ x ≤ y := by rw [Int32.le_iff_toInt_le, ha.1, hb.1]
theorem ir_ilt {a b : Int32} {x y : Int} {A B : Nat} (ha : ir_I a x A) (hb : ir_I b y B) : a < b ↔ x < y := by rw [Int32.lt_iff_toInt_lt, ha.1, hb.1]
theorem ir_ieq {a b : Int32} {x y : Int} {A B : Nat} (ha : ir_I a x A) (hb : ir_I b y B) : a = b ↔ x = y := by rw [← Int32.toInt_inj, ha.1, hb.1]
theorem ir_lle {a b : Int64} {x y : Int} {A B : Nat} (ha : ir_L a x A) (hb : ir_L b y B) : a ≤ b ↔ x ≤ y := by rw [Int64.le_iff_toInt_le, ha.1, hb.1]
theorem ir_llt {a b : Int64} {x y : Int} {A B : Nat} (ha : ir_L a x A) (hb : ir_L b y B) : a < b ↔ x < y := by rw [Int64.lt_iff_toInt_lt, ha.1, hb.1]
theorem ir_leq {a b : Int64} {x y : Int} {A B : Nat} (ha : ir_L a x A) (hb : ir_L b y B) : a = b ↔ x = y := by rw [← Int64.toInt_inj, ha.1, hb.1]
theorem ir_i0 : ir_I 0 0 0 := ⟨by decide, by decide, by decide⟩
theorem ir_l0 : ir_L 0 0 0 := ⟨by decide, by decide, by decide⟩
theorem ir_i1 : ir_I 1 1 1 := ⟨by decide, by decide, by decide⟩
theorem ir_l1 : ir_L 1 1 1 := ⟨by decide, by decide, by decide⟩
theorem ir_nI {n : Nat} (B : Nat) (h : n ≤ B) (hB : B < 2 ^ 31) : ir_I (nI n) (n : Int) B := ⟨nI_toInt (by omega), by omega, by omega⟩
theorem ir_ofN {n : Nat} {a : Int64} {x : Int} {B : Nat} (h : ir_L a x B) (e : x = (n : Int)) : a = lN n := by
  have h1 := h.1
  have h2 := Int64.toInt_lt a
  rw [← Int64.toInt_inj, pk_lT (by omega)]
  omega
end
section
/-! ===== corners of three walls, over whole numbers ===== -/
def cm_x (A : Nat → Nat → Int) (v w i j : Nat) : Int := A v i * A w j - A v j * A w i
def cm_d (A : Nat → Nat → Int) (u v w : Nat) : Int := A u 0 * cm_x A v w 1 2 + A u 1 * cm_x A v w 2 0 + A u 2 * cm_x A v w 0 1
def cm_t (A : Nat → Nat → Int) (u v w i : Nat) : Int := A u 3 * cm_x A v w ((i + 1) % 3) ((i + 2) % 3) + A v 3 * cm_x A w u ((i + 1) % 3) ((i + 2) % 3) + A w 3 * cm_x A u v ((i + 1) % 3) ((i + 2) % 3)
def cm_s (A : Nat → Nat → Int) (u v w : Nat) : Int := if cm_d A u v w < 0 then -1 else 1
def cm_b (A : Nat → Nat → Int) (u v w : Nat) : Int := cm_s A u v w * cm_d A u v w
def cm_n (A : Nat → Nat → Int) (u v w i : Nat) : Int := cm_s A u v w * cm_t A u v w i
theorem cm_d1 (A : Nat → Nat → Int) (u v w : Nat) : cm_d A v u w = - cm_d A u v w := by
  unfold cm_d cm_x
  grind
theorem cm_d2 (A : Nat → Nat → Int) (u v w : Nat) : cm_d A u w v = - cm_d A u v w := by
  unfold cm_d cm_x
  grind
theorem cm_t1 (A : Nat → Nat → Int) (u v w i : Nat) : cm_t A v u w i = - cm_t A u v w i := by
  unfold cm_t cm_x
  generalize (i + 1) % 3 = j
  generalize (i + 2) % 3 = k
  grind
theorem cm_t2 (A : Nat → Nat → Int) (u v w i : Nat) : cm_t A u w v i = - cm_t A u v w i := by
  unfold cm_t cm_x
  generalize (i + 1) % 3 = j
  generalize (i + 2) % 3 = k
  grind
theorem cm_ne {A : Nat → Nat → Int} {u v w : Nat} (h : cm_d A u v w ≠ 0) : u ≠ v ∧ v ≠ w ∧ u ≠ w := by
  refine ⟨fun e => h ?_, fun e => h ?_, fun e => h ?_⟩
  · subst e
    have := cm_d1 A u u w
    omega
  · subst e
    have := cm_d2 A u v v
    omega
  · subst e
    have h1 := cm_d1 A u v u
    have h2 := cm_d2 A v u u
    omega
theorem cm_s1 {A : Nat → Nat → Int} {u v w : Nat} (h : cm_d A u v w ≠ 0) : cm_s A v u w = - cm_s A u v w := by
  unfold cm_s
  rw [cm_d1]
  by_cases z : cm_d A u v w < 0
  · rw [if_pos z, if_neg (by omega)]
    omega
  · rw [if_neg z, if_pos (by omega)]
theorem cm_s2 {A : Nat → Nat → Int} {u v w : Nat} (h : cm_d A u v w ≠ 0) : cm_s A u w v = - cm_s A u v w := by
  unfold cm_s
  rw [cm_d2]
  by_cases z : cm_d A u v w < 0
  · rw [if_pos z, if_neg (by omega)]
    omega
  · rw [if_neg z, if_pos (by omega)]
theorem cm_b1 {A : Nat → Nat → Int} {u v w : Nat} (h : cm_d A u v w ≠ 0) : cm_b A v u w = cm_b A u v w := by
  unfold cm_b
  rw [cm_s1 h, cm_d1, Int.neg_mul_neg]
theorem cm_b2 {A : Nat → Nat → Int} {u v w : Nat} (h : cm_d A u v w ≠ 0) : cm_b A u w v = cm_b A u v w := by
  unfold cm_b
  rw [cm_s2 h, cm_d2, Int.neg_mul_neg]
theorem cm_n1 {A : Nat → Nat → Int} {u v w : Nat} (h : cm_d A u v w ≠ 0) (i : Nat) : cm_n A v u w i = cm_n A u v w i := by
  unfold cm_n
  rw [cm_s1 h, cm_t1, Int.neg_mul_neg]
theorem cm_n2 {A : Nat → Nat → Int} {u v w : Nat} (h : cm_d A u v w ≠ 0) (i : Nat) : cm_n A u w v i = cm_n A u v w i := by
  unfold cm_n
  rw [cm_s2 h, cm_t2, Int.neg_mul_neg]
theorem cm_bp {A : Nat → Nat → Int} {u v w : Nat} (h : cm_d A u v w ≠ 0) : 0 < cm_b A u v w := by
  unfold cm_b cm_s
  by_cases z : cm_d A u v w < 0
  · rw [if_pos z]; omega
  · rw [if_neg z]; omega
/-- the walls u, v, w meet in one point, and it keeps every wall that isn't left out -/
def cm_G (A : Nat → Nat → Int) (N : Nat) (Ex : Nat → Prop) (u v w : Nat) : Prop := cm_d A u v w ≠ 0 ∧ ∀ x, x < N → ¬ Ex x → A x 0 * cm_n A u v w 0 + A x 1 * cm_n A u v w 1 + A x 2 * cm_n A u v w 2 ≤ A x 3 * cm_b A u v w
def cm_K (A : Nat → Nat → Int) (N : Nat) (Ex : Nat → Prop) (c0 c1 c2 : Int) (s d : Int) (u v w : Nat) : Prop := cm_G A N Ex u v w ∧ s = c0 * cm_n A u v w 0 + c1 * cm_n A u v w 1 + c2 * cm_n A u v w 2 ∧ d = cm_b A u v w
theorem cm_K1 {A : Nat → Nat → Int} {N : Nat} {Ex : Nat → Prop} {c0 c1 c2 s d : Int} (u v w : Nat) (h : cm_K A N Ex c0 c1 c2 s d u v w) : cm_K A N Ex c0 c1 c2 s d v u w := by
  obtain ⟨⟨h1, h2⟩, h3, h4⟩ := h
  refine ⟨⟨by rw [cm_d1]; omega, ?_⟩, ?_, ?_⟩
  · rw [cm_n1 h1, cm_n1 h1, cm_n1 h1, cm_b1 h1]; exact h2
  · rw [cm_n1 h1, cm_n1 h1, cm_n1 h1]; exact h3
  · rw [cm_b1 h1]; exact h4
theorem cm_K2 {A : Nat → Nat → Int} {N : Nat} {Ex : Nat → Prop} {c0 c1 c2 s d : Int} (u v w : Nat) (h : cm_K A N Ex c0 c1 c2 s d u v w) : cm_K A N Ex c0 c1 c2 s d u w v := by
  obtain ⟨⟨h1, h2⟩, h3, h4⟩ := h
  refine ⟨⟨by rw [cm_d2]; omega, ?_⟩, ?_, ?_⟩
  · rw [cm_n2 h1, cm_n2 h1, cm_n2 h1, cm_b2 h1]; exact h2
  · rw [cm_n2 h1, cm_n2 h1, cm_n2 h1]; exact h3
  · rw [cm_b2 h1]; exact h4
theorem cm_Kne {A : Nat → Nat → Int} {N : Nat} {Ex : Nat → Prop} {c0 c1 c2 s d : Int} (u v w : Nat) (h : cm_K A N Ex c0 c1 c2 s d u v w) : u ≠ v ∧ v ≠ w ∧ u ≠ w := cm_ne h.1.1
/-- three that differ can be put in order -/
theorem cm_sort {P : Nat → Prop} {K : Nat → Nat → Nat → Prop} (h1 : ∀ u v w, K u v w → K v u w) (h2 : ∀ u v w, K u v w → K u w v) (hd : ∀ u v w, K u v w → u ≠ v ∧ v ≠ w ∧ u ≠ w) {u v w : Nat} (hu : P u) (hv : P v) (hw : P w) (h : K u v w) : ∃ u v w, u < v ∧ v < w ∧ P u ∧ P v ∧ P w ∧ K u v w := by
  obtain ⟨n1, n2, n3⟩ := hd u v w h
  by_cases a : u < v
  · by_cases b : v < w
    · exact ⟨u, v, w, a, b, hu, hv, hw, h⟩
    · by_cases c : u < w
      · exact ⟨u, w, v, c, by omega, hu, hw, hv, h2 _ _ _ h⟩
      · exact ⟨w, u, v, by omega, a, hw, hu, hv, h1 _ _ _ (h2 _ _ _ h)⟩
  · by_cases b : u < w
    · exact ⟨v, u, w, by omega, b, hv, hu, hw, h1 _ _ _ h⟩
    · by_cases c : v < w
      · exact ⟨v, w, u, c, by omega, hv, hw, hu, h2 _ _ _ (h1 _ _ _ h)⟩
      · exact ⟨w, v, u, by omega, by omega, hw, hv, hu, h1 _ _ _ (h2 _ _ _ (h1 _ _ _ h))⟩
/-- the sums at the corners, as fractions; the second: of corners on no wall that is left out -/
def cm_C (A : Nat → Nat → Int) (N : Nat) (Ex : Nat → Prop) (c0 c1 c2 : Int) (s d : Int) : Prop := ∃ u v w, u < N ∧ v < N ∧ w < N ∧ cm_K A N Ex c0 c1 c2 s d u v w
def cm_E (A : Nat → Nat → Int) (N : Nat) (Ex : Nat → Prop) (c0 c1 c2 : Int) (s d : Int) : Prop := ∃ u v w, (u < N ∧ ¬ Ex u) ∧ (v < N ∧ ¬ Ex v) ∧ (w < N ∧ ¬ Ex w) ∧ cm_K A N Ex c0 c1 c2 s d u v w
theorem cm_on (A : Nat → Nat → Int) (u v w : Nat) : A u 0 * cm_t A u v w 0 + A u 1 * cm_t A u v w 1 + A u 2 * cm_t A u v w 2 = A u 3 * cm_d A u v w := by
  unfold cm_t cm_d cm_x
  simp only [Nat.reduceAdd, Nat.reduceMod]
  grind
theorem cm_onN (A : Nat → Nat → Int) (u v w : Nat) : A u 0 * cm_n A u v w 0 + A u 1 * cm_n A u v w 1 + A u 2 * cm_n A u v w 2 = A u 3 * cm_b A u v w := by
  have h := cm_on A u v w
  unfold cm_n cm_b
  generalize cm_s A u v w = s
  have e : A u 3 * (s * cm_d A u v w) = s * (A u 3 * cm_d A u v w) := Int.mul_left_comm _ _ _
  rw [e, ← h, Int.mul_add, Int.mul_add, Int.mul_left_comm s, Int.mul_left_comm s, Int.mul_left_comm s]
/-- a corner on the wall k: its sum by the wall k is the wall's limit -/
theorem cm_onK {A : Nat → Nat → Int} {N k : Nat} {Ex : Nat → Prop} {s d : Int} {u v w : Nat} (h : cm_K A N Ex (A k 0) (A k 1) (A k 2) s d u v w) (e : u = k ∨ v = k ∨ w = k) : s = A k 3 * d := by
  rcases e with e | e | e
  · subst e
    rw [h.2.1, h.2.2]; exact cm_onN A _ _ _
  · subst e
    have h' := cm_K1 _ _ _ h
    rw [h'.2.1, h'.2.2]; exact cm_onN A _ _ _
  · subst e
    have h' := cm_K1 _ _ _ (cm_K2 _ _ _ h)
    rw [h'.2.1, h'.2.2]; exact cm_onN A _ _ _
/-! ===== the greatest of a set of fractions ===== -/
def pq_K (S : Int → Int → Prop) (t b : Int) : Prop := (b = 0 ∧ t = 0 ∧ ∀ s d, ¬ S s d) ∨ (0 < b ∧ S t b ∧ ∀ s d, S s d → s * b ≤ t * d)
theorem pq_iff {S S' : Int → Int → Prop} {t b : Int} (e : ∀ s d, S' s d ↔ S s d) (h : pq_K S t b) : pq_K S' t b := by
  rcases h with ⟨h1, h2, h3⟩ | ⟨h1, h2, h3⟩
  · exact Or.inl ⟨h1, h2, fun s d z => h3 s d ((e s d).mp z)⟩
  · exact Or.inr ⟨h1, (e t b).mpr h2, fun s d z => h3 s d ((e s d).mp z)⟩
theorem pq_first {S S' : Int → Int → Prop} {t b s0 d0 : Int} (e : ∀ s d, S' s d ↔ S s d ∨ (s = s0 ∧ d = d0)) (h : pq_K S t b) (hb : b = 0) (hd : 0 < d0) : pq_K S' s0 d0 := by
  rcases h with ⟨h1, h2, h3⟩ | ⟨h1, h2, h3⟩
  · refine Or.inr ⟨hd, (e _ _).mpr (Or.inr ⟨rfl, rfl⟩), fun s d z => ?_⟩
    rcases (e _ _).mp z with z | ⟨rfl, rfl⟩
    · exact absurd z (h3 s d)
    · exact Int.le_refl _
  · omega
theorem pq_keep {S S' : Int → Int → Prop} {t b s0 d0 : Int} (e : ∀ s d, S' s d ↔ S s d ∨ (s = s0 ∧ d = d0)) (h : pq_K S t b) (hb : b ≠ 0) (hc : s0 * b ≤ t * d0) : pq_K S' t b := by
  rcases h with ⟨h1, h2, h3⟩ | ⟨h1, h2, h3⟩
  · exact absurd h1 hb
  · refine Or.inr ⟨h1, (e _ _).mpr (Or.inl h2), fun s d z => ?_⟩
    rcases (e _ _).mp z with z | ⟨rfl, rfl⟩
    · exact h3 s d z
    · exact hc
theorem pq_tr {s b t d s0 d0 : Int} (hb : 0 < b) (hd : 0 ≤ d) (hd0 : 0 ≤ d0) (h1 : s * b ≤ t * d) (h2 : t * d0 ≤ s0 * b) : s * d0 ≤ s0 * d := by
  have a1 := Int.mul_le_mul_of_nonneg_right h1 hd0
  have a2 := Int.mul_le_mul_of_nonneg_right h2 hd
  have e1 : t * d * d0 = t * d0 * d := Int.mul_right_comm _ _ _
  have e2 : s * b * d0 = s * d0 * b := Int.mul_right_comm _ _ _
  have e3 : s0 * b * d = s0 * d * b := Int.mul_right_comm _ _ _
  have a3 : s * d0 * b ≤ s0 * d * b := by omega
  exact Int.le_of_mul_le_mul_right a3 hb
theorem pq_new {S S' : Int → Int → Prop} {t b s0 d0 : Int} (e : ∀ s d, S' s d ↔ S s d ∨ (s = s0 ∧ d = d0)) (hp : ∀ s d, S s d → 0 < d) (h : pq_K S t b) (hb : b ≠ 0) (hd : 0 < d0) (hc : ¬ s0 * b ≤ t * d0) : pq_K S' s0 d0 := by
  rcases h with ⟨h1, h2, h3⟩ | ⟨h1, h2, h3⟩
  · exact absurd h1 hb
  · refine Or.inr ⟨hd, (e _ _).mpr (Or.inr ⟨rfl, rfl⟩), fun s d z => ?_⟩
    rcases (e _ _).mp z with z | ⟨rfl, rfl⟩
    · have := hp s d z
      exact pq_tr h1 (by omega) (by omega) (h3 s d z) (by omega)
    · exact Int.le_refl _
theorem pq_none {S : Int → Int → Prop} {t b : Int} (h : pq_K S t b) : b = 0 ↔ ∀ s d, ¬ S s d := by
  rcases h with ⟨h1, h2, h3⟩ | ⟨h1, h2, h3⟩
  · exact ⟨fun _ => h3, fun _ => h1⟩
  · exact ⟨fun z => by omega, fun z => absurd h2 (z _ _)⟩
theorem pq_one {S : Int → Int → Prop} {t b t' b' : Int} (h : pq_K S t b) (h' : pq_K S t' b') : t * b' = t' * b := by
  rcases h with ⟨h1, h2, h3⟩ | ⟨h1, h2, h3⟩
  · rw [h1, h2, Int.zero_mul, Int.mul_zero]
  · rcases h' with ⟨k1, k2, k3⟩ | ⟨k1, k2, k3⟩
    · exact absurd h2 (k3 _ _)
    · have a := h3 _ _ k2
      have b := k3 _ _ h2
      omega
/-- the question of needless, of a set -/
theorem pq_below {S : Int → Int → Prop} {t b l : Int} (hp : ∀ s d, S s d → 0 < d) (h : pq_K S t b) (hb : b ≠ 0) : ¬ l * b < t ↔ ∀ s d, S s d → s ≤ l * d := by
  rcases h with ⟨h1, h2, h3⟩ | ⟨h1, h2, h3⟩
  · exact absurd h1 hb
  · constructor
    · intro z s d hs
      have a := pq_tr (d0 := 1) (s0 := l) h1 (Int.le_of_lt (hp s d hs)) (by omega) (h3 s d hs) (by omega)
      omega
    · intro z
      have := z _ _ h2
      omega
end
section
/-! ===== Euclid, and lowest terms ===== -/
def eu_g : Nat → Nat → Nat → Nat
  | 0, x, _ => x
  | m + 1, x, y => if y = 0 then x else eu_g m y (x % y)
theorem eu_0 (m x : Nat) : eu_g m x 0 = x := by
  cases m with
  | zero => rfl
  | succ m => exact if_pos rfl
theorem eu_s {m x y : Nat} (h : y ≠ 0) : eu_g (m + 1) x y = eu_g m y (x % y) := if_neg h
theorem eu_half {y r : Nat} (h0 : r ≠ 0) (h : r < y) : 2 * (y % r) < y := by
  have h1 := Nat.mod_lt y (Nat.pos_of_ne_zero h0)
  have h2 := Nat.div_add_mod y r
  have h3 : 1 ≤ y / r := Nat.div_pos (by omega) (by omega)
  have h4 : r * 1 ≤ r * (y / r) := Nat.mul_le_mul_left r h3
  omega
theorem eu_gcd : ∀ (k m x y : Nat), y < 2 ^ k → 2 * k ≤ m → eu_g m x y = Nat.gcd x y := by
  intro k
  induction k with
  | zero =>
    intro m x y hy hm
    have : y = 0 := by omega
    subst this
    rw [eu_0, Nat.gcd_zero_right]
  | succ k ih =>
    intro m x y hy hm
    obtain ⟨m, rfl⟩ : ∃ m', m = m' + 2 := ⟨m - 2, by omega⟩
    by_cases h : y = 0
    · subst h; rw [eu_0, Nat.gcd_zero_right]
    · rw [eu_s h]
      have e1 : Nat.gcd x y = Nat.gcd y (x % y) := by rw [Nat.gcd_comm x y, Nat.gcd_rec y x, Nat.gcd_comm]
      by_cases h' : x % y = 0
      · rw [e1, h', eu_0, Nat.gcd_zero_right]
      · rw [eu_s h']
        have e2 : Nat.gcd y (x % y) = Nat.gcd (x % y) (y % (x % y)) := by rw [Nat.gcd_comm y (x % y), Nat.gcd_rec (x % y) y, Nat.gcd_comm]
        have := eu_half h' (Nat.mod_lt x (Nat.pos_of_ne_zero h))
        rw [e1, e2]
        exact ih m _ _ (by rw [Nat.pow_succ] at hy; omega) (by omega)
/-- lowest terms are one -/
theorem eu_low {q d q' d' : Nat} (h : q * d' = q' * d) (c : Nat.gcd q d = 1) (c' : Nat.gcd q' d' = 1) (hd : 0 < d) : d = d' ∧ q = q' := by
  have h1 : d ∣ d' := by
    have : d ∣ q * d' := ⟨q', by rw [h, Nat.mul_comm]⟩
    exact Nat.Coprime.dvd_of_dvd_mul_left (k := d) (by rw [Nat.Coprime, Nat.gcd_comm]; exact c) this
  have h2 : d' ∣ d := by
    have : d' ∣ q' * d := ⟨q, by rw [← h, Nat.mul_comm]⟩
    exact Nat.Coprime.dvd_of_dvd_mul_left (k := d') (by rw [Nat.Coprime, Nat.gcd_comm]; exact c') this
  have e : d = d' := Nat.dvd_antisymm h1 h2
  subst e
  exact ⟨rfl, Nat.eq_of_mul_eq_mul_right hd h⟩
/-- two fractions of one value, each by its own divisor: the same top, the same bottom -/
theorem eu_red {t t' : Int} {b b' g g' : Nat} (h : t * (b' : Int) = t' * (b : Int)) (hb : 0 < b) (hb' : 0 < b') (hg : g = Nat.gcd t.natAbs b) (hg' : g' = Nat.gcd t'.natAbs b') : ∃ (q : Int) (d : Nat), t = (g : Int) * q ∧ b = g * d ∧ t' = (g' : Int) * q ∧ b' = g' * d := by
  have gp : 0 < g := by rw [hg]; exact Nat.gcd_pos_of_pos_right _ hb
  have gp' : 0 < g' := by rw [hg']; exact Nat.gcd_pos_of_pos_right _ hb'
  have d1 : g ∣ t.natAbs := by rw [hg]; exact Nat.gcd_dvd_left _ _
  have d1' : g' ∣ t'.natAbs := by rw [hg']; exact Nat.gcd_dvd_left _ _
  obtain ⟨d, hd⟩ : g ∣ b := by rw [hg]; exact Nat.gcd_dvd_right _ _
  obtain ⟨d', hd'⟩ : g' ∣ b' := by rw [hg']; exact Nat.gcd_dvd_right _ _
  obtain ⟨q, hq⟩ : (g : Int) ∣ t := Int.ofNat_dvd_left.mpr d1
  obtain ⟨q', hq'⟩ : (g' : Int) ∣ t' := Int.ofNat_dvd_left.mpr d1'
  have aq : t.natAbs = g * q.natAbs := by rw [hq, Int.natAbs_mul]; simp
  have aq' : t'.natAbs = g' * q'.natAbs := by rw [hq', Int.natAbs_mul]; simp
  have c : Nat.gcd q.natAbs d = 1 := by
    have e : g * Nat.gcd q.natAbs d = g * 1 := by rw [← Nat.gcd_mul_left, ← aq, ← hd, ← hg, Nat.mul_one]
    exact Nat.eq_of_mul_eq_mul_left gp e
  have c' : Nat.gcd q'.natAbs d' = 1 := by
    have e : g' * Nat.gcd q'.natAbs d' = g' * 1 := by rw [← Nat.gcd_mul_left, ← aq', ← hd', ← hg', Nat.mul_one]
    exact Nat.eq_of_mul_eq_mul_left gp' e
  have dp : 0 < d := Nat.pos_of_ne_zero (fun z => by rw [z, Nat.mul_zero] at hd; omega)
  have key : q * (d' : Int) = q' * (d : Int) := by
    have e : ((g : Int) * (g' : Int)) * (q * (d' : Int)) = ((g : Int) * (g' : Int)) * (q' * (d : Int)) := by
      have h2 := h
      rw [hq, hq', hd, hd', Int.natCast_mul, Int.natCast_mul] at h2
      calc ((g : Int) * (g' : Int)) * (q * (d' : Int)) = (g : Int) * q * ((g' : Int) * (d' : Int)) := by grind
        _ = (g' : Int) * q' * ((g : Int) * (d : Int)) := h2
        _ = _ := by grind
    exact Int.eq_of_mul_eq_mul_left (Int.mul_ne_zero (by omega) (by omega)) e
  have kn : q.natAbs * d' = q'.natAbs * d := by
    have := congrArg Int.natAbs key
    rw [Int.natAbs_mul, Int.natAbs_mul] at this
    exact this
  obtain ⟨ed, _⟩ := eu_low kn c c' dp
  subst ed
  have eq : q = q' := Int.eq_of_mul_eq_mul_right (by omega) key
  subst eq
  exact ⟨q, d, hq, hd, hq', hd'⟩
/-- the division of a long that is a multiple -/
theorem eu_div {a b : Int64} {g : Nat} {q : Int} {B : Nat} (ha : ir_L a ((g : Int) * q) B) (hb : b = lN g) (hg : 0 < g) (hg' : g < 2 ^ 63) (hB : B < 2 ^ 63) : (a / b).toInt = q := by
  rw [Int64.toInt_div, ha.1, hb, pk_lT hg', Int.mul_tdiv_cancel_left _ (by omega)]
  have k1 := ha.2.1
  have k2 := ha.2.2
  have k3 : q.natAbs ≤ B := by
    have e : ((g : Int) * q).natAbs = g * q.natAbs := by rw [Int.natAbs_mul]; rfl
    have : 1 * q.natAbs ≤ g * q.natAbs := Nat.mul_le_mul_right _ hg
    generalize (g : Int) * q = z at *
    omega
  exact Int.bmod_eq_of_le (by omega) (by omega)
/-! ===== the walks of the two divisors ===== -/
theorem eu_X (post : Int64 → Prop) : ∀ (m n st x y : Nat), st + m = 100 → m < n → x < 2 ^ 63 → y < 2 ^ 63 → post (lN (eu_g m x y)) → wX_commonDivisor_20 post n (lN x) (lN y) (nI st) := by
  intro m
  induction m with
  | zero =>
    intro n st x y hs hn hx hy hp
    obtain ⟨n, rfl⟩ : ∃ n', n = n' + 1 := ⟨n - 1, by omega⟩
    exact br_t (nI_le (a := 100) (b := st) (by omega) (by omega)) hp
  | succ m ih =>
    intro n st x y hs hn hx hy hp
    obtain ⟨n, rfl⟩ : ∃ n', n = n' + 1 := ⟨n - 1, by omega⟩
    refine br_f (nI_ge (b := 100) (a := st) (by omega) (by omega)) ?_
    by_cases h : y = 0
    · subst h
      rw [eu_0] at hp
      exact br_t rfl hp
    · have h' : ¬ lN y = 0 := fun z => h ((pk_lEQ hy (b := 0) (by omega)).mp z)
      refine br_f h' ⟨h', nm_r (pk_lRem hx (by omega) hy) (nm_r (nI_1 st) ?_)⟩
      have := Nat.mod_lt x (Nat.pos_of_ne_zero h)
      rw [eu_s h] at hp
      exact ih n (st + 1) y (x % y) (by omega) (by omega) hy (by omega) hp
theorem eu_Y (post : Int64 → Prop) (fn fo : Int32) (to bo : Int64) (ts go pl : Nat → Int32) (cr : Nat → Int64) : ∀ (m n st x y : Nat), st + m = 64 → m < n → x < 2 ^ 63 → y < 2 ^ 63 → post (lN (if eu_g m x y = 0 then 1 else eu_g m x y)) → wY_common_30 post fn fo to bo ts go pl cr n (lN x) (lN y) (nI st) := by
  intro m
  induction m with
  | zero =>
    intro n st x y hs hn hx hy hp
    obtain ⟨n, rfl⟩ : ∃ n', n = n' + 1 := ⟨n - 1, by omega⟩
    refine br_t (nI_le (a := 64) (b := st) (by omega) (by omega)) ?_
    change post (lN (if x = 0 then 1 else x)) at hp
    by_cases h : x = 0
    · subst h
      rw [if_pos rfl] at hp
      exact br_f (by decide) hp
    · rw [if_neg h] at hp
      exact br_t ((pk_lLE (a := 1) (by omega) hx).mpr (by omega)) hp
  | succ m ih =>
    intro n st x y hs hn hx hy hp
    obtain ⟨n, rfl⟩ : ∃ n', n = n' + 1 := ⟨n - 1, by omega⟩
    refine br_f (nI_ge (b := 64) (a := st) (by omega) (by omega)) ?_
    by_cases h : y = 0
    · subst h
      rw [eu_0] at hp
      refine br_t rfl (nm_r (nI_1 st) ?_)
      exact ih n (st + 1) x 0 (by omega) (by omega) hx hy (by rw [eu_0]; exact hp)
    · have h' : ¬ lN y = 0 := fun z => h ((pk_lEQ hy (b := 0) (by omega)).mp z)
      refine br_f h' (br_f h' ⟨h', nm_r (pk_lRem hx (by omega) hy) (nm_r (nI_1 st) ?_)⟩)
      have := Nat.mod_lt x (Nat.pos_of_ne_zero h)
      rw [eu_s h] at hp
      exact ih n (st + 1) y (x % y) (by omega) (by omega) hy (by omega) hp
/-- |a| of a long -/
theorem eu_abs {a : Int64} {x : Int} {B : Nat} (ha : ir_L a x B) (hB : B < 2 ^ 63) : (0 ≤ a → a = lN x.natAbs) ∧ (¬ 0 ≤ a → -a = lN x.natAbs) := by
  constructor
  · intro h
    rw [ir_lle ir_l0 ha] at h
    exact ir_ofN ha (by omega)
  · intro h
    rw [ir_lle ir_l0 ha] at h
    exact ir_ofN (ir_lneg ha hB) (by omega)
theorem eu_wX {post : Int64 → Prop} {a b : Int64} {t : Int} {d B : Nat} (ha : ir_L a t B) (hb : ir_L b (d : Int) B) (hB : B < 2 ^ 50) (hp : post (lN (Nat.gcd t.natAbs d))) : wpX_commonDivisor post a b := by
  have eb : b = lN d := ir_ofN hb rfl
  have hd : d < 2 ^ 50 := by have := hb.2.2; omega
  have ht : t.natAbs < 2 ^ 50 := by have := ha.2.1; have := ha.2.2; omega
  have key : wX_commonDivisor_20 post 101 (lN t.natAbs) (lN d) (nI 0) := eu_X post 100 101 0 t.natAbs d rfl (by omega) (by omega) (by omega) (by rw [eu_gcd 50 100 _ _ hd (by omega)]; exact hp)
  rw [nI_0] at key
  obtain ⟨h1, h2⟩ := eu_abs ha (by omega)
  refine br_c (fun z => ⟨101, ?_⟩) (fun z => nm_r (h2 z) ⟨101, ?_⟩)
  · rw [h1 z, eb]; exact key
  · rw [eb]; exact key
theorem eu_wY {post : Int64 → Prop} {fn fo : Int32} {to bo : Int64} {ts go pl : Nat → Int32} {cr : Nat → Int64} {t : Int} {d B : Nat} (ha : ir_L to t B) (hb : ir_L bo (d : Int) B) (hB : B < 2 ^ 50) (hd : d < 2 ^ 30) (h0 : 0 < d) (hp : post (lN (Nat.gcd t.natAbs d))) : wpY_common post (fn, fo, to, bo, ts, go, pl, cr) := by
  have eb : bo = lN d := ir_ofN hb rfl
  have ht : t.natAbs < 2 ^ 50 := by have := ha.2.1; have := ha.2.2; omega
  have gp : Nat.gcd t.natAbs d ≠ 0 := Nat.ne_of_gt (Nat.gcd_pos_of_pos_right _ h0)
  have key : wY_common_30 post fn fo to bo ts go pl cr 65 (lN t.natAbs) (lN d) (nI 0) := eu_Y post fn fo to bo ts go pl cr 64 65 0 t.natAbs d rfl (by omega) (by omega) (by omega) (by rw [eu_gcd 30 64 _ _ hd (by omega), if_neg gp]; exact hp)
  rw [nI_0, ← eb] at key
  obtain ⟨h1, h2⟩ := eu_abs ha (by omega)
  refine br_c (fun z => ⟨65, ?_⟩) (fun z => nm_r (h2 z) ⟨65, ?_⟩)
  · have e := h1 z
    rw [← e] at key
    exact key
  · exact key
end
section
/-! ===== the component: corners ===== -/
def xa_W (co wl : Nat → Int32) (A : Nat → Nat → Int) (N : Nat) : Prop := ∀ w, w < N → (∀ i, i < 3 → ir_I (co (w * 3 + i)) (A w i) 99) ∧ ir_I (wl w) (A w 3) 99
theorem xc_i (v j : Nat) : nI v * 3 + nI j = nI (v * 3 + j) := by
  rw [← nI_add, ← pk_mul]; rfl
theorem cm_b0 (A : Nat → Nat → Int) (u v w : Nat) : cm_b A u v w = 0 ↔ cm_d A u v w = 0 := by
  unfold cm_b cm_s
  by_cases z : cm_d A u v w < 0
  · rw [if_pos z]; omega
  · rw [if_neg z]; omega
section
variable {wc fi bg cb : Int32} {pt pb : Int64} {co wl gc bp lv ct : Nat → Int32} {A : Nat → Nat → Int} {N : Nat} {Ex : Nat → Prop}
theorem xc_cross {post : Int32 → Prop} (hW : xa_W co wl A N) (hN : N ≤ 12) {v w i : Nat} (hv : v < N) (hw : w < N) (hi : i < 3) (hp : ∀ r, ir_I r (cm_x A v w ((i + 1) % 3) ((i + 2) % 3)) 19602 → post r) : wpX_cross post (wc, fi, bg, cb, pt, pb, co, wl, gc, bp, lv, ct) (nI v) (nI w) (nI i) := by
  have e1 : nI i + 1 - (nI i + 1) / 3 * 3 = nI ((i + 1) % 3) := by
    rw [nI_1]; exact pk_rem (d := 3) (by omega) (by omega) (by omega)
  have e2 : nI i + 2 - (nI i + 2) / 3 * 3 = nI ((i + 2) % 3) := by
    rw [show nI i + 2 = nI (i + 2) from nI_add i 2]; exact pk_rem (d := 3) (by omega) (by omega) (by omega)
  have j1 : (i + 1) % 3 < 3 := Nat.mod_lt _ (by omega)
  have j2 : (i + 2) % 3 < 3 := Nat.mod_lt _ (by omega)
  generalize (i + 1) % 3 = j at *
  generalize (i + 2) % 3 = k at *
  refine ⟨by decide, nm_r e1 ⟨by decide, nm_r e2 ⟨?_, ?_, ?_, ?_, ?_⟩⟩⟩
  · rw [xc_i]; exact vp_in_nI (by omega) (by omega)
  · rw [xc_i]; exact vp_in_nI (by omega) (by omega)
  · rw [xc_i]; exact vp_in_nI (by omega) (by omega)
  · rw [xc_i]; exact vp_in_nI (by omega) (by omega)
  · rw [xc_i, xc_i, xc_i, xc_i, nI_clamp (by omega), nI_clamp (by omega), nI_clamp (by omega), nI_clamp (by omega)]
    exact hp _ (ir_isub (ir_imul ((hW v hv).1 j j1) ((hW w hw).1 k j2) (by decide)) (ir_imul ((hW v hv).1 k j2) ((hW w hw).1 j j1) (by decide)) (by decide))
theorem xt_turn {post : SX → Prop} (hp : ∀ ct', (∀ i, i < 3 → ct' i = - ct i) → post (wc, fi, bg, -cb, pt, pb, co, wl, gc, bp, lv, ct')) : wpX_turnCornerSigns post (wc, fi, bg, cb, pt, pb, co, wl, gc, bp, lv, ct) := by
  have v0 : vp_in 0 3 := vp_in_nI (n := 0) (by omega) (by omega)
  have v1 : vp_in (0 + 1) 3 := vp_in_nI (n := 1) (by omega) (by omega)
  have v2 : vp_in (0 + 1 + 1) 3 := vp_in_nI (n := 2) (by omega) (by omega)
  refine nm_e ⟨4, br_f (by decide) ⟨v0, v0, nm_e (nm_e (br_f (by decide) ⟨v1, v1, nm_e (nm_e (br_f (by decide) ⟨v2, v2, nm_e (nm_e (br_t (by decide) (hp _ ?_)))⟩))⟩))⟩⟩
  intro i hi
  match i, hi with
  | 0, _ => rfl
  | 1, _ => rfl
  | 2, _ => rfl
theorem xm_step {post : SX → Prop} (hW : xa_W co wl A N) (hN : N ≤ 12) {u v w i : Nat} (hu : u < N) (hv : v < N) (hw : w < N) (hi : i < 3) {n : Nat} {x4 : Int32} {X4 : Int} {B : Nat} (hx : ir_I x4 X4 B) (hB : B ≤ 4000000) (hp : ∀ x4' r, ir_I x4' (X4 + A u i * cm_x A v w ((i + 1) % 3) ((i + 2) % 3)) (B + 1940598) → ir_I r (cm_t A u v w i) 5821794 → wX_meetWalls_6 post (nI u) (nI v) (nI w) wc fi bg cb pt pb n x4' (nI (i + 1)) co wl gc bp lv (upd ct i r)) : wX_meetWalls_6 post (nI u) (nI v) (nI w) wc fi bg cb pt pb (n + 1) x4 (nI i) co wl gc bp lv ct := by
  refine br_f (nI_ge (b := 3) (a := i) hi (by omega)) ?_
  refine xc_cross hW hN hv hw hi (fun r1 h1 => ?_)
  refine ⟨by rw [xc_i]; exact vp_in_nI (by omega) (by omega), nm_r (e' := x4 + co (u * 3 + i) * r1) (by rw [xc_i, nI_clamp (by omega)]) ⟨vp_in_nI (by omega) (by omega), vp_in_nI (by omega) (by omega), ?_⟩⟩
  refine xc_cross hW hN hw hu hi (fun r2 h2 => ⟨vp_in_nI (by omega) (by omega), ?_⟩)
  refine xc_cross hW hN hu hv hi (fun r3 h3 => ⟨vp_in_nI (by omega) (by omega), ?_⟩)
  refine nm_r (e' := upd ct i (wl u * r1 + wl v * r2 + wl w * r3)) (by rw [nI_clamp (by omega), nI_clamp (by omega), nI_clamp (by omega), nI_clamp (by omega)]) (nm_r (nI_1 i) ?_)
  refine hp _ _ (ir_iadd hx (ir_imul ((hW u hu).1 i hi) h1 (by decide)) (by omega)) ?_
  exact ir_iadd (ir_iadd (ir_imul (hW u hu).2 h1 (by decide)) (ir_imul (hW v hv).2 h2 (by decide)) (by decide)) (ir_imul (hW w hw).2 h3 (by decide)) (by decide)
/-- what meetWalls leaves: the corner, with a bottom that isn't below 0 -/
theorem xm_meet {post : SX → Prop} (hW : xa_W co wl A N) (hN : N ≤ 12) {u v w : Nat} (hu : u < N) (hv : v < N) (hw : w < N) (hp : ∀ cb' ct', ir_I cb' (cm_b A u v w) 5821794 → (∀ i, i < 3 → ir_I (ct' i) (cm_n A u v w i) 5821794) → post (wc, fi, bg, cb', pt, pb, co, wl, gc, bp, lv, ct')) : wpX_meetWalls post (wc, fi, bg, cb, pt, pb, co, wl, gc, bp, lv, ct) (nI u) (nI v) (nI w) := by
  refine ⟨4, ?_⟩
  refine xm_step (i := 0) hW hN hu hv hw (by omega) ir_i0 (by omega) (fun y0 r0 hy0 hr0 => ?_)
  refine xm_step (i := 1) hW hN hu hv hw (by omega) hy0 (by omega) (fun y1 r1 hy1 hr1 => ?_)
  refine xm_step (i := 2) hW hN hu hv hw (by omega) hy1 (by omega) (fun y2 r2 hy2 hr2 => ?_)
  have hd : ir_I y2 (cm_d A u v w) 5821794 := by
    have e : cm_d A u v w = 0 + A u 0 * cm_x A v w ((0 + 1) % 3) ((0 + 2) % 3) + A u 1 * cm_x A v w ((1 + 1) % 3) ((1 + 2) % 3) + A u 2 * cm_x A v w ((2 + 1) % 3) ((2 + 2) % 3) := by
      rw [Int.zero_add]; rfl
    rw [e]; exact hy2
  have ht : ∀ i, i < 3 → ir_I (upd (upd (upd ct 0 r0) 1 r1) 2 r2 i) (cm_t A u v w i) 5821794 := by
    intro i hi
    match i, hi with
    | 0, _ => exact hr0
    | 1, _ => exact hr1
    | 2, _ => exact hr2
  generalize upd (upd (upd ct 0 r0) 1 r1) 2 r2 = ct2 at *
  refine br_t (nI_le (a := 3) (b := 3) (by omega) (by omega)) (ir_if (ir_ile ir_i0 hd) (fun z => ?_) (fun z => ?_))
  · have es : cm_s A u v w = 1 := if_neg (by omega)
    refine hp _ _ ?_ (fun i hi => ?_)
    · rw [cm_b, es, Int.one_mul]; exact hd
    · rw [cm_n, es, Int.one_mul]; exact ht i hi
  · have es : cm_s A u v w = -1 := if_pos (by omega)
    refine xt_turn (fun ct' hc => hp _ _ ?_ (fun i hi => ?_))
    · rw [cm_b, es, Int.neg_one_mul]; exact ir_ineg hd (by decide)
    · rw [cm_n, es, Int.neg_one_mul, hc i hi]; exact ir_ineg (ht i hi) (by decide)
theorem xk_loop {post : Int32 → Prop} {t0 t1 t2 b s : Int32} {T0 T1 T2 B : Int} (hW : xa_W co wl A N) (hN : N ≤ 12) (h0 : ir_I t0 T0 5821794) (h1 : ir_I t1 T1 5821794) (h2 : ir_I t2 T2 5821794) (hb : ir_I b B 5821794) (hs : ∀ x, x < N → (nI x = s ↔ Ex x))
    (hT : (∀ x, x < N → ¬ Ex x → A x 0 * T0 + A x 1 * T1 + A x 2 * T2 ≤ A x 3 * B) → post 1) (hF : ¬ (∀ x, x < N → ¬ Ex x → A x 0 * T0 + A x 1 * T1 + A x 2 * T2 ≤ A x 3 * B) → post 0) :
    ∀ (m n x : Nat), x + m = N → m < n → (∀ y, y < x → ¬ Ex y → A y 0 * T0 + A y 1 * T1 + A y 2 * T2 ≤ A y 3 * B) → wX_keepsWalls_3 post t0 t1 t2 b s (nI N) fi bg cb pt pb co wl gc bp lv ct n (nI x) := by
  intro m
  induction m with
  | zero =>
    intro n x hx hn hI
    obtain ⟨n, rfl⟩ : ∃ n', n = n' + 1 := ⟨n - 1, by omega⟩
    exact br_t (nI_le (by omega) (by omega)) (hT (fun y hy => hI y (by omega)))
  | succ m ih =>
    intro n x hx hn hI
    obtain ⟨n, rfl⟩ : ∃ n', n = n' + 1 := ⟨n - 1, by omega⟩
    refine br_f (nI_ge (by omega) (by omega)) (nm_r (e' := nI (x * 3)) (pk_mul x 3) ?_)
    refine ⟨vp_in_nI (by omega) (by omega), by rw [nI_1]; exact vp_in_nI (by omega) (by omega), ?_, ?_⟩
    · rw [show nI (x * 3) + 2 = nI (x * 3 + 2) from nI_add _ 2]; exact vp_in_nI (by omega) (by omega)
    · refine nm_r (e' := co (x * 3 + 0) * t0 + co (x * 3 + 1) * t1 + co (x * 3 + 2) * t2) (by rw [nI_1, show nI (x * 3) + 2 = nI (x * 3 + 2) from nI_add _ 2, nI_clamp (by omega), nI_clamp (by omega), nI_clamp (by omega)]; rfl) ?_
      have hx' : x < N := by omega
      have hsum := ir_iadd (ir_iadd (ir_imul ((hW x hx').1 0 (by omega)) h0 (by decide)) (ir_imul ((hW x hx').1 1 (by omega)) h1 (by decide)) (by decide)) (ir_imul ((hW x hx').1 2 (by omega)) h2 (by decide)) (by decide)
      refine ir_if (hs x hx') (fun z => nm_r (nI_1 x) ?_) (fun z => ⟨vp_in_nI (by omega) (by omega), ?_⟩)
      · exact ih n (x + 1) (by omega) (by omega) (fun y hy hE => if e : y = x then absurd (e ▸ z) hE else hI y (by omega) hE)
      · rw [nI_clamp (by omega)]
        refine ir_if (ir_ile hsum (ir_imul (hW x hx').2 hb (by decide))) (fun k => nm_r (nI_1 x) ?_) (fun k => hF (fun al => k (al x hx' z)))
        exact ih n (x + 1) (by omega) (by omega) (fun y hy hE => if e : y = x then e ▸ k else hI y (by omega) hE)
theorem xk_keeps {post : Int32 → Prop} {t0 t1 t2 b s : Int32} {T0 T1 T2 B : Int} (hW : xa_W co wl A N) (hN : N ≤ 12) (h0 : ir_I t0 T0 5821794) (h1 : ir_I t1 T1 5821794) (h2 : ir_I t2 T2 5821794) (hb : ir_I b B 5821794) (hs : ∀ x, x < N → (nI x = s ↔ Ex x))
    (hT : (∀ x, x < N → ¬ Ex x → A x 0 * T0 + A x 1 * T1 + A x 2 * T2 ≤ A x 3 * B) → post 1) (hF : ¬ (∀ x, x < N → ¬ Ex x → A x 0 * T0 + A x 1 * T1 + A x 2 * T2 ≤ A x 3 * B) → post 0) :
    wpX_keepsWalls post (nI N, fi, bg, cb, pt, pb, co, wl, gc, bp, lv, ct) t0 t1 t2 b s :=
  ⟨N + 1, xk_loop hW hN h0 h1 h2 hb hs hT hF N (N + 1) 0 (by omega) (by omega) (fun y hy => absurd hy (by omega))⟩
theorem xn_note {post : SX → Prop} {c0 c1 c2 s : Int32} {C0 C1 C2 : Int} (hW : xa_W co wl A N) (hN : N ≤ 12) (h0 : ir_I c0 C0 99) (h1 : ir_I c1 C1 99) (h2 : ir_I c2 C2 99) (hs : ∀ x, x < N → (nI x = s ↔ Ex x)) {u v w : Nat} (hcb : ir_I cb (cm_b A u v w) 5821794) (hct : ∀ i, i < 3 → ir_I (ct i) (cm_n A u v w i) 5821794)
    {S S' : Int → Int → Prop} {t b : Int} (hpt : ir_L pt t 1729072818) (hpb : ir_L pb b 5821794) (hS : pq_K S t b) (hSp : ∀ s d, S s d → 0 < d) (hS' : ∀ s d, S' s d ↔ S s d ∨ cm_K A N Ex C0 C1 C2 s d u v w)
    (hp : ∀ pt' pb' t' b', ir_L pt' t' 1729072818 → ir_L pb' b' 5821794 → pq_K S' t' b' → post (nI N, fi, bg, cb, pt', pb', co, wl, gc, bp, lv, ct)) : wpX_noteCorner post (nI N, fi, bg, cb, pt, pb, co, wl, gc, bp, lv, ct) c0 c1 c2 s := by
  have stay : ¬ cm_G A N Ex u v w → post (nI N, fi, bg, cb, pt, pb, co, wl, gc, bp, lv, ct) := fun z =>
    hp _ _ t b hpt hpb (pq_iff (fun s d => ⟨fun k => ((hS' s d).mp k).elim id (fun q => absurd q.1 z), fun k => (hS' s d).mpr (Or.inl k)⟩) hS)
  refine ir_if (ir_ieq hcb ir_i0) (fun z => stay (fun g => g.1 ((cm_b0 A u v w).mp z))) (fun z => ?_)
  have hd : cm_d A u v w ≠ 0 := fun k => z ((cm_b0 A u v w).mpr k)
  refine xk_keeps hW hN (hct 0 (by omega)) (hct 1 (by omega)) (hct 2 (by omega)) hcb hs (fun ok => ?_) (fun nok => br_t rfl (stay (fun g => nok g.2)))
  have g : cm_G A N Ex u v w := ⟨hd, ok⟩
  have hx := ir_iadd (ir_iadd (ir_imul h0 (hct 0 (by omega)) (by decide)) (ir_imul h1 (hct 1 (by omega)) (by decide)) (by decide)) (ir_imul h2 (hct 2 (by omega)) (by decide)) (by decide)
  have e : ∀ s d, S' s d ↔ S s d ∨ (s = C0 * cm_n A u v w 0 + C1 * cm_n A u v w 1 + C2 * cm_n A u v w 2 ∧ d = cm_b A u v w) := fun s d =>
    (hS' s d).trans ⟨fun k => k.elim Or.inl (fun q => Or.inr q.2), fun k => k.elim Or.inl (fun q => Or.inr ⟨g, q⟩)⟩
  refine br_f (by decide) (nm_e (ir_if (ir_leq hpb ir_l0) (fun y => ?_) (fun y => ?_)))
  · exact hp _ _ _ _ (ir_il hx) (ir_il hcb) (pq_first e hS y (cm_bp hd))
  · refine ir_if (ir_lle (ir_lmul (ir_il hx) hpb (by decide)) (ir_lmul hpt (ir_il hcb) (by decide))) (fun k => ?_) (fun k => ?_)
    · exact hp _ _ _ _ hpt hpb (pq_keep e hS y k)
    · exact hp _ _ _ _ (ir_il hx) (ir_il hcb) (pq_new e hSp hS y (cm_bp hd) k)
end
end
section
/-! ===== the component: the search over all corners ===== -/
def xs_S (A : Nat → Nat → Int) (N : Nat) (Ex : Nat → Prop) (C0 C1 C2 : Int) (u v w : Nat) (s d : Int) : Prop := ∃ u' v' w', (u' < u ∨ (u' = u ∧ (v' < v ∨ (v' = v ∧ w' < w)))) ∧ u' < v' ∧ v' < w' ∧ w' < N ∧ cm_K A N Ex C0 C1 C2 s d u' v' w'
def xs_I (A : Nat → Nat → Int) (N : Nat) (Ex : Nat → Prop) (C0 C1 C2 : Int) (u v w : Nat) (pt pb : Int64) : Prop := ∃ t b, ir_L pt t 1729072818 ∧ ir_L pb b 5821794 ∧ pq_K (xs_S A N Ex C0 C1 C2 u v w) t b
section
variable {wc fi bg cb : Int32} {pt pb : Int64} {co wl gc bp lv ct : Nat → Int32} {A : Nat → Nat → Int} {N : Nat} {Ex : Nat → Prop} {c0 c1 c2 s : Int32} {C0 C1 C2 : Int}
theorem xs_re {u v w u1 v1 w1 : Nat} (e : ∀ u' v' w', u' < v' → v' < w' → w' < N → ((u' < u1 ∨ (u' = u1 ∧ (v' < v1 ∨ (v' = v1 ∧ w' < w1)))) ↔ (u' < u ∨ (u' = u ∧ (v' < v ∨ (v' = v ∧ w' < w)))))) (h : xs_I A N Ex C0 C1 C2 u v w pt pb) : xs_I A N Ex C0 C1 C2 u1 v1 w1 pt pb := by
  obtain ⟨t, b, h1, h2, h3⟩ := h
  refine ⟨t, b, h1, h2, pq_iff (fun s d => ?_) h3⟩
  constructor
  · rintro ⟨u', v', w', k1, k2, k3, k4, k5⟩
    exact ⟨u', v', w', (e u' v' w' k2 k3 k4).mp k1, k2, k3, k4, k5⟩
  · rintro ⟨u', v', w', k1, k2, k3, k4, k5⟩
    exact ⟨u', v', w', (e u' v' w' k2 k3 k4).mpr k1, k2, k3, k4, k5⟩
theorem xs_43 {post : SX → Prop} {J13 J28 : Int32 → Int32 → Int32 → Int32 → Int32 → Int64 → Int64 → (Nat → Int32) → (Nat → Int32) → (Nat → Int32) → (Nat → Int32) → (Nat → Int32) → (Nat → Int32) → Prop} (hW : xa_W co wl A N) (hN : N ≤ 12) (h0 : ir_I c0 C0 99) (h1 : ir_I c1 C1 99) (h2 : ir_I c2 C2 99) (hs : ∀ x, x < N → (nI x = s ↔ Ex x)) {u v : Nat} (huv : u < v) (hv : v < N)
    (hJ : ∀ cb pt pb ct, xs_I A N Ex C0 C1 C2 u v N pt pb → J28 (nI (v + 1)) (nI N) fi bg cb pt pb co wl gc bp lv ct) :
    ∀ (m n w : Nat) (cb : Int32) (pt pb : Int64) (ct : Nat → Int32), w + m = N → m < n → v < w → xs_I A N Ex C0 C1 C2 u v w pt pb → wX_seekPeak_43 post J13 J28 c0 c1 c2 s (nI u) (nI v) n (nI w) (nI N) fi bg cb pt pb co wl gc bp lv ct := by
  intro m
  induction m with
  | zero =>
    intro n w cb pt pb ct hw hn hvw hI
    obtain ⟨n, rfl⟩ : ∃ n', n = n' + 1 := ⟨n - 1, by omega⟩
    have e : w = N := by omega
    subst e
    exact br_t (nI_le (by omega) (by omega)) (nm_r (nI_1 v) (hJ _ _ _ _ hI))
  | succ m ih =>
    intro n w cb pt pb ct hw hn hvw hI
    obtain ⟨n, rfl⟩ : ∃ n', n = n' + 1 := ⟨n - 1, by omega⟩
    refine br_f (nI_ge (by omega) (by omega)) ?_
    refine xm_meet hW hN (by omega) hv (by omega) (fun cb' ct' hb ht => ?_)
    obtain ⟨t, b, k1, k2, k3⟩ := hI
    refine xn_note (S := xs_S A N Ex C0 C1 C2 u v w) (S' := xs_S A N Ex C0 C1 C2 u v (w + 1)) hW hN h0 h1 h2 hs hb ht k1 k2 k3 ?_ (fun s d => ?_) (fun pt' pb' t' b' q1 q2 q3 => nm_r (nI_1 w) ?_)
    · rintro s d ⟨u', v', w', _, _, _, _, k⟩
      rw [k.2.2]
      exact cm_bp k.1.1
    · constructor
      · rintro ⟨u', v', w', j1, j2, j3, j4, j5⟩
        by_cases e : u' = u ∧ v' = v ∧ w' = w
        · obtain ⟨rfl, rfl, rfl⟩ := e
          exact Or.inr j5
        · exact Or.inl ⟨u', v', w', by omega, j2, j3, j4, j5⟩
      · rintro (⟨u', v', w', j1, j2, j3, j4, j5⟩ | k)
        · exact ⟨u', v', w', by omega, j2, j3, j4, j5⟩
        · exact ⟨u, v, w, by omega, huv, hvw, by omega, k⟩
    · exact ih n (w + 1) _ _ _ _ (by omega) (by omega) (by omega) ⟨t', b', q1, q2, q3⟩
theorem xs_28 {post : SX → Prop} {J13 : Int32 → Int32 → Int32 → Int32 → Int32 → Int64 → Int64 → (Nat → Int32) → (Nat → Int32) → (Nat → Int32) → (Nat → Int32) → (Nat → Int32) → (Nat → Int32) → Prop} (hW : xa_W co wl A N) (hN : N ≤ 12) (h0 : ir_I c0 C0 99) (h1 : ir_I c1 C1 99) (h2 : ir_I c2 C2 99) (hs : ∀ x, x < N → (nI x = s ↔ Ex x)) {u : Nat}
    (hJ : ∀ cb pt pb ct, xs_I A N Ex C0 C1 C2 u N (N + 1) pt pb → J13 (nI (u + 1)) (nI N) fi bg cb pt pb co wl gc bp lv ct) :
    ∀ (m n v : Nat) (cb : Int32) (pt pb : Int64) (ct : Nat → Int32), v + m = N → m < n → u < v → xs_I A N Ex C0 C1 C2 u v (v + 1) pt pb → wX_seekPeak_28 post J13 c0 c1 c2 s (nI u) n (nI v) (nI N) fi bg cb pt pb co wl gc bp lv ct := by
  intro m
  induction m with
  | zero =>
    intro n v cb pt pb ct hv hn huv hI
    obtain ⟨n, rfl⟩ : ∃ n', n = n' + 1 := ⟨n - 1, by omega⟩
    have e : v = N := by omega
    subst e
    exact br_t (nI_le (by omega) (by omega)) (nm_r (nI_1 u) (hJ _ _ _ _ hI))
  | succ m ih =>
    intro n v cb pt pb ct hv hn huv hI
    obtain ⟨n, rfl⟩ : ∃ n', n = n' + 1 := ⟨n - 1, by omega⟩
    refine br_f (nI_ge (by omega) (by omega)) (nm_r (nI_1 v) ⟨m + 1, ?_⟩)
    refine xs_43 hW hN h0 h1 h2 hs huv (by omega) (fun cb pt pb ct hI' => ?_) m (m + 1) (v + 1) cb pt pb ct (by omega) (by omega) (by omega) hI
    exact ih n (v + 1) _ _ _ _ (by omega) (by omega) (by omega) (xs_re (by intros; omega) hI')
theorem xs_13 {post : SX → Prop} (hW : xa_W co wl A N) (hN : N ≤ 12) (h0 : ir_I c0 C0 99) (h1 : ir_I c1 C1 99) (h2 : ir_I c2 C2 99) (hs : ∀ x, x < N → (nI x = s ↔ Ex x))
    (hp : ∀ cb pt pb ct, xs_I A N Ex C0 C1 C2 N (N + 1) (N + 2) pt pb → post (nI N, fi, bg, cb, pt, pb, co, wl, gc, bp, lv, ct)) :
    ∀ (m n u : Nat) (cb : Int32) (pt pb : Int64) (ct : Nat → Int32), u + m = N → m < n → xs_I A N Ex C0 C1 C2 u (u + 1) (u + 2) pt pb → wX_seekPeak_13 post c0 c1 c2 s n (nI u) (nI N) fi bg cb pt pb co wl gc bp lv ct := by
  intro m
  induction m with
  | zero =>
    intro n u cb pt pb ct hu hn hI
    obtain ⟨n, rfl⟩ : ∃ n', n = n' + 1 := ⟨n - 1, by omega⟩
    have e : u = N := by omega
    subst e
    exact br_t (nI_le (by omega) (by omega)) (hp _ _ _ _ hI)
  | succ m ih =>
    intro n u cb pt pb ct hu hn hI
    obtain ⟨n, rfl⟩ : ∃ n', n = n' + 1 := ⟨n - 1, by omega⟩
    refine br_f (nI_ge (by omega) (by omega)) (nm_r (nI_1 u) ⟨m + 1, ?_⟩)
    refine xs_28 hW hN h0 h1 h2 hs (fun cb pt pb ct hI' => ?_) m (m + 1) (u + 1) cb pt pb ct (by omega) (by omega) (by omega) hI
    exact ih n (u + 1) _ _ _ _ (by omega) (by omega) (xs_re (by intros; omega) hI')
/-- what seekPeak finds: the greatest of all corners' sums -/
theorem xs_seek {post : SX → Prop} (hW : xa_W co wl A N) (hN : N ≤ 12) (h0 : ir_I c0 C0 99) (h1 : ir_I c1 C1 99) (h2 : ir_I c2 C2 99) (hs : ∀ x, x < N → (nI x = s ↔ Ex x))
    (hp : ∀ cb pt pb ct t b, ir_L pt t 1729072818 → ir_L pb b 5821794 → pq_K (cm_C A N Ex C0 C1 C2) t b → post (nI N, fi, bg, cb, pt, pb, co, wl, gc, bp, lv, ct)) :
    wpX_seekPeak post (nI N, fi, bg, cb, pt, pb, co, wl, gc, bp, lv, ct) c0 c1 c2 s := by
  refine ⟨N + 1, ?_⟩
  refine xs_13 hW hN h0 h1 h2 hs (fun cb pt pb ct hI => ?_) N (N + 1) 0 cb 0 0 ct (by omega) (by omega) ?_
  · obtain ⟨t, b, k1, k2, k3⟩ := hI
    refine hp _ _ _ _ t b k1 k2 (pq_iff (fun s d => ?_) k3)
    constructor
    · rintro ⟨u, v, w, hu, hv, hw, k⟩
      obtain ⟨u, v, w, j1, j2, j3, j4, j5, j6⟩ := cm_sort (P := fun x => x < N) (K := cm_K A N Ex C0 C1 C2 s d) cm_K1 cm_K2 cm_Kne hu hv hw k
      exact ⟨u, v, w, Or.inl j3, j1, j2, j5, j6⟩
    · rintro ⟨u, v, w, _, j1, j2, j3, j4⟩
      exact ⟨u, v, w, by omega, by omega, j3, j4⟩
  · refine ⟨0, 0, ir_lup _ ir_l0 (by decide), ir_lup _ ir_l0 (by decide), Or.inl ⟨rfl, rfl, ?_⟩⟩
    rintro s d ⟨u', v', w', j1, j2, j3, j4, j5⟩
    omega
end
end
section
/-! ===== the reference: corners ===== -/
def wg_s (p : Nat) : Nat := if p < 6 then p + 6 else if p % 2 = 0 then p / 2 else p / 2 - 3
def wg_t (w : Nat) : Nat := if 6 ≤ w then w - 6 else if w < 3 then 2 * w + 7 else 2 * w
theorem wg_lo {p : Nat} (h : p < 6) : wg_s p = p + 6 := if_pos h
theorem wg_hi {p : Nat} (h : 6 ≤ p) (h' : p < 12) : wg_s p < 6 := by
  unfold wg_s
  rw [if_neg (by omega)]
  by_cases e : p % 2 = 0
  · rw [if_pos e]; omega
  · rw [if_neg e]; omega
theorem wg_ts {w : Nat} (h : w < 12) : wg_s (wg_t w) = w := by
  unfold wg_t
  by_cases a : 6 ≤ w
  · rw [if_pos a, wg_lo (by omega)]; omega
  · rw [if_neg a]
    by_cases b : w < 3
    · rw [if_pos b]
      unfold wg_s
      rw [if_neg (by omega), if_neg (by omega)]
      omega
    · rw [if_neg b]
      unfold wg_s
      rw [if_neg (by omega), if_pos (by omega)]
      omega
theorem wg_tn {w n : Nat} (h : w < 6 + n) (hn : n ≤ 6) : wg_t w < 12 ∧ (6 ≤ wg_t w ∨ wg_t w < n) := by
  unfold wg_t
  by_cases a : 6 ≤ w
  · rw [if_pos a]; omega
  · rw [if_neg a]
    by_cases b : w < 3
    · rw [if_pos b]; omega
    · rw [if_neg b]; omega
theorem wg_sn {p n : Nat} (h : p < 12) (hc : 6 ≤ p ∨ p < n) (hn : n ≤ 6) : wg_s p < 6 + n := by
  by_cases a : p < 6
  · rw [wg_lo a]; omega
  · have := wg_hi (p := p) (by omega) h
    omega
/-- plane p stands for a row of the table -/
def ya_R (pl : Nat → Int32) (A : Nat → Nat → Int) (p : Nat) : Prop := p < 12 ∧ ∀ i, i < 4 → ir_I (pl (4 * p + i)) (A (wg_s p) i) 99
/-- the planes that count -/
def ya_C (n : Nat) (Ex : Nat → Prop) (p : Nat) : Prop := (6 ≤ p ∨ p < n) ∧ ¬ Ex (wg_s p)
theorem yc_i (p c : Nat) : 4 * nI p + nI c = nI (4 * p + c) := by
  rw [← nI_add, ← pk_mul]; rfl
def yd_c (j t : Nat) : Nat := if j = t then 3 else j
theorem yd_c4 {j t : Nat} (h : j < 3) : yd_c j t < 4 := by
  unfold yd_c
  by_cases e : j = t
  · rw [if_pos e]; omega
  · rw [if_neg e]; omega
theorem yd_br {j t : Nat} (hj : j < 3) (ht : t < 4) (W : Int32 → Prop) (h : W (nI (yd_c j t))) : (nI j = nI t → W 3) ∧ (¬ nI j = nI t → W (nI j)) := by
  constructor
  · intro e
    rw [nI_eq (by omega) (by omega)] at e
    rw [yd_c, if_pos e] at h
    exact h
  · intro e
    rw [nI_eq (by omega) (by omega)] at e
    rw [yd_c, if_neg e] at h
    exact h
def yd_1 (A : Nat → Nat → Int) (p q r t i : Nat) : Int := A p (yd_c i t) * (A q (yd_c ((i + 1) % 3) t) * A r (yd_c ((i + 2) % 3) t) - A q (yd_c ((i + 2) % 3) t) * A r (yd_c ((i + 1) % 3) t))
theorem yd_d (A : Nat → Nat → Int) (p q r : Nat) : 0 + yd_1 A p q r 3 0 + yd_1 A p q r 3 1 + yd_1 A p q r 3 2 = cm_d A p q r := by
  unfold yd_1 cm_d cm_x yd_c
  simp
theorem yd_t {A : Nat → Nat → Int} {p q r t : Nat} (h : t < 3) : 0 + yd_1 A p q r t 0 + yd_1 A p q r t 1 + yd_1 A p q r t 2 = cm_t A p q r t := by
  match t, h with
  | 0, _ =>
    unfold yd_1 cm_t cm_x yd_c
    simp
    grind
  | 1, _ =>
    unfold yd_1 cm_t cm_x yd_c
    simp
    grind
  | 2, _ =>
    unfold yd_1 cm_t cm_x yd_c
    simp
    grind
section
variable {fn fo : Int32} {to bo : Int64} {ts go pl : Nat → Int32} {cr : Nat → Int64} {A : Nat → Nat → Int} {n : Nat} {Ex : Nat → Prop}
theorem yd_step {post : Int64 → Prop} {p q r t i m : Nat} (hp : ya_R pl A p) (hq : ya_R pl A q) (hr : ya_R pl A r) (ht : t < 4) (hi : i < 3) {x5 : Int64} {X5 : Int} {B : Nat} (hx : ir_L x5 X5 B) (hB : B ≤ 4000000)
    (hP : ∀ x5', ir_L x5' (X5 + yd_1 (fun x y => A (wg_s x) y) p q r t i) (B + 1940598) → wY_determinant_6 post (nI p) (nI q) (nI r) (nI t) fn fo to bo ts go pl cr m x5' (nI (i + 1))) :
    wY_determinant_6 post (nI p) (nI q) (nI r) (nI t) fn fo to bo ts go pl cr (m + 1) x5 (nI i) := by
  have e1 : nI i + 1 - (nI i + 1) / 3 * 3 = nI ((i + 1) % 3) := by
    rw [nI_1]; exact pk_rem (d := 3) (by omega) (by omega) (by omega)
  have e2 : nI i + 2 - (nI i + 2) / 3 * 3 = nI ((i + 2) % 3) := by
    rw [show nI i + 2 = nI (i + 2) from nI_add i 2]; exact pk_rem (d := 3) (by omega) (by omega) (by omega)
  have j1 : (i + 1) % 3 < 3 := Nat.mod_lt _ (by omega)
  have j2 : (i + 2) % 3 < 3 := Nat.mod_lt _ (by omega)
  unfold yd_1 at hP
  generalize (i + 1) % 3 = j at *
  generalize (i + 2) % 3 = k at *
  have a0 := yd_c4 (j := i) (t := t) hi
  have a1 := yd_c4 (j := j) (t := t) j1
  have a2 := yd_c4 (j := k) (t := t) j2
  have q0 := hp.1
  have q1 := hq.1
  have q2 := hr.1
  refine br_f (nI_ge (b := 3) (a := i) hi (by omega)) ⟨by decide, nm_r e1 ⟨by decide, nm_r e2 ?_⟩⟩
  refine yd_br hi ht (fun z => wY_determinant_52 post (wY_determinant_6 post (nI p) (nI q) (nI r) (nI t) fn fo to bo ts go pl cr m) (nI p) (nI q) (nI r) (nI t) x5 (nI i) (nI j) (nI k) z (4 * nI p) fn fo to bo ts go pl cr) ?_
  generalize yd_c i t = c0 at *
  refine ⟨by rw [yc_i]; exact vp_in_nI (by omega) (by omega), nm_r (e' := (pl (4 * p + c0)).toInt64) (by rw [yc_i, nI_clamp (by omega)]) ?_⟩
  refine yd_br j1 ht (fun z => wY_determinant_77 post (wY_determinant_6 post (nI p) (nI q) (nI r) (nI t) fn fo to bo ts go pl cr m) (nI p) (nI q) (nI r) (nI t) x5 (nI i) (nI j) (nI k) (pl (4 * p + c0)).toInt64 z (4 * nI q) fn fo to bo ts go pl cr) ?_
  generalize ec1 : yd_c j t = c1 at *
  refine ⟨by rw [yc_i]; exact vp_in_nI (by omega) (by omega), nm_r (e' := (pl (4 * q + c1)).toInt64) (by rw [yc_i, nI_clamp (by omega)]) ?_⟩
  refine yd_br j2 ht (fun z => wY_determinant_102 post (wY_determinant_6 post (nI p) (nI q) (nI r) (nI t) fn fo to bo ts go pl cr m) (nI p) (nI q) (nI r) (nI t) x5 (nI i) (nI j) (nI k) (pl (4 * p + c0)).toInt64 (pl (4 * q + c1)).toInt64 z (4 * nI r) fn fo to bo ts go pl cr) ?_
  generalize ec2 : yd_c k t = c2 at *
  refine ⟨by rw [yc_i]; exact vp_in_nI (by omega) (by omega), nm_r (e' := (pl (4 * r + c2)).toInt64) (by rw [yc_i, nI_clamp (by omega)]) ?_⟩
  refine yd_br j2 ht (fun z => wY_determinant_127 post (wY_determinant_6 post (nI p) (nI q) (nI r) (nI t) fn fo to bo ts go pl cr m) (nI p) (nI q) (nI r) (nI t) x5 (nI i) (nI j) (pl (4 * p + c0)).toInt64 (pl (4 * q + c1)).toInt64 (pl (4 * r + c2)).toInt64 z (4 * nI q) fn fo to bo ts go pl cr) ?_
  rw [ec2]
  refine ⟨by rw [yc_i]; exact vp_in_nI (by omega) (by omega), nm_r (e' := (pl (4 * q + c2)).toInt64) (by rw [yc_i, nI_clamp (by omega)]) ?_⟩
  refine yd_br j1 ht (fun z => wY_determinant_152 post (wY_determinant_6 post (nI p) (nI q) (nI r) (nI t) fn fo to bo ts go pl cr m) (nI p) (nI q) (nI r) (nI t) x5 (nI i) (pl (4 * p + c0)).toInt64 (pl (4 * q + c1)).toInt64 (pl (4 * r + c2)).toInt64 (pl (4 * q + c2)).toInt64 z (4 * nI r) fn fo to bo ts go pl cr) ?_
  rw [ec1]
  refine ⟨by rw [yc_i]; exact vp_in_nI (by omega) (by omega), nm_r (e' := (pl (4 * r + c1)).toInt64) (by rw [yc_i, nI_clamp (by omega)]) (nm_e (nm_r (nI_1 i) ?_))⟩
  exact hP _ (ir_ladd hx (ir_lmul (ir_il (hp.2 c0 a0)) (ir_lsub (ir_lmul (ir_il (hq.2 c1 a1)) (ir_il (hr.2 c2 a2)) (by decide)) (ir_lmul (ir_il (hq.2 c2 a2)) (ir_il (hr.2 c1 a1)) (by decide)) (by decide)) (by decide)) (by omega))
theorem yd_all {post : Int64 → Prop} {p q r t : Nat} (hp : ya_R pl A p) (hq : ya_R pl A q) (hr : ya_R pl A r) (ht : t < 4)
    (hP : ∀ d, ir_L d (0 + yd_1 (fun x y => A (wg_s x) y) p q r t 0 + yd_1 (fun x y => A (wg_s x) y) p q r t 1 + yd_1 (fun x y => A (wg_s x) y) p q r t 2) 5821794 → post d) :
    wpY_determinant post (fn, fo, to, bo, ts, go, pl, cr) (nI p) (nI q) (nI r) (nI t) := by
  refine ⟨4, ?_⟩
  refine yd_step (i := 0) hp hq hr ht (by omega) ir_l0 (by omega) (fun y0 hy0 => ?_)
  refine yd_step (i := 1) hp hq hr ht (by omega) hy0 (by omega) (fun y1 hy1 => ?_)
  refine yd_step (i := 2) hp hq hr ht (by omega) hy1 (by omega) (fun y2 hy2 => ?_)
  exact br_t (nI_le (a := 3) (b := 3) (by omega) (by omega)) (hP _ hy2)
theorem yd_det {post : Int64 → Prop} {p q r : Nat} (hp : ya_R pl A p) (hq : ya_R pl A q) (hr : ya_R pl A r)
    (hP : ∀ d, ir_L d (cm_d A (wg_s p) (wg_s q) (wg_s r)) 5821794 → post d) : wpY_determinant post (fn, fo, to, bo, ts, go, pl, cr) (nI p) (nI q) (nI r) 3 := by
  refine yd_all (t := 3) hp hq hr (by omega) (fun d hd => hP d ?_)
  rw [yd_d] at hd
  exact hd
theorem yd_top {post : Int64 → Prop} {p q r t : Nat} (hp : ya_R pl A p) (hq : ya_R pl A q) (hr : ya_R pl A r) (ht : t < 3)
    (hP : ∀ d, ir_L d (cm_t A (wg_s p) (wg_s q) (wg_s r) t) 5821794 → post d) : wpY_determinant post (fn, fo, to, bo, ts, go, pl, cr) (nI p) (nI q) (nI r) (nI t) := by
  refine yd_all hp hq hr (by omega) (fun d hd => hP d ?_)
  rw [yd_t ht] at hd
  exact hd
theorem yc_counts {post : Int32 → Prop} {out : Int32} {k : Nat} (hk : k < 12) (hn : n ≤ 6) (ho : ∀ x, x < 6 → (nI x = out ↔ Ex (wg_s x))) (hs : ∀ x, 6 ≤ x → x < 12 → ¬ Ex (wg_s x)) (hT : ya_C n Ex k → post 1) (hF : ¬ ya_C n Ex k → post 0) : wpY_counts post (nI n, fo, to, bo, ts, go, pl, cr) (nI k) out := by
  refine pk_le 6 k (fun h => hT ⟨Or.inl h, hs k h hk⟩) (fun h => ?_)
  refine pk_le n k (fun h' => hF (fun c => ?_)) (fun h' => ?_)
  · have := c.1
    omega
  · exact ir_if (ho k h) (fun z => hF (fun c => c.2 z)) (fun z => hT ⟨Or.inr h', z⟩)
theorem yc_91 {post : Int32 → SY → Prop} {out : Int32} {T0 T1 T2 B : Int} (hn : n ≤ 6) (ho : ∀ x, x < 6 → (nI x = out ↔ Ex (wg_s x))) (hs : ∀ x, 6 ≤ x → x < 12 → ¬ Ex (wg_s x)) (hR : ∀ x, x < 12 → (6 ≤ x ∨ x < n) → ya_R pl A x)
    (h0 : ir_L (cr 0) T0 5821794) (h1 : ir_L (cr 1) T1 5821794) (h2 : ir_L (cr 2) T2 5821794) (hb : ir_L (cr 3) B 5821794)
    (hT : (∀ x, x < 12 → ya_C n Ex x → A (wg_s x) 0 * T0 + A (wg_s x) 1 * T1 + A (wg_s x) 2 * T2 ≤ A (wg_s x) 3 * B) → post 1 (nI n, fo, to, bo, ts, go, pl, cr))
    (hF : ¬ (∀ x, x < 12 → ya_C n Ex x → A (wg_s x) 0 * T0 + A (wg_s x) 1 * T1 + A (wg_s x) 2 * T2 ≤ A (wg_s x) 3 * B) → post 0 (nI n, fo, to, bo, ts, go, pl, cr)) :
    ∀ (m f x : Nat), x + m = 12 → m < f → (∀ y, y < x → ya_C n Ex y → A (wg_s y) 0 * T0 + A (wg_s y) 1 * T1 + A (wg_s y) 2 * T2 ≤ A (wg_s y) 3 * B) → wY_corner_91 post out (nI n) fo to bo ts go pl cr f (nI x) := by
  intro m
  induction m with
  | zero =>
    intro f x hx hf hI
    obtain ⟨f, rfl⟩ : ∃ f', f = f' + 1 := ⟨f - 1, by omega⟩
    exact br_t (nI_le (a := 12) (by omega) (by omega)) (hT (fun y hy => hI y (by omega)))
  | succ m ih =>
    intro f x hx hf hI
    obtain ⟨f, rfl⟩ : ∃ f', f = f' + 1 := ⟨f - 1, by omega⟩
    have e0 : 4 * nI x = nI (4 * x + 0) := pk_mul 4 x
    have e1 : 4 * nI x + 1 = nI (4 * x + 1) := yc_i x 1
    have e2 : 4 * nI x + 2 = nI (4 * x + 2) := yc_i x 2
    have e3 : 4 * nI x + 3 = nI (4 * x + 3) := yc_i x 3
    refine br_f (nI_ge (b := 12) (a := x) (by omega) (by omega)) ⟨by rw [e0]; exact vp_in_nI (by omega) (by omega), by rw [e1]; exact vp_in_nI (by omega) (by omega), by rw [e2]; exact vp_in_nI (by omega) (by omega), ?_⟩
    refine nm_r (e' := (pl (4 * x + 0)).toInt64 * cr 0 + (pl (4 * x + 1)).toInt64 * cr 1 + (pl (4 * x + 2)).toInt64 * cr 2) (by rw [e1, e2, e0, nI_clamp (by omega), nI_clamp (by omega), nI_clamp (by omega)]) ?_
    refine yc_counts (by omega) hn ho hs (fun c => ?_) (fun c => ?_)
    · refine br_f (by decide) ⟨by rw [e3]; exact vp_in_nI (by omega) (by omega), ?_⟩
      rw [e3, nI_clamp (by omega)]
      have R := hR x (by omega) c.1
      have hsum := ir_ladd (ir_ladd (ir_lmul (ir_il (R.2 0 (by omega))) h0 (by decide)) (ir_lmul (ir_il (R.2 1 (by omega))) h1 (by decide)) (by decide)) (ir_lmul (ir_il (R.2 2 (by omega))) h2 (by decide)) (by decide)
      refine ir_if (ir_lle hsum (ir_lmul (ir_il (R.2 3 (by omega))) hb (by decide))) (fun k => nm_r (nI_1 x) ?_) (fun k => hF (fun al => k (al x (by omega) c)))
      exact ih f (x + 1) (by omega) (by omega) (fun y hy hE => if e : y = x then e ▸ k else hI y (by omega) hE)
    · refine br_t rfl (nm_r (nI_1 x) ?_)
      exact ih f (x + 1) (by omega) (by omega) (fun y hy hE => if e : y = x then absurd (e ▸ hE) c else hI y (by omega) hE)
end
end
section
/-! ===== the reference: the search ===== -/
/-- all planes that count keep it, all walls that aren't left out keep it: the same -/
theorem yc_same {A : Nat → Nat → Int} {n : Nat} {Ex : Nat → Prop} (hn : n ≤ 6) (P : Nat → Prop) : (∀ x, x < 12 → ya_C n Ex x → P (wg_s x)) ↔ (∀ x, x < 6 + n → ¬ Ex x → P x) := by
  constructor
  · intro h x hx hE
    have e := wg_ts (w := x) (by omega)
    obtain ⟨a, b⟩ := wg_tn hx hn
    have := h (wg_t x) a ⟨b, by rw [e]; exact hE⟩
    rw [e] at this
    exact this
  · intro h x hx hc
    exact h _ (wg_sn hx hc.1 hn) hc.2
section
variable {fn fo : Int32} {to bo : Int64} {ts go pl : Nat → Int32} {cr : Nat → Int64} {A : Nat → Nat → Int} {n : Nat} {Ex : Nat → Prop}
theorem yc_step {post : Int32 → SY → Prop} {p q r i m : Nat} {out : Int32} (hp : ya_R pl A p) (hq : ya_R pl A q) (hr : ya_R pl A r) (hi : i < 3) {x5 : Int64} (hx : ir_L x5 (cm_d A (wg_s p) (wg_s q) (wg_s r)) 5821794)
    (hP : ∀ v, ir_L v (cm_n A (wg_s p) (wg_s q) (wg_s r) i) 5821794 → wY_corner_22 post (nI p) (nI q) (nI r) out x5 fn fo to bo m (nI (i + 1)) ts go pl (vp_updL cr i v)) :
    wY_corner_22 post (nI p) (nI q) (nI r) out x5 fn fo to bo (m + 1) (nI i) ts go pl cr := by
  refine br_f (nI_ge (b := 3) (a := i) hi (by omega)) ?_
  refine yd_top hp hq hr hi (fun d hd => ?_)
  refine ir_if (ir_lle ir_l0 hx) (fun z => ⟨vp_in_nI (by omega) (by omega), nm_r (e' := vp_updL cr i d) (by rw [nI_clamp (by omega)]) (nm_r (nI_1 i) (hP _ ?_))⟩) (fun z => ⟨vp_in_nI (by omega) (by omega), nm_r (e' := vp_updL cr i (-d)) (by rw [nI_clamp (by omega)]) (nm_r (nI_1 i) (hP _ ?_))⟩)
  · have es : cm_s A (wg_s p) (wg_s q) (wg_s r) = 1 := if_neg (by omega)
    rw [cm_n, es, Int.one_mul]; exact hd
  · have es : cm_s A (wg_s p) (wg_s q) (wg_s r) = -1 := if_pos (by omega)
    rw [cm_n, es, Int.neg_one_mul]; exact ir_lneg hd (by decide)
/-- what corner answers and leaves -/
theorem yc_corner {post : Int32 → SY → Prop} {p q r : Nat} {out : Int32} (hn : n ≤ 6) (ho : ∀ x, x < 6 → (nI x = out ↔ Ex (wg_s x))) (hs : ∀ x, 6 ≤ x → x < 12 → ¬ Ex (wg_s x)) (hR : ∀ x, x < 12 → (6 ≤ x ∨ x < n) → ya_R pl A x) (hp : ya_R pl A p) (hq : ya_R pl A q) (hr : ya_R pl A r)
    (hF : ∀ cr, ¬ cm_G A (6 + n) Ex (wg_s p) (wg_s q) (wg_s r) → post 0 (nI n, fo, to, bo, ts, go, pl, cr))
    (hT : ∀ cr, cm_G A (6 + n) Ex (wg_s p) (wg_s q) (wg_s r) → ir_L (cr 3) (cm_b A (wg_s p) (wg_s q) (wg_s r)) 5821794 → (∀ i, i < 3 → ir_L (cr i) (cm_n A (wg_s p) (wg_s q) (wg_s r) i) 5821794) → post 1 (nI n, fo, to, bo, ts, go, pl, cr)) :
    wpY_corner post (nI n, fo, to, bo, ts, go, pl, cr) (nI p) (nI q) (nI r) out := by
  refine yd_det hp hq hr (fun d hd => ?_)
  refine ir_if (ir_leq hd ir_l0) (fun z => hF _ (fun g => g.1 z)) (fun z => ⟨4, ?_⟩)
  refine yc_step (i := 0) hp hq hr (by omega) hd (fun v0 k0 => ?_)
  refine yc_step (i := 1) hp hq hr (by omega) hd (fun v1 k1 => ?_)
  refine yc_step (i := 2) hp hq hr (by omega) hd (fun v2 k2 => ?_)
  refine br_t (nI_le (a := 3) (b := 3) (by omega) (by omega)) ?_
  have fin : ∀ v3, ir_L v3 (cm_b A (wg_s p) (wg_s q) (wg_s r)) 5821794 → ∃ n91, wY_corner_91 post out (nI n) fo to bo ts go pl (vp_updL (vp_updL (vp_updL (vp_updL cr 0 v0) 1 v1) 2 v2) 3 v3) n91 0 := by
    intro v3 k3
    refine ⟨13, ?_⟩
    refine yc_91 (T0 := cm_n A (wg_s p) (wg_s q) (wg_s r) 0) (T1 := cm_n A (wg_s p) (wg_s q) (wg_s r) 1) (T2 := cm_n A (wg_s p) (wg_s q) (wg_s r) 2) (B := cm_b A (wg_s p) (wg_s q) (wg_s r)) hn ho hs hR k0 k1 k2 k3 (fun al => ?_) (fun al => ?_) 12 13 0 (by omega) (by omega) (fun y hy => absurd hy (by omega))
    · refine hT _ ⟨z, (yc_same (A := A) hn (fun x => A x 0 * cm_n A (wg_s p) (wg_s q) (wg_s r) 0 + A x 1 * cm_n A (wg_s p) (wg_s q) (wg_s r) 1 + A x 2 * cm_n A (wg_s p) (wg_s q) (wg_s r) 2 ≤ A x 3 * cm_b A (wg_s p) (wg_s q) (wg_s r))).mp al⟩ k3 ?_
      intro i hi
      match i, hi with
      | 0, _ => exact k0
      | 1, _ => exact k1
      | 2, _ => exact k2
    · exact hF _ (fun g => al ((yc_same (A := A) hn (fun x => A x 0 * cm_n A (wg_s p) (wg_s q) (wg_s r) 0 + A x 1 * cm_n A (wg_s p) (wg_s q) (wg_s r) 1 + A x 2 * cm_n A (wg_s p) (wg_s q) (wg_s r) 2 ≤ A x 3 * cm_b A (wg_s p) (wg_s q) (wg_s r))).mpr g.2))
  refine ir_if (ir_lle ir_l0 hd) (fun y => nm_e (fin _ ?_)) (fun y => nm_e (fin _ ?_))
  · have es : cm_s A (wg_s p) (wg_s q) (wg_s r) = 1 := if_neg (by omega)
    rw [cm_b, es, Int.one_mul]; exact hd
  · have es : cm_s A (wg_s p) (wg_s q) (wg_s r) = -1 := if_pos (by omega)
    rw [cm_b, es, Int.neg_one_mul]; exact ir_lneg hd (by decide)
end
/-- the reference's greatest so far -/
def ys_F (S : Int → Int → Prop) (fo : Int32) (to bo : Int64) : Prop := (fo = 0 ∧ to = 0 ∧ bo = 1 ∧ pq_K S 0 0) ∨ (fo = 1 ∧ ∃ t b, b ≠ 0 ∧ ir_L to t 1729072818 ∧ ir_L bo b 5821794 ∧ pq_K S t b)
theorem ys_iff {S S' : Int → Int → Prop} {fo : Int32} {to bo : Int64} (e : ∀ s d, S' s d ↔ S s d) (h : ys_F S fo to bo) : ys_F S' fo to bo := by
  rcases h with ⟨h1, h2, h3, h4⟩ | ⟨h1, t, b, h2, h3, h4, h5⟩
  · exact Or.inl ⟨h1, h2, h3, pq_iff e h4⟩
  · exact Or.inr ⟨h1, t, b, h2, h3, h4, pq_iff e h5⟩
/-- the corners that the reference has looked at -/
def ys_S (A : Nat → Nat → Int) (n : Nat) (Ex : Nat → Prop) (C0 C1 C2 : Int) (a r : Nat) (s d : Int) : Prop := ∃ p q r', (p * 12 + q < a ∨ (p * 12 + q = a ∧ r' < r)) ∧ p < q ∧ q < r' ∧ r' < 12 ∧ (ya_C n Ex p ∧ ya_C n Ex q ∧ ya_C n Ex r') ∧ cm_K A (6 + n) Ex C0 C1 C2 s d (wg_s p) (wg_s q) (wg_s r')
section
variable {fn fo : Int32} {to bo : Int64} {ts go pl : Nat → Int32} {cr : Nat → Int64} {A : Nat → Nat → Int} {n : Nat} {Ex : Nat → Prop} {c0 c1 c2 out : Int32} {C0 C1 C2 : Int}
theorem ys_look {post : SY → Prop} {T0 T1 T2 D : Int} {S S' : Int → Int → Prop} (h0 : ir_I c0 C0 99) (h1 : ir_I c1 C1 99) (h2 : ir_I c2 C2 99) (k0 : ir_L (cr 0) T0 5821794) (k1 : ir_L (cr 1) T1 5821794) (k2 : ir_L (cr 2) T2 5821794) (k3 : ir_L (cr 3) D 5821794) (hD : 0 < D)
    (hI : ys_F S fo to bo) (hSp : ∀ s d, S s d → 0 < d) (e : ∀ s d, S' s d ↔ S s d ∨ (s = C0 * T0 + C1 * T1 + C2 * T2 ∧ d = D))
    (hp : ∀ fo to bo, ys_F S' fo to bo → post (fn, fo, to, bo, ts, go, pl, cr)) : wpY_look post (fn, fo, to, bo, ts, go, pl, cr) c0 c1 c2 := by
  have hx := ir_ladd (ir_ladd (ir_lmul (ir_il h0) k0 (by decide)) (ir_lmul (ir_il h1) k1 (by decide)) (by decide)) (ir_lmul (ir_il h2) k2 (by decide)) (by decide)
  rcases hI with ⟨z1, z2, z3, z4⟩ | ⟨z1, t, b, z2, z3, z4, z5⟩
  · exact nm_e (br_t z1 (nm_e (hp _ _ _ (Or.inr ⟨rfl, _, _, by omega, hx, k3, pq_first e z4 rfl hD⟩))))
  · refine nm_e (br_f (by rw [z1]; decide) ?_)
    refine ir_if (ir_lle (ir_lmul hx z4 (by decide)) (ir_lmul z3 k3 (by decide))) (fun k => ?_) (fun k => ?_)
    · exact hp _ _ _ (Or.inr ⟨z1, t, b, z2, z3, z4, pq_keep e z5 z2 k⟩)
    · exact nm_e (hp _ _ _ (Or.inr ⟨rfl, _, _, by omega, hx, k3, pq_new e hSp z5 z2 hD k⟩))
theorem ys_29 {post : SY → Prop} {J18 : Int32 → Int32 → Int32 → Int64 → Int64 → (Nat → Int32) → (Nat → Int32) → (Nat → Int32) → (Nat → Int64) → Prop} (hn : n ≤ 6) (ho : ∀ x, x < 6 → (nI x = out ↔ Ex (wg_s x))) (hs : ∀ x, 6 ≤ x → x < 12 → ¬ Ex (wg_s x)) (hR : ∀ x, x < 12 → (6 ≤ x ∨ x < n) → ya_R pl A x) (h0 : ir_I c0 C0 99) (h1 : ir_I c1 C1 99) (h2 : ir_I c2 C2 99) {a : Nat} (ha : a < 144)
    (hJ : ∀ fo to bo cr, ys_F (ys_S A n Ex C0 C1 C2 a 12) fo to bo → J18 (nI (a + 1)) (nI n) fo to bo ts go pl cr) :
    ∀ (m f r : Nat) (fo : Int32) (to bo : Int64) (cr : Nat → Int64), r + m = 12 → m < f → ys_F (ys_S A n Ex C0 C1 C2 a r) fo to bo → wY_search_29 post J18 c0 c1 c2 out (nI a) f (nI r) (nI n) fo to bo ts go pl cr := by
  intro m
  induction m with
  | zero =>
    intro f r fo to bo cr hr hf hI
    obtain ⟨f, rfl⟩ : ∃ f', f = f' + 1 := ⟨f - 1, by omega⟩
    have e : r = 12 := by omega
    subst e
    exact br_t (nI_le (a := 12) (b := 12) (by omega) (by omega)) (nm_r (nI_1 a) (hJ _ _ _ _ hI))
  | succ m ih =>
    intro f r fo to bo cr hr hf hI
    obtain ⟨f, rfl⟩ : ∃ f', f = f' + 1 := ⟨f - 1, by omega⟩
    have ed : nI a / 12 = nI (a / 12) := pk_div (d := 12) (by omega) (by omega) (by omega)
    have em : nI a - nI a / 12 * 12 = nI (a % 12) := pk_rem (d := 12) (by omega) (by omega) (by omega)
    have next : ∀ fo to bo cr, ys_F (ys_S A n Ex C0 C1 C2 a (r + 1)) fo to bo → wY_search_29 post J18 c0 c1 c2 out (nI a) f (nI (r + 1)) (nI n) fo to bo ts go pl cr := fun fo to bo cr h => ih f (r + 1) fo to bo cr (by omega) (by omega) h
    have skip : ¬ (a / 12 < a % 12 ∧ a % 12 < r ∧ ya_C n Ex (a / 12) ∧ ya_C n Ex (a % 12) ∧ ya_C n Ex r) → wY_search_102 post J18 (wY_search_29 post J18 c0 c1 c2 out (nI a) f) c0 c1 c2 out (nI a) (nI r) (nI (a / 12)) (nI (a % 12)) 0 (nI n) fo to bo ts go pl cr := by
      intro z
      refine br_t rfl (nm_r (nI_1 r) (next _ _ _ _ (ys_iff (fun s d => ?_) hI)))
      constructor
      · rintro ⟨p, q, r', j1, j2, j3, j4, ⟨c1, c2, c3⟩, j5⟩
        refine ⟨p, q, r', ?_, j2, j3, j4, ⟨c1, c2, c3⟩, j5⟩
        by_cases e : p * 12 + q = a ∧ r' = r
        · obtain ⟨e1, rfl⟩ := e
          have ep : p = a / 12 := by omega
          have eq : q = a % 12 := by omega
          rw [ep] at j2 c1
          rw [eq] at j2 j3 c2
          exact absurd ⟨j2, j3, c1, c2, c3⟩ z
        · omega
      · rintro ⟨p, q, r', j1, j2, j3, j4, c, j5⟩
        exact ⟨p, q, r', by omega, j2, j3, j4, c, j5⟩
    refine br_f (nI_ge (b := 12) (a := r) (by omega) (by omega)) ⟨by decide, nm_r ed ⟨by decide, nm_r em ?_⟩⟩
    refine pk_le (a % 12) (a / 12) (fun z => skip (fun k => by have := k.1; omega)) (fun z1 => ?_)
    refine pk_le r (a % 12) (fun z => skip (fun k => by have := k.2.1; omega)) (fun z2 => ?_)
    refine yc_counts (by omega) hn ho hs (fun q1 => br_f (by decide) ?_) (fun q => br_t rfl (skip (fun k => q k.2.2.1)))
    refine yc_counts (by omega) hn ho hs (fun q2 => br_f (by decide) ?_) (fun q => br_t rfl (skip (fun k => q k.2.2.2.1)))
    refine yc_counts (by omega) hn ho hs (fun q3 => br_f (by decide) ?_) (fun q => br_t rfl (skip (fun k => q k.2.2.2.2)))
    have three : ∀ s d, ys_S A n Ex C0 C1 C2 a (r + 1) s d ↔ ys_S A n Ex C0 C1 C2 a r s d ∨ cm_K A (6 + n) Ex C0 C1 C2 s d (wg_s (a / 12)) (wg_s (a % 12)) (wg_s r) := by
      intro s d
      constructor
      · rintro ⟨p, q, r', j1, j2, j3, j4, c, j5⟩
        by_cases e : p * 12 + q = a ∧ r' = r
        · obtain ⟨e1, rfl⟩ := e
          have ep : p = a / 12 := by omega
          have eq : q = a % 12 := by omega
          rw [ep, eq] at j5
          exact Or.inr j5
        · exact Or.inl ⟨p, q, r', by omega, j2, j3, j4, c, j5⟩
      · rintro (⟨p, q, r', j1, j2, j3, j4, c, j5⟩ | k)
        · exact ⟨p, q, r', by omega, j2, j3, j4, c, j5⟩
        · exact ⟨a / 12, a % 12, r, by omega, z1, z2, by omega, ⟨q1, q2, q3⟩, k⟩
    refine br_f (by decide) ?_
    refine yc_corner hn ho hs hR (hR _ (by omega) q1.1) (hR _ (by omega) q2.1) (hR _ (by omega) q3.1) (fun cr g => br_t rfl (nm_r (nI_1 r) (next _ _ _ _ (ys_iff (fun s d => ?_) hI)))) (fun cr g hb ht => br_f (by decide) ?_)
    · exact (three s d).trans ⟨fun k => k.elim id (fun k => absurd k.1 g), Or.inl⟩
    · refine ys_look h0 h1 h2 (ht 0 (by omega)) (ht 1 (by omega)) (ht 2 (by omega)) hb (cm_bp g.1) hI ?_ (S' := ys_S A n Ex C0 C1 C2 a (r + 1)) (fun s d => ?_) (fun fo to bo h => nm_r (nI_1 r) (next _ _ _ _ h))
      · rintro s d ⟨p, q, r', _, _, _, _, _, k⟩
        rw [k.2.2]
        exact cm_bp k.1.1
      · exact (three s d).trans ⟨fun k => k.elim Or.inl (fun k => Or.inr k.2), fun k => k.elim Or.inl (fun k => Or.inr ⟨g, k⟩)⟩
theorem ys_18 {post : SY → Prop} (hn : n ≤ 6) (ho : ∀ x, x < 6 → (nI x = out ↔ Ex (wg_s x))) (hs : ∀ x, 6 ≤ x → x < 12 → ¬ Ex (wg_s x)) (hR : ∀ x, x < 12 → (6 ≤ x ∨ x < n) → ya_R pl A x) (h0 : ir_I c0 C0 99) (h1 : ir_I c1 C1 99) (h2 : ir_I c2 C2 99)
    (hp : ∀ fo to bo cr, ys_F (ys_S A n Ex C0 C1 C2 144 0) fo to bo → post (nI n, fo, to, bo, ts, go, pl, cr)) :
    ∀ (m f a : Nat) (fo : Int32) (to bo : Int64) (cr : Nat → Int64), a + m = 144 → m < f → ys_F (ys_S A n Ex C0 C1 C2 a 0) fo to bo → wY_search_18 post c0 c1 c2 out f (nI a) (nI n) fo to bo ts go pl cr := by
  intro m
  induction m with
  | zero =>
    intro f a fo to bo cr ha hf hI
    obtain ⟨f, rfl⟩ : ∃ f', f = f' + 1 := ⟨f - 1, by omega⟩
    have e : a = 144 := by omega
    subst e
    exact br_t (nI_le (a := 144) (b := 144) (by omega) (by omega)) (hp _ _ _ _ hI)
  | succ m ih =>
    intro f a fo to bo cr ha hf hI
    obtain ⟨f, rfl⟩ : ∃ f', f = f' + 1 := ⟨f - 1, by omega⟩
    refine br_f (nI_ge (b := 144) (a := a) (by omega) (by omega)) ⟨13, ?_⟩
    refine ys_29 hn ho hs hR h0 h1 h2 (by omega) (fun fo to bo cr h => ih f (a + 1) fo to bo cr (by omega) (by omega) (ys_iff (fun s d => ?_) h)) 12 13 0 fo to bo cr (by omega) (by omega) hI
    constructor
    · rintro ⟨p, q, r', j1, j2, j3, j4, c, j5⟩
      exact ⟨p, q, r', by omega, j2, j3, j4, c, j5⟩
    · rintro ⟨p, q, r', j1, j2, j3, j4, c, j5⟩
      exact ⟨p, q, r', by omega, j2, j3, j4, c, j5⟩
/-- what search finds: the greatest of the sums at corners on no plane that is left out -/
theorem ys_search {post : SY → Prop} (hn : n ≤ 6) (ho : ∀ x, x < 6 → (nI x = out ↔ Ex (wg_s x))) (hs : ∀ x, 6 ≤ x → x < 12 → ¬ Ex (wg_s x)) (hR : ∀ x, x < 12 → (6 ≤ x ∨ x < n) → ya_R pl A x) (h0 : ir_I c0 C0 99) (h1 : ir_I c1 C1 99) (h2 : ir_I c2 C2 99)
    (hp : ∀ fo to bo cr, ys_F (cm_E A (6 + n) Ex C0 C1 C2) fo to bo → post (nI n, fo, to, bo, ts, go, pl, cr)) : wpY_search post (nI n, fo, to, bo, ts, go, pl, cr) c0 c1 c2 out := by
  refine ⟨145, ?_⟩
  refine ys_18 hn ho hs hR h0 h1 h2 (fun fo to bo cr h => hp _ _ _ _ (ys_iff (fun s d => ?_) h)) 144 145 0 0 0 1 cr (by omega) (by omega) ?_
  · constructor
    · rintro ⟨u, v, w, ⟨hu, eu⟩, ⟨hv, ev⟩, ⟨hw, ew⟩, k⟩
      have tu := wg_ts (w := u) (by omega)
      have tv := wg_ts (w := v) (by omega)
      have tw := wg_ts (w := w) (by omega)
      obtain ⟨a1, b1⟩ := wg_tn hu hn
      obtain ⟨a2, b2⟩ := wg_tn hv hn
      obtain ⟨a3, b3⟩ := wg_tn hw hn
      obtain ⟨p, q, r, j1, j2, j3, j4, j5, j6⟩ := cm_sort (P := fun x => x < 12 ∧ ya_C n Ex x) (K := fun p q r => cm_K A (6 + n) Ex C0 C1 C2 s d (wg_s p) (wg_s q) (wg_s r)) (fun _ _ _ => cm_K1 _ _ _) (fun _ _ _ => cm_K2 _ _ _) (fun _ _ _ h => ⟨fun e => (cm_Kne _ _ _ h).1 (by rw [e]), fun e => (cm_Kne _ _ _ h).2.1 (by rw [e]), fun e => (cm_Kne _ _ _ h).2.2 (by rw [e])⟩) (u := wg_t u) (v := wg_t v) (w := wg_t w) ⟨a1, b1, by rw [tu]; exact eu⟩ ⟨a2, b2, by rw [tv]; exact ev⟩ ⟨a3, b3, by rw [tw]; exact ew⟩ (by rw [tu, tv, tw]; exact k)
      have := j5.1
      exact ⟨p, q, r, by omega, j1, j2, j5.1, ⟨j3.2, j4.2, j5.2⟩, j6⟩
    · rintro ⟨p, q, r, j1, j2, j3, j4, ⟨c1, c2, c3⟩, j5⟩
      exact ⟨_, _, _, ⟨wg_sn (by omega) c1.1 hn, c1.2⟩, ⟨wg_sn (by omega) c2.1 hn, c2.2⟩, ⟨wg_sn (by omega) c3.1 hn, c3.2⟩, j5⟩
  · refine Or.inl ⟨rfl, rfl, rfl, Or.inl ⟨rfl, rfl, ?_⟩⟩
    rintro s d ⟨p, q, r', j1, j2, j3, j4, c, j5⟩
    omega
end
end
section
/-! ===== the whole points: what both sides go through ===== -/
def sv_c (F : Nat → Bool) : Nat → Nat
  | 0 => 0
  | p + 1 => if F p = true then sv_c F p + 1 else sv_c F p
def sv_p (g : Nat → Int32) (p : Nat) : Option Nat → Option Nat
  | none => some p
  | some q => if g p ≤ g q then some q else some p
def sv_b (F : Nat → Bool) (g : Nat → Int32) : Nat → Option Nat
  | 0 => none
  | p + 1 => if F p = true then sv_p g p (sv_b F g p) else sv_b F g p
def sv_l (F : Nat → Bool) (h : Nat → Int32) : Nat → Int32
  | 0 => -1002
  | p + 1 => if F p = true then (if h p ≤ sv_l F h p then sv_l F h p else h p) else sv_l F h p
/-- the value of a best point's own number, or NONE -/
def sv_o (h : Nat → Int32) : Option Nat → Int32
  | none => -1002
  | some q => h q
def sv_x (i p : Nat) : Nat := if i = 0 then p / 49 else if i = 1 then p / 7 % 7 else p % 7
def sv_h (i p : Nat) : Int32 := nI (sv_x i p)
def sv_g (gc : Nat → Int32) (p : Nat) : Int32 := gc 0 * sv_h 0 p + gc 1 * sv_h 1 p + gc 2 * sv_h 2 p
/-- point p keeps all walls -/
def sv_F (A : Nat → Nat → Int) (N p : Nat) : Prop := ∀ x, x < N → ¬ False → A x 0 * (sv_x 0 p : Int) + A x 1 * (sv_x 1 p : Int) + A x 2 * (sv_x 2 p : Int) ≤ A x 3 * 1
def sv_I (F : Nat → Bool) (gc : Nat → Int32) (p : Nat) (fi bg : Int32) (bp lv : Nat → Int32) : Prop := fi = nI (sv_c F p) ∧ bg = sv_o (sv_g gc) (sv_b F (sv_g gc) p) ∧ (∀ i, i < 3 → bp i = sv_o (sv_h i) (sv_b F (sv_g gc) p)) ∧ (∀ i, i < 3 → lv i = sv_l F (sv_h i) p)
theorem sv_no {F : Nat → Bool} {gc : Nat → Int32} {p : Nat} {fi bg : Int32} {bp lv : Nat → Int32} (h : F p = false) (I : sv_I F gc p fi bg bp lv) : sv_I F gc (p + 1) fi bg bp lv := by
  obtain ⟨h1, h2, h3, h4⟩ := I
  have n : ¬ F p = true := by rw [h]; decide
  refine ⟨?_, ?_, fun i hi => ?_, fun i hi => ?_⟩
  · rw [sv_c, if_neg n]; exact h1
  · rw [sv_b, if_neg n]; exact h2
  · rw [sv_b, if_neg n]; exact h3 i hi
  · rw [sv_l, if_neg n]; exact h4 i hi
theorem sv_yes {F : Nat → Bool} {gc : Nat → Int32} {p : Nat} {fi bg bg' : Int32} {bp lv bp' lv' : Nat → Int32} (h : F p = true) (hg : ¬ sv_g gc p ≤ -1002) (I : sv_I F gc p fi bg bp lv) (hl : ∀ i, i < 3 → lv' i = if sv_h i p ≤ lv i then lv i else sv_h i p)
    (hb : (sv_g gc p ≤ bg ∧ bg' = bg ∧ bp' = bp) ∨ (¬ sv_g gc p ≤ bg ∧ bg' = sv_g gc p ∧ ∀ i, i < 3 → bp' i = sv_h i p)) : sv_I F gc (p + 1) (fi + 1) bg' bp' lv' := by
  obtain ⟨h1, h2, h3, h4⟩ := I
  have key : bg' = sv_o (sv_g gc) (sv_b F (sv_g gc) (p + 1)) ∧ ∀ i, i < 3 → bp' i = sv_o (sv_h i) (sv_b F (sv_g gc) (p + 1)) := by
    rw [sv_b, if_pos h]
    cases e : sv_b F (sv_g gc) p with
    | none =>
      rw [e] at h2 h3
      rcases hb with ⟨k1, k2, k3⟩ | ⟨k1, k2, k3⟩
      · rw [h2] at k1
        exact absurd k1 hg
      · exact ⟨k2, k3⟩
    | some q =>
      rw [e] at h2 h3
      rcases hb with ⟨k1, k2, k3⟩ | ⟨k1, k2, k3⟩
      · rw [h2] at k1
        have k1' : sv_g gc p ≤ sv_g gc q := k1
        rw [sv_p, if_pos k1', k2, k3]
        exact ⟨h2, h3⟩
      · rw [h2] at k1
        have k1' : ¬ sv_g gc p ≤ sv_g gc q := k1
        rw [sv_p, if_neg k1']
        exact ⟨k2, k3⟩
  refine ⟨?_, key.1, key.2, fun i hi => ?_⟩
  · rw [sv_c, if_pos h, h1, nI_1]
  · rw [sv_l, if_pos h, ← h4 i hi]; exact hl i hi
section
variable {wc fi bg cb : Int32} {pt pb : Int64} {co wl gc bp lv ct : Nat → Int32} {A : Nat → Nat → Int} {N : Nat} {F : Nat → Bool}
theorem xv_note {post : SX → Prop} {i : Nat} {v : Int32} (hi : i < 3) (hp : ∀ lv', (∀ j, j ≠ i → lv' j = lv j) → lv' i = (if v ≤ lv i then lv i else v) → post (wc, fi, bg, cb, pt, pb, co, wl, gc, bp, lv', ct)) : wpX_noteValue post (wc, fi, bg, cb, pt, pb, co, wl, gc, bp, lv, ct) (nI i) v := by
  refine ⟨vp_in_nI (by omega) (by omega), ?_⟩
  rw [nI_clamp (by omega)]
  refine br_c (fun h => hp _ (fun _ _ => rfl) (if_pos h).symm) (fun h => ⟨vp_in_nI (by omega) (by omega), nm_e (hp _ (fun j hj => pk_un hj) ?_)⟩)
  rw [pk_us, if_neg h]
theorem xf_note {post : SX → Prop} {p0 p1 p2 : Int32} (hp : ∀ lv' bg' bp', lv' 0 = (if p0 ≤ lv 0 then lv 0 else p0) → lv' 1 = (if p1 ≤ lv 1 then lv 1 else p1) → lv' 2 = (if p2 ≤ lv 2 then lv 2 else p2) → ((gc 0 * p0 + gc 1 * p1 + gc 2 * p2 ≤ bg ∧ bg' = bg ∧ bp' = bp) ∨ (¬ gc 0 * p0 + gc 1 * p1 + gc 2 * p2 ≤ bg ∧ bg' = gc 0 * p0 + gc 1 * p1 + gc 2 * p2 ∧ bp' 0 = p0 ∧ bp' 1 = p1 ∧ bp' 2 = p2)) → post (wc, fi + 1, bg', cb, pt, pb, co, wl, gc, bp', lv', ct)) : wpX_noteFitPoint post (wc, fi, bg, cb, pt, pb, co, wl, gc, bp, lv, ct) p0 p1 p2 := by
  refine nm_e ?_
  refine xv_note (i := 0) (by omega) (fun l0 a0 b0 => ?_)
  refine xv_note (i := 1) (by omega) (fun l1 a1 b1 => ?_)
  refine xv_note (i := 2) (by omega) (fun l2 a2 b2 => ?_)
  have c0 : l2 0 = (if p0 ≤ lv 0 then lv 0 else p0) := by rw [a2 0 (by omega), a1 0 (by omega)]; exact b0
  have c1 : l2 1 = (if p1 ≤ lv 1 then lv 1 else p1) := by rw [a2 1 (by omega), b1, a0 1 (by omega)]
  have c2 : l2 2 = (if p2 ≤ lv 2 then lv 2 else p2) := by rw [b2, a1 2 (by omega), a0 2 (by omega)]
  refine nm_e (br_c (fun h => hp _ _ _ c0 c1 c2 (Or.inl ⟨h, rfl, rfl⟩)) (fun h => nm_e (nm_e (nm_e (hp _ _ _ c0 c1 c2 (Or.inr ⟨h, rfl, rfl, rfl, rfl⟩))))))
/-- the coordinates of 49 a + 7 b + c -/
theorem sv_at {a b c : Nat} (hb : b < 7) (hc : c < 7) : sv_x 0 (49 * a + 7 * b + c) = a ∧ sv_x 1 (49 * a + 7 * b + c) = b ∧ sv_x 2 (49 * a + 7 * b + c) = c := by
  have e0 : sv_x 0 (49 * a + 7 * b + c) = (49 * a + 7 * b + c) / 49 := if_pos rfl
  have e1 : sv_x 1 (49 * a + 7 * b + c) = (49 * a + 7 * b + c) / 7 % 7 := rfl
  have e2 : sv_x 2 (49 * a + 7 * b + c) = (49 * a + 7 * b + c) % 7 := rfl
  omega
theorem xw_61 {post : SX → Prop} {J45 J53 : Int32 → Int32 → Int32 → Int32 → Int32 → Int64 → Int64 → (Nat → Int32) → (Nat → Int32) → (Nat → Int32) → (Nat → Int32) → (Nat → Int32) → (Nat → Int32) → Prop} (hW : xa_W co wl A N) (hN : N ≤ 12) (hF : ∀ p, p < 343 → (F p = true ↔ sv_F A N p)) (hg : ∀ p, p < 343 → ¬ sv_g gc p ≤ -1002) {a b : Nat} (ha : a < 7) (hb : b < 7)
    (hJ : ∀ fi bg bp lv, sv_I F gc (49 * a + 7 * (b + 1)) fi bg bp lv → J53 (nI (b + 1)) (nI N) fi bg cb pt pb co wl gc bp lv ct) :
    ∀ (m f c : Nat) (fi bg : Int32) (bp lv : Nat → Int32), c + m = 7 → m < f → sv_I F gc (49 * a + 7 * b + c) fi bg bp lv → wX_surveyWholePoints_61 post J45 J53 (nI a) (nI b) f (nI c) (nI N) fi bg cb pt pb co wl gc bp lv ct := by
  intro m
  induction m with
  | zero =>
    intro f c fi bg bp lv hc hf hI
    obtain ⟨f, rfl⟩ : ∃ f', f = f' + 1 := ⟨f - 1, by omega⟩
    have e : c = 7 := by omega
    subst e
    exact br_t (nI_lt (a := 6) (b := 7) (by omega) (by omega)) (nm_r (nI_1 b) (hJ _ _ _ _ hI))
  | succ m ih =>
    intro f c fi bg bp lv hc hf hI
    obtain ⟨f, rfl⟩ : ∃ f', f = f' + 1 := ⟨f - 1, by omega⟩
    obtain ⟨e0, e1, e2⟩ := sv_at (a := a) hb (c := c) (by omega)
    have hp : 49 * a + 7 * b + c < 343 := by omega
    refine br_f (nI_nlt (a := 6) (b := c) (by omega) (by omega)) ?_
    refine xk_keeps (Ex := fun _ => False) (T0 := (a : Int)) (T1 := (b : Int)) (T2 := (c : Int)) (B := 1) hW hN (ir_nI _ (by omega) (by omega)) (ir_nI _ (by omega) (by omega)) (ir_nI _ (by omega) (by omega)) (ir_iup _ ir_i1 (by omega)) (fun x hx => ⟨fun e => ?_, fun e => e.elim⟩) (fun ok => br_f (by decide) ?_) (fun nok => br_t rfl (nm_r (nI_1 c) ?_))
    · have h1 := ir_nI (n := x) 12 (by omega) (by omega)
      have h2 : ir_I (-1) (-1) 1 := ⟨by decide, by decide, by decide⟩
      have := (ir_ieq h1 h2).mp e
      omega
    · have fp : F (49 * a + 7 * b + c) = true := (hF _ hp).mpr (by unfold sv_F; rw [e0, e1, e2]; exact ok)
      have g0 : sv_h 0 (49 * a + 7 * b + c) = nI a := by rw [sv_h, e0]
      have g1 : sv_h 1 (49 * a + 7 * b + c) = nI b := by rw [sv_h, e1]
      have g2 : sv_h 2 (49 * a + 7 * b + c) = nI c := by rw [sv_h, e2]
      have gg : sv_g gc (49 * a + 7 * b + c) = gc 0 * nI a + gc 1 * nI b + gc 2 * nI c := by rw [sv_g, g0, g1, g2]
      refine xf_note (fun lv' bg' bp' l0 l1 l2 hb' => nm_r (nI_1 c) ?_)
      refine ih f (c + 1) _ _ _ _ (by omega) (by omega) (sv_yes (p := 49 * a + 7 * b + c) fp (hg _ hp) hI ?_ ?_)
      · intro i hi
        match i, hi with
        | 0, _ => rw [g0]; exact l0
        | 1, _ => rw [g1]; exact l1
        | 2, _ => rw [g2]; exact l2
      · rw [gg]
        rcases hb' with h | ⟨k1, k2, k3, k4, k5⟩
        · exact Or.inl h
        · refine Or.inr ⟨k1, k2, ?_⟩
          intro i hi
          match i, hi with
          | 0, _ => rw [g0]; exact k3
          | 1, _ => rw [g1]; exact k4
          | 2, _ => rw [g2]; exact k5
    · have fp : F (49 * a + 7 * b + c) = false := by
        cases e : F (49 * a + 7 * b + c) with
        | false => rfl
        | true =>
          have := (hF _ hp).mp e
          unfold sv_F at this
          rw [e0, e1, e2] at this
          exact absurd this nok
      exact ih f (c + 1) _ _ _ _ (by omega) (by omega) (sv_no fp hI)
theorem xw_53 {post : SX → Prop} {J45 : Int32 → Int32 → Int32 → Int32 → Int32 → Int64 → Int64 → (Nat → Int32) → (Nat → Int32) → (Nat → Int32) → (Nat → Int32) → (Nat → Int32) → (Nat → Int32) → Prop} (hW : xa_W co wl A N) (hN : N ≤ 12) (hF : ∀ p, p < 343 → (F p = true ↔ sv_F A N p)) (hg : ∀ p, p < 343 → ¬ sv_g gc p ≤ -1002) {a : Nat} (ha : a < 7)
    (hJ : ∀ fi bg bp lv, sv_I F gc (49 * (a + 1)) fi bg bp lv → J45 (nI (a + 1)) (nI N) fi bg cb pt pb co wl gc bp lv ct) :
    ∀ (m f b : Nat) (fi bg : Int32) (bp lv : Nat → Int32), b + m = 7 → m < f → sv_I F gc (49 * a + 7 * b) fi bg bp lv → wX_surveyWholePoints_53 post J45 (nI a) f (nI b) (nI N) fi bg cb pt pb co wl gc bp lv ct := by
  intro m
  induction m with
  | zero =>
    intro f b fi bg bp lv hb hf hI
    obtain ⟨f, rfl⟩ : ∃ f', f = f' + 1 := ⟨f - 1, by omega⟩
    have e : b = 7 := by omega
    subst e
    exact br_t (nI_lt (a := 6) (b := 7) (by omega) (by omega)) (nm_r (nI_1 a) (hJ _ _ _ _ hI))
  | succ m ih =>
    intro f b fi bg bp lv hb hf hI
    obtain ⟨f, rfl⟩ : ∃ f', f = f' + 1 := ⟨f - 1, by omega⟩
    refine br_f (nI_nlt (a := 6) (b := b) (by omega) (by omega)) ⟨8, ?_⟩
    exact xw_61 hW hN hF hg ha (by omega) (fun fi bg bp lv h => ih f (b + 1) fi bg bp lv (by omega) (by omega) h) 7 8 0 fi bg bp lv (by omega) (by omega) hI
theorem xw_45 {post : SX → Prop} (hW : xa_W co wl A N) (hN : N ≤ 12) (hF : ∀ p, p < 343 → (F p = true ↔ sv_F A N p)) (hg : ∀ p, p < 343 → ¬ sv_g gc p ≤ -1002)
    (hp : ∀ fi bg bp lv, sv_I F gc 343 fi bg bp lv → post (nI N, fi, bg, cb, pt, pb, co, wl, gc, bp, lv, ct)) :
    ∀ (m f a : Nat) (fi bg : Int32) (bp lv : Nat → Int32), a + m = 7 → m < f → sv_I F gc (49 * a) fi bg bp lv → wX_surveyWholePoints_45 post f (nI a) (nI N) fi bg cb pt pb co wl gc bp lv ct := by
  intro m
  induction m with
  | zero =>
    intro f a fi bg bp lv ha hf hI
    obtain ⟨f, rfl⟩ : ∃ f', f = f' + 1 := ⟨f - 1, by omega⟩
    have e : a = 7 := by omega
    subst e
    exact br_t (nI_lt (a := 6) (b := 7) (by omega) (by omega)) (hp _ _ _ _ hI)
  | succ m ih =>
    intro f a fi bg bp lv ha hf hI
    obtain ⟨f, rfl⟩ : ∃ f', f = f' + 1 := ⟨f - 1, by omega⟩
    refine br_f (nI_nlt (a := 6) (b := a) (by omega) (by omega)) ⟨8, ?_⟩
    exact xw_53 hW hN hF hg (by omega) (fun fi bg bp lv h => ih f (a + 1) fi bg bp lv (by omega) (by omega) h) 7 8 0 fi bg bp lv (by omega) (by omega) hI
/-- what the survey leaves -/
theorem xw_survey {post : SX → Prop} (hW : xa_W co wl A N) (hN : N ≤ 12) (hF : ∀ p, p < 343 → (F p = true ↔ sv_F A N p)) (hg : ∀ p, p < 343 → ¬ sv_g gc p ≤ -1002)
    (hp : ∀ fi bg bp lv, sv_I F gc 343 fi bg bp lv → post (nI N, fi, bg, cb, pt, pb, co, wl, gc, bp, lv, ct)) : wpX_surveyWholePoints post (nI N, fi, bg, cb, pt, pb, co, wl, gc, bp, lv, ct) := by
  have v0 : vp_in 0 3 := vp_in_nI (n := 0) (by omega) (by omega)
  have v1 : vp_in (0 + 1) 3 := vp_in_nI (n := 1) (by omega) (by omega)
  have v2 : vp_in (0 + 1 + 1) 3 := vp_in_nI (n := 2) (by omega) (by omega)
  refine ⟨4, br_f (by decide) ⟨v0, nm_e ⟨v0, nm_e (nm_e (br_f (by decide) ⟨v1, nm_e ⟨v1, nm_e (nm_e (br_f (by decide) ⟨v2, nm_e ⟨v2, nm_e (nm_e (br_t (by decide) ⟨8, ?_⟩))⟩⟩))⟩⟩))⟩⟩⟩
  refine xw_45 hW hN hF hg hp 7 8 0 _ _ _ _ (by omega) (by omega) ⟨rfl, rfl, ?_, ?_⟩
  · intro i hi
    match i, hi with
    | 0, _ => rfl
    | 1, _ => rfl
    | 2, _ => rfl
  · intro i hi
    match i, hi with
    | 0, _ => rfl
    | 1, _ => rfl
    | 2, _ => rfl
end
end
section
/-! ===== the reference: the whole points ===== -/
/-- the six sides of the table -/
def sd_A (A : Nat → Nat → Int) (ts : Nat → Int32) : Prop := ∀ i, i < 3 → (∀ j, j < 3 → A i j = (if i = j then -1 else 0) ∧ A (3 + i) j = (if i = j then 1 else 0)) ∧ A i 3 = 0 ∧ ir_I (ts i) (A (3 + i) 3) 99
theorem sd_iff {A : Nat → Nat → Int} {ts : Nat → Int32} {n : Nat} (h : sd_A A ts) (x y z : Nat) : (∀ w, w < 6 + n → ¬ False → A w 0 * (x : Int) + A w 1 * (y : Int) + A w 2 * (z : Int) ≤ A w 3 * 1) ↔ ((x : Int) ≤ A 3 3 ∧ (y : Int) ≤ A 4 3 ∧ (z : Int) ≤ A 5 3 ∧ ∀ k, k < n → A (k + 6) 0 * (x : Int) + A (k + 6) 1 * (y : Int) + A (k + 6) 2 * (z : Int) ≤ A (k + 6) 3) := by
  have a00 : A 0 0 = -1 := ((h 0 (by omega)).1 0 (by omega)).1
  have a01 : A 0 1 = 0 := ((h 0 (by omega)).1 1 (by omega)).1
  have a02 : A 0 2 = 0 := ((h 0 (by omega)).1 2 (by omega)).1
  have a10 : A 1 0 = 0 := ((h 1 (by omega)).1 0 (by omega)).1
  have a11 : A 1 1 = -1 := ((h 1 (by omega)).1 1 (by omega)).1
  have a12 : A 1 2 = 0 := ((h 1 (by omega)).1 2 (by omega)).1
  have a20 : A 2 0 = 0 := ((h 2 (by omega)).1 0 (by omega)).1
  have a21 : A 2 1 = 0 := ((h 2 (by omega)).1 1 (by omega)).1
  have a22 : A 2 2 = -1 := ((h 2 (by omega)).1 2 (by omega)).1
  have a30 : A 3 0 = 1 := ((h 0 (by omega)).1 0 (by omega)).2
  have a31 : A 3 1 = 0 := ((h 0 (by omega)).1 1 (by omega)).2
  have a32 : A 3 2 = 0 := ((h 0 (by omega)).1 2 (by omega)).2
  have a40 : A 4 0 = 0 := ((h 1 (by omega)).1 0 (by omega)).2
  have a41 : A 4 1 = 1 := ((h 1 (by omega)).1 1 (by omega)).2
  have a42 : A 4 2 = 0 := ((h 1 (by omega)).1 2 (by omega)).2
  have a50 : A 5 0 = 0 := ((h 2 (by omega)).1 0 (by omega)).2
  have a51 : A 5 1 = 0 := ((h 2 (by omega)).1 1 (by omega)).2
  have a52 : A 5 2 = 1 := ((h 2 (by omega)).1 2 (by omega)).2
  have a03 : A 0 3 = 0 := (h 0 (by omega)).2.1
  have a13 : A 1 3 = 0 := (h 1 (by omega)).2.1
  have a23 : A 2 3 = 0 := (h 2 (by omega)).2.1
  constructor
  · intro al
    have b3 := al 3 (by omega) id
    have b4 := al 4 (by omega) id
    have b5 := al 5 (by omega) id
    rw [a30, a31, a32] at b3
    rw [a40, a41, a42] at b4
    rw [a50, a51, a52] at b5
    refine ⟨by omega, by omega, by omega, fun k hk => ?_⟩
    have := al (k + 6) (by omega) id
    rw [Int.mul_one] at this
    exact this
  · rintro ⟨b3, b4, b5, br⟩ w hw _
    by_cases h6 : w < 6
    · match w, h6 with
      | 0, _ => rw [a00, a01, a02, a03]; omega
      | 1, _ => rw [a10, a11, a12, a13]; omega
      | 2, _ => rw [a20, a21, a22, a23]; omega
      | 3, _ => rw [a30, a31, a32]; omega
      | 4, _ => rw [a40, a41, a42]; omega
      | 5, _ => rw [a50, a51, a52]; omega
    · obtain ⟨k, rfl⟩ : ∃ k, w = k + 6 := ⟨w - 6, by omega⟩
      rw [Int.mul_one]
      exact br k (by omega)
def sv_q : Option Nat → Int32
  | none => -1
  | some q => nI q
theorem sv_blt {F : Nat → Bool} {g : Nat → Int32} : ∀ {p q : Nat}, sv_b F g p = some q → q < p := by
  intro p
  induction p with
  | zero => intro q h; exact nomatch h
  | succ p ih =>
    intro q h
    rw [sv_b] at h
    by_cases f : F p = true
    · rw [if_pos f] at h
      cases e : sv_b F g p with
      | none =>
        rw [e, sv_p] at h
        have := Option.some.inj h
        omega
      | some r =>
        rw [e, sv_p] at h
        have := ih e
        by_cases c : g p ≤ g r
        · rw [if_pos c] at h
          have := Option.some.inj h
          omega
        · rw [if_neg c] at h
          have := Option.some.inj h
          omega
    · rw [if_neg f] at h
      have := ih h
      omega
theorem yp_0 {p : Nat} (h : p < 343) : nI p / 49 = sv_h 0 p := pk_div (d := 49) (by omega) (by omega) (by omega)
theorem yp_1 {p : Nat} (h : p < 343) : nI p / 7 - nI p / 7 / 7 * 7 = sv_h 1 p := by
  have e : nI p / 7 = nI (p / 7) := pk_div (d := 7) (by omega) (by omega) (by omega)
  rw [e]
  exact pk_rem (d := 7) (by omega) (by omega) (by omega)
theorem yp_2 {p : Nat} (h : p < 343) : nI p - nI p / 7 * 7 = sv_h 2 p := pk_rem (d := 7) (by omega) (by omega) (by omega)
theorem sv_x6 {i p : Nat} (h : p < 343) : sv_x i p ≤ 6 := by
  unfold sv_x
  by_cases a : i = 0
  · rw [if_pos a]; omega
  · rw [if_neg a]
    by_cases b : i = 1
    · rw [if_pos b]; omega
    · rw [if_neg b]; omega
section
variable {fn fo : Int32} {to bo : Int64} {ts go pl : Nat → Int32} {cr : Nat → Int64} {A : Nat → Nat → Int} {n : Nat} {F : Nat → Bool}
theorem yf_35 {post : Int32 → Prop} {x y z : Nat} (hn : n ≤ 6) (hR : ∀ k, k < n → ya_R pl A k) (hx : x ≤ 6) (hy : y ≤ 6) (hz : z ≤ 6)
    (hT : (∀ k, k < n → A (k + 6) 0 * (x : Int) + A (k + 6) 1 * (y : Int) + A (k + 6) 2 * (z : Int) ≤ A (k + 6) 3) → post 1) (hF : ¬ (∀ k, k < n → A (k + 6) 0 * (x : Int) + A (k + 6) 1 * (y : Int) + A (k + 6) 2 * (z : Int) ≤ A (k + 6) 3) → post 0) :
    ∀ (m f k : Nat), k + m = n → m < f → (∀ j, j < k → A (j + 6) 0 * (x : Int) + A (j + 6) 1 * (y : Int) + A (j + 6) 2 * (z : Int) ≤ A (j + 6) 3) → wY_isFit_35 post (nI x) (nI y) (nI z) (nI n) fo to bo ts go pl cr f (nI k) := by
  intro m
  induction m with
  | zero =>
    intro f k hk hf hI
    obtain ⟨f, rfl⟩ : ∃ f', f = f' + 1 := ⟨f - 1, by omega⟩
    exact br_t (nI_le (by omega) (by omega)) (hT (fun j hj => hI j (by omega)))
  | succ m ih =>
    intro f k hk hf hI
    obtain ⟨f, rfl⟩ : ∃ f', f = f' + 1 := ⟨f - 1, by omega⟩
    have e0 : 4 * nI k = nI (4 * k + 0) := pk_mul 4 k
    have e1 : 4 * nI k + 1 = nI (4 * k + 1) := yc_i k 1
    have e2 : 4 * nI k + 2 = nI (4 * k + 2) := yc_i k 2
    have e3 : 4 * nI k + 3 = nI (4 * k + 3) := yc_i k 3
    refine br_f (nI_ge (by omega) (by omega)) ?_
    rw [e1, e2, e3, e0, nI_clamp (by omega), nI_clamp (by omega), nI_clamp (by omega), nI_clamp (by omega)]
    refine ⟨vp_in_nI (by omega) (by omega), vp_in_nI (by omega) (by omega), vp_in_nI (by omega) (by omega), vp_in_nI (by omega) (by omega), ?_⟩
    have R := (hR k (by omega)).2
    rw [wg_lo (by omega)] at R
    have hx' := ir_nI (n := x) 6 hx (by omega)
    have hy' := ir_nI (n := y) 6 hy (by omega)
    have hz' := ir_nI (n := z) 6 hz (by omega)
    have hsum := ir_iadd (ir_iadd (ir_imul (R 0 (by omega)) hx' (by decide)) (ir_imul (R 1 (by omega)) hy' (by decide)) (by decide)) (ir_imul (R 2 (by omega)) hz' (by decide)) (by decide)
    refine ir_if (ir_ile hsum (R 3 (by omega))) (fun c => nm_r (nI_1 k) ?_) (fun c => hF (fun al => c (al k (by omega))))
    exact ih f (k + 1) (by omega) (by omega) (fun j hj => if e : j = k then e ▸ c else hI j (by omega))
theorem yf_fit {post : Int32 → Prop} {x y z : Nat} (hn : n ≤ 6) (hd : sd_A A ts) (hR : ∀ k, k < n → ya_R pl A k) (hx : x ≤ 6) (hy : y ≤ 6) (hz : z ≤ 6)
    (hT : (∀ w, w < 6 + n → ¬ False → A w 0 * (x : Int) + A w 1 * (y : Int) + A w 2 * (z : Int) ≤ A w 3 * 1) → post 1) (hF : ¬ (∀ w, w < 6 + n → ¬ False → A w 0 * (x : Int) + A w 1 * (y : Int) + A w 2 * (z : Int) ≤ A w 3 * 1) → post 0) :
    wpY_isFit post (nI n, fo, to, bo, ts, go, pl, cr) (nI x) (nI y) (nI z) := by
  rw [sd_iff hd] at hT hF
  have h0 : ir_I (ts 0) (A 3 3) 99 := (hd 0 (by omega)).2.2
  have h1 : ir_I (ts 1) (A 4 3) 99 := (hd 1 (by omega)).2.2
  have h2 : ir_I (ts 2) (A 5 3) 99 := (hd 2 (by omega)).2.2
  refine ir_if (ir_ilt h0 (ir_nI (n := x) 6 hx (by omega))) (fun c => hF (fun k => by omega)) (fun c0 => ?_)
  refine ir_if (ir_ilt h1 (ir_nI (n := y) 6 hy (by omega))) (fun c => hF (fun k => by omega)) (fun c1 => ?_)
  refine ir_if (ir_ile (ir_nI (n := z) 6 hz (by omega)) h2) (fun c2 => ⟨n + 1, ?_⟩) (fun c => hF (fun k => by omega))
  exact yf_35 hn hR hx hy hz (fun al => hT ⟨by omega, by omega, by omega, al⟩) (fun al => hF (fun k => al k.2.2.2)) n (n + 1) 0 (by omega) (by omega) (fun j hj => absurd hj (by omega))
theorem yf_at {post : Int32 → Prop} {p : Nat} (hn : n ≤ 6) (hd : sd_A A ts) (hR : ∀ k, k < n → ya_R pl A k) (hF : ∀ p, p < 343 → (F p = true ↔ sv_F A (6 + n) p)) (hp : p < 343) (h1 : F p = true → post 1) (h0 : F p = false → post 0) : wpY_isFit post (nI n, fo, to, bo, ts, go, pl, cr) (nI p / 49) (nI p / 7 - nI p / 7 / 7 * 7) (nI p - nI p / 7 * 7) := by
  rw [yp_0 hp, yp_1 hp, yp_2 hp]
  refine yf_fit hn hd hR (sv_x6 hp) (sv_x6 hp) (sv_x6 hp) (fun ok => h1 ((hF p hp).mpr ok)) (fun nok => h0 ?_)
  cases e : F p with
  | false => rfl
  | true => exact absurd ((hF p hp).mp e) nok
theorem yf_gain {post : Int32 → Prop} {p : Nat} (hp : p < 343) (h : post (sv_g go p)) : wpY_gain post (fn, fo, to, bo, ts, go, pl, cr) (nI p) := by
  refine ⟨by decide, by decide, by decide, by decide, ?_⟩
  rw [yp_0 hp, yp_1 hp, yp_2 hp]
  exact h
theorem yf_part {post : Int32 → Prop} {p i : Nat} (hp : p < 343) (hi : i < 3) (h : post (sv_h i p)) : wpY_part post (fn, fo, to, bo, ts, go, pl, cr) (nI p) (nI i) := by
  match i, hi with
  | 0, _ => exact br_t rfl ⟨by decide, by rw [yp_0 hp]; exact h⟩
  | 1, _ => exact br_f (by decide) (br_t rfl ⟨by decide, by decide, by rw [yp_1 hp]; exact h⟩)
  | 2, _ => exact br_f (by decide) (br_f (by decide) ⟨by decide, by rw [yp_2 hp]; exact h⟩)
theorem yf_fits {post : Int32 → Prop} (hn : n ≤ 6) (hd : sd_A A ts) (hR : ∀ k, k < n → ya_R pl A k) (hF : ∀ p, p < 343 → (F p = true ↔ sv_F A (6 + n) p)) (hP : post (nI (sv_c F 343))) :
    ∀ (m f p : Nat), p + m = 343 → m < f → wY_fits_4 post (nI n) fo to bo ts go pl cr f (nI (sv_c F p)) (nI p) := by
  intro m
  induction m with
  | zero =>
    intro f p hp hf
    obtain ⟨f, rfl⟩ : ∃ f', f = f' + 1 := ⟨f - 1, by omega⟩
    have e : p = 343 := by omega
    subst e
    exact br_t (nI_le (a := 343) (b := 343) (by omega) (by omega)) hP
  | succ m ih =>
    intro f p hp hf
    obtain ⟨f, rfl⟩ : ∃ f', f = f' + 1 := ⟨f - 1, by omega⟩
    have st := ih f (p + 1) (by omega) (by omega)
    refine br_f (nI_ge (b := 343) (a := p) (by omega) (by omega)) ⟨by decide, by decide, by decide, by decide, ?_⟩
    refine yf_at hn hd hR hF (by omega) (fun h => br_f (by decide) (nm_r (nI_1 _) (nm_r (nI_1 p) ?_))) (fun h => br_t rfl (nm_r (nI_1 p) ?_))
    · rw [sv_c, if_pos h] at st; exact st
    · rw [sv_c, if_neg (by rw [h]; decide)] at st; exact st
theorem yf_best {post : Int32 → Prop} (hn : n ≤ 6) (hd : sd_A A ts) (hR : ∀ k, k < n → ya_R pl A k) (hF : ∀ p, p < 343 → (F p = true ↔ sv_F A (6 + n) p)) (hP : post (sv_q (sv_b F (sv_g go) 343))) :
    ∀ (m f p : Nat), p + m = 343 → m < f → wY_bestPoint_4 post (nI n) fo to bo ts go pl cr f (sv_q (sv_b F (sv_g go) p)) (nI p) := by
  intro m
  induction m with
  | zero =>
    intro f p hp hf
    obtain ⟨f, rfl⟩ : ∃ f', f = f' + 1 := ⟨f - 1, by omega⟩
    have e : p = 343 := by omega
    subst e
    exact br_t (nI_le (a := 343) (b := 343) (by omega) (by omega)) hP
  | succ m ih =>
    intro f p hp hf
    obtain ⟨f, rfl⟩ : ∃ f', f = f' + 1 := ⟨f - 1, by omega⟩
    have st := ih f (p + 1) (by omega) (by omega)
    refine br_f (nI_ge (b := 343) (a := p) (by omega) (by omega)) ⟨by decide, by decide, by decide, by decide, ?_⟩
    refine yf_at hn hd hR hF (by omega) (fun h => br_f (by decide) ?_) (fun h => br_t rfl (nm_r (nI_1 p) ?_))
    · refine yf_gain (by omega) ?_
      rw [sv_b, if_pos h] at st
      cases e : sv_b F (sv_g go) p with
      | none =>
        rw [e] at st
        exact br_t (by decide) (nm_r (nI_1 p) st)
      | some q =>
        rw [e, sv_p] at st
        have := sv_blt e
        refine br_f (nI_pos (by omega)) (yf_gain (by omega) (br_c (fun c => nm_r (nI_1 p) ?_) (fun c => nm_r (nI_1 p) ?_)))
        · rw [if_pos c] at st; exact st
        · rw [if_neg c] at st; exact st
    · rw [sv_b, if_neg (by rw [h]; decide)] at st; exact st
theorem yf_bestPoint {post : Int32 → Prop} (hn : n ≤ 6) (hd : sd_A A ts) (hR : ∀ k, k < n → ya_R pl A k) (hF : ∀ p, p < 343 → (F p = true ↔ sv_F A (6 + n) p)) (hP : post (sv_q (sv_b F (sv_g go) 343))) : wpY_bestPoint post (nI n, fo, to, bo, ts, go, pl, cr) :=
  ⟨344, yf_best hn hd hR hF hP 343 344 0 (by omega) (by omega)⟩
theorem yf_largest {post : Int32 → Prop} {i : Nat} (hi : i < 3) (hn : n ≤ 6) (hd : sd_A A ts) (hR : ∀ k, k < n → ya_R pl A k) (hF : ∀ p, p < 343 → (F p = true ↔ sv_F A (6 + n) p)) (hP : post (sv_l F (sv_h i) 343)) :
    ∀ (m f p : Nat), p + m = 343 → m < f → wY_largest_18 post (nI i) (nI n) fo to bo ts go pl cr f (sv_l F (sv_h i) p) (nI p) := by
  intro m
  induction m with
  | zero =>
    intro f p hp hf
    obtain ⟨f, rfl⟩ : ∃ f', f = f' + 1 := ⟨f - 1, by omega⟩
    have e : p = 343 := by omega
    subst e
    exact br_t (nI_le (a := 343) (b := 343) (by omega) (by omega)) hP
  | succ m ih =>
    intro f p hp hf
    obtain ⟨f, rfl⟩ : ∃ f', f = f' + 1 := ⟨f - 1, by omega⟩
    have st := ih f (p + 1) (by omega) (by omega)
    rw [sv_l] at st
    refine br_f (nI_ge (b := 343) (a := p) (by omega) (by omega)) ?_
    refine yf_part (by omega) hi (br_c (fun c => nm_r (nI_1 p) ?_) (fun c => ⟨by decide, by decide, by decide, by decide, ?_⟩))
    · rw [if_pos c] at st
      by_cases h : F p = true
      · rw [if_pos h] at st; exact st
      · rw [if_neg h] at st; exact st
    · rw [if_neg c] at st
      refine yf_at hn hd hR hF (by omega) (fun h => br_f (by decide) (nm_r (nI_1 p) ?_)) (fun h => br_t rfl (nm_r (nI_1 p) ?_))
      · rw [if_pos h] at st; exact st
      · rw [if_neg (by rw [h]; decide)] at st; exact st
end
end
section
/-! ===== the relation ===== -/
def rb_d (x : Int32) (B : Nat) : Prop := -(B : Int) ≤ x.toInt ∧ x.toInt ≤ (B : Int)
theorem rb_up {x : Int32} {B : Nat} (C : Nat) (h : rb_d x B) (hc : B ≤ C) : rb_d x C := by
  obtain ⟨h1, h2⟩ := h
  exact ⟨by omega, by omega⟩
theorem rb_ir {x : Int32} {B : Nat} (h : rb_d x B) : ir_I x x.toInt B := ⟨rfl, h.1, h.2⟩
theorem rb_any (x : Int32) : ir_I x x.toInt 2147483648 := by
  have h1 := Int32.toInt_lt x
  have h2 := Int32.le_toInt x
  exact ⟨rfl, by omega, by omega⟩
def rs_c (w i : Nat) : Int32 := if w = i then -1 else if w = 3 + i then 1 else 0
theorem rs_bd (w i : Nat) : rb_d (rs_c w i) 1 := by
  unfold rs_c
  by_cases a : w = i
  · rw [if_pos a]; exact ⟨by decide, by decide⟩
  · rw [if_neg a]
    by_cases b : w = 3 + i
    · rw [if_pos b]; exact ⟨by decide, by decide⟩
    · rw [if_neg b]; exact ⟨by decide, by decide⟩
/-- the walls and the planes hold the same plan, with n rules -/
def r_R (n : Nat) (co wl gc ts go pl : Nat → Int32) : Prop :=
  n ≤ 6 ∧ gc = go ∧ (∀ w, w < 6 → ∀ i, i < 3 → co (w * 3 + i) = rs_c w i) ∧ (∀ i, i < 3 → wl i = 0 ∧ wl (3 + i) = ts i ∧ rb_d (ts i) 6) ∧ (∀ k, k < n → (∀ i, i < 3 → rb_d (co ((k + 6) * 3 + i)) 9) ∧ rb_d (wl (k + 6)) 99)
  ∧ (∀ p, 6 ≤ p → p < 12 → ∀ i, i < 3 → pl (4 * p + i) = rs_c (wg_s p) i) ∧ (∀ i, i < 3 → pl (27 + 8 * i) = ts i ∧ pl (31 + 8 * i) = 0) ∧ (∀ k, k < n → (∀ i, i < 3 → pl (4 * k + i) = co ((k + 6) * 3 + i)) ∧ pl (4 * k + 3) = wl (k + 6)) ∧ (∀ i, i < 3 → rb_d (go i) 9)
def ta_A (co wl : Nat → Int32) (w i : Nat) : Int := if i = 3 then (wl w).toInt else (co (w * 3 + i)).toInt
theorem ta_i {co wl : Nat → Int32} {w i : Nat} (h : i < 3) : ta_A co wl w i = (co (w * 3 + i)).toInt := if_neg (by omega)
theorem ta_3 {co wl : Nat → Int32} {w : Nat} : ta_A co wl w 3 = (wl w).toInt := if_pos rfl
section
variable {n : Nat} {co wl gc ts go pl : Nat → Int32}
theorem rt_W (R : r_R n co wl gc ts go pl) : xa_W co wl (ta_A co wl) (6 + n) := by
  obtain ⟨ra, rb, rc, rd, re, rf, rg, rh, ri⟩ := R
  intro w hw
  by_cases h6 : w < 6
  · refine ⟨fun i hi => ?_, ?_⟩
    · rw [ta_i hi, rc w h6 i hi]
      exact rb_ir (rb_up 99 (rs_bd w i) (by omega))
    · rw [ta_3]
      by_cases h3 : w < 3
      · rw [(rd w h3).1]
        exact rb_ir ⟨by decide, by decide⟩
      · obtain ⟨i, rfl⟩ : ∃ i, w = 3 + i := ⟨w - 3, by omega⟩
        rw [(rd i (by omega)).2.1]
        exact rb_ir (rb_up 99 (rd i (by omega)).2.2 (by omega))
  · obtain ⟨k, rfl⟩ : ∃ k, w = k + 6 := ⟨w - 6, by omega⟩
    refine ⟨fun i hi => ?_, ?_⟩
    · rw [ta_i hi]
      exact rb_ir (rb_up 99 ((re k (by omega)).1 i hi) (by omega))
    · rw [ta_3]
      exact rb_ir (re k (by omega)).2
theorem rt_P (R : r_R n co wl gc ts go pl) {p : Nat} (hp : p < 12) (hc : 6 ≤ p ∨ p < n) : (∀ i, i < 3 → pl (4 * p + i) = co (wg_s p * 3 + i)) ∧ pl (4 * p + 3) = wl (wg_s p) := by
  obtain ⟨ra, rb, rc, rd, re, rf, rg, rh, ri⟩ := R
  by_cases h6 : p < 6
  · have hn : p < n := by omega
    rw [wg_lo h6]
    exact rh p hn
  · refine ⟨fun i hi => ?_, ?_⟩
    · rw [rf p (by omega) hp i hi, rc _ (wg_hi (by omega) hp) i hi]
    · by_cases e : p % 2 = 0
      · obtain ⟨j, rfl⟩ : ∃ j, p = 6 + 2 * j := ⟨(p - 6) / 2, by omega⟩
        have es : wg_s (6 + 2 * j) = 3 + j := by
          unfold wg_s
          rw [if_neg (by omega), if_pos (by omega)]; omega
        rw [es, (rd j (by omega)).2.1, show 4 * (6 + 2 * j) + 3 = 27 + 8 * j from by omega]
        exact (rg j (by omega)).1
      · obtain ⟨j, rfl⟩ : ∃ j, p = 7 + 2 * j := ⟨(p - 7) / 2, by omega⟩
        have es : wg_s (7 + 2 * j) = j := by
          unfold wg_s
          rw [if_neg (by omega), if_neg (by omega)]; omega
        rw [es, (rd j (by omega)).1, show 4 * (7 + 2 * j) + 3 = 31 + 8 * j from by omega]
        exact (rg j (by omega)).2
theorem rt_R (R : r_R n co wl gc ts go pl) {p : Nat} (hp : p < 12) (hc : 6 ≤ p ∨ p < n) : ya_R pl (ta_A co wl) p := by
  refine ⟨hp, fun i hi => ?_⟩
  have hw := rt_W R (wg_s p) (wg_sn hp hc R.1)
  have hP := rt_P R hp hc
  by_cases h3 : i < 3
  · rw [hP.1 i h3]; exact hw.1 i h3
  · have e : i = 3 := by omega
    subst e
    rw [hP.2]; exact hw.2
theorem rt_sd (R : r_R n co wl gc ts go pl) : sd_A (ta_A co wl) ts := by
  have W := rt_W R
  obtain ⟨ra, rb, rc, rd, re, rf, rg, rh, ri⟩ := R
  intro i hi
  refine ⟨fun j hj => ⟨?_, ?_⟩, ?_, ?_⟩
  · rw [ta_i hj, rc i (by omega) j hj, rs_c]
    by_cases e : i = j
    · rw [if_pos e, if_pos e]; decide
    · rw [if_neg e, if_neg e, if_neg (by omega)]; decide
  · rw [ta_i hj, rc (3 + i) (by omega) j hj, rs_c, if_neg (by omega)]
    by_cases e : i = j
    · rw [if_pos e, if_pos (by omega)]; decide
    · rw [if_neg e, if_neg (by omega)]; decide
  · rw [ta_3, (rd i hi).1]; decide
  · have := (W (3 + i) (by omega)).2
    rw [(rd i hi).2.1] at this
    exact this
theorem rt_G (R : r_R n co wl gc ts go pl) {i : Nat} (hi : i < 3) : ir_I (go i) (go i).toInt 99 := rb_ir (rb_up 99 (R.2.2.2.2.2.2.2.2 i hi) (by omega))
theorem rt_g (R : r_R n co wl gc ts go pl) {p : Nat} (hp : p < 343) : ¬ sv_g go p ≤ -1002 := by
  have h9 : ∀ i, i < 3 → ir_I (go i) (go i).toInt 9 := fun i hi => rb_ir (R.2.2.2.2.2.2.2.2 i hi)
  have hx : ∀ i, ir_I (sv_h i p) (sv_x i p : Int) 6 := fun i => ir_nI 6 (sv_x6 hp) (by omega)
  have hs := ir_iadd (ir_iadd (ir_imul (h9 0 (by omega)) (hx 0) (by decide)) (ir_imul (h9 1 (by omega)) (hx 1) (by decide)) (by decide)) (ir_imul (h9 2 (by omega)) (hx 2) (by decide)) (by decide)
  have hm : ir_I (-1002) (-1002) 1002 := ⟨by decide, by decide, by decide⟩
  intro h
  have := (ir_ile hs hm).mp h
  have := hs.2.1
  omega
end
/-- which points fit, as a function -/
noncomputable def rt_F (A : Nat → Nat → Int) (N p : Nat) : Bool := @decide (sv_F A N p) (Classical.propDecidable _)
theorem rt_Fi (A : Nat → Nat → Int) (N p : Nat) : rt_F A N p = true ↔ sv_F A N p := @decide_eq_true_iff (sv_F A N p) (Classical.propDecidable _)
/-- the relation at the head of a turn -/
def i_Rel (_ : Nat) (u : SX) (v : SY) : Prop := match u, v with
  | (wc, _, _, _, _, _, co, wl, gc, _, _, _), (fn, _, _, _, ts, go, pl, _) => ∃ n : Nat, wc = nI (6 + n) ∧ fn = nI n ∧ r_R n co wl gc ts go pl
theorem i_up {k : Nat} {u : SX} {v : SY} (h : i_Rel k u v) : i_Rel (k + 5) u v := h
end
section
/-! ===== the constructors, top, goal, rule ===== -/
section
variable {wc fi bg cb : Int32} {pt pb : Int64} {co wl gc bp lv ct : Nat → Int32} {fn fo : Int32} {to bo : Int64} {ts go pl : Nat → Int32} {cr : Nat → Int64} {n : Nat}
theorem xi_step {post : SX → Prop} {m i : Nat} (hi : i < 3) (h : wX_init_50 post wc fi bg cb pt pb m (nI (i + 1)) (upd (upd co (i * 3 + i) (-1)) ((3 + i) * 3 + i) 1) (upd wl (3 + i) 6) gc bp lv ct) : wX_init_50 post wc fi bg cb pt pb (m + 1) (nI i) co wl gc bp lv ct := by
  have e1 : nI i * 3 + nI i = nI (i * 3 + i) := xc_i i i
  have e0 : 3 + nI i = nI (3 + i) := nI_add 3 i
  have e2 : (3 + nI i) * 3 + nI i = nI ((3 + i) * 3 + i) := by rw [e0]; exact xc_i (3 + i) i
  refine br_f (nI_ge (b := 3) (a := i) hi (by omega)) ?_
  rw [e1, e2, e0, nI_clamp (by omega), nI_clamp (by omega), nI_clamp (by omega)]
  exact ⟨vp_in_nI (by omega) (by omega), nm_e ⟨vp_in_nI (by omega) (by omega), nm_e ⟨vp_in_nI (by omega) (by omega), nm_e (nm_r (nI_1 i) h)⟩⟩⟩
theorem yi_step {post : SY → Prop} {m i : Nat} (hi : i < 3) (h : wY_init_40 post fn fo to bo m (nI (i + 1)) (upd ts i 6) go (upd (upd pl (24 + 8 * i + i) 1) (28 + 8 * i + i) (-1)) cr) : wY_init_40 post fn fo to bo (m + 1) (nI i) ts go pl cr := by
  have e8 : 8 * nI i = nI (8 * i) := pk_mul 8 i
  have e1 : 24 + 8 * nI i + nI i = nI (24 + 8 * i + i) := by rw [e8, ← nI_add, ← nI_add]; rfl
  have e2 : 28 + 8 * nI i + nI i = nI (28 + 8 * i + i) := by rw [e8, ← nI_add, ← nI_add]; rfl
  refine br_f (nI_ge (b := 3) (a := i) hi (by omega)) ?_
  rw [e1, e2, nI_clamp (by omega), nI_clamp (by omega), nI_clamp (by omega)]
  exact ⟨vp_in_nI (by omega) (by omega), nm_e ⟨vp_in_nI (by omega) (by omega), nm_e ⟨vp_in_nI (by omega) (by omega), nm_e (nm_r (nI_1 i) h)⟩⟩⟩
theorem yt_step {post : SY → Prop} {m i : Nat} (hi : i < 3) (h : wY_setSides_2 post fn fo to bo m (nI (i + 1)) ts go (upd (upd pl (24 + 8 * i + 3) (ts i)) (28 + 8 * i + 3) 0) cr) : wY_setSides_2 post fn fo to bo (m + 1) (nI i) ts go pl cr := by
  have e8 : 8 * nI i = nI (8 * i) := pk_mul 8 i
  have e1 : 24 + 8 * nI i + 3 = nI (24 + 8 * i + 3) := by rw [e8, ← nI_add, ← nI_add]; rfl
  have e2 : 28 + 8 * nI i + 3 = nI (28 + 8 * i + 3) := by rw [e8, ← nI_add, ← nI_add]; rfl
  refine br_f (nI_ge (b := 3) (a := i) hi (by omega)) ?_
  rw [e1, e2, nI_clamp (by omega), nI_clamp (by omega), nI_clamp (by omega)]
  exact ⟨vp_in_nI (by omega) (by omega), vp_in_nI (by omega) (by omega), nm_e ⟨vp_in_nI (by omega) (by omega), nm_e (nm_r (nI_1 i) h)⟩⟩
theorem yt_sides {post : SY → Prop} (hp : ∀ pl', (∀ j, j < 3 → pl' (27 + 8 * j) = ts j ∧ pl' (31 + 8 * j) = 0) → (∀ x, (x < 27 ∨ x % 4 ≠ 3) → pl' x = pl x) → post (fn, fo, to, bo, ts, go, pl', cr)) : wpY_setSides post (fn, fo, to, bo, ts, go, pl, cr) := by
  refine ⟨4, yt_step (i := 0) (by omega) (yt_step (i := 1) (by omega) (yt_step (i := 2) (by omega) (br_t (nI_le (a := 3) (b := 3) (by omega) (by omega)) (hp _ ?_ ?_))))⟩
  · intro j hj
    match j, hj with
    | 0, _ => exact ⟨rfl, rfl⟩
    | 1, _ => exact ⟨rfl, rfl⟩
    | 2, _ => exact ⟨rfl, rfl⟩
  · intro x hx
    rw [pk_un (by omega), pk_un (by omega), pk_un (by omega), pk_un (by omega), pk_un (by omega), pk_un (by omega)]
theorem xv_var {post : Int32 → Prop} {x : Int32} (hF : (¬ ∃ j : Nat, j < 3 ∧ x = nI j) → post 0) (hT : ∀ j : Nat, j < 3 → x = nI j → post 1) : wpX_isVariable post x := by
  refine br_c (fun h => hF (fun ⟨j, hj, e⟩ => ?_)) (fun h => br_c (fun h' => hF (fun ⟨j, hj, e⟩ => ?_)) (fun h' => ?_))
  · rw [e] at h
    exact nI_pos (by omega) h
  · rw [e] at h'
    exact nI_ge (b := 3) hj (by omega) h'
  · obtain ⟨j, hj, e⟩ := nI_of h
    subst e
    refine hT j ?_ rfl
    have : ¬ 3 ≤ j := fun z => h' ((nI_leI (a := 3) (by omega) hj).mpr z)
    omega
theorem yv_var {post : Int32 → Prop} {x : Int32} (hF : (¬ ∃ j : Nat, j < 3 ∧ x = nI j) → post 0) (hT : ∀ j : Nat, j < 3 → x = nI j → post 1) : wpY_isVariable post (fn, fo, to, bo, ts, go, pl, cr) x := by
  refine br_c (fun h => hF (fun ⟨j, hj, e⟩ => ?_)) (fun h => br_c (fun h' => hF (fun ⟨j, hj, e⟩ => ?_)) (fun h' => ?_))
  · rw [e] at h
    exact nI_pos (by omega) h
  · rw [e] at h'
    exact nI_nlt (a := 2) (b := j) (by omega) (by omega) h'
  · obtain ⟨j, hj, e⟩ := nI_of h
    subst e
    refine hT j ?_ rfl
    have : ¬ 2 < j := fun z => h' ((nI_ltI (a := 2) (by omega) hj).mpr z)
    omega
theorem rb_9 {x : Int32} (h : ¬ x < -9) (h' : ¬ 9 < x) : rb_d x 9 := by
  rw [ir_ilt (rb_any x) (show ir_I (-9) (-9) 9 from ⟨by decide, by decide, by decide⟩)] at h
  rw [ir_ilt (show ir_I 9 9 9 from ⟨by decide, by decide, by decide⟩) (rb_any x)] at h'
  exact ⟨by omega, by omega⟩
theorem rb_n9 {x : Int32} (h : rb_d x 9) : ¬ x < -9 ∧ ¬ 9 < x := by
  obtain ⟨h1, h2⟩ := h
  rw [ir_ilt (rb_any x) (show ir_I (-9) (-9) 9 from ⟨by decide, by decide, by decide⟩), ir_ilt (show ir_I 9 9 9 from ⟨by decide, by decide, by decide⟩) (rb_any x)]
  exact ⟨by omega, by omega⟩
theorem xv_co {post : Int32 → Prop} {x : Int32} (hF : ¬ rb_d x 9 → post 0) (hT : rb_d x 9 → post 1) : wpX_isCoefficient post x :=
  br_c (fun h => hF (fun z => (rb_n9 z).1 h)) (fun h => br_c (fun h' => hF (fun z => (rb_n9 z).2 h')) (fun h' => hT (rb_9 h h')))
theorem yv_co {post : Int32 → Prop} {x : Int32} (hF : ¬ rb_d x 9 → post 0) (hT : rb_d x 9 → post 1) : wpY_isFactor post (fn, fo, to, bo, ts, go, pl, cr) x :=
  br_c (fun h => hF (fun z => (rb_n9 z).1 h)) (fun h => br_c (fun h' => hF (fun z => (rb_n9 z).2 h')) (fun h' => hT (rb_9 h h')))
theorem xv_cos {post : Int32 → Prop} {x y z : Int32} (hF : ¬ (rb_d x 9 ∧ rb_d y 9 ∧ rb_d z 9) → post 0) (hT : rb_d x 9 → rb_d y 9 → rb_d z 9 → post 1) : wpX_areCoefficients post x y z := by
  refine xv_co (fun h => br_t rfl (hF (fun k => h k.1))) (fun h1 => br_f (by decide) ?_)
  refine xv_co (fun h => br_t rfl (hF (fun k => h k.2.1))) (fun h2 => br_f (by decide) ?_)
  exact xv_co (fun h => br_t rfl (hF (fun k => h k.2.2))) (fun h3 => br_f (by decide) (hT h1 h2 h3))
end
theorem i_vc0 : wpX_init (fun u => wpY_init (fun v => i_Rel 0 u v)) := by
  refine ⟨4, xi_step (i := 0) (by omega) (xi_step (i := 1) (by omega) (xi_step (i := 2) (by omega) (br_t (nI_le (a := 3) (b := 3) (by omega) (by omega)) ?_)))⟩
  refine ⟨4, yi_step (i := 0) (by omega) (yi_step (i := 1) (by omega) (yi_step (i := 2) (by omega) (br_t (nI_le (a := 3) (b := 3) (by omega) (by omega)) ?_)))⟩
  refine yt_sides (fun pl' h1 h2 => ⟨0, rfl, rfl, by omega, rfl, ?_, ?_, ?_, ?_, ?_, ?_, ?_⟩)
  · decide +kernel
  · intro i hi
    match i, hi with
    | 0, _ => exact ⟨rfl, rfl, by decide, by decide⟩
    | 1, _ => exact ⟨rfl, rfl, by decide, by decide⟩
    | 2, _ => exact ⟨rfl, rfl, by decide, by decide⟩
  · exact fun k hk => absurd hk (by omega)
  · have key : ∀ p, p < 12 → ∀ i, i < 3 → 6 ≤ p → upd (upd (upd (upd (upd (upd (fun _ => (0 : Int32)) (24 + 8 * 0 + 0) 1) (28 + 8 * 0 + 0) (-1)) (24 + 8 * 1 + 1) 1) (28 + 8 * 1 + 1) (-1)) (24 + 8 * 2 + 2) 1) (28 + 8 * 2 + 2) (-1) (4 * p + i) = rs_c (wg_s p) i := by
      decide +kernel
    intro p hp hp' i hi
    rw [h2 _ (by omega)]
    exact key p hp' i hi hp
  · exact h1
  · exact fun k hk => absurd hk (by omega)
  · exact fun i hi => (show rb_d 0 9 from ⟨by decide, by decide⟩)
theorem r_top {n : Nat} {co wl gc ts go pl pl' : Nat → Int32} (R : r_R n co wl gc ts go pl) {j : Nat} (hj : j < 3) {t : Int32} (ht : rb_d t 6) (h1 : ∀ i, i < 3 → pl' (27 + 8 * i) = upd ts j t i ∧ pl' (31 + 8 * i) = 0) (h2 : ∀ x, (x < 27 ∨ x % 4 ≠ 3) → pl' x = pl x) : r_R n co (upd wl (3 + j) t) gc (upd ts j t) go pl' := by
  obtain ⟨ra, rb, rc, rd, re, rf, rg, rh, ri⟩ := R
  refine ⟨ra, rb, rc, fun i hi => ⟨?_, ?_, ?_⟩, fun k hk => ⟨(re k hk).1, ?_⟩, fun p hp hp' i hi => ?_, h1, fun k hk => ⟨fun i hi => ?_, ?_⟩, ri⟩
  · rw [pk_un (by omega)]; exact (rd i hi).1
  · by_cases e : i = j
    · subst e; rw [pk_us, pk_us]
    · rw [pk_un (by omega), pk_un e]; exact (rd i hi).2.1
  · by_cases e : i = j
    · subst e; rw [pk_us]; exact ht
    · rw [pk_un e]; exact (rd i hi).2.2
  · rw [pk_un (by omega)]; exact (re k hk).2
  · rw [h2 _ (by omega)]; exact rf p hp hp' i hi
  · rw [h2 _ (by omega)]; exact (rh k hk).1 i hi
  · rw [h2 _ (by omega), pk_un (by omega)]; exact (rh k hk).2
theorem i_vc_top {k : Nat} {u : SX} {v : SY} (I : i_Rel k u v) (hk : k + 5 ≤ 2560) (v1 : Int32) (v2 : Int32) : wpX_top (fun r u' => wpY_top (fun r' v' => r' = r ∧ i_Rel (k + 5) u' v') v v1 v2) u v1 v2 := by
  obtain ⟨wc, fi, bg, cb, pt, pb, co, wl, gc, bp, lv, ct⟩ := u
  obtain ⟨fn, fo, to, bo, ts, go, pl, cr⟩ := v
  obtain ⟨n, rfl, rfl, R⟩ := I
  unfold wpX_top wpY_top
  dsimp only
  refine xv_var (fun h => br_t rfl ?_) (fun j hj e => br_f (by decide) ?_)
  · exact yv_var (fun _ => br_t rfl ⟨rfl, n, rfl, rfl, R⟩) (fun j hj e => absurd ⟨j, hj, e⟩ h)
  · subst e
    have yes : ∀ {post : Int32 → Prop}, post 1 → wpY_isVariable post (nI n, fo, to, bo, ts, go, pl, cr) (nI j) := fun hp => yv_var (fun h => absurd ⟨j, hj, rfl⟩ h) (fun _ _ _ => hp)
    by_cases h0 : v2 < 0
    · exact br_t h0 (yes (br_f (by decide) (br_t h0 ⟨rfl, n, rfl, rfl, R⟩)))
    · refine br_f h0 ?_
      by_cases h6 : v2 ≤ 6
      · obtain ⟨t, ht, rfl⟩ := nI_of2 (n := 6) (by decide) h0 h6
        refine br_t h6 ?_
        rw [show 3 + nI j = nI (3 + j) from nI_add 3 j, nI_clamp (by omega)]
        refine ⟨vp_in_nI (by omega) (by omega), nm_e (yes (br_f (by decide) (br_f h0 (br_t h6 ⟨vp_in_nI (by omega) (by omega), nm_r (e' := upd ts j (nI t)) (by rw [nI_clamp (by omega)]) ?_⟩))))⟩
        have hr := ir_nI (n := t) 6 ht (by omega)
        refine yt_sides (fun pl' h1 h2 => ⟨rfl, n, rfl, rfl, r_top R hj ⟨?_, ?_⟩ h1 h2⟩)
        · rw [hr.1]; exact hr.2.1
        · rw [hr.1]; exact hr.2.2
      · exact br_f h6 (yes (br_f (by decide) (br_f h0 (br_f h6 ⟨rfl, n, rfl, rfl, R⟩))))
theorem i_vc_goal {k : Nat} {u : SX} {v : SY} (I : i_Rel k u v) (hk : k + 5 ≤ 2560) (v1 : Int32) (v2 : Int32) (v3 : Int32) : wpX_goal (fun r u' => wpY_goal (fun r' v' => r' = r ∧ i_Rel (k + 5) u' v') v v1 v2 v3) u v1 v2 v3 := by
  obtain ⟨wc, fi, bg, cb, pt, pb, co, wl, gc, bp, lv, ct⟩ := u
  obtain ⟨fn, fo, to, bo, ts, go, pl, cr⟩ := v
  obtain ⟨n, rfl, rfl, R⟩ := I
  unfold wpX_goal wpY_goal
  dsimp only
  refine xv_cos (fun h => br_t rfl ?_) (fun h1 h2 h3 => br_f (by decide) (nm_e (nm_e (nm_e ?_))))
  · refine yv_co (fun _ => br_t rfl ⟨rfl, n, rfl, rfl, R⟩) (fun h1 => br_f (by decide) ?_)
    refine yv_co (fun _ => br_t rfl ⟨rfl, n, rfl, rfl, R⟩) (fun h2 => br_f (by decide) ?_)
    exact yv_co (fun _ => br_t rfl ⟨rfl, n, rfl, rfl, R⟩) (fun h3 => absurd ⟨h1, h2, h3⟩ h)
  · refine yv_co (fun h => absurd h1 h) (fun _ => br_f (by decide) ?_)
    refine yv_co (fun h => absurd h2 h) (fun _ => br_f (by decide) ?_)
    refine yv_co (fun h => absurd h3 h) (fun _ => br_f (by decide) (nm_e (nm_e (nm_e ⟨rfl, n, rfl, rfl, ?_⟩))))
    obtain ⟨ra, rb, rc, rd, re, rf, rg, rh, ri⟩ := R
    subst rb
    refine ⟨ra, rfl, rc, rd, re, rf, rg, rh, fun i hi => ?_⟩
    match i, hi with
    | 0, _ => exact h1
    | 1, _ => exact h2
    | 2, _ => exact h3
end
section
/-! ===== rule and drop ===== -/
theorem ru_e {f : Nat → Int32} {k j : Nat} {x : Int32} (h : j = k) : upd f k x j = x := if_pos h
theorem r_rule {n : Nat} {co wl gc ts go pl : Nat → Int32} (R : r_R n co wl gc ts go pl) (hn : n < 6) {a0 a1 a2 li : Int32} (h0 : rb_d a0 9) (h1 : rb_d a1 9) (h2 : rb_d a2 9) (h3 : rb_d li 99) :
    r_R (n + 1) (upd (upd (upd co ((6 + n) * 3) a0) ((6 + n) * 3 + 1) a1) ((6 + n) * 3 + 2) a2) (upd wl (6 + n) li) gc ts go (upd (upd (upd (upd pl (4 * n) a0) (4 * n + 1) a1) (4 * n + 2) a2) (4 * n + 3) li) := by
  obtain ⟨ra, rb, rc, rd, re, rf, rg, rh, ri⟩ := R
  have cN : ∀ i, i < 3 → upd (upd (upd co ((6 + n) * 3) a0) ((6 + n) * 3 + 1) a1) ((6 + n) * 3 + 2) a2 ((n + 6) * 3 + i) = (if i = 0 then a0 else if i = 1 then a1 else a2) := by
    intro i hi
    match i, hi with
    | 0, _ => rw [pk_un (by omega), pk_un (by omega), ru_e (by omega)]; rfl
    | 1, _ => rw [pk_un (by omega), ru_e (by omega)]; rfl
    | 2, _ => rw [ru_e (by omega)]; rfl
  refine ⟨by omega, rb, fun w hw i hi => ?_, fun i hi => ⟨?_, ?_, (rd i hi).2.2⟩, fun k hk => ⟨fun i hi => ?_, ?_⟩, fun p hp hp' i hi => ?_, fun i hi => ⟨?_, ?_⟩, fun k hk => ⟨fun i hi => ?_, ?_⟩, ri⟩
  · rw [pk_un (by omega), pk_un (by omega), pk_un (by omega)]; exact rc w hw i hi
  · rw [pk_un (by omega)]; exact (rd i hi).1
  · rw [pk_un (by omega)]; exact (rd i hi).2.1
  · by_cases e : k = n
    · subst e
      rw [cN i hi]
      match i, hi with
      | 0, _ => exact h0
      | 1, _ => exact h1
      | 2, _ => exact h2
    · rw [pk_un (by omega), pk_un (by omega), pk_un (by omega)]; exact (re k (by omega)).1 i hi
  · by_cases e : k = n
    · rw [ru_e (by omega)]; exact h3
    · rw [pk_un (by omega)]; exact (re k (by omega)).2
  · rw [pk_un (by omega), pk_un (by omega), pk_un (by omega), pk_un (by omega)]; exact rf p hp hp' i hi
  · rw [pk_un (by omega), pk_un (by omega), pk_un (by omega), pk_un (by omega)]; exact (rg i hi).1
  · rw [pk_un (by omega), pk_un (by omega), pk_un (by omega), pk_un (by omega)]; exact (rg i hi).2
  · by_cases e : k = n
    · subst e
      rw [cN i hi]
      match i, hi with
      | 0, _ => rw [pk_un (by omega), pk_un (by omega), pk_un (by omega), ru_e (by omega)]; rfl
      | 1, _ => rw [pk_un (by omega), pk_un (by omega), ru_e (by omega)]; rfl
      | 2, _ => rw [pk_un (by omega), ru_e (by omega)]; rfl
    · rw [pk_un (by omega), pk_un (by omega), pk_un (by omega), pk_un (by omega), pk_un (by omega), pk_un (by omega), pk_un (by omega)]; exact (rh k (by omega)).1 i hi
  · by_cases e : k = n
    · rw [ru_e (by omega), ru_e (by omega)]
    · rw [pk_un (by omega), pk_un (by omega), pk_un (by omega), pk_un (by omega), pk_un (by omega)]; exact (rh k (by omega)).2
theorem rb_99 {x : Int32} (h : ¬ x < -99) (h' : x ≤ 99) : rb_d x 99 := by
  rw [ir_ilt (rb_any x) (show ir_I (-99) (-99) 99 from ⟨by decide, by decide, by decide⟩)] at h
  rw [ir_ile (rb_any x) (show ir_I 99 99 99 from ⟨by decide, by decide, by decide⟩)] at h'
  exact ⟨by omega, by omega⟩
theorem i_vc_rule {k : Nat} {u : SX} {v : SY} (I : i_Rel k u v) (hk : k + 5 ≤ 2560) (v1 : Int32) (v2 : Int32) (v3 : Int32) (v4 : Int32) : wpX_rule (fun r u' => wpY_rule (fun r' v' => r' = r ∧ i_Rel (k + 5) u' v') v v1 v2 v3 v4) u v1 v2 v3 v4 := by
  obtain ⟨wc, fi, bg, cb, pt, pb, co, wl, gc, bp, lv, ct⟩ := u
  obtain ⟨fn, fo, to, bo, ts, go, pl, cr⟩ := v
  obtain ⟨n, rfl, rfl, R⟩ := I
  have ra := R.1
  unfold wpX_rule wpY_rule
  dsimp only
  refine pk_lt (6 + n) 12 (fun h6 => ?_) (fun h6 => pk_eq n 6 (fun _ => ⟨rfl, n, rfl, rfl, R⟩) (fun e => absurd e (by omega)))
  have ne : ¬ nI n = 6 := fun z => absurd ((nI_eq (b := 6) (by omega) (by omega)).mp z) (by omega)
  refine xv_cos (fun h => br_t rfl (br_f ne ?_)) (fun h1 h2 h3 => br_f (by decide) ?_)
  · refine yv_co (fun _ => br_t rfl ⟨rfl, n, rfl, rfl, R⟩) (fun h1 => br_f (by decide) ?_)
    refine yv_co (fun _ => br_t rfl ⟨rfl, n, rfl, rfl, R⟩) (fun h2 => br_f (by decide) ?_)
    exact yv_co (fun _ => br_t rfl ⟨rfl, n, rfl, rfl, R⟩) (fun h3 => absurd ⟨h1, h2, h3⟩ h)
  · have yes : ∀ {x : Int32} {post : Int32 → Prop}, rb_d x 9 → post 1 → wpY_isFactor post (nI n, fo, to, bo, ts, go, pl, cr) x := fun hx hp => yv_co (fun h => absurd hx h) (fun _ => hp)
    by_cases g1 : v4 < -99
    · refine br_t g1 (br_f ne ?_)
      refine yes h1 (br_f (by decide) ?_)
      refine yes h2 (br_f (by decide) ?_)
      exact yes h3 (br_f (by decide) (br_t g1 ⟨rfl, n, rfl, rfl, R⟩))
    · refine br_f g1 ?_
      by_cases g2 : v4 ≤ 99
      · refine br_t g2 ?_
        have e0 : nI (6 + n) * 3 = nI ((6 + n) * 3) := pk_mul (6 + n) 3
        have e2 : nI ((6 + n) * 3) + 2 = nI ((6 + n) * 3 + 2) := nI_add _ 2
        have q0 : 4 * nI n = nI (4 * n) := pk_mul 4 n
        have q2 : nI (4 * n) + 2 = nI (4 * n + 2) := nI_add _ 2
        have q3 : nI (4 * n) + 3 = nI (4 * n + 3) := nI_add _ 3
        rw [e0, nI_1, e2, nI_clamp (by omega), nI_clamp (by omega), nI_clamp (by omega), nI_clamp (by omega)]
        refine ⟨vp_in_nI (by omega) (by omega), nm_e ⟨vp_in_nI (by omega) (by omega), nm_e ⟨vp_in_nI (by omega) (by omega), nm_e ⟨vp_in_nI (by omega) (by omega), nm_e (nm_r (nI_1 (6 + n)) (br_f ne ?_))⟩⟩⟩⟩
        refine yes h1 (br_f (by decide) ?_)
        refine yes h2 (br_f (by decide) ?_)
        refine yes h3 (br_f (by decide) (br_f g1 (br_t g2 ?_)))
        rw [q0, nI_1 (4 * n), q2, q3, nI_clamp (by omega), nI_clamp (by omega), nI_clamp (by omega), nI_clamp (by omega)]
        refine ⟨vp_in_nI (by omega) (by omega), nm_e ⟨vp_in_nI (by omega) (by omega), nm_e ⟨vp_in_nI (by omega) (by omega), nm_e ⟨vp_in_nI (by omega) (by omega), nm_e (nm_r (nI_1 n) ⟨?_, n + 1, rfl, rfl, r_rule R (by omega) h1 h2 h3 (rb_99 g1 g2)⟩)⟩⟩⟩⟩
        rw [nI_pred]
        have : nI (6 + n) - nI 6 = nI (6 + n - 6) := pk_sub (by omega)
        rw [show 6 + n - 6 = n from by omega] at this
        exact this.symm
      · refine br_f g2 (br_f ne ?_)
        refine yes h1 (br_f (by decide) ?_)
        refine yes h2 (br_f (by decide) ?_)
        exact yes h3 (br_f (by decide) (br_f g1 (br_f g2 ⟨rfl, n, rfl, rfl, R⟩)))
/-- c from lo up to hi is moved down by d -/
def sh_I (c : Nat → Int32) (lo hi d : Nat) (a : Nat → Int32) : Prop := ∀ x, a x = if lo ≤ x ∧ x < hi then c (x + d) else c x
theorem sh_0 {c : Nat → Int32} {lo d : Nat} : sh_I c lo lo d c := fun x => by rw [if_neg (by omega)]
theorem sh_s {c a : Nat → Int32} {lo hi d : Nat} (h : sh_I c lo hi d a) (hl : lo ≤ hi) : sh_I c lo (hi + 1) d (upd a hi (a (hi + d))) := by
  intro x
  by_cases e : x = hi
  · subst e
    rw [pk_us, if_pos ⟨hl, by omega⟩, h, if_neg (by omega)]
  · rw [pk_un e, h]
    by_cases z : lo ≤ x ∧ x < hi
    · rw [if_pos z, if_pos (by omega)]
    · rw [if_neg z, if_neg (by omega)]
section
variable {wc fi bg cb : Int32} {pt pb : Int64} {co wl gc bp lv ct : Nat → Int32} {fn fo : Int32} {to bo : Int64} {ts go pl : Nat → Int32} {cr : Nat → Int64} {n : Nat}
theorem xd_step {post : SX → Prop} {b i m : Nat} (hb : b + 1 < 12) (hi : i < 3) (h : wX_moveDown_2 post (nI (b + 1)) wc fi bg cb pt pb m (nI (i + 1)) (upd co (b * 3 + i) (co (b * 3 + i + 3))) wl gc bp lv ct) : wX_moveDown_2 post (nI (b + 1)) wc fi bg cb pt pb (m + 1) (nI i) co wl gc bp lv ct := by
  have e1 : nI (b + 1) * 3 + nI i = nI (b * 3 + i + 3) := by
    rw [xc_i]
    exact congrArg nI (by omega)
  have e2 : (nI (b + 1) - 1) * 3 + nI i = nI (b * 3 + i) := by rw [nI_pred]; exact xc_i b i
  refine br_f (nI_ge (b := 3) (a := i) hi (by omega)) ?_
  rw [e1, e2, nI_clamp (by omega), nI_clamp (by omega)]
  exact ⟨vp_in_nI (by omega) (by omega), vp_in_nI (by omega) (by omega), nm_e (nm_r (nI_1 i) h)⟩
theorem xd_move {post : SX → Prop} {b lo lo' : Nat} {c0 w0 : Nat → Int32} (hb : b + 1 < 12) (h1 : sh_I c0 lo (b * 3) 3 co) (hlo : lo ≤ b * 3) (h2 : sh_I w0 lo' b 1 wl) (hlo' : lo' ≤ b) (hp : ∀ co' wl', sh_I c0 lo ((b + 1) * 3) 3 co' → sh_I w0 lo' (b + 1) 1 wl' → post (wc, fi, bg, cb, pt, pb, co', wl', gc, bp, lv, ct)) : wpX_moveDown post (wc, fi, bg, cb, pt, pb, co, wl, gc, bp, lv, ct) (nI (b + 1)) := by
  refine ⟨4, xd_step (i := 0) hb (by omega) (xd_step (i := 1) hb (by omega) (xd_step (i := 2) hb (by omega) (br_t (nI_le (a := 3) (b := 3) (by omega) (by omega)) ?_)))⟩
  rw [nI_pred, nI_clamp (by omega), nI_clamp (by omega)]
  refine ⟨vp_in_nI (by omega) (by omega), vp_in_nI (by omega) (by omega), nm_e (hp _ _ ?_ (sh_s h2 hlo'))⟩
  have s1 := sh_s h1 hlo
  have s2 := sh_s s1 (by omega)
  have s3 := sh_s s2 (by omega)
  rw [show (b + 1) * 3 = b * 3 + 1 + 1 + 1 from by omega]
  exact s3
theorem xd_loop {post : Int32 → SX → Prop} {c0 w0 : Nat → Int32} {q : Nat} (hn : 0 < n) (hn6 : n ≤ 6) (hq : q < n)
    (hp : ∀ co' wl', sh_I c0 ((6 + q) * 3) ((6 + (n - 1)) * 3) 3 co' → sh_I w0 (6 + q) (6 + (n - 1)) 1 wl' → post (nI (n - 1)) (nI (6 + (n - 1)), fi, bg, cb, pt, pb, co', wl', gc, bp, lv, ct)) :
    ∀ (m f b : Nat) (co wl : Nat → Int32), b + m = 6 + (n - 1) → m < f → 6 + q ≤ b → sh_I c0 ((6 + q) * 3) (b * 3) 3 co → sh_I w0 (6 + q) b 1 wl → wX_drop_17 post f (nI b) (nI (6 + n)) fi bg cb pt pb co wl gc bp lv ct := by
  intro m
  induction m with
  | zero =>
    intro f b co wl hb hf hqb h1 h2
    obtain ⟨f, rfl⟩ : ∃ f', f = f' + 1 := ⟨f - 1, by omega⟩
    have e : b = 6 + (n - 1) := by omega
    subst e
    have e1 : nI (6 + n) - 1 = nI (6 + (n - 1)) := by
      rw [show 6 + n = 6 + (n - 1) + 1 from by omega, nI_pred]
    have e2 : nI (6 + (n - 1)) - 6 = nI (n - 1) := by
      have : nI (6 + (n - 1)) - nI 6 = nI (6 + (n - 1) - 6) := pk_sub (by omega)
      rw [show 6 + (n - 1) - 6 = n - 1 from by omega] at this
      exact this
    refine br_t (by rw [nI_1]; exact nI_le (by omega) (by omega)) (nm_r e1 ?_)
    rw [e2]
    exact hp _ _ h1 h2
  | succ m ih =>
    intro f b co wl hb hf hqb h1 h2
    obtain ⟨f, rfl⟩ : ∃ f', f = f' + 1 := ⟨f - 1, by omega⟩
    refine br_f (by rw [nI_1]; exact nI_ge (by omega) (by omega)) ?_
    rw [nI_1]
    refine xd_move (by omega) h1 (by omega) h2 hqb (fun co' wl' k1 k2 => nm_e ?_)
    exact ih f (b + 1) co' wl' (by omega) (by omega) (by omega) k1 k2
theorem yd_loop {post : Int32 → SY → Prop} {p0 : Nat → Int32} {q : Nat} (hn : 0 < n) (hn6 : n ≤ 6) (hq : q < n)
    (hp : ∀ pl', sh_I p0 (4 * q) (4 * (n - 1)) 4 pl' → post (nI (n - 1)) (nI (n - 1), fo, to, bo, ts, go, pl', cr)) :
    ∀ (m f b : Nat) (pl : Nat → Int32), b + m = 4 * (n - 1) → m < f → 4 * q ≤ b → sh_I p0 (4 * q) b 4 pl → wY_drop_20 post (nI n) fo to bo f (nI b) ts go pl cr := by
  have e1 : nI n - 1 = nI (n - 1) := by
    obtain ⟨m, rfl⟩ : ∃ m, n = m + 1 := ⟨n - 1, by omega⟩
    exact nI_pred m
  have e2 : 4 * (nI n - 1) = nI (4 * (n - 1)) := by rw [e1]; exact pk_mul 4 (n - 1)
  intro m
  induction m with
  | zero =>
    intro f b pl hb hf hqb h1
    obtain ⟨f, rfl⟩ : ∃ f', f = f' + 1 := ⟨f - 1, by omega⟩
    have e : b = 4 * (n - 1) := by omega
    subst e
    exact br_t (by rw [e2]; exact nI_le (by omega) (by omega)) (nm_r e1 (hp _ h1))
  | succ m ih =>
    intro f b pl hb hf hqb h1
    obtain ⟨f, rfl⟩ : ∃ f', f = f' + 1 := ⟨f - 1, by omega⟩
    have e4 : nI b + 4 = nI (b + 4) := nI_add b 4
    refine br_f (by rw [e2]; exact nI_ge (by omega) (by omega)) ?_
    rw [e4, nI_clamp (by omega), nI_clamp (by omega)]
    refine ⟨vp_in_nI (by omega) (by omega), vp_in_nI (by omega) (by omega), nm_e (nm_r (nI_1 b) ?_)⟩
    exact ih f (b + 1) _ (by omega) (by omega) (by omega) (sh_s h1 hqb)
end
theorem r_drop {n q : Nat} {co wl gc ts go pl co' wl' pl' : Nat → Int32} (R : r_R n co wl gc ts go pl) (hq : q < n) (h1 : sh_I co ((6 + q) * 3) ((6 + (n - 1)) * 3) 3 co') (h2 : sh_I wl (6 + q) (6 + (n - 1)) 1 wl') (h3 : sh_I pl (4 * q) (4 * (n - 1)) 4 pl') : r_R (n - 1) co' wl' gc ts go pl' := by
  obtain ⟨ra, rb, rc, rd, re, rf, rg, rh, ri⟩ := R
  refine ⟨by omega, rb, fun w hw i hi => ?_, fun i hi => ⟨?_, ?_, (rd i hi).2.2⟩, fun k hk => ?_, fun p hp hp' i hi => ?_, fun i hi => ⟨?_, ?_⟩, fun k hk => ?_, ri⟩
  · rw [h1, if_neg (by omega)]; exact rc w hw i hi
  · rw [h2, if_neg (by omega)]; exact (rd i hi).1
  · rw [h2, if_neg (by omega)]; exact (rd i hi).2.1
  · by_cases z : q ≤ k
    · refine ⟨fun i hi => ?_, ?_⟩
      · rw [h1, if_pos (by omega), show (k + 6) * 3 + i + 3 = (k + 1 + 6) * 3 + i from by omega]
        exact (re (k + 1) (by omega)).1 i hi
      · rw [h2, if_pos (by omega), show k + 6 + 1 = k + 1 + 6 from by omega]
        exact (re (k + 1) (by omega)).2
    · refine ⟨fun i hi => ?_, ?_⟩
      · rw [h1, if_neg (by omega)]; exact (re k (by omega)).1 i hi
      · rw [h2, if_neg (by omega)]; exact (re k (by omega)).2
  · rw [h3, if_neg (by omega)]; exact rf p hp hp' i hi
  · rw [h3, if_neg (by omega)]; exact (rg i hi).1
  · rw [h3, if_neg (by omega)]; exact (rg i hi).2
  · by_cases z : q ≤ k
    · refine ⟨fun i hi => ?_, ?_⟩
      · rw [h1, if_pos (by omega), h3, if_pos (by omega), show (k + 6) * 3 + i + 3 = (k + 1 + 6) * 3 + i from by omega, show 4 * k + i + 4 = 4 * (k + 1) + i from by omega]
        exact (rh (k + 1) (by omega)).1 i hi
      · rw [h2, if_pos (by omega), h3, if_pos (by omega), show k + 6 + 1 = k + 1 + 6 from by omega, show 4 * k + 3 + 4 = 4 * (k + 1) + 3 from by omega]
        exact (rh (k + 1) (by omega)).2
    · refine ⟨fun i hi => ?_, ?_⟩
      · rw [h1, if_neg (by omega), h3, if_neg (by omega)]; exact (rh k (by omega)).1 i hi
      · rw [h2, if_neg (by omega), h3, if_neg (by omega)]; exact (rh k (by omega)).2
theorem xv_rule {post : Int32 → Prop} {x fi bg cb : Int32} {pt pb : Int64} {co wl gc bp lv ct : Nat → Int32} {n : Nat} (hn : n ≤ 6) (hF : (¬ ∃ j : Nat, j < n ∧ x = nI j) → post 0) (hT : ∀ j : Nat, j < n → x = nI j → post 1) : wpX_isRule post (nI (6 + n), fi, bg, cb, pt, pb, co, wl, gc, bp, lv, ct) x := by
  have e : nI (6 + n) - 6 = nI n := by
    have : nI (6 + n) - nI 6 = nI (6 + n - 6) := pk_sub (by omega)
    rw [show 6 + n - 6 = n from by omega] at this
    exact this
  rcases pk_ix x (n := n) (by omega) with h | h | ⟨j, hj, rfl⟩
  · exact br_t h (hF (fun ⟨j, hj, e⟩ => nI_pos (by omega) (e ▸ h)))
  · have h0 : ¬ x < 0 := Int32.not_lt.mpr (Int32.le_trans (nI_pos' (by omega)) h)
    exact br_f h0 (br_t (by rw [e]; exact h) (hF (fun ⟨j, hj, e⟩ => nI_ge hj (by omega) (e ▸ h))))
  · exact br_f (nI_pos (by omega)) (br_f (by rw [e]; exact nI_ge hj (by omega)) (hT j hj rfl))
/-- x is no rule's number -/
theorem rn_no {x : Int32} {n : Nat} (hn : n ≤ 6) (h : ¬ ∃ j : Nat, j < n ∧ x = nI j) : ¬ x < 0 → ¬ x < nI n := by
  intro h0 h1
  obtain ⟨j, hj, rfl⟩ := nI_of h0
  exact h ⟨j, (nI_ltI hj (by omega)).mp h1, rfl⟩
theorem i_vc_drop {k : Nat} {u : SX} {v : SY} (I : i_Rel k u v) (hk : k + 5 ≤ 2560) (v1 : Int32) : wpX_drop (fun r u' => wpY_drop (fun r' v' => r' = r ∧ i_Rel (k + 5) u' v') v v1) u v1 := by
  obtain ⟨wc, fi, bg, cb, pt, pb, co, wl, gc, bp, lv, ct⟩ := u
  obtain ⟨fn, fo, to, bo, ts, go, pl, cr⟩ := v
  obtain ⟨n, rfl, rfl, R⟩ := I
  have ra := R.1
  unfold wpX_drop wpY_drop
  dsimp only
  refine xv_rule ra (fun h => br_t rfl ?_) (fun q hq e => br_f (by decide) ?_)
  · exact br_c (fun _ => ⟨rfl, n, rfl, rfl, R⟩) (fun h0 => br_f (rn_no ra h h0) ⟨rfl, n, rfl, rfl, R⟩)
  · subst e
    refine nm_r (e' := nI (6 + q)) (nI_add 6 q) ⟨n - q, ?_⟩
    refine xd_loop (q := q) (by omega) ra hq (fun co' wl' h1 h2 => ?_) (n - q - 1) (n - q) (6 + q) co wl (by omega) (by omega) (by omega) sh_0 sh_0
    refine br_f (nI_pos (by omega)) (br_t (nI_lt hq (by omega)) (nm_r (e' := nI (4 * q)) (pk_mul 4 q) ⟨4 * (n - q), ?_⟩))
    exact yd_loop (q := q) (by omega) ra hq (fun pl' h3 => ⟨rfl, n - 1, rfl, rfl, r_drop R hq h1 h2 h3⟩) (4 * (n - 1 - q)) (4 * (n - q)) (4 * q) pl (by omega) (by omega) (by omega) sh_0
end
section
/-! ===== best, point, fits, largest ===== -/
theorem i_vc_best {k : Nat} {u : SX} {v : SY} (I : i_Rel k u v) (hk : k + 5 ≤ 2560) : wpX_best (fun r u' => wpY_best (fun r' => r' = r ∧ i_Rel (k + 5) u' v) v) u := by
  obtain ⟨wc, fi, bg, cb, pt, pb, co, wl, gc, bp, lv, ct⟩ := u
  obtain ⟨fn, fo, to, bo, ts, go, pl, cr⟩ := v
  obtain ⟨n, rfl, rfl, R⟩ := I
  obtain rfl : gc = go := R.2.1
  have ra := R.1
  unfold wpX_best wpY_best
  dsimp only
  refine xw_survey (A := ta_A co wl) (F := rt_F (ta_A co wl) (6 + n)) (rt_W R) (by omega) (fun p _ => rt_Fi _ _ p) (fun p hp => rt_g R hp) (fun fi bg bp lv hI => ?_)
  refine yf_bestPoint (A := ta_A co wl) (F := rt_F (ta_A co wl) (6 + n)) ra (rt_sd R) (fun j hj => rt_R R (by omega) (Or.inr hj)) (fun p _ => rt_Fi _ _ p) ?_
  have h2 := hI.2.1
  cases e : sv_b (rt_F (ta_A co wl) (6 + n)) (sv_g gc) 343 with
  | none =>
    rw [e] at h2
    exact br_f (by decide) ⟨h2.symm, n, rfl, rfl, R⟩
  | some q =>
    rw [e] at h2
    have := sv_blt e
    exact br_t (nI_pos' (by omega)) (yf_gain (by omega) ⟨h2.symm, n, rfl, rfl, R⟩)
theorem i_vc_point {k : Nat} {u : SX} {v : SY} (I : i_Rel k u v) (hk : k + 5 ≤ 2560) (v1 : Int32) : wpX_point (fun r u' => wpY_point (fun r' => r' = r ∧ i_Rel (k + 5) u' v) v v1) u v1 := by
  obtain ⟨wc, fi, bg, cb, pt, pb, co, wl, gc, bp, lv, ct⟩ := u
  obtain ⟨fn, fo, to, bo, ts, go, pl, cr⟩ := v
  obtain ⟨n, rfl, rfl, R⟩ := I
  obtain rfl : gc = go := R.2.1
  have ra := R.1
  unfold wpX_point wpY_point
  dsimp only
  refine xv_var (fun h => br_t rfl ?_) (fun j hj e => br_f (by decide) ?_)
  · exact yv_var (fun _ => br_t rfl ⟨rfl, n, rfl, rfl, R⟩) (fun j hj e => absurd ⟨j, hj, e⟩ h)
  · subst e
    refine xw_survey (A := ta_A co wl) (F := rt_F (ta_A co wl) (6 + n)) (rt_W R) (by omega) (fun p _ => rt_Fi _ _ p) (fun p hp => rt_g R hp) (fun fi bg bp lv hI => ⟨vp_in_nI (by omega) (by omega), ?_⟩)
    rw [nI_clamp (by omega)]
    refine yv_var (fun h => absurd ⟨j, hj, rfl⟩ h) (fun _ _ _ => br_f (by decide) ?_)
    refine yf_bestPoint (A := ta_A co wl) (F := rt_F (ta_A co wl) (6 + n)) ra (rt_sd R) (fun j hj => rt_R R (by omega) (Or.inr hj)) (fun p _ => rt_Fi _ _ p) ?_
    have h2 := hI.2.2.1 j hj
    cases e : sv_b (rt_F (ta_A co wl) (6 + n)) (sv_g gc) 343 with
    | none =>
      rw [e] at h2
      exact br_f (by decide) ⟨h2.symm, n, rfl, rfl, R⟩
    | some q =>
      rw [e] at h2
      have := sv_blt e
      exact br_t (nI_pos' (by omega)) (yf_part (by omega) hj ⟨h2.symm, n, rfl, rfl, R⟩)
theorem i_vc_fits {k : Nat} {u : SX} {v : SY} (I : i_Rel k u v) (hk : k + 5 ≤ 2560) : wpX_fits (fun r u' => wpY_fits (fun r' => r' = r ∧ i_Rel (k + 5) u' v) v) u := by
  obtain ⟨wc, fi, bg, cb, pt, pb, co, wl, gc, bp, lv, ct⟩ := u
  obtain ⟨fn, fo, to, bo, ts, go, pl, cr⟩ := v
  obtain ⟨n, rfl, rfl, R⟩ := I
  obtain rfl : gc = go := R.2.1
  have ra := R.1
  unfold wpX_fits wpY_fits
  dsimp only
  refine xw_survey (A := ta_A co wl) (F := rt_F (ta_A co wl) (6 + n)) (rt_W R) (by omega) (fun p _ => rt_Fi _ _ p) (fun p hp => rt_g R hp) (fun fi bg bp lv hI => ⟨344, ?_⟩)
  exact yf_fits (A := ta_A co wl) (F := rt_F (ta_A co wl) (6 + n)) ra (rt_sd R) (fun j hj => rt_R R (by omega) (Or.inr hj)) (fun p _ => rt_Fi _ _ p) ⟨hI.1.symm, n, rfl, rfl, R⟩ 343 344 0 (by omega) (by omega)
theorem i_vc_largest {k : Nat} {u : SX} {v : SY} (I : i_Rel k u v) (hk : k + 5 ≤ 2560) (v1 : Int32) : wpX_largest (fun r u' => wpY_largest (fun r' => r' = r ∧ i_Rel (k + 5) u' v) v v1) u v1 := by
  obtain ⟨wc, fi, bg, cb, pt, pb, co, wl, gc, bp, lv, ct⟩ := u
  obtain ⟨fn, fo, to, bo, ts, go, pl, cr⟩ := v
  obtain ⟨n, rfl, rfl, R⟩ := I
  obtain rfl : gc = go := R.2.1
  have ra := R.1
  unfold wpX_largest wpY_largest
  dsimp only
  refine xv_var (fun h => br_t rfl ?_) (fun j hj e => br_f (by decide) ?_)
  · exact yv_var (fun _ => br_t rfl ⟨rfl, n, rfl, rfl, R⟩) (fun j hj e => absurd ⟨j, hj, e⟩ h)
  · subst e
    refine xw_survey (A := ta_A co wl) (F := rt_F (ta_A co wl) (6 + n)) (rt_W R) (by omega) (fun p _ => rt_Fi _ _ p) (fun p hp => rt_g R hp) (fun fi bg bp lv hI => ⟨vp_in_nI (by omega) (by omega), ?_⟩)
    rw [nI_clamp (by omega)]
    refine yv_var (fun h => absurd ⟨j, hj, rfl⟩ h) (fun _ _ _ => br_f (by decide) ⟨344, ?_⟩)
    exact yf_largest (A := ta_A co wl) (F := rt_F (ta_A co wl) (6 + n)) hj ra (rt_sd R) (fun j hj => rt_R R (by omega) (Or.inr hj)) (fun p _ => rt_Fi _ _ p) ⟨(hI.2.2.2 j hj).symm, n, rfl, rfl, R⟩ 343 344 0 (by omega) (by omega)
end
section
/-! ===== solvable, gainTop, gainBottom, needless ===== -/
theorem ra_n0 : narrow .boolean (.int 0) = .int 0 := rfl
theorem ra_n1 : narrow .boolean (.int 1) = .int 1 := rfl
theorem ra_m1 {x : Nat} (h : x < 12) : nI x = -1 ↔ False := by
  refine ⟨fun e => ?_, fun e => e.elim⟩
  have h1 := ir_nI (n := x) 12 (by omega) (by omega)
  have h2 : ir_I (-1) (-1) 1 := ⟨by decide, by decide, by decide⟩
  have := (ir_ieq h1 h2).mp e
  omega
theorem ra_ec {A : Nat → Nat → Int} {N : Nat} {c0 c1 c2 : Int} (s d : Int) : cm_E A N (fun _ => False) c0 c1 c2 s d ↔ cm_C A N (fun _ => False) c0 c1 c2 s d := by
  constructor
  · rintro ⟨u, v, w, h1, h2, h3, k⟩
    exact ⟨u, v, w, h1.1, h2.1, h3.1, k⟩
  · rintro ⟨u, v, w, h1, h2, h3, k⟩
    exact ⟨u, v, w, ⟨h1, id⟩, ⟨h2, id⟩, ⟨h3, id⟩, k⟩
theorem ra_no {A : Nat → Nat → Int} {N : Nat} {Ex : Nat → Prop} {c0 c1 c2 b0 b1 b2 : Int} (h : ∀ s d, ¬ cm_C A N Ex c0 c1 c2 s d) : ∀ s d, ¬ cm_C A N Ex b0 b1 b2 s d := by
  rintro s d ⟨u, v, w, h1, h2, h3, k⟩
  exact h _ _ ⟨u, v, w, h1, h2, h3, k.1, rfl, rfl⟩
theorem ra_Cp {A : Nat → Nat → Int} {N : Nat} {Ex : Nat → Prop} {c0 c1 c2 : Int} : ∀ s d, cm_C A N Ex c0 c1 c2 s d → 0 < d := by
  rintro s d ⟨u, v, w, h1, h2, h3, k⟩
  rw [k.2.2]
  exact cm_bp k.1.1
theorem ra_Ep {A : Nat → Nat → Int} {N : Nat} {Ex : Nat → Prop} {c0 c1 c2 : Int} : ∀ s d, cm_E A N Ex c0 c1 c2 s d → 0 < d := by
  rintro s d ⟨u, v, w, h1, h2, h3, k⟩
  rw [k.2.2]
  exact cm_bp k.1.1
section
variable {fi bg cb : Int32} {pt pb : Int64} {co wl gc bp lv ct : Nat → Int32} {fo : Int32} {to bo : Int64} {ts go pl : Nat → Int32} {cr : Nat → Int64} {n : Nat}
theorem ra_Y {post : SY → Prop} (R : r_R n co wl gc ts go pl) (hp : ∀ fo to bo cr, ys_F (cm_C (ta_A co wl) (6 + n) (fun _ => False) (go 0).toInt (go 1).toInt (go 2).toInt) fo to bo → post (nI n, fo, to, bo, ts, go, pl, cr)) : wpY_searchGoal post (nI n, fo, to, bo, ts, go, pl, cr) := by
  unfold wpY_searchGoal
  dsimp only
  exact ys_search (A := ta_A co wl) (Ex := fun _ => False) R.1 (fun x hx => ra_m1 (by omega)) (fun x _ _ h => h) (fun x hx hc => rt_R R hx hc) (rt_G R (by omega)) (rt_G R (by omega)) (rt_G R (by omega)) (fun fo to bo cr h => hp _ _ _ _ (ys_iff (fun s d => (ra_ec s d).symm) h))
theorem ra_X {post : SX → Prop} (R : r_R n co wl go ts go pl)
    (hp0 : ∀ cb pt ct, (∀ s d, ¬ cm_C (ta_A co wl) (6 + n) (fun _ => False) (go 0).toInt (go 1).toInt (go 2).toInt s d) → post (nI (6 + n), fi, bg, cb, pt, 0, co, wl, go, bp, lv, ct))
    (hp1 : ∀ cb pt pb ct t (b g : Nat), 0 < b → pq_K (cm_C (ta_A co wl) (6 + n) (fun _ => False) (go 0).toInt (go 1).toInt (go 2).toInt) t (b : Int) → g = Nat.gcd t.natAbs b → (∀ q (d : Nat), t = (g : Int) * q → b = g * d → pt.toInt = q ∧ pb.toInt = (d : Int)) → post (nI (6 + n), fi, bg, cb, pt, pb, co, wl, go, bp, lv, ct)) :
    wpX_seekGoalPeak post (nI (6 + n), fi, bg, cb, pt, pb, co, wl, go, bp, lv, ct) := by
  have ra := R.1
  unfold wpX_seekGoalPeak
  dsimp only
  refine xs_seek (A := ta_A co wl) (Ex := fun _ => False) (rt_W R) (by omega) (rt_G R (by omega)) (rt_G R (by omega)) (rt_G R (by omega)) (fun x hx => ra_m1 (by omega)) (fun cb pt pb ct t b h1 h2 h3 => ?_)
  have hb0 : 0 ≤ b := by
    rcases h3 with z | z
    · have := z.1; omega
    · have := z.1; omega
  obtain ⟨b, rfl⟩ : ∃ b' : Nat, b = (b' : Int) := ⟨b.toNat, by omega⟩
  have bb := h2.2.2
  unfold wpX_reducePeak
  dsimp only
  refine eu_wX h1 (ir_lup _ h2 (by decide)) (by decide) ?_
  by_cases e : b = 0
  · subst e
    rcases h3 with ⟨_, z2, z3⟩ | ⟨z1, _⟩
    · subst z2
      refine br_t (by decide) ?_
      have : pb = 0 := (ir_leq h2 ir_l0).mpr rfl
      subst this
      exact hp0 _ _ _ z3
    · omega
  · have gp : 0 < Nat.gcd t.natAbs b := Nat.gcd_pos_of_pos_right _ (by omega)
    have gl : Nat.gcd t.natAbs b ≤ b := Nat.gcd_le_right _ (by omega)
    have gn : ¬ lN (Nat.gcd t.natAbs b) = 0 := fun z => by
      have := (pk_lEQ (b := 0) (by omega) (by omega)).mp z
      omega
    refine br_f gn ⟨gn, nm_e ⟨gn, nm_e ?_⟩⟩
    refine hp1 _ _ _ _ t b _ (by omega) h3 rfl (fun q d hq hd => ⟨?_, ?_⟩)
    · exact eu_div (hq ▸ h1) rfl gp (by omega) (by decide)
    · have h2' : ir_L pb ((Nat.gcd t.natAbs b : Int) * (d : Int)) 5821794 := by
        have ec : ((b : Nat) : Int) = (Nat.gcd t.natAbs b : Int) * (d : Int) := by
          rw [← Int.natCast_mul]
          exact congrArg Nat.cast hd
        rw [← ec]; exact h2
      exact eu_div h2' rfl gp (by omega) (by decide)
end
theorem i_vc_solvable {k : Nat} {u : SX} {v : SY} (I : i_Rel k u v) (hk : k + 5 ≤ 2560) : wpX_solvable (fun r u' => wpY_solvable (fun r' v' => r' = r ∧ i_Rel (k + 5) u' v') v) u := by
  obtain ⟨wc, fi, bg, cb, pt, pb, co, wl, gc, bp, lv, ct⟩ := u
  obtain ⟨fn, fo, to, bo, ts, go, pl, cr⟩ := v
  obtain ⟨n, rfl, rfl, R⟩ := I
  have ra := R.1
  unfold wpX_solvable wpY_solvable
  dsimp only
  have z9 : ir_I 0 0 99 := ir_iup _ ir_i0 (by omega)
  refine xs_seek (A := ta_A co wl) (Ex := fun _ => False) (rt_W R) (by omega) z9 z9 z9 (fun x hx => ra_m1 (by omega)) (fun cb pt pb ct t b h1 h2 h3 => ?_)
  have hX := pq_none h3
  refine ir_if (ir_leq h2 ir_l0) (fun z => ?_) (fun z => ?_)
  · refine ra_Y R (fun fo to bo cr hf => ?_)
    rcases hf with ⟨rfl, _, _, _⟩ | ⟨rfl, t', b', hb, _, _, hK⟩
    · exact ⟨ra_n0, rfl, n, rfl, rfl, R⟩
    · exact absurd ((pq_none hK).mpr (ra_no (hX.mp z))) hb
  · refine ra_Y R (fun fo to bo cr hf => ?_)
    rcases hf with ⟨rfl, _, _, hK⟩ | ⟨rfl, _⟩
    · exact absurd (hX.mpr (ra_no ((pq_none hK).mp rfl))) z
    · exact ⟨ra_n1, rfl, n, rfl, rfl, R⟩
/-- what both sides find of the goal -/
theorem ra_both {S : Int → Int → Prop} {fo : Int32} {to bo : Int64} {t : Int} {b g : Nat} (hb : 0 < b) (hK : pq_K S t (b : Int)) (hg : g = Nat.gcd t.natAbs b) (hF : ys_F S fo to bo) : fo = 1 ∧ ∃ (t' : Int) (b' : Nat) (q : Int) (d : Nat), ir_L to t' 1729072818 ∧ ir_L bo (b' : Int) 5821794 ∧ 0 < b' ∧ 0 < d ∧ t = (g : Int) * q ∧ b = g * d ∧ t' = (Nat.gcd t'.natAbs b' : Int) * q ∧ b' = Nat.gcd t'.natAbs b' * d := by
  rcases hF with ⟨_, _, _, hN⟩ | ⟨rfl, t', b', hb', k1, k2, hK'⟩
  · have := (pq_none hK).mpr ((pq_none hN).mp rfl)
    omega
  · have p' : 0 < b' := by
      rcases hK' with ⟨z, _⟩ | ⟨z, _⟩
      · exact absurd z hb'
      · exact z
    obtain ⟨b', rfl⟩ : ∃ c : Nat, b' = (c : Int) := ⟨b'.toNat, by omega⟩
    obtain ⟨q, d, e1, e2, e3, e4⟩ := eu_red (pq_one hK hK') hb (by omega) hg rfl
    refine ⟨rfl, t', b', q, d, k1, k2, by omega, ?_, e1, e2, e3, e4⟩
    exact Nat.pos_of_ne_zero (fun z => by rw [z, Nat.mul_zero] at e2; omega)
theorem i_vc_gainTop {k : Nat} {u : SX} {v : SY} (I : i_Rel k u v) (hk : k + 5 ≤ 2560) : wpX_gainTop (fun r u' => wpY_gainTop (fun r' v' => r' = r ∧ i_Rel (k + 5) u' v') v) u := by
  obtain ⟨wc, fi, bg, cb, pt, pb, co, wl, gc, bp, lv, ct⟩ := u
  obtain ⟨fn, fo, to, bo, ts, go, pl, cr⟩ := v
  obtain ⟨n, rfl, rfl, R⟩ := I
  obtain rfl : gc = go := R.2.1
  have ra := R.1
  unfold wpX_gainTop wpY_gainTop
  dsimp only
  refine ra_X R (fun cb pt ct no => br_t rfl ?_) (fun cb pt pb ct t b g hb hK hg hq => ?_)
  · refine ra_Y R (fun fo to bo cr hf => ?_)
    rcases hf with ⟨rfl, rfl, rfl, _⟩ | ⟨rfl, t', b', hb, _, _, hK⟩
    · exact eu_wY (d := 1) (B := 1) (ir_lup 1 ir_l0 (by omega)) (show ir_L 1 ((1 : Nat) : Int) 1 from ir_l1) (by decide) (by decide) (by decide) (br_t rfl ⟨rfl, n, rfl, rfl, R⟩)
    · exact absurd ((pq_none hK).mpr no) hb
  · have pn : ¬ pb = 0 := by
      obtain ⟨q, d, e1, e2, _, _⟩ := eu_red (t := t) (b := b) rfl hb hb hg hg
      have h := (hq q d e1 e2).2
      have dp : d ≠ 0 := fun z => by rw [z, Nat.mul_zero] at e2; omega
      intro z
      rw [z, show (0 : Int64).toInt = 0 from by decide] at h
      omega
    refine br_f pn ?_
    refine ra_Y R (fun fo to bo cr hf => ?_)
    obtain ⟨rfl, t', b', q, d, k1, k2, hb', hd, e1, e2, e3, e4⟩ := ra_both hb hK hg hf
    have bb := k2.2.2
    have gp : 0 < Nat.gcd t'.natAbs b' := Nat.gcd_pos_of_pos_right _ hb'
    have gl : Nat.gcd t'.natAbs b' ≤ b' := Nat.gcd_le_right _ hb'
    refine eu_wY k1 (ir_lup _ k2 (by decide)) (by decide) (by omega) hb' ?_
    generalize Nat.gcd t'.natAbs b' = g' at *
    have gn : ¬ lN g' = 0 := fun z => by
      have := (pk_lEQ (b := 0) (by omega) (by omega)).mp z
      omega
    refine br_f (show ¬ (1 : Int32) = 0 by decide) ⟨gn, ?_, n, rfl, rfl, R⟩
    have k1' : ir_L to ((g' : Int) * q) 1729072818 := by rw [← e3]; exact k1
    exact congrArg Int64.toInt32 (Int64.toInt_inj.mp ((eu_div k1' rfl gp (by omega) (by decide)).trans (hq q d e1 e2).1.symm))
theorem i_vc_gainBottom {k : Nat} {u : SX} {v : SY} (I : i_Rel k u v) (hk : k + 5 ≤ 2560) : wpX_gainBottom (fun r u' => wpY_gainBottom (fun r' v' => r' = r ∧ i_Rel (k + 5) u' v') v) u := by
  obtain ⟨wc, fi, bg, cb, pt, pb, co, wl, gc, bp, lv, ct⟩ := u
  obtain ⟨fn, fo, to, bo, ts, go, pl, cr⟩ := v
  obtain ⟨n, rfl, rfl, R⟩ := I
  obtain rfl : gc = go := R.2.1
  have ra := R.1
  unfold wpX_gainBottom wpY_gainBottom
  dsimp only
  refine ra_X R (fun cb pt ct no => br_t rfl ?_) (fun cb pt pb ct t b g hb hK hg hq => ?_)
  · refine ra_Y R (fun fo to bo cr hf => ?_)
    rcases hf with ⟨rfl, rfl, rfl, _⟩ | ⟨rfl, t', b', hb, _, _, hK⟩
    · exact eu_wY (d := 1) (B := 1) (ir_lup 1 ir_l0 (by omega)) (show ir_L 1 ((1 : Nat) : Int) 1 from ir_l1) (by decide) (by decide) (by decide) (br_t rfl ⟨rfl, n, rfl, rfl, R⟩)
    · exact absurd ((pq_none hK).mpr no) hb
  · have pn : ¬ pb = 0 := by
      obtain ⟨q, d, e1, e2, _, _⟩ := eu_red (t := t) (b := b) rfl hb hb hg hg
      have h := (hq q d e1 e2).2
      have dp : d ≠ 0 := fun z => by rw [z, Nat.mul_zero] at e2; omega
      intro z
      rw [z, show (0 : Int64).toInt = 0 from by decide] at h
      omega
    refine br_f pn ?_
    refine ra_Y R (fun fo to bo cr hf => ?_)
    obtain ⟨rfl, t', b', q, d, k1, k2, hb', hd, e1, e2, e3, e4⟩ := ra_both hb hK hg hf
    have bb := k2.2.2
    have gp : 0 < Nat.gcd t'.natAbs b' := Nat.gcd_pos_of_pos_right _ hb'
    have gl : Nat.gcd t'.natAbs b' ≤ b' := Nat.gcd_le_right _ hb'
    refine eu_wY k1 (ir_lup _ k2 (by decide)) (by decide) (by omega) hb' ?_
    generalize Nat.gcd t'.natAbs b' = g' at *
    have gn : ¬ lN g' = 0 := fun z => by
      have := (pk_lEQ (b := 0) (by omega) (by omega)).mp z
      omega
    refine br_f (show ¬ (1 : Int32) = 0 by decide) ⟨gn, ?_, n, rfl, rfl, R⟩
    have k2' : ir_L bo ((g' : Int) * (d : Int)) 5821794 := by
      have ec : ((b' : Nat) : Int) = (g' : Int) * (d : Int) := by
        rw [← Int.natCast_mul]
        exact congrArg Nat.cast e4
      rw [← ec]; exact k2
    exact congrArg Int64.toInt32 (Int64.toInt_inj.mp ((eu_div k2' rfl gp (by omega) (by decide)).trans (hq q d e1 e2).2.symm))
/-- corners on the wall that is left out don't count for needless -/
theorem rn_iff {A : Nat → Nat → Int} {N K : Nat} : (∀ s d, cm_C A N (fun x => x = K) (A K 0) (A K 1) (A K 2) s d → s ≤ A K 3 * d) ↔ (∀ s d, cm_E A N (fun x => x = K) (A K 0) (A K 1) (A K 2) s d → s ≤ A K 3 * d) := by
  constructor
  · rintro h s d ⟨u, v, w, h1, h2, h3, k⟩
    exact h s d ⟨u, v, w, h1.1, h2.1, h3.1, k⟩
  · rintro h s d ⟨u, v, w, h1, h2, h3, k⟩
    by_cases e : u = K ∨ v = K ∨ w = K
    · rw [cm_onK k e]
      exact Int.le_refl _
    · exact h s d ⟨u, v, w, ⟨h1, fun z => e (Or.inl z)⟩, ⟨h2, fun z => e (Or.inr (Or.inl z))⟩, ⟨h3, fun z => e (Or.inr (Or.inr z))⟩, k⟩
theorem i_vc_needless {k : Nat} {u : SX} {v : SY} (I : i_Rel k u v) (hk : k + 5 ≤ 2560) (v1 : Int32) : wpX_needless (fun r u' => wpY_needless (fun r' v' => r' = r ∧ i_Rel (k + 5) u' v') v v1) u v1 := by
  obtain ⟨wc, fi, bg, cb, pt, pb, co, wl, gc, bp, lv, ct⟩ := u
  obtain ⟨fn, fo, to, bo, ts, go, pl, cr⟩ := v
  obtain ⟨n, rfl, rfl, R⟩ := I
  have ra := R.1
  unfold wpX_needless wpY_needless
  dsimp only
  refine xv_rule ra (fun h => br_t rfl ?_) (fun q hq e => br_f (by decide) ?_)
  · exact br_c (fun _ => ⟨rfl, n, rfl, rfl, R⟩) (fun h0 => br_f (rn_no ra h h0) ⟨rfl, n, rfl, rfl, R⟩)
  · subst e
    have W := rt_W R (q + 6) (by omega)
    have P := rt_R R (p := q) (by omega) (Or.inr hq)
    have P2 := P.2
    rw [wg_lo (by omega)] at P2
    have Y : ∀ (r : Int32) (u' : SX), (∃ fi bg cb pt pb bp lv ct, u' = (nI (6 + n), fi, bg, cb, pt, pb, co, wl, gc, bp, lv, ct)) → ((∀ s d, cm_E (ta_A co wl) (6 + n) (fun x => x = q + 6) (ta_A co wl (q + 6) 0) (ta_A co wl (q + 6) 1) (ta_A co wl (q + 6) 2) s d → s ≤ ta_A co wl (q + 6) 3 * d) → r = 1) → (¬ (∀ s d, cm_E (ta_A co wl) (6 + n) (fun x => x = q + 6) (ta_A co wl (q + 6) 0) (ta_A co wl (q + 6) 1) (ta_A co wl (q + 6) 2) s d → s ≤ ta_A co wl (q + 6) 3 * d) → r = 0) → wpY_needless (fun r' v' => r' = r ∧ i_Rel (k + 5) u' v') (nI n, fo, to, bo, ts, go, pl, cr) (nI q) := by
      rintro r u' ⟨fi, bg, cb, pt, pb, bp, lv, ct, rfl⟩ hT hF
      have e0 : 4 * nI q = nI (4 * q + 0) := pk_mul 4 q
      have e1 : 4 * nI q + 1 = nI (4 * q + 1) := yc_i q 1
      have e2 : 4 * nI q + 2 = nI (4 * q + 2) := yc_i q 2
      have e3 : 4 * nI q + 3 = nI (4 * q + 3) := yc_i q 3
      unfold wpY_needless
      dsimp only
      refine br_f (nI_pos (by omega)) (br_t (nI_lt hq (by omega)) ?_)
      rw [e1, e2, e3, e0, nI_clamp (by omega), nI_clamp (by omega), nI_clamp (by omega), nI_clamp (by omega)]
      refine ⟨vp_in_nI (by omega) (by omega), vp_in_nI (by omega) (by omega), vp_in_nI (by omega) (by omega), ?_⟩
      refine ys_search (A := ta_A co wl) (Ex := fun x => x = q + 6) ra (fun x hx => ?_) (fun x h6 h12 h => ?_) (fun x hx hc => rt_R R hx hc) (P2 0 (by omega)) (P2 1 (by omega)) (P2 2 (by omega)) (fun fo to bo cr hf => ?_)
      · rw [wg_lo hx, nI_eq (by omega) (by omega)]
        omega
      · have := wg_hi h6 h12
        omega
      · rcases hf with ⟨rfl, _, _, hK⟩ | ⟨rfl, t', b', hb, k1, k2, hK⟩
        · exact br_t rfl ⟨(hT (fun s d z => absurd z ((pq_none hK).mp rfl s d))).symm, n, rfl, rfl, R⟩
        · refine br_f (show ¬ (1 : Int32) = 0 by decide) ⟨vp_in_nI (by omega) (by omega), ?_⟩
          have B := pq_below (l := ta_A co wl (q + 6) 3) ra_Ep hK hb
          refine ir_if (ir_llt (ir_lmul (ir_il (P2 3 (by omega))) k2 (by decide)) k1) (fun z => ⟨(hF (fun al => B.mpr al z)).symm, n, rfl, rfl, R⟩) (fun z => ⟨(hT (B.mp z)).symm, n, rfl, rfl, R⟩)
    refine nm_r (e' := nI (q + 6)) (by rw [show 6 + nI q = nI (6 + q) from nI_add 6 q, Nat.add_comm]) (nm_r (e' := nI ((q + 6) * 3)) (pk_mul (q + 6) 3) ?_)
    have e2 : nI ((q + 6) * 3) + 2 = nI ((q + 6) * 3 + 2) := nI_add _ 2
    rw [nI_1, e2, nI_clamp (by omega), nI_clamp (by omega), nI_clamp (by omega), nI_clamp (by omega)]
    refine ⟨vp_in_nI (by omega) (by omega), vp_in_nI (by omega) (by omega), vp_in_nI (by omega) (by omega), ?_⟩
    refine xs_seek (A := ta_A co wl) (Ex := fun x => x = q + 6) (rt_W R) (by omega) (W.1 0 (by omega)) (W.1 1 (by omega)) (W.1 2 (by omega)) (fun x hx => nI_eq (by omega) (by omega)) (fun cb pt pb ct t b h1 h2 h3 => ?_)
    have hX := pq_none h3
    refine ir_if (ir_leq h2 ir_l0) (fun z => Y 1 _ ⟨_, _, _, _, _, _, _, _, rfl⟩ (fun _ => rfl) (fun al => ?_)) (fun z => ⟨vp_in_nI (by omega) (by omega), ?_⟩)
    · exact absurd (rn_iff.mp (fun s d h => absurd h (hX.mp z s d))) al
    · have B := pq_below (l := ta_A co wl (q + 6) 3) ra_Cp h3 z
      refine ir_if (ir_llt (ir_lmul (ir_il W.2) h2 (by decide)) h1) (fun y => Y 0 _ ⟨_, _, _, _, _, _, _, _, rfl⟩ (fun al => ?_) (fun _ => rfl)) (fun y => Y 1 _ ⟨_, _, _, _, _, _, _, _, rfl⟩ (fun _ => rfl) (fun al => ?_))
      · exact absurd y (B.mpr (rn_iff.mpr al))
      · exact absurd (rn_iff.mp (B.mp y)) al
end
