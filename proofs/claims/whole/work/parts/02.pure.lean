/-! ===== corners of three walls, over whole numbers ===== -/
def cm_x (A : Nat → Nat → Int) (v w i j : Nat) : Int := A v i * A w j - A v j * A w i
def cm_d (A : Nat → Nat → Int) (u v w : Nat) : Int := A u 0 * cm_x A v w 1 2 + A u 1 * cm_x A v w 2 0 + A u 2 * cm_x A v w 0 1
def cm_t (A : Nat → Nat → Int) (u v w i : Nat) : Int := A u 3 * cm_x A v w ((i + 1) % 3) ((i + 2) % 3) + A v 3 * cm_x A w u ((i + 1) % 3) ((i + 2) % 3) + A w 3 * cm_x A u v ((i + 1) % 3) ((i + 2) % 3)
def cm_s (A : Nat → Nat → Int) (u v w : Nat) : Int := if cm_d A u v w < 0 then -1 else 1
def cm_b (A : Nat → Nat → Int) (u v w : Nat) : Int := cm_s A u v w * cm_d A u v w
def cm_n (A : Nat → Nat → Int) (u v w i : Nat) : Int := cm_s A u v w * cm_t A u v w i
theorem cm_d1 (A : Nat → Nat → Int) (u v w : Nat) : cm_d A v u w = - cm_d A u v w := by
  unfold cm_d cm_x
  grind
theorem cm_d2 (A : Nat → Nat → Int) (u v w : Nat) : cm_d A u w v = - cm_d A u v w := by
  unfold cm_d cm_x
  grind
theorem cm_t1 (A : Nat → Nat → Int) (u v w i : Nat) : cm_t A v u w i = - cm_t A u v w i := by
  unfold cm_t cm_x
  generalize (i + 1) % 3 = j
  generalize (i + 2) % 3 = k
  grind
theorem cm_t2 (A : Nat → Nat → Int) (u v w i : Nat) : cm_t A u w v i = - cm_t A u v w i := by
  unfold cm_t cm_x
  generalize (i + 1) % 3 = j
  generalize (i + 2) % 3 = k
  grind
theorem cm_ne {A : Nat → Nat → Int} {u v w : Nat} (h : cm_d A u v w ≠ 0) : u ≠ v ∧ v ≠ w ∧ u ≠ w := by
  refine ⟨fun e => h ?_, fun e => h ?_, fun e => h ?_⟩
  · subst e
    have := cm_d1 A u u w
    omega
  · subst e
    have := cm_d2 A u v v
    omega
  · subst e
    have h1 := cm_d1 A u v u
    have h2 := cm_d2 A v u u
    omega
theorem cm_s1 {A : Nat → Nat → Int} {u v w : Nat} (h : cm_d A u v w ≠ 0) : cm_s A v u w = - cm_s A u v w := by
  unfold cm_s
  rw [cm_d1]
  by_cases z : cm_d A u v w < 0
  · rw [if_pos z, if_neg (by omega)]
    omega
  · rw [if_neg z, if_pos (by omega)]
theorem cm_s2 {A : Nat → Nat → Int} {u v w : Nat} (h : cm_d A u v w ≠ 0) : cm_s A u w v = - cm_s A u v w := by
  unfold cm_s
  rw [cm_d2]
  by_cases z : cm_d A u v w < 0
  · rw [if_pos z, if_neg (by omega)]
    omega
  · rw [if_neg z, if_pos (by omega)]
theorem cm_b1 {A : Nat → Nat → Int} {u v w : Nat} (h : cm_d A u v w ≠ 0) : cm_b A v u w = cm_b A u v w := by
  unfold cm_b
  rw [cm_s1 h, cm_d1, Int.neg_mul_neg]
theorem cm_b2 {A : Nat → Nat → Int} {u v w : Nat} (h : cm_d A u v w ≠ 0) : cm_b A u w v = cm_b A u v w := by
  unfold cm_b
  rw [cm_s2 h, cm_d2, Int.neg_mul_neg]
theorem cm_n1 {A : Nat → Nat → Int} {u v w : Nat} (h : cm_d A u v w ≠ 0) (i : Nat) : cm_n A v u w i = cm_n A u v w i := by
  unfold cm_n
  rw [cm_s1 h, cm_t1, Int.neg_mul_neg]
theorem cm_n2 {A : Nat → Nat → Int} {u v w : Nat} (h : cm_d A u v w ≠ 0) (i : Nat) : cm_n A u w v i = cm_n A u v w i := by
  unfold cm_n
  rw [cm_s2 h, cm_t2, Int.neg_mul_neg]
theorem cm_bp {A : Nat → Nat → Int} {u v w : Nat} (h : cm_d A u v w ≠ 0) : 0 < cm_b A u v w := by
  unfold cm_b cm_s
  by_cases z : cm_d A u v w < 0
  · rw [if_pos z]; omega
  · rw [if_neg z]; omega
/-- the walls u, v, w meet in one point, and it keeps every wall that isn't left out -/
def cm_G (A : Nat → Nat → Int) (N : Nat) (Ex : Nat → Prop) (u v w : Nat) : Prop := cm_d A u v w ≠ 0 ∧ ∀ x, x < N → ¬ Ex x → A x 0 * cm_n A u v w 0 + A x 1 * cm_n A u v w 1 + A x 2 * cm_n A u v w 2 ≤ A x 3 * cm_b A u v w
def cm_K (A : Nat → Nat → Int) (N : Nat) (Ex : Nat → Prop) (c0 c1 c2 : Int) (s d : Int) (u v w : Nat) : Prop := cm_G A N Ex u v w ∧ s = c0 * cm_n A u v w 0 + c1 * cm_n A u v w 1 + c2 * cm_n A u v w 2 ∧ d = cm_b A u v w
theorem cm_K1 {A : Nat → Nat → Int} {N : Nat} {Ex : Nat → Prop} {c0 c1 c2 s d : Int} (u v w : Nat) (h : cm_K A N Ex c0 c1 c2 s d u v w) : cm_K A N Ex c0 c1 c2 s d v u w := by
  obtain ⟨⟨h1, h2⟩, h3, h4⟩ := h
  refine ⟨⟨by rw [cm_d1]; omega, ?_⟩, ?_, ?_⟩
  · rw [cm_n1 h1, cm_n1 h1, cm_n1 h1, cm_b1 h1]; exact h2
  · rw [cm_n1 h1, cm_n1 h1, cm_n1 h1]; exact h3
  · rw [cm_b1 h1]; exact h4
theorem cm_K2 {A : Nat → Nat → Int} {N : Nat} {Ex : Nat → Prop} {c0 c1 c2 s d : Int} (u v w : Nat) (h : cm_K A N Ex c0 c1 c2 s d u v w) : cm_K A N Ex c0 c1 c2 s d u w v := by
  obtain ⟨⟨h1, h2⟩, h3, h4⟩ := h
  refine ⟨⟨by rw [cm_d2]; omega, ?_⟩, ?_, ?_⟩
  · rw [cm_n2 h1, cm_n2 h1, cm_n2 h1, cm_b2 h1]; exact h2
  · rw [cm_n2 h1, cm_n2 h1, cm_n2 h1]; exact h3
  · rw [cm_b2 h1]; exact h4
theorem cm_Kne {A : Nat → Nat → Int} {N : Nat} {Ex : Nat → Prop} {c0 c1 c2 s d : Int} (u v w : Nat) (h : cm_K A N Ex c0 c1 c2 s d u v w) : u ≠ v ∧ v ≠ w ∧ u ≠ w := cm_ne h.1.1
/-- three that differ can be put in order -/
theorem cm_sort {P : Nat → Prop} {K : Nat → Nat → Nat → Prop} (h1 : ∀ u v w, K u v w → K v u w) (h2 : ∀ u v w, K u v w → K u w v) (hd : ∀ u v w, K u v w → u ≠ v ∧ v ≠ w ∧ u ≠ w) {u v w : Nat} (hu : P u) (hv : P v) (hw : P w) (h : K u v w) : ∃ u v w, u < v ∧ v < w ∧ P u ∧ P v ∧ P w ∧ K u v w := by
  obtain ⟨n1, n2, n3⟩ := hd u v w h
  by_cases a : u < v
  · by_cases b : v < w
    · exact ⟨u, v, w, a, b, hu, hv, hw, h⟩
    · by_cases c : u < w
      · exact ⟨u, w, v, c, by omega, hu, hw, hv, h2 _ _ _ h⟩
      · exact ⟨w, u, v, by omega, a, hw, hu, hv, h1 _ _ _ (h2 _ _ _ h)⟩
  · by_cases b : u < w
    · exact ⟨v, u, w, by omega, b, hv, hu, hw, h1 _ _ _ h⟩
    · by_cases c : v < w
      · exact ⟨v, w, u, c, by omega, hv, hw, hu, h2 _ _ _ (h1 _ _ _ h)⟩
      · exact ⟨w, v, u, by omega, by omega, hw, hv, hu, h1 _ _ _ (h2 _ _ _ (h1 _ _ _ h))⟩
/-- the sums at the corners, as fractions; the second: of corners on no wall that is left out -/
def cm_C (A : Nat → Nat → Int) (N : Nat) (Ex : Nat → Prop) (c0 c1 c2 : Int) (s d : Int) : Prop := ∃ u v w, u < N ∧ v < N ∧ w < N ∧ cm_K A N Ex c0 c1 c2 s d u v w
def cm_E (A : Nat → Nat → Int) (N : Nat) (Ex : Nat → Prop) (c0 c1 c2 : Int) (s d : Int) : Prop := ∃ u v w, (u < N ∧ ¬ Ex u) ∧ (v < N ∧ ¬ Ex v) ∧ (w < N ∧ ¬ Ex w) ∧ cm_K A N Ex c0 c1 c2 s d u v w
theorem cm_on (A : Nat → Nat → Int) (u v w : Nat) : A u 0 * cm_t A u v w 0 + A u 1 * cm_t A u v w 1 + A u 2 * cm_t A u v w 2 = A u 3 * cm_d A u v w := by
  unfold cm_t cm_d cm_x
  simp only [Nat.reduceAdd, Nat.reduceMod]
  grind
theorem cm_onN (A : Nat → Nat → Int) (u v w : Nat) : A u 0 * cm_n A u v w 0 + A u 1 * cm_n A u v w 1 + A u 2 * cm_n A u v w 2 = A u 3 * cm_b A u v w := by
  have h := cm_on A u v w
  unfold cm_n cm_b
  generalize cm_s A u v w = s
  have e : A u 3 * (s * cm_d A u v w) = s * (A u 3 * cm_d A u v w) := Int.mul_left_comm _ _ _
  rw [e, ← h, Int.mul_add, Int.mul_add, Int.mul_left_comm s, Int.mul_left_comm s, Int.mul_left_comm s]
/-- a corner on the wall k: its sum by the wall k is the wall's limit -/
theorem cm_onK {A : Nat → Nat → Int} {N k : Nat} {Ex : Nat → Prop} {s d : Int} {u v w : Nat} (h : cm_K A N Ex (A k 0) (A k 1) (A k 2) s d u v w) (e : u = k ∨ v = k ∨ w = k) : s = A k 3 * d := by
  rcases e with e | e | e
  · subst e
    rw [h.2.1, h.2.2]; exact cm_onN A _ _ _
  · subst e
    have h' := cm_K1 _ _ _ h
    rw [h'.2.1, h'.2.2]; exact cm_onN A _ _ _
  · subst e
    have h' := cm_K1 _ _ _ (cm_K2 _ _ _ h)
    rw [h'.2.1, h'.2.2]; exact cm_onN A _ _ _
/-! ===== the greatest of a set of fractions ===== -/
def pq_K (S : Int → Int → Prop) (t b : Int) : Prop := (b = 0 ∧ t = 0 ∧ ∀ s d, ¬ S s d) ∨ (0 < b ∧ S t b ∧ ∀ s d, S s d → s * b ≤ t * d)
theorem pq_iff {S S' : Int → Int → Prop} {t b : Int} (e : ∀ s d, S' s d ↔ S s d) (h : pq_K S t b) : pq_K S' t b := by
  rcases h with ⟨h1, h2, h3⟩ | ⟨h1, h2, h3⟩
  · exact Or.inl ⟨h1, h2, fun s d z => h3 s d ((e s d).mp z)⟩
  · exact Or.inr ⟨h1, (e t b).mpr h2, fun s d z => h3 s d ((e s d).mp z)⟩
theorem pq_first {S S' : Int → Int → Prop} {t b s0 d0 : Int} (e : ∀ s d, S' s d ↔ S s d ∨ (s = s0 ∧ d = d0)) (h : pq_K S t b) (hb : b = 0) (hd : 0 < d0) : pq_K S' s0 d0 := by
  rcases h with ⟨h1, h2, h3⟩ | ⟨h1, h2, h3⟩
  · refine Or.inr ⟨hd, (e _ _).mpr (Or.inr ⟨rfl, rfl⟩), fun s d z => ?_⟩
    rcases (e _ _).mp z with z | ⟨rfl, rfl⟩
    · exact absurd z (h3 s d)
    · exact Int.le_refl _
  · omega
theorem pq_keep {S S' : Int → Int → Prop} {t b s0 d0 : Int} (e : ∀ s d, S' s d ↔ S s d ∨ (s = s0 ∧ d = d0)) (h : pq_K S t b) (hb : b ≠ 0) (hc : s0 * b ≤ t * d0) : pq_K S' t b := by
  rcases h with ⟨h1, h2, h3⟩ | ⟨h1, h2, h3⟩
  · exact absurd h1 hb
  · refine Or.inr ⟨h1, (e _ _).mpr (Or.inl h2), fun s d z => ?_⟩
    rcases (e _ _).mp z with z | ⟨rfl, rfl⟩
    · exact h3 s d z
    · exact hc
theorem pq_tr {s b t d s0 d0 : Int} (hb : 0 < b) (hd : 0 ≤ d) (hd0 : 0 ≤ d0) (h1 : s * b ≤ t * d) (h2 : t * d0 ≤ s0 * b) : s * d0 ≤ s0 * d := by
  have a1 := Int.mul_le_mul_of_nonneg_right h1 hd0
  have a2 := Int.mul_le_mul_of_nonneg_right h2 hd
  have e1 : t * d * d0 = t * d0 * d := Int.mul_right_comm _ _ _
  have e2 : s * b * d0 = s * d0 * b := Int.mul_right_comm _ _ _
  have e3 : s0 * b * d = s0 * d * b := Int.mul_right_comm _ _ _
  have a3 : s * d0 * b ≤ s0 * d * b := by omega
  exact Int.le_of_mul_le_mul_right a3 hb
theorem pq_new {S S' : Int → Int → Prop} {t b s0 d0 : Int} (e : ∀ s d, S' s d ↔ S s d ∨ (s = s0 ∧ d = d0)) (hp : ∀ s d, S s d → 0 < d) (h : pq_K S t b) (hb : b ≠ 0) (hd : 0 < d0) (hc : ¬ s0 * b ≤ t * d0) : pq_K S' s0 d0 := by
  rcases h with ⟨h1, h2, h3⟩ | ⟨h1, h2, h3⟩
  · exact absurd h1 hb
  · refine Or.inr ⟨hd, (e _ _).mpr (Or.inr ⟨rfl, rfl⟩), fun s d z => ?_⟩
    rcases (e _ _).mp z with z | ⟨rfl, rfl⟩
    · have := hp s d z
      exact pq_tr h1 (by omega) (by omega) (h3 s d z) (by omega)
    · exact Int.le_refl _
theorem pq_none {S : Int → Int → Prop} {t b : Int} (h : pq_K S t b) : b = 0 ↔ ∀ s d, ¬ S s d := by
  rcases h with ⟨h1, h2, h3⟩ | ⟨h1, h2, h3⟩
  · exact ⟨fun _ => h3, fun _ => h1⟩
  · exact ⟨fun z => by omega, fun z => absurd h2 (z _ _)⟩
theorem pq_one {S : Int → Int → Prop} {t b t' b' : Int} (h : pq_K S t b) (h' : pq_K S t' b') : t * b' = t' * b := by
  rcases h with ⟨h1, h2, h3⟩ | ⟨h1, h2, h3⟩
  · rw [h1, h2, Int.zero_mul, Int.mul_zero]
  · rcases h' with ⟨k1, k2, k3⟩ | ⟨k1, k2, k3⟩
    · exact absurd h2 (k3 _ _)
    · have a := h3 _ _ k2
      have b := k3 _ _ h2
      omega
/-- the question of needless, of a set -/
theorem pq_below {S : Int → Int → Prop} {t b l : Int} (hp : ∀ s d, S s d → 0 < d) (h : pq_K S t b) (hb : b ≠ 0) : ¬ l * b < t ↔ ∀ s d, S s d → s ≤ l * d := by
  rcases h with ⟨h1, h2, h3⟩ | ⟨h1, h2, h3⟩
  · exact absurd h1 hb
  · constructor
    · intro z s d hs
      have a := pq_tr (d0 := 1) (s0 := l) h1 (Int.le_of_lt (hp s d hs)) (by omega) (h3 s d hs) (by omega)
      omega
    · intro z
      have := z _ _ h2
      omega
