/-! ===== the relation ===== -/
def rb_d (x : Int32) (B : Nat) : Prop := -(B : Int) ≤ x.toInt ∧ x.toInt ≤ (B : Int)
theorem rb_up {x : Int32} {B : Nat} (C : Nat) (h : rb_d x B) (hc : B ≤ C) : rb_d x C := by
  obtain ⟨h1, h2⟩ := h
  exact ⟨by omega, by omega⟩
theorem rb_ir {x : Int32} {B : Nat} (h : rb_d x B) : ir_I x x.toInt B := ⟨rfl, h.1, h.2⟩
theorem rb_any (x : Int32) : ir_I x x.toInt 2147483648 := by
  have h1 := Int32.toInt_lt x
  have h2 := Int32.le_toInt x
  exact ⟨rfl, by omega, by omega⟩
def rs_c (w i : Nat) : Int32 := if w = i then -1 else if w = 3 + i then 1 else 0
theorem rs_bd (w i : Nat) : rb_d (rs_c w i) 1 := by
  unfold rs_c
  by_cases a : w = i
  · rw [if_pos a]; exact ⟨by decide, by decide⟩
  · rw [if_neg a]
    by_cases b : w = 3 + i
    · rw [if_pos b]; exact ⟨by decide, by decide⟩
    · rw [if_neg b]; exact ⟨by decide, by decide⟩
/-- the walls and the planes hold the same plan, with n rules -/
def r_R (n : Nat) (co wl gc ts go pl : Nat → Int32) : Prop :=
  n ≤ 6 ∧ gc = go ∧ (∀ w, w < 6 → ∀ i, i < 3 → co (w * 3 + i) = rs_c w i) ∧ (∀ i, i < 3 → wl i = 0 ∧ wl (3 + i) = ts i ∧ rb_d (ts i) 6) ∧ (∀ k, k < n → (∀ i, i < 3 → rb_d (co ((k + 6) * 3 + i)) 9) ∧ rb_d (wl (k + 6)) 99)
  ∧ (∀ p, 6 ≤ p → p < 12 → ∀ i, i < 3 → pl (4 * p + i) = rs_c (wg_s p) i) ∧ (∀ i, i < 3 → pl (27 + 8 * i) = ts i ∧ pl (31 + 8 * i) = 0) ∧ (∀ k, k < n → (∀ i, i < 3 → pl (4 * k + i) = co ((k + 6) * 3 + i)) ∧ pl (4 * k + 3) = wl (k + 6)) ∧ (∀ i, i < 3 → rb_d (go i) 9)
def ta_A (co wl : Nat → Int32) (w i : Nat) : Int := if i = 3 then (wl w).toInt else (co (w * 3 + i)).toInt
theorem ta_i {co wl : Nat → Int32} {w i : Nat} (h : i < 3) : ta_A co wl w i = (co (w * 3 + i)).toInt := if_neg (by omega)
theorem ta_3 {co wl : Nat → Int32} {w : Nat} : ta_A co wl w 3 = (wl w).toInt := if_pos rfl
section
variable {n : Nat} {co wl gc ts go pl : Nat → Int32}
theorem rt_W (R : r_R n co wl gc ts go pl) : xa_W co wl (ta_A co wl) (6 + n) := by
  obtain ⟨ra, rb, rc, rd, re, rf, rg, rh, ri⟩ := R
  intro w hw
  by_cases h6 : w < 6
  · refine ⟨fun i hi => ?_, ?_⟩
    · rw [ta_i hi, rc w h6 i hi]
      exact rb_ir (rb_up 99 (rs_bd w i) (by omega))
    · rw [ta_3]
      by_cases h3 : w < 3
      · rw [(rd w h3).1]
        exact rb_ir ⟨by decide, by decide⟩
      · obtain ⟨i, rfl⟩ : ∃ i, w = 3 + i := ⟨w - 3, by omega⟩
        rw [(rd i (by omega)).2.1]
        exact rb_ir (rb_up 99 (rd i (by omega)).2.2 (by omega))
  · obtain ⟨k, rfl⟩ : ∃ k, w = k + 6 := ⟨w - 6, by omega⟩
    refine ⟨fun i hi => ?_, ?_⟩
    · rw [ta_i hi]
      exact rb_ir (rb_up 99 ((re k (by omega)).1 i hi) (by omega))
    · rw [ta_3]
      exact rb_ir (re k (by omega)).2
theorem rt_P (R : r_R n co wl gc ts go pl) {p : Nat} (hp : p < 12) (hc : 6 ≤ p ∨ p < n) : (∀ i, i < 3 → pl (4 * p + i) = co (wg_s p * 3 + i)) ∧ pl (4 * p + 3) = wl (wg_s p) := by
  obtain ⟨ra, rb, rc, rd, re, rf, rg, rh, ri⟩ := R
  by_cases h6 : p < 6
  · have hn : p < n := by omega
    rw [wg_lo h6]
    exact rh p hn
  · refine ⟨fun i hi => ?_, ?_⟩
    · rw [rf p (by omega) hp i hi, rc _ (wg_hi (by omega) hp) i hi]
    · by_cases e : p % 2 = 0
      · obtain ⟨j, rfl⟩ : ∃ j, p = 6 + 2 * j := ⟨(p - 6) / 2, by omega⟩
        have es : wg_s (6 + 2 * j) = 3 + j := by
          unfold wg_s
          rw [if_neg (by omega), if_pos (by omega)]; omega
        rw [es, (rd j (by omega)).2.1, show 4 * (6 + 2 * j) + 3 = 27 + 8 * j from by omega]
        exact (rg j (by omega)).1
      · obtain ⟨j, rfl⟩ : ∃ j, p = 7 + 2 * j := ⟨(p - 7) / 2, by omega⟩
        have es : wg_s (7 + 2 * j) = j := by
          unfold wg_s
          rw [if_neg (by omega), if_neg (by omega)]; omega
        rw [es, (rd j (by omega)).1, show 4 * (7 + 2 * j) + 3 = 31 + 8 * j from by omega]
        exact (rg j (by omega)).2
theorem rt_R (R : r_R n co wl gc ts go pl) {p : Nat} (hp : p < 12) (hc : 6 ≤ p ∨ p < n) : ya_R pl (ta_A co wl) p := by
  refine ⟨hp, fun i hi => ?_⟩
  have hw := rt_W R (wg_s p) (wg_sn hp hc R.1)
  have hP := rt_P R hp hc
  by_cases h3 : i < 3
  · rw [hP.1 i h3]; exact hw.1 i h3
  · have e : i = 3 := by omega
    subst e
    rw [hP.2]; exact hw.2
theorem rt_sd (R : r_R n co wl gc ts go pl) : sd_A (ta_A co wl) ts := by
  have W := rt_W R
  obtain ⟨ra, rb, rc, rd, re, rf, rg, rh, ri⟩ := R
  intro i hi
  refine ⟨fun j hj => ⟨?_, ?_⟩, ?_, ?_⟩
  · rw [ta_i hj, rc i (by omega) j hj, rs_c]
    by_cases e : i = j
    · rw [if_pos e, if_pos e]; decide
    · rw [if_neg e, if_neg e, if_neg (by omega)]; decide
  · rw [ta_i hj, rc (3 + i) (by omega) j hj, rs_c, if_neg (by omega)]
    by_cases e : i = j
    · rw [if_pos e, if_pos (by omega)]; decide
    · rw [if_neg e, if_neg (by omega)]; decide
  · rw [ta_3, (rd i hi).1]; decide
  · have := (W (3 + i) (by omega)).2
    rw [(rd i hi).2.1] at this
    exact this
theorem rt_G (R : r_R n co wl gc ts go pl) {i : Nat} (hi : i < 3) : ir_I (go i) (go i).toInt 99 := rb_ir (rb_up 99 (R.2.2.2.2.2.2.2.2 i hi) (by omega))
theorem rt_g (R : r_R n co wl gc ts go pl) {p : Nat} (hp : p < 343) : ¬ sv_g go p ≤ -1002 := by
  have h9 : ∀ i, i < 3 → ir_I (go i) (go i).toInt 9 := fun i hi => rb_ir (R.2.2.2.2.2.2.2.2 i hi)
  have hx : ∀ i, ir_I (sv_h i p) (sv_x i p : Int) 6 := fun i => ir_nI 6 (sv_x6 hp) (by omega)
  have hs := ir_iadd (ir_iadd (ir_imul (h9 0 (by omega)) (hx 0) (by decide)) (ir_imul (h9 1 (by omega)) (hx 1) (by decide)) (by decide)) (ir_imul (h9 2 (by omega)) (hx 2) (by decide)) (by decide)
  have hm : ir_I (-1002) (-1002) 1002 := ⟨by decide, by decide, by decide⟩
  intro h
  have := (ir_ile hs hm).mp h
  have := hs.2.1
  omega
end
/-- which points fit, as a function -/
noncomputable def rt_F (A : Nat → Nat → Int) (N p : Nat) : Bool := @decide (sv_F A N p) (Classical.propDecidable _)
theorem rt_Fi (A : Nat → Nat → Int) (N p : Nat) : rt_F A N p = true ↔ sv_F A N p := @decide_eq_true_iff (sv_F A N p) (Classical.propDecidable _)
/-- the relation at the head of a turn -/
def i_Rel (_ : Nat) (u : SX) (v : SY) : Prop := match u, v with
  | (wc, _, _, _, _, _, co, wl, gc, _, _, _), (fn, _, _, _, ts, go, pl, _) => ∃ n : Nat, wc = nI (6 + n) ∧ fn = nI n ∧ r_R n co wl gc ts go pl
theorem i_up {k : Nat} {u : SX} {v : SY} (h : i_Rel k u v) : i_Rel (k + 5) u v := h
