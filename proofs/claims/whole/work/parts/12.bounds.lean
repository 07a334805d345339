/-! 12: bounds, so that no machine integer runs over -/
theorem ns_sm_bd {f : Nat → Int} {B : Int} : ∀ n : Nat, (∀ i, i < n → -B ≤ f i ∧ f i ≤ B) → -(B * n) ≤ ns_sm f n ∧ ns_sm f n ≤ B * n := by
  intro n
  induction n with
  | zero =>
    intro _
    rw [ns_sm_0]
    have : B * ((0 : Nat) : Int) = 0 := Int.mul_zero B
    omega
  | succ n ih =>
    intro h
    have a := ih (fun i hi => h i (by omega))
    have b := h n (by omega)
    have e : B * ((n + 1 : Nat) : Int) = B * (n : Int) + B := by
      rw [Int.natCast_succ, Int.mul_add, Int.mul_one]
    rw [ns_sm_s, e]
    omega
theorem ns_ind_01 (a b : Nat) : ns_ind a b = 0 ∨ ns_ind a b = 1 := by unfold ns_ind; split <;> simp
theorem ns_term {x B : Int} (h : -B ≤ x ∧ x ≤ B) (a b v : Nat) : -B ≤ x * (ns_ind a v - ns_ind b v) ∧ x * (ns_ind a v - ns_ind b v) ≤ B := by
  rcases ns_ind_01 a v with p | p <;> rcases ns_ind_01 b v with q | q <;> rw [p, q] <;> omega
theorem ns_exc_bd {b x : Nat → Int} {tl hd : Nat → Nat} {m v : Nat} (hb : -20 ≤ b v ∧ b v ≤ 20) (hx : ∀ a, a < m → -20 ≤ x a ∧ x a ≤ 20) : -(20 + 20 * (m : Int)) ≤ ns_exc b tl hd x m v ∧ ns_exc b tl hd x m v ≤ 20 + 20 * (m : Int) := by
  have a := ns_sm_bd (f := fun a => x a * (ns_ind (hd a) v - ns_ind (tl a) v)) (B := 20) m (fun a ha => ns_term (hx a ha) (hd a) (tl a) v)
  unfold ns_exc
  omega
theorem ns_exc_s (b x : Nat → Int) (tl hd : Nat → Nat) (k v : Nat) : ns_exc b tl hd x (k + 1) v = ns_exc b tl hd x k v + x k * (ns_ind (hd k) v - ns_ind (tl k) v) := by
  unfold ns_exc
  rw [ns_sm_s]
  omega
theorem ns_exc_0 (b x : Nat → Int) (tl hd : Nat → Nat) (v : Nat) : ns_exc b tl hd x 0 v = b v := by
  unfold ns_exc
  rw [ns_sm_0]
  omega
theorem ns_exc_c {b x y : Nat → Int} {tl hd : Nat → Nat} {m : Nat} (h : ∀ a, a < m → x a = y a) (v : Nat) : ns_exc b tl hd x m v = ns_exc b tl hd y m v := by
  unfold ns_exc
  rw [ns_sm_c (f := fun a => x a * (ns_ind (hd a) v - ns_ind (tl a) v)) (g := fun a => y a * (ns_ind (hd a) v - ns_ind (tl a) v)) m (fun a ha => by rw [h a ha])]
theorem ns_P_c {e f : Nat → Int} {n : Nat} (h : ∀ v, v < n → e v = f v) : ns_P e n = ns_P f n := ns_sm_c n (fun v hv => by show ns_ps (e v) = ns_ps (f v); rw [h v hv])
theorem ns_P_bd {b x : Nat → Int} {tl hd : Nat → Nat} {n : Nat} (hb : ∀ v, v < n → -20 ≤ b v ∧ b v ≤ 20) :
    ∀ m : Nat, (∀ a, a < m → hd a < n) → (∀ a, a < m → 0 ≤ x a ∧ x a ≤ 20) → ns_P (fun v => ns_exc b tl hd x m v) n ≤ 20 * (n : Int) + 20 * (m : Int) := by
  intro m
  induction m with
  | zero =>
    intro _ _
    have a := (ns_sm_bd (f := fun v => ns_ps (ns_exc b tl hd x 0 v)) (B := 20) n (fun v hv => by
      show -20 ≤ ns_ps (ns_exc b tl hd x 0 v) ∧ ns_ps (ns_exc b tl hd x 0 v) ≤ 20
      rw [ns_exc_0]
      have := hb v hv
      unfold ns_ps
      split <;> omega)).2
    show ns_sm (fun v => ns_ps (ns_exc b tl hd x 0 v)) n ≤ _
    omega
  | succ m ih =>
    intro hh hx
    have a := ih (fun a ha => hh a (by omega)) (fun a ha => hx a (by omega))
    have q := hx m (by omega)
    have p := ns_P_up (e := fun v => ns_exc b tl hd x m v) (e' := fun v => ns_exc b tl hd x (m + 1) v) q.1 (hd m) (tl m) (hh m (by omega)) (fun v _ => ns_exc_s b x tl hd m v)
    omega
theorem ns_y0_bd {c cap : Nat → Int} {a : Nat} (h : 0 ≤ cap a ∧ cap a ≤ 20) : 0 ≤ ns_y0 c cap a ∧ ns_y0 c cap a ≤ 20 := by
  unfold ns_y0
  split <;> omega
theorem ns_cx_bd {c x : Int} (hc : -50 ≤ c ∧ c ≤ 50) (hx : 0 ≤ x ∧ x ≤ 20) : -1000 ≤ c * x ∧ c * x ≤ 1000 := by
  have a := Int.mul_nonneg (a := c + 50) (b := x) (by omega) hx.1
  have b := Int.mul_nonneg (a := 50 - c) (b := x) (by omega) hx.1
  rw [Int.add_mul] at a
  rw [Int.sub_mul] at b
  omega
/-- marks: an array of 0 and 1 as a set -/
def ns_mb (W : Nat → Int32) (v : Nat) : Bool := decide (W v = 1)
theorem ns_mb_u (W : Nat → Int32) (k : Nat) : ns_mb (upd W k 1) = ns_up (ns_mb W) k true := by
  funext v
  unfold ns_mb
  by_cases h : v = k
  · rw [h, nu_s, ns_us]; exact decide_eq_true rfl
  · rw [nu_n h, ns_un h]
theorem ns_mb_1 {W : Nat → Int32} {v : Nat} : ns_mb W v = true ↔ W v = 1 := by
  unfold ns_mb
  exact decide_eq_true_iff
theorem ns_mb_0 {W : Nat → Int32} {v : Nat} (h : W v = 0 ∨ W v = 1) : ns_mb W v = true ↔ ¬ W v = 0 := by
  rw [ns_mb_1]
  rcases h with k | k <;> rw [k] <;> decide
def ns_01 (n : Nat) (W : Nat → Int32) : Prop := ∀ v, v < n → W v = 0 ∨ W v = 1
theorem ns_01_u {n : Nat} {W : Nat → Int32} (h : ns_01 n W) (k : Nat) (x : Int32) (hx : x = 0 ∨ x = 1) : ns_01 n (upd W k x) := by
  intro v hv
  by_cases q : v = k
  · rw [q, nu_s]; exact hx
  · rw [nu_n q]; exact h v hv
theorem ni_b0 : vp_nar .boolean 0 = 0 := by decide
theorem ni_b1 : vp_nar .boolean 1 = 1 := by decide
