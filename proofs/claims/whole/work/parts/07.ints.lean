/-! 07: machine integers against integers; arrays as functions -/
theorem ni_add {a b : Int32} (h1 : -2147483648 ≤ a.toInt + b.toInt) (h2 : a.toInt + b.toInt < 2147483648) : (a + b).toInt = a.toInt + b.toInt := by
  rw [Int32.toInt_add]; exact Int.bmod_eq_of_le (by omega) (by omega)
theorem ni_sub {a b : Int32} (h1 : -2147483648 ≤ a.toInt - b.toInt) (h2 : a.toInt - b.toInt < 2147483648) : (a - b).toInt = a.toInt - b.toInt := by
  rw [Int32.toInt_sub]; exact Int.bmod_eq_of_le (by omega) (by omega)
theorem ni_neg {a : Int32} (h1 : -2147483648 ≤ - a.toInt) (h2 : - a.toInt < 2147483648) : (-a).toInt = - a.toInt := by
  rw [Int32.toInt_neg]; exact Int.bmod_eq_of_le (by omega) (by omega)
theorem ni_mul {a b : Int32} (h1 : -2147483648 ≤ a.toInt * b.toInt) (h2 : a.toInt * b.toInt < 2147483648) : (a * b).toInt = a.toInt * b.toInt := by
  rw [Int32.toInt_mul]; exact Int.bmod_eq_of_le (by omega) (by omega)
theorem ni_lt {a b : Int32} : a < b ↔ a.toInt < b.toInt := Int32.lt_iff_toInt_lt
theorem ni_le {a b : Int32} : a ≤ b ↔ a.toInt ≤ b.toInt := Int32.le_iff_toInt_le
theorem ni_eq {a b : Int32} : a = b ↔ a.toInt = b.toInt := Int32.toInt_inj.symm
theorem ni_0 : (0 : Int32).toInt = 0 := by decide
theorem ni_1 : (1 : Int32).toInt = 1 := by decide
theorem ni_m1 : (-1 : Int32).toInt = -1 := by decide
theorem ni_U : (1000000 : Int32).toInt = 1000000 := by decide
theorem ni_I : (1000000000 : Int32).toInt = 1000000000 := by decide
theorem ni_n {n : Nat} (h : n < 2 ^ 31) : (nI n).toInt = (n : Int) := nI_toInt h
theorem ni_cl {n : Nat} (h : n < 2 ^ 31) : (nI n).toNatClampNeg = n := nI_clamp h
theorem ni_nm1 {n : Nat} (h : n < 2 ^ 31) : ¬ nI n = -1 := by
  intro e
  have := congrArg Int32.toInt e
  rw [ni_n h, ni_m1] at this
  omega
def ns_t (a : Nat → Int32) : Nat → Int := fun i => (a i).toInt
def ns_n (a : Nat → Int32) : Nat → Nat := fun i => (a i).toNatClampNeg
theorem ns_t_upd (a : Nat → Int32) (k : Nat) (x : Int32) : ns_t (upd a k x) = ns_up (ns_t a) k x.toInt := by
  funext j
  show (if j = k then x else a j).toInt = if j = k then x.toInt else (a j).toInt
  split <;> rfl
theorem ns_n_upd (a : Nat → Int32) (k : Nat) (x : Int32) : ns_n (upd a k x) = ns_up (ns_n a) k x.toNatClampNeg := by
  funext j
  show (if j = k then x else a j).toNatClampNeg = if j = k then x.toNatClampNeg else (a j).toNatClampNeg
  split <;> rfl
theorem nu_s {f : Nat → Int32} {k : Nat} {x : Int32} : upd f k x k = x := if_pos rfl
theorem nu_n {f : Nat → Int32} {k j : Nat} {x : Int32} (h : j ≠ k) : upd f k x j = f j := if_neg h
/-- the parents as edges: the class's, the reference's -/
def ns_xp (hd : Nat → Nat) (aP : Nat → Int32) (v : Nat) : Option Nat :=
  if aP v = -1 then none else some (if hd (aP v).toNatClampNeg = v then 2 * (aP v).toNatClampNeg else 2 * (aP v).toNatClampNeg + 1)
theorem ns_xp_0 (hd : Nat → Nat) (aP : Nat → Int32) {k : Nat} (hk : k < 2 ^ 31) : ns_xp hd (upd aP (hd k) (nI k)) = ns_up (ns_xp hd aP) (hd k) (some (2 * k)) := by
  funext v
  unfold ns_xp
  by_cases h : v = hd k
  · rw [h, nu_s, ns_us, if_neg (ni_nm1 hk), ni_cl hk, if_pos rfl]
  · rw [nu_n h, ns_un h]
theorem ns_xp_1 (hd : Nat → Nat) (aP : Nat → Int32) {k t : Nat} (hk : k < 2 ^ 31) (ht : hd k ≠ t) : ns_xp hd (upd aP t (nI k)) = ns_up (ns_xp hd aP) t (some (2 * k + 1)) := by
  funext v
  unfold ns_xp
  by_cases h : v = t
  · rw [h, nu_s, ns_us, if_neg (ni_nm1 hk), ni_cl hk, if_neg ht]
  · rw [nu_n h, ns_un h]
def ns_yp (aP : Nat → Int32) (v : Nat) : Option Nat := if aP v < 0 then none else some (aP v).toNatClampNeg
theorem ns_yp_u (aP : Nat → Int32) {e t : Nat} (he : e < 2 ^ 31) : ns_yp (upd aP t (nI e)) = ns_up (ns_yp aP) t (some e) := by
  funext v
  unfold ns_yp
  by_cases h : v = t
  · rw [h, nu_s, ns_us, if_neg (nI_pos he), ni_cl he]
  · rw [nu_n h, ns_un h]
theorem ns_xor : ∀ e : Nat, e < 240 → nI e ^^^ 1 = nI (ns_fl e) := by decide +kernel
/-- one edge's push in the reference's array -/
theorem ns_p1_y (aC : Nat → Int32) (e : Nat) (x : Int32) (h1 : -1000000 ≤ (aC e).toInt ∧ (aC e).toInt ≤ 1000000) (h2 : -1000000 ≤ (aC (ns_fl e)).toInt ∧ (aC (ns_fl e)).toInt ≤ 1000000) (h3 : 0 ≤ x.toInt ∧ x.toInt ≤ 1000000) :
    ns_t (upd (upd aC e (aC e - x)) (ns_fl e) (upd aC e (aC e - x) (ns_fl e) + x)) = ns_p1 x.toInt e (ns_t aC) := by
  rw [nu_n (ns_fl_ne e), ns_t_upd, ns_t_upd, ni_sub (by omega) (by omega), ni_add (by omega) (by omega)]
  rfl
/-- the network as both sides hold it -/
def ns_Net (n m : Nat) (aS aT aH aC aK : Nat → Int32) : Prop :=
  2 ≤ n ∧ n ≤ 24 ∧ m ≤ 96 ∧ (∀ v, v < n → -20 ≤ (aS v).toInt ∧ (aS v).toInt ≤ 20) ∧
  (∀ k, k < m → aT k = nI (ns_n aT k) ∧ ns_n aT k < n ∧ aH k = nI (ns_n aH k) ∧ ns_n aH k < n ∧ ns_n aT k ≠ ns_n aH k) ∧
  (∀ k, k < m → 0 ≤ (aC k).toInt ∧ (aC k).toInt ≤ 20) ∧ (∀ k, k < m → -50 ≤ (aK k).toInt ∧ (aK k).toInt ≤ 50)
