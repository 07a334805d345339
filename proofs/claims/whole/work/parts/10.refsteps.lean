/-! 10: the reference's arrays, a step at a time -/
theorem ny_e {V H : Nat} {F T C K D P : Nat → Int32} {π : Nat → Int} {src : Nat → Bool} {hi : Int} {l : List Nat} {w : Nat} {c : Int} {e : Nat} {ch : Bool}
    (hG : ns_G V H (ns_n F) (ns_n T) (ns_t K)) (he : e < 2 * H) (hH : H ≤ 120) (hU : hi + 50 * (e : Int) + 50 < 1000000000) (h0 : 0 ≤ hi) (hP : ns_Pot H (ns_n F) (ns_n T) (ns_t K) (ns_t C) π)
    (hJ : ns_J V H (ns_n F) (ns_n T) (ns_t K) (ns_t C) π 1000000000 src hi l w c e ch (ns_t D) (ns_yp P)) :
    (C e ≤ 0 ∨ D (ns_n F e) = 1000000000 ∨ D (ns_n T e) ≤ D (ns_n F e) + K e → ns_J V H (ns_n F) (ns_n T) (ns_t K) (ns_t C) π 1000000000 src hi l w c (e + 1) ch (ns_t D) (ns_yp P)) ∧
    (¬ C e ≤ 0 → ¬ D (ns_n F e) = 1000000000 → ¬ D (ns_n T e) ≤ D (ns_n F e) + K e →
      ns_J V H (ns_n F) (ns_n T) (ns_t K) (ns_t C) π 1000000000 src hi l w c (e + 1) true (ns_t (upd D (ns_n T e) (D (ns_n F e) + K e))) (ns_yp (upd P (ns_n T e) (nI e)))) := by
  obtain ⟨g1, g2, g3, g4, g5, g6, g7, g8⟩ := hG e he
  have g7 : -50 ≤ (K e).toInt := g7
  have g8 : (K e).toInt ≤ 50 := g8
  have hb := hJ.1.1 (ns_n F e) g1
  have hb : -(hi + 50 * (e : Int)) ≤ (D (ns_n F e)).toInt ∧ ((D (ns_n F e)).toInt = 1000000000 ∨ (D (ns_n F e)).toInt ≤ hi + 50 * (e : Int)) := hb
  have hs : (D (ns_n F e) + K e).toInt = (D (ns_n F e)).toInt + (K e).toInt := ni_add (by omega) (by omega)
  refine ⟨fun z => ns_J_no hJ (fun q => ?_), fun z0 z1 z2 => ?_⟩
  · have q : 0 < (C e).toInt := q
    rw [ni_le, ni_0, ni_eq, ni_le, hs, ni_I] at z
    show (D (ns_n F e)).toInt = 1000000000 ∨ (D (ns_n T e)).toInt ≤ (D (ns_n F e)).toInt + (K e).toInt
    omega
  · rw [ni_le, ni_0] at z0
    rw [ni_eq, ni_I] at z1
    rw [ni_le, hs] at z2
    have j := ns_J_upd hG hP hJ hU he (by show 0 < (C e).toInt; omega) z1 (by show (D (ns_n F e)).toInt + (K e).toInt < (D (ns_n T e)).toInt; omega)
    rw [ns_t_upd, ns_yp_u P (by omega), hs]
    exact j
theorem ny_some {P : Nat → Int32} {v e : Nat} (h : ns_yp P v = some e) : ¬ P v < 0 ∧ P v = nI e := by
  unfold ns_yp at h
  by_cases q : P v < 0
  · rw [if_pos q] at h; cases h
  · rw [if_neg q] at h
    obtain ⟨j, hj, e1⟩ := nI_of q
    rw [e1, ni_cl hj] at h
    have : j = e := Option.some.inj h
    rw [this] at e1
    exact ⟨q, e1⟩
