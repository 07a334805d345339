/-! 09: the class's arrays, a step at a time -/
theorem nx_r {n m : Nat} {aS aT aH aC aK : Nat → Int32} (h : ns_Net n m aS aT aH aC aK) : ∀ a, a < m → ns_n aH a < n ∧ ns_n aT a < n :=
  fun a ha => ⟨(h.2.2.2.2.1 a ha).2.2.2.1, (h.2.2.2.2.1 a ha).2.1⟩
theorem nx_G {n m : Nat} {aS aT aH aC aK : Nat → Int32} (h : ns_Net n m aS aT aH aC aK) : ns_G n m (ns_xf (ns_n aT) (ns_n aH)) (ns_xf (ns_n aH) (ns_n aT)) (ns_xl (ns_t aK)) :=
  ns_x_G (nx_r h) (fun a ha => (h.2.2.2.2.1 a ha).2.2.2.2) (fun a ha => h.2.2.2.2.2.2 a ha)
theorem nx_e0 {n m : Nat} {aS aT aH aC aK aF aD aP : Nat → Int32} {π : Nat → Int} {src : Nat → Bool} {hi : Int} {l : List Nat} {w : Nat} {c : Int} {k : Nat} {ch : Bool}
    (hN : ns_Net n m aS aT aH aC aK) (hk : k < m) (hU : hi + 50 * ((2 * k : Nat) : Int) + 50 < 1000000) (h0 : 0 ≤ hi) (hP : ns_Pot m (ns_xf (ns_n aT) (ns_n aH)) (ns_xf (ns_n aH) (ns_n aT)) (ns_xl (ns_t aK)) (ns_xr (ns_t aC) (ns_t aF)) π)
    (hJ : ns_J n m (ns_xf (ns_n aT) (ns_n aH)) (ns_xf (ns_n aH) (ns_n aT)) (ns_xl (ns_t aK)) (ns_xr (ns_t aC) (ns_t aF)) π 1000000 src hi l w c (2 * k) ch (ns_t aD) (ns_xp (ns_n aH) aP)) :
    (¬ aF k < aC k → ns_J n m (ns_xf (ns_n aT) (ns_n aH)) (ns_xf (ns_n aH) (ns_n aT)) (ns_xl (ns_t aK)) (ns_xr (ns_t aC) (ns_t aF)) π 1000000 src hi l w c (2 * k + 1) ch (ns_t aD) (ns_xp (ns_n aH) aP)) ∧
    (aF k < aC k → (aD (ns_n aT k) = 1000000 ∨ aD (ns_n aH k) ≤ aD (ns_n aT k) + aK k → ns_J n m (ns_xf (ns_n aT) (ns_n aH)) (ns_xf (ns_n aH) (ns_n aT)) (ns_xl (ns_t aK)) (ns_xr (ns_t aC) (ns_t aF)) π 1000000 src hi l w c (2 * k + 1) ch (ns_t aD) (ns_xp (ns_n aH) aP)) ∧
      (¬ aD (ns_n aT k) = 1000000 → ¬ aD (ns_n aH k) ≤ aD (ns_n aT k) + aK k →
        ns_J n m (ns_xf (ns_n aT) (ns_n aH)) (ns_xf (ns_n aH) (ns_n aT)) (ns_xl (ns_t aK)) (ns_xr (ns_t aC) (ns_t aF)) π 1000000 src hi l w c (2 * k + 1) true (ns_t (upd aD (ns_n aH k) (aD (ns_n aT k) + aK k))) (ns_xp (ns_n aH) (upd aP (ns_n aH k) (nI k))))) := by
  have hG := nx_G hN
  have hK := hN.2.2.2.2.2.2 k hk
  have hm := hN.2.2.1
  have hb := hJ.1.1 (ns_n aT k) (nx_r hN k hk).2
  have hb : -(hi + 50 * ((2 * k : Nat) : Int)) ≤ (aD (ns_n aT k)).toInt ∧ ((aD (ns_n aT k)).toInt = 1000000 ∨ (aD (ns_n aT k)).toInt ≤ hi + 50 * ((2 * k : Nat) : Int)) := hb
  have hs : (aD (ns_n aT k) + aK k).toInt = (aD (ns_n aT k)).toInt + (aK k).toInt := ni_add (by omega) (by omega)
  have er : ns_xr (ns_t aC) (ns_t aF) (2 * k) = (aC k).toInt - (aF k).toInt := ns_xr_0 _ _ _
  have ef : ns_xf (ns_n aT) (ns_n aH) (2 * k) = ns_n aT k := ns_xf_0 _ _ _
  have et : ns_xf (ns_n aH) (ns_n aT) (2 * k) = ns_n aH k := ns_xf_0 _ _ _
  have el : ns_xl (ns_t aK) (2 * k) = (aK k).toInt := ns_xl_0 _ _
  refine ⟨fun q => ns_J_no hJ (fun z => ?_), fun q => ⟨fun z => ns_J_no hJ (fun _ => ?_), fun z1 z2 => ?_⟩⟩
  · rw [er] at z
    rw [ni_lt] at q
    omega
  · rw [ef, et, el]
    rw [ni_eq, ni_le, hs, ni_U] at z
    exact z
  · rw [ni_lt] at q
    rw [ni_eq, ni_U] at z1
    rw [ni_le, hs] at z2
    have j := ns_J_upd hG hP hJ hU (by omega) (by rw [er]; omega) (by rw [ef]; exact z1) (by rw [ef, et, el]; show (aD (ns_n aT k)).toInt + (aK k).toInt < (aD (ns_n aH k)).toInt; omega)
    rw [ef, et, el] at j
    rw [ns_t_upd, ns_xp_0 _ _ (by omega), hs]
    exact j
theorem nx_e1 {n m : Nat} {aS aT aH aC aK aF aD aP : Nat → Int32} {π : Nat → Int} {src : Nat → Bool} {hi : Int} {l : List Nat} {w : Nat} {c : Int} {k : Nat} {ch : Bool}
    (hN : ns_Net n m aS aT aH aC aK) (hk : k < m) (hU : hi + 50 * ((2 * k + 1 : Nat) : Int) + 50 < 1000000) (h0 : 0 ≤ hi) (hP : ns_Pot m (ns_xf (ns_n aT) (ns_n aH)) (ns_xf (ns_n aH) (ns_n aT)) (ns_xl (ns_t aK)) (ns_xr (ns_t aC) (ns_t aF)) π)
    (hJ : ns_J n m (ns_xf (ns_n aT) (ns_n aH)) (ns_xf (ns_n aH) (ns_n aT)) (ns_xl (ns_t aK)) (ns_xr (ns_t aC) (ns_t aF)) π 1000000 src hi l w c (2 * k + 1) ch (ns_t aD) (ns_xp (ns_n aH) aP)) :
    (aF k ≤ 0 → ns_J n m (ns_xf (ns_n aT) (ns_n aH)) (ns_xf (ns_n aH) (ns_n aT)) (ns_xl (ns_t aK)) (ns_xr (ns_t aC) (ns_t aF)) π 1000000 src hi l w c (2 * (k + 1)) ch (ns_t aD) (ns_xp (ns_n aH) aP)) ∧
    (¬ aF k ≤ 0 → (aD (ns_n aH k) = 1000000 ∨ aD (ns_n aT k) ≤ aD (ns_n aH k) + -(aK k) → ns_J n m (ns_xf (ns_n aT) (ns_n aH)) (ns_xf (ns_n aH) (ns_n aT)) (ns_xl (ns_t aK)) (ns_xr (ns_t aC) (ns_t aF)) π 1000000 src hi l w c (2 * (k + 1)) ch (ns_t aD) (ns_xp (ns_n aH) aP)) ∧
      (¬ aD (ns_n aH k) = 1000000 → ¬ aD (ns_n aT k) ≤ aD (ns_n aH k) + -(aK k) →
        ns_J n m (ns_xf (ns_n aT) (ns_n aH)) (ns_xf (ns_n aH) (ns_n aT)) (ns_xl (ns_t aK)) (ns_xr (ns_t aC) (ns_t aF)) π 1000000 src hi l w c (2 * (k + 1)) true (ns_t (upd aD (ns_n aT k) (aD (ns_n aH k) + -(aK k)))) (ns_xp (ns_n aH) (upd aP (ns_n aT k) (nI k))))) := by
  have hG := nx_G hN
  have hK := hN.2.2.2.2.2.2 k hk
  have hm := hN.2.2.1
  have hb := hJ.1.1 (ns_n aH k) (nx_r hN k hk).1
  have hb : -(hi + 50 * ((2 * k + 1 : Nat) : Int)) ≤ (aD (ns_n aH k)).toInt ∧ ((aD (ns_n aH k)).toInt = 1000000 ∨ (aD (ns_n aH k)).toInt ≤ hi + 50 * ((2 * k + 1 : Nat) : Int)) := hb
  have hg : (-(aK k)).toInt = -(aK k).toInt := ni_neg (by omega) (by omega)
  have hs : (aD (ns_n aH k) + -(aK k)).toInt = (aD (ns_n aH k)).toInt + -(aK k).toInt := by rw [ni_add (by rw [hg]; omega) (by rw [hg]; omega), hg]
  have er : ns_xr (ns_t aC) (ns_t aF) (2 * k + 1) = (aF k).toInt := ns_xr_1 _ _ _
  have ef : ns_xf (ns_n aT) (ns_n aH) (2 * k + 1) = ns_n aH k := ns_xf_1 _ _ _
  have et : ns_xf (ns_n aH) (ns_n aT) (2 * k + 1) = ns_n aT k := ns_xf_1 _ _ _
  have el : ns_xl (ns_t aK) (2 * k + 1) = -(aK k).toInt := ns_xl_1 _ _
  have e2 : 2 * (k + 1) = 2 * k + 1 + 1 := by omega
  rw [e2]
  refine ⟨fun q => ns_J_no hJ (fun z => ?_), fun q => ⟨fun z => ns_J_no hJ (fun _ => ?_), fun z1 z2 => ?_⟩⟩
  · rw [er] at z
    rw [ni_le, ni_0] at q
    omega
  · rw [ef, et, el]
    rw [ni_eq, ni_le, hs, ni_U] at z
    exact z
  · rw [ni_le, ni_0] at q
    rw [ni_eq, ni_U] at z1
    rw [ni_le, hs] at z2
    have j := ns_J_upd hG hP hJ hU (by omega) (by rw [er]; omega) (by rw [ef]; exact z1) (by rw [ef, et, el]; show (aD (ns_n aH k)).toInt + -(aK k).toInt < (aD (ns_n aT k)).toInt; omega)
    rw [ef, et, el] at j
    rw [ns_t_upd, ns_xp_1 (ns_n aH) aP (by omega) (fun z => (hN.2.2.2.2.1 k hk).2.2.2.2 z.symm), hs]
    exact j
/-- the parent of a node that has one: its arc, and how the class reads it -/
theorem nx_par {n m : Nat} {aS aT aH aC aK aP : Nat → Int32} {rc d : Nat → Int} {U hi : Int} {src : Nat → Bool} {v e : Nat} (hN : ns_Net n m aS aT aH aC aK)
    (hB : ns_B n m (ns_xf (ns_n aT) (ns_n aH)) (ns_xf (ns_n aH) (ns_n aT)) (ns_xl (ns_t aK)) rc U src hi d (ns_xp (ns_n aH) aP)) (hv : v < n) (hp : ns_xp (ns_n aH) aP v = some e) (hin : ∀ u, u < n → aP u = -1 ∨ ∃ k, k < m ∧ aP u = nI k) :
    ∃ k, k < m ∧ aP v = nI k ∧ ((ns_n aH k = v ∧ e = 2 * k ∧ (ns_xf (ns_n aT) (ns_n aH)) e = ns_n aT k) ∨ (ns_n aH k ≠ v ∧ e = 2 * k + 1 ∧ (ns_xf (ns_n aT) (ns_n aH)) e = ns_n aH k)) := by
  have hm := hN.2.2.1
  rcases hin v hv with q | ⟨k, hk, q⟩
  · unfold ns_xp at hp
    rw [if_pos q] at hp
    cases hp
  · refine ⟨k, hk, q, ?_⟩
    unfold ns_xp at hp
    rw [q, if_neg (ni_nm1 (by omega)), ni_cl (by omega)] at hp
    by_cases z : ns_n aH k = v
    · rw [if_pos z] at hp
      left
      have he : 2 * k = e := Option.some.inj hp
      exact ⟨z, he.symm, by rw [← he, ns_xf_0]⟩
    · rw [if_neg z] at hp
      right
      have he : 2 * k + 1 = e := Option.some.inj hp
      exact ⟨z, he.symm, by rw [← he, ns_xf_1]⟩
theorem nx_none {aH aP : Nat → Int32} {v : Nat} (h : ns_xp (ns_n aH) aP v = none) : aP v = -1 := by
  unfold ns_xp at h
  by_cases q : aP v = -1
  · exact q
  · rw [if_neg q] at h; cases h
theorem nx_some {aH aP : Nat → Int32} {v e : Nat} (h : ns_xp (ns_n aH) aP v = some e) : ¬ aP v = -1 := by
  intro q
  unfold ns_xp at h
  rw [if_pos q] at h
  cases h
