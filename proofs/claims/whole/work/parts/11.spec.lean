/-! 11: what a solve answers, for either side, and that it is one answer -/
def ns_Spec (n m : Nat) (aS aT aH aC aK : Nat → Int32) (r st tc sf : Int32) (W : Nat → Int32) : Prop :=
  (¬ ns_sm (ns_t aS) n = 0 ∧ r = 3 ∧ st = 3 ∧ tc = 0 ∧ sf = 0 ∧ ∀ v, v < n → W v = 0) ∨
  (ns_sm (ns_t aS) n = 0 ∧ ∃ x : Nat → Int, ns_Fin n m (ns_n aT) (ns_n aH) (ns_t aS) (ns_t aK) (ns_t aC) x ∧
    sf.toInt = ns_P (fun v => ns_exc (ns_t aS) (ns_n aT) (ns_n aH) x m v) n ∧
    ((0 < sf.toInt ∧ r = 2 ∧ st = 2 ∧ tc = 0 ∧ (∀ v, v < n → W v = 0 ∨ W v = 1) ∧ ns_Wit n m (ns_n aT) (ns_n aH) (ns_t aS) (ns_t aC) x (fun v => decide (W v = 1))) ∨
     (sf.toInt ≤ 0 ∧ r = 1 ∧ st = 1 ∧ tc.toInt = ns_sm (fun a => ns_t aK a * x a) m ∧ ∀ v, v < n → W v = 0)))
theorem ns_Spec_u {n m : Nat} {aS aT aH aC aK : Nat → Int32} {r st tc sf r' st' tc' sf' : Int32} {W W' : Nat → Int32} (hr : ∀ a, a < m → ns_n aH a < n ∧ ns_n aT a < n)
    (h : ns_Spec n m aS aT aH aC aK r st tc sf W) (h' : ns_Spec n m aS aT aH aC aK r' st' tc' sf' W') : r' = r ∧ st' = st ∧ tc' = tc ∧ sf' = sf ∧ ∀ v, v < n → W' v = W v := by
  rcases h with ⟨z, a1, a2, a3, a4, a5⟩ | ⟨z, x, f, s, h⟩
  · rcases h' with ⟨z', b1, b2, b3, b4, b5⟩ | ⟨z', _⟩
    · exact ⟨b1.trans a1.symm, b2.trans a2.symm, b3.trans a3.symm, b4.trans a4.symm, fun v hv => (b5 v hv).trans (a5 v hv).symm⟩
    · exact absurd z' z
  · rcases h' with ⟨z', _⟩ | ⟨z', y, g, s', h'⟩
    · exact absurd z z'
    · obtain ⟨e1, e2, e3⟩ := ns_same hr z f g
      have es : sf' = sf := ni_eq.mpr (by omega)
      rcases h with ⟨p, a1, a2, a3, a4, a5⟩ | ⟨p, a1, a2, a3, a4⟩
      · rcases h' with ⟨p', b1, b2, b3, b4, b5⟩ | ⟨p', b1, b2, b3, b4⟩
        · refine ⟨b1.trans a1.symm, b2.trans a2.symm, b3.trans a3.symm, es, fun v hv => ?_⟩
          have q : decide (W v = 1) = decide (W' v = 1) := e3 _ _ a5 b5 v hv
          rcases a4 v hv with k | k <;> rcases b4 v hv with k' | k' <;> rw [k, k'] at q ⊢
          · exact absurd q (by decide)
          · exact absurd q (by decide)
        · rw [es] at p'; omega
      · rcases h' with ⟨p', b1, b2, b3, b4, b5⟩ | ⟨p', b1, b2, b3, b4⟩
        · rw [es] at p'; omega
        · refine ⟨b1.trans a1.symm, b2.trans a2.symm, ni_eq.mpr ?_, es, fun v hv => (b4 v hv).trans (a4 v hv).symm⟩
          rw [b3, a3]
          exact (e2 (by omega)).symm
