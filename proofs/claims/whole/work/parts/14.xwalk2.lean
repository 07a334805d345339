/-! 14: the class's walks: the search, the push, the routing -/
def nx_src (aE : Nat → Int32) (v : Nat) : Bool := decide (0 < (aE v).toInt)
theorem wx_find {n m : Nat} {st tc sf : Int32} {aS aT aH aC aK W aF aE aD aP : Nat → Int32} {post : SX → Prop} {π : Nat → Int} (hN : ns_Net n m aS aT aH aC aK) (hP : ns_Pot m (ns_xf (ns_n aT) (ns_n aH)) (ns_xf (ns_n aH) (ns_n aT)) (ns_xl (ns_t aK)) (ns_xr (ns_t aC) (ns_t aF)) π)
    (h : ∀ aD aP : Nat → Int32, nx_in n m aP → ns_B n m (ns_xf (ns_n aT) (ns_n aH)) (ns_xf (ns_n aH) (ns_n aT)) (ns_xl (ns_t aK)) (ns_xr (ns_t aC) (ns_t aF)) 1000000 (nx_src aE) 300000 (ns_t aD) (ns_xp (ns_n aH) aP) → ns_C m (ns_xf (ns_n aT) (ns_n aH)) (ns_xf (ns_n aH) (ns_n aT)) (ns_xl (ns_t aK)) (ns_xr (ns_t aC) (ns_t aF)) 1000000 (2 * m) (ns_t aD) → post ((nI n), (nI m), st, tc, sf, aS, aT, aH, aC, aK, W, aF, aE, aD, aP)) :
    wpX_findShortestPaths post ((nI n), (nI m), st, tc, sf, aS, aT, aH, aC, aK, W, aF, aE, aD, aP) := by
  have hm := hN.2.2.1
  have hn := hN.2.1
  have hG := nx_G hN
  unfold wpX_findShortestPaths
  refine loop_0 (fun k i (s : (Nat → Int32) × (Nat → Int32)) => wX_findShortestPaths_2 post (nI n) (nI m) st tc sf k (nI i) aS aT aH aC aK W aF aE s.1 s.2)
    (fun i s => ∀ v, v < i → s.2 v = -1 ∧ (0 < (aE v).toInt → s.1 v = 0) ∧ (¬ 0 < (aE v).toInt → s.1 v = 1000000)) n (aD, aP) (fun v hv => absurd hv (Nat.not_lt_zero _))
    (fun k s hs => br_t (nI_le (Nat.le_refl _) (by omega)) ?_) (fun k i s hi hs ih => br_f (nI_ge hi (by omega)) ⟨vp_in_nI (by omega) (by omega), ?_⟩)
  · have K0 : ns_K n m (ns_xf (ns_n aT) (ns_n aH)) (ns_xf (ns_n aH) (ns_n aT)) (ns_xl (ns_t aK)) (ns_xr (ns_t aC) (ns_t aF)) π 1000000 (nx_src aE) 0 true (ns_t s.1) (ns_xp (ns_n aH) s.2) := by
      refine ns_K_0 (by decide) (fun v hv k => ?_) (fun v hv k => ?_) (fun v hv => ?_)
      · show (s.1 v).toInt = 0
        rw [(hs v hv).2.1 (of_decide_eq_true k), ni_0]
      · show (s.1 v).toInt = 1000000
        rw [(hs v hv).2.2 (fun z => k (decide_eq_true z)), ni_U]
      · unfold ns_xp
        rw [if_pos (hs v hv).1]
    have fin : ∀ (r : Nat) (x : Int32) (D P : Nat → Int32), r ≤ n → nx_in n m P → ns_K n m (ns_xf (ns_n aT) (ns_n aH)) (ns_xf (ns_n aH) (ns_n aT)) (ns_xl (ns_t aK)) (ns_xr (ns_t aC) (ns_t aF)) π 1000000 (nx_src aE) r (decide (x = 1)) (ns_t D) (ns_xp (ns_n aH) P) → (decide (x = 1) = false ∨ r = n) → post ((nI n), (nI m), st, tc, sf, aS, aT, aH, aC, aK, W, aF, aE, D, P) := by
      intro r x D P hr hin hK he
      exact h D P hin (ns_B_mono hK.1 (by omega)) (ns_K_C hG hK he)
    refine loop_0 (fun k i (t : Int32 × (Nat → Int32) × (Nat → Int32)) => wX_findShortestPaths_48 post k t.1 (nI i) (nI n) (nI m) st tc sf aS aT aH aC aK W aF aE t.2.1 t.2.2)
      (fun i t => (t.1 = 0 ∨ t.1 = 1) ∧ nx_in n m t.2.2 ∧ ns_K n m (ns_xf (ns_n aT) (ns_n aH)) (ns_xf (ns_n aH) (ns_n aT)) (ns_xl (ns_t aK)) (ns_xr (ns_t aC) (ns_t aF)) π 1000000 (nx_src aE) i (decide (t.1 = 1)) (ns_t t.2.1) (ns_xp (ns_n aH) t.2.2)) n (1, s.1, s.2)
      ⟨Or.inr rfl, fun u hu => Or.inl (hs u hu).1, K0⟩
      (fun k t ht => br_c (fun q => fin n t.1 t.2.1 t.2.2 (Nat.le_refl _) ht.2.1 ht.2.2 (Or.inr rfl)) (fun q => br_t (nI_le (Nat.le_refl _) (by omega)) (fin n t.1 t.2.1 t.2.2 (Nat.le_refl _) ht.2.1 ht.2.2 (Or.inr rfl))))
      (fun k i t hi ht ih => br_c (fun q => fin i t.1 t.2.1 t.2.2 (by omega) ht.2.1 ht.2.2 (Or.inl (decide_eq_false (by rw [q]; decide)))) (fun q => br_f (nI_ge hi (by omega)) ?_))
    have t1 : t.1 = 1 := by
      rcases ht.1 with z | z
      · exact absurd z q
      · exact z
    have hK := ht.2.2
    rw [decide_eq_true t1] at hK
    exact wx_relaxAll hN hP hi ht.2.1 hK (fun x D P p1 p2 p3 => nm_r (nI_1 i) (ih (x, D, P) ⟨p1, p2, p3⟩))
  · have e1 : (nI i).toNatClampNeg = i := nI_clamp (by omega)
    have iI : vp_in (nI i) 24 := vp_in_nI (by omega) (by omega)
    have step : ∀ z : Int32, (0 < (aE i).toInt → z = 0) → (¬ 0 < (aE i).toInt → z = 1000000) → wX_findShortestPaths_30 post (wX_findShortestPaths_2 post (nI n) (nI m) st tc sf k) (nI i) z (nI i) (nI n) (nI m) st tc sf aS aT aH aC aK W aF aE s.1 s.2 := by
      intro z z1 z2
      refine ⟨iI, nm_r (e' := upd s.1 i z) (by rw [e1]) ⟨iI, nm_r (e' := upd s.2 i (-1)) (by rw [e1]) (nm_r (nI_1 i) (ih (upd s.1 i z, upd s.2 i (-1)) (fun v hv => ?_)))⟩⟩
      show upd s.2 i (-1) v = -1 ∧ (0 < (aE v).toInt → upd s.1 i z v = 0) ∧ (¬ 0 < (aE v).toInt → upd s.1 i z v = 1000000)
      by_cases q : v = i
      · rw [q, nu_s, nu_s]; exact ⟨rfl, z1, z2⟩
      · rw [nu_n q, nu_n q]; exact hs v (by omega)
    rw [e1]
    refine br_c (fun q => step 1000000 (fun z => ?_) (fun _ => rfl)) (fun q => step 0 (fun _ => rfl) (fun z => ?_))
    · rw [ni_le, ni_0] at q; omega
    · rw [ni_le, ni_0] at q; omega
theorem wx_def {n m : Nat} {st tc sf : Int32} {aS aT aH aC aK W aF aE aD aP : Nat → Int32} {post : Int32 → Prop} (hn : n ≤ 24) (h1 : (∀ v, v < n → (aE v).toInt < 0 → aD v = 1000000) → post (-1)) (h2 : ∀ t, t < n → (aE t).toInt < 0 → ¬ aD t = 1000000 → post (nI t)) : wpX_reachedDeficit post ((nI n), (nI m), st, tc, sf, aS, aT, aH, aC, aK, W, aF, aE, aD, aP) := by
  unfold wpX_reachedDeficit
  refine loop_0 (fun k i (_ : Unit) => wX_reachedDeficit_2 post (nI n) (nI m) st tc sf aS aT aH aC aK W aF aE aD aP k (nI i)) (fun i _ => ∀ v, v < i → (aE v).toInt < 0 → aD v = 1000000) n () (fun v hv => absurd hv (Nat.not_lt_zero _))
    (fun k _ hs => br_t (nI_le (Nat.le_refl _) (by omega)) (h1 hs)) (fun k i _ hi hs ih => br_f (nI_ge hi (by omega)) ⟨vp_in_nI (by omega) (by omega), ?_⟩)
  rw [nI_clamp (show i < 2 ^ 31 by omega)]
  refine br_c (fun q => nm_r (nI_1 i) (ih () (fun v hv k => ?_))) (fun q => ⟨vp_in_nI (by omega) (by omega), br_c (fun z => nm_r (nI_1 i) (ih () (fun v hv k => ?_))) (fun z => h2 i hi ?_ z)⟩)
  · by_cases e : v = i
    · rw [ni_le, ni_0] at q; rw [e] at k; omega
    · exact hs v (by omega) k
  · by_cases e : v = i
    · rw [e]; exact z
    · exact hs v (by omega) k
  · rw [ni_le, ni_0] at q; omega
/-- reading a node's parent: its room and the node before -/
theorem wx_room {n m : Nat} {st tc sf : Int32} {aS aT aH aC aK W aF aE aD aP : Nat → Int32} {post : Int32 → Prop} {v e : Nat} (hN : ns_Net n m aS aT aH aC aK) (hv : v < n) (hin : nx_in n m aP) {rc d : Nat → Int} {U hi : Int} {src : Nat → Bool}
    (hB : ns_B n m (ns_xf (ns_n aT) (ns_n aH)) (ns_xf (ns_n aH) (ns_n aT)) (ns_xl (ns_t aK)) rc U src hi d (ns_xp (ns_n aH) aP)) (hp : ns_xp (ns_n aH) aP v = some e) (hF : ∀ k, k < m → -100000 ≤ (aF k).toInt ∧ (aF k).toInt ≤ 100000) (h : ∀ r : Int32, r.toInt = (ns_xr (ns_t aC) (ns_t aF)) e → post r) : wpX_pathRoom post ((nI n), (nI m), st, tc, sf, aS, aT, aH, aC, aK, W, aF, aE, aD, aP) (nI v) := by
  have hm := hN.2.2.1
  have hn := hN.2.1
  obtain ⟨k, hk, e1, e2⟩ := nx_par hN hB hv hp hin
  obtain ⟨a1, a2, a3, a4, a5⟩ := hN.2.2.2.2.1 k hk
  have bC := hN.2.2.2.2.2.1 k hk
  have bF := hF k hk
  have iI : vp_in (nI k) 96 := vp_in_nI (by omega) (by omega)
  have c1 : (nI v).toNatClampNeg = v := nI_clamp (by omega)
  have c2 : (nI k).toNatClampNeg = k := nI_clamp (by omega)
  refine ⟨vp_in_nI (by omega) (by omega), nm_r (e' := nI k) (by rw [c1]; exact e1) ⟨iI, ?_⟩⟩
  rw [c2]
  rcases e2 with ⟨q1, q2, q3⟩ | ⟨q1, q2, q3⟩
  · refine br_t (by rw [a3, q1]) ⟨iI, iI, h _ ?_⟩
    rw [q2, ns_xr_0, ni_sub (by omega) (by omega)]
    rfl
  · refine br_f (by rw [a3]; intro z; exact q1 ((nI_eq (by omega) (by omega)).mp z)) ⟨iI, h _ ?_⟩
    rw [q2, ns_xr_1]
    rfl
theorem wx_prev {n m : Nat} {st tc sf : Int32} {aS aT aH aC aK W aF aE aD aP : Nat → Int32} {post : Int32 → Prop} {v e : Nat} (hN : ns_Net n m aS aT aH aC aK) (hv : v < n) (hin : nx_in n m aP) {rc d : Nat → Int} {U hi : Int} {src : Nat → Bool}
    (hB : ns_B n m (ns_xf (ns_n aT) (ns_n aH)) (ns_xf (ns_n aH) (ns_n aT)) (ns_xl (ns_t aK)) rc U src hi d (ns_xp (ns_n aH) aP)) (hp : ns_xp (ns_n aH) aP v = some e) (h : post (nI ((ns_xf (ns_n aT) (ns_n aH)) e))) : wpX_pathPrevious post ((nI n), (nI m), st, tc, sf, aS, aT, aH, aC, aK, W, aF, aE, aD, aP) (nI v) := by
  have hm := hN.2.2.1
  have hn := hN.2.1
  obtain ⟨k, hk, e1, e2⟩ := nx_par hN hB hv hp hin
  obtain ⟨a1, a2, a3, a4, a5⟩ := hN.2.2.2.2.1 k hk
  have iI : vp_in (nI k) 96 := vp_in_nI (by omega) (by omega)
  have c1 : (nI v).toNatClampNeg = v := nI_clamp (by omega)
  have c2 : (nI k).toNatClampNeg = k := nI_clamp (by omega)
  refine ⟨vp_in_nI (by omega) (by omega), nm_r (e' := nI k) (by rw [c1]; exact e1) ⟨iI, ?_⟩⟩
  rw [c2]
  rcases e2 with ⟨q1, q2, q3⟩ | ⟨q1, q2, q3⟩
  · refine br_t (by rw [a3, q1]) ⟨iI, ?_⟩
    rw [q3] at h
    rw [a1]
    exact h
  · refine br_f (by rw [a3]; intro z; exact q1 ((nI_eq (by omega) (by omega)).mp z)) ⟨iI, ?_⟩
    rw [q3] at h
    rw [a3]
    exact h
theorem wx_small {post : Int32 → Prop} {a b : Int32} (h : ∀ r : Int32, r.toInt ≤ a.toInt → r.toInt ≤ b.toInt → (r = a ∨ r = b) → post r) : wpX_smaller post a b := by
  refine br_c (fun q => h b ?_ (Int.le_refl _) (Or.inr rfl)) (fun q => h a (Int.le_refl _) ?_ (Or.inl rfl))
  · rw [ni_le] at q; exact q
  · rw [ni_le] at q; omega
/-- changing the flow along the path -/
theorem wx_chg {n m : Nat} {st tc sf : Int32} {aS aT aH aC aK W aF aE aD aP : Nat → Int32} {post : SX → Prop} {rc d : Nat → Int} {U hi : Int} {src : Nat → Bool} {r : Nat} {a : Int32} (hN : ns_Net n m aS aT aH aC aK) (hin : nx_in n m aP)
    (hB : ns_B n m (ns_xf (ns_n aT) (ns_n aH)) (ns_xf (ns_n aH) (ns_n aT)) (ns_xl (ns_t aK)) rc U src hi d (ns_xp (ns_n aH) aP)) (ha : 0 ≤ a.toInt ∧ a.toInt ≤ 2000) :
    ∀ (es : List Nat) (v i : Nat) (aF : Nat → Int32) (B : Int), ns_path (ns_xf (ns_n aT) (ns_n aH)) (ns_xp (ns_n aH) aP) r v es → v < n → i + es.length < n → (∀ k, k < m → -B ≤ (aF k).toInt ∧ (aF k).toInt ≤ B) → B + 2000 * es.length ≤ 100000 →
      (∀ aF' : Nat → Int32, ns_xr (ns_t aC) (ns_t aF') = ns_pu a.toInt es (ns_xr (ns_t aC) (ns_t aF)) → post ((nI n), (nI m), st, tc, sf, aS, aT, aH, aC, aK, W, aF', aE, aD, aP)) → wX_changePathFlow_5 post a (nI n) (nI m) st tc sf (es.length + 1) (nI v) (nI i) aS aT aH aC aK W aF aE aD aP := by
  have hm := hN.2.2.1
  have hn := hN.2.1
  intro es
  induction es with
  | nil =>
    intro v i aF B hp hv hi hF hb h
    have c1 : (nI v).toNatClampNeg = v := nI_clamp (by omega)
    refine br_f (nI_ge (show i < n by simp at hi; omega) (by omega)) ⟨vp_in_nI (by omega) (by omega), br_t ?_ (h aF rfl)⟩
    rw [c1]
    exact nx_none hp.2
  | cons e es ih =>
    intro v i aF B hp hv hi hF hb h
    have c1 : (nI v).toNatClampNeg = v := nI_clamp (by omega)
    simp only [List.length_cons] at hi hb
    obtain ⟨k, hk, e1, e2⟩ := nx_par hN hB hv hp.1 hin
    obtain ⟨b1, b2, b3, b4, b5, b6⟩ := hB.2.1 v hv e hp.1
    obtain ⟨a1, a2, a3, a4, a5⟩ := hN.2.2.2.2.1 k hk
    have bF := hF k hk
    have iI : vp_in (nI k) 96 := vp_in_nI (by omega) (by omega)
    have c2 : (nI k).toNatClampNeg = k := nI_clamp (by omega)
    have step : ∀ z : Int32, (-2000 ≤ z.toInt ∧ z.toInt ≤ 2000) → ns_xr (ns_t aC) (ns_t (upd aF k (aF k + z))) = ns_p1 a.toInt e (ns_xr (ns_t aC) (ns_t aF)) →
        wX_changePathFlow_57 post (wX_changePathFlow_5 post a (nI n) (nI m) st tc sf (es.length + 1)) a (nI v) (nI i) z (aF (nI k).toNatClampNeg) (nI k) (nI n) (nI m) st tc sf aS aT aH aC aK W aF aE aD aP := by
      intro z hz he
      refine ⟨iI, nm_r (e' := upd aF k (aF k + z)) (by rw [c2]) (wx_prev hN hv hin hB hp.1 (nm_r (nI_1 i) (ih ((ns_xf (ns_n aT) (ns_n aH)) e) (i + 1) (upd aF k (aF k + z)) (B + 2000) hp.2 (nx_G hN e b1).1 (by omega) (fun j hj => ?_) (by omega) (fun aF' hF' => h aF' ?_))))⟩
      · have := hF j hj
        by_cases q : j = k
        · rw [q, nu_s, ni_add (by omega) (by omega)]; omega
        · rw [nu_n q]; omega
      · rw [hF', he]; rfl
    refine br_f (nI_ge (show i < n by omega) (by omega)) ⟨vp_in_nI (by omega) (by omega), br_f ?_ ⟨vp_in_nI (by omega) (by omega), nm_r (e' := nI k) (by rw [c1]; exact e1) ⟨iI, iI, ?_⟩⟩⟩
    · rw [c1]; exact nx_some hp.1
    · rcases e2 with ⟨q1, q2, q3⟩ | ⟨q1, q2, q3⟩
      · refine br_t (by rw [c2, a3, q1]) (step a (by omega) ?_)
        rw [q2, ns_xr_p0, ns_t_upd, ni_add (by omega) (by omega)]
        rfl
      · have hg : (-a).toInt = - a.toInt := ni_neg (by omega) (by omega)
        refine br_f (by rw [c2, a3]; intro z; exact q1 ((nI_eq (by omega) (by omega)).mp z)) (step (-a) (by omega) ?_)
        rw [q2, ns_xr_p1, ns_t_upd, ni_add (by omega) (by omega), hg]
        rfl
