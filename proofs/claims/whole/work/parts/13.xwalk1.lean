/-! 13: the class's walks: reset, sum, start, relaxing -/
theorem wx_reset {n m : Nat} {st tc sf : Int32} {aS aT aH aC aK W aF aE aD aP : Nat → Int32} {post : SX → Prop} (hn : n ≤ 24) (h : ∀ W' : Nat → Int32, (∀ v, v < n → W' v = 0) → post ((nI n), (nI m), 0, 0, 0, aS, aT, aH, aC, aK, W', aF, aE, aD, aP)) : wpX_reset post ((nI n), (nI m), st, tc, sf, aS, aT, aH, aC, aK, W, aF, aE, aD, aP) := by
  unfold wpX_reset
  exact loop_0 (fun k i W => wX_reset_17 post (nI n) (nI m) 0 0 0 k (nI i) aS aT aH aC aK W aF aE aD aP) (fun i W => ∀ v, v < i → W v = 0) n W (fun v hv => absurd hv (Nat.not_lt_zero _))
    (fun k W hW => br_t (nI_le (Nat.le_refl _) (by omega)) (h W hW))
    (fun k i W hi hW ih => br_f (nI_ge hi (by omega)) ⟨vp_in_nI (by omega) (by omega), nm_r (e' := upd W i 0) (by rw [nI_clamp (by omega), ni_b0]) (nm_r (nI_1 i) (ih _ (fun v hv => by
      by_cases q : v = i
      · rw [q, nu_s]
      · rw [nu_n q]; exact hW v (by omega))))⟩)
theorem wx_sum {n m : Nat} {st tc sf : Int32} {aS aT aH aC aK W aF aE aD aP : Nat → Int32} {post : Int32 → Prop} (hN : ns_Net n m aS aT aH aC aK) (h : ∀ r : Int32, r.toInt = ns_sm (ns_t aS) n → post r) : wpX_supplySum post ((nI n), (nI m), st, tc, sf, aS, aT, aH, aC, aK, W, aF, aE, aD, aP) := by
  have hn := hN.2.1
  unfold wpX_supplySum
  exact loop_0 (fun k i s => wX_supplySum_4 post (nI n) (nI m) st tc sf aS aT aH aC aK W aF aE aD aP k s (nI i)) (fun i s => s.toInt = ns_sm (ns_t aS) i) n 0 ni_0
    (fun k s hs => br_t (nI_le (Nat.le_refl _) (by omega)) (h s hs))
    (fun k i s hi hs ih => br_f (nI_ge hi (by omega)) ⟨vp_in_nI (by omega) (by omega), nm_r (e' := s + aS i) (by rw [nI_clamp (by omega)]) (nm_r (nI_1 i) (ih _ (by
      have b := ns_sm_bd (f := ns_t aS) (B := 20) i (fun v hv => hN.2.2.2.1 v (by omega))
      have c := hN.2.2.2.1 i (by omega)
      show (s + aS i).toInt = ns_sm (ns_t aS) i + (aS i).toInt
      rw [ni_add (by omega) (by omega), hs])))⟩)
/-- one arc's start: its flow, and what it takes and brings -/
theorem wx_st1 {n : Nat} {aE aT aH : Nat → Int32} {fl : Int32} {i : Nat} {b y : Nat → Int} (hT : ns_n aT i < n) (hH : ns_n aH i < n) (hne : ns_n aT i ≠ ns_n aH i) (hy : ∀ a, a < i → 0 ≤ y a ∧ y a ≤ 20) (hb : ∀ v, v < n → -20 ≤ b v ∧ b v ≤ 20) (hi : i < 96)
    (hfl : fl.toInt = y i) (h0 : 0 ≤ y i ∧ y i ≤ 20) (hE : ∀ v, v < n → (aE v).toInt = ns_exc b (ns_n aT) (ns_n aH) y i v) :
    ∀ v, v < n → (upd (upd aE (ns_n aT i) (aE (ns_n aT i) - fl)) (ns_n aH i) (upd aE (ns_n aT i) (aE (ns_n aT i) - fl) (ns_n aH i) + fl) v).toInt = ns_exc b (ns_n aT) (ns_n aH) y (i + 1) v := by
  intro v hv
  have bd : ∀ u, u < n → -2000 ≤ (aE u).toInt ∧ (aE u).toInt ≤ 2000 := by
    intro u hu
    rw [hE u hu]
    have := ns_exc_bd (b := b) (x := y) (tl := ns_n aT) (hd := ns_n aH) (m := i) (v := u) (hb u hu) (fun a ha => by have := hy a ha; omega)
    omega
  rw [ns_exc_s]
  by_cases q : v = ns_n aH i
  · rw [q, nu_s, nu_n (fun k => hne k.symm), ns_ind_1, ns_ind_0 hne]
    have c := bd (ns_n aH i) hH
    rw [ni_add (by omega) (by omega), hE _ hH, hfl]
    omega
  · rw [nu_n q, ns_ind_0 (fun k => q k.symm)]
    by_cases q' : v = ns_n aT i
    · rw [q', nu_s, ns_ind_1]
      have c := bd (ns_n aT i) hT
      rw [ni_sub (by omega) (by omega), hE _ hT, hfl]
      omega
    · rw [nu_n q', ns_ind_0 (fun k => q' k.symm), hE v hv]
      omega
theorem wx_s62 {n m : Nat} {st tc sf : Int32} {aS aT aH aC aK W aF aE aD aP : Nat → Int32} {post : SX → Prop} {J : Int32 → (Nat → Int32) → (Nat → Int32) → (Nat → Int32) → (Nat → Int32) → (Nat → Int32) → (Nat → Int32) → (Nat → Int32) → (Nat → Int32) → (Nat → Int32) → (Nat → Int32) → Prop}
    {i : Nat} {z : Int32} (hN : ns_Net n m aS aT aH aC aK) (hi : i < m)
    (h : J (nI (i + 1)) aS aT aH aC aK W (upd aF i z) (upd (upd aE (ns_n aT i) (aE (ns_n aT i) - z)) (ns_n aH i) (upd aE (ns_n aT i) (aE (ns_n aT i) - z) (ns_n aH i) + z)) aD aP) :
    wX_startFlow_62 post J (nI i) z (nI i) (nI n) (nI m) st tc sf aS aT aH aC aK W aF aE aD aP := by
  have hm := hN.2.2.1
  have hn := hN.2.1
  obtain ⟨a1, a2, a3, a4, a5⟩ := hN.2.2.2.2.1 i hi
  have e1 : (nI i).toNatClampNeg = i := nI_clamp (by omega)
  have iT : vp_in (aT (nI i).toNatClampNeg) 24 := by rw [e1, a1]; exact vp_in_nI (by omega) (by omega)
  have iH : vp_in (aH (nI i).toNatClampNeg) 24 := by rw [e1, a3]; exact vp_in_nI (by omega) (by omega)
  have iI : vp_in (nI i) 96 := vp_in_nI (by omega) (by omega)
  refine ⟨iI, nm_r (e' := upd aF i z) (by rw [e1]) ⟨iI, iT, iI, iT, nm_r (e' := upd aE (ns_n aT i) (aE (ns_n aT i) - z)) (by rw [e1, nu_s] <;> rfl) ⟨iI, iH, iI, iH,
    nm_r (e' := upd (upd aE (ns_n aT i) (aE (ns_n aT i) - z)) (ns_n aH i) (upd aE (ns_n aT i) (aE (ns_n aT i) - z) (ns_n aH i) + z)) (by rw [e1, nu_s] <;> rfl) (nm_r (nI_1 i) h)⟩⟩⟩
theorem wx_start {n m : Nat} {st tc sf : Int32} {aS aT aH aC aK W aF aE aD aP : Nat → Int32} {post : SX → Prop} (hN : ns_Net n m aS aT aH aC aK)
    (h : ∀ aF' aE' : Nat → Int32, ns_XI n m (ns_n aT) (ns_n aH) (ns_t aS) (ns_t aK) (ns_t aC) (ns_t aF') (ns_t aE') → (∀ v, v < n → (aE' v).toInt = ns_exc (ns_t aS) (ns_n aT) (ns_n aH) (ns_y0 (ns_t aK) (ns_t aC)) m v) → post ((nI n), (nI m), st, tc, sf, aS, aT, aH, aC, aK, W, aF', aE', aD, aP)) : wpX_startFlow post ((nI n), (nI m), st, tc, sf, aS, aT, aH, aC, aK, W, aF, aE, aD, aP) := by
  have hm := hN.2.2.1
  have hn := hN.2.1
  unfold wpX_startFlow
  refine loop_0 (fun k i aE => wX_startFlow_2 post (nI n) (nI m) st tc sf k (nI i) aS aT aH aC aK W aF aE aD aP) (fun i aE => ∀ v, v < i → aE v = aS v) n aE (fun v hv => absurd hv (Nat.not_lt_zero _)) (fun k aE hE => br_t (nI_le (Nat.le_refl _) (by omega)) ?_)
    (fun k i aE hi hE ih => br_f (nI_ge hi (by omega)) ⟨vp_in_nI (by omega) (by omega), vp_in_nI (by omega) (by omega), nm_r (e' := upd aE i (aS i)) (by rw [nI_clamp (by omega)]) (nm_r (nI_1 i) (ih _ (fun v hv => by
      by_cases q : v = i
      · rw [q, nu_s]
      · rw [nu_n q]; exact hE v (by omega))))⟩)
  refine loop_0 (fun k i (s : (Nat → Int32) × (Nat → Int32)) => wX_startFlow_30 post (nI n) (nI m) st tc sf k (nI i) aS aT aH aC aK W s.1 s.2 aD aP)
    (fun i s => (∀ a, a < i → (s.1 a).toInt = ns_y0 (ns_t aK) (ns_t aC) a) ∧ (∀ v, v < n → (s.2 v).toInt = ns_exc (ns_t aS) (ns_n aT) (ns_n aH) (ns_y0 (ns_t aK) (ns_t aC)) i v)) m (aF, aE)
    ⟨fun a ha => absurd ha (Nat.not_lt_zero _), fun v hv => by rw [ns_exc_0]; show (aE v).toInt = (aS v).toInt; rw [hE v hv]⟩
    (fun k s hs => br_t (nI_le (Nat.le_refl _) (by omega)) (h s.1 s.2 (ns_XI_0 (fun a ha => (hN.2.2.2.2.2.1 a ha).1) hs.1 (fun v hv => (hs.2 v hv).trans (ns_exc_c (fun a ha => (hs.1 a ha).symm) v))) hs.2))
    (fun k i s hi hs ih => br_f (nI_ge hi (by omega)) ⟨vp_in_nI (by omega) (by omega), ?_⟩)
  have e1 : (nI i).toNatClampNeg = i := nI_clamp (by omega)
  obtain ⟨a1, a2, a3, a4, a5⟩ := hN.2.2.2.2.1 i hi
  have bC := hN.2.2.2.2.2.1
  have step : ∀ z : Int32, z.toInt = ns_y0 (ns_t aK) (ns_t aC) i → wX_startFlow_62 post (wX_startFlow_30 post (nI n) (nI m) st tc sf k) (nI i) z (nI i) (nI n) (nI m) st tc sf aS aT aH aC aK W s.1 s.2 aD aP := by
    intro z hz
    refine wx_s62 hN hi (ih (upd s.1 i z, _) ⟨fun a ha => ?_, wx_st1 a2 a4 a5 (fun a ha => ns_y0_bd (bC a (by omega))) hN.2.2.2.1 (by omega) hz (ns_y0_bd (bC i hi)) hs.2⟩)
    show (upd s.1 i z a).toInt = _
    by_cases q : a = i
    · rw [q, nu_s, hz]
    · rw [nu_n q]; exact hs.1 a (by omega)
  have k0 : (0 ≤ aK i) ↔ ¬ ns_t aK i < 0 := by
    rw [ni_le, ni_0]
    show 0 ≤ (aK i).toInt ↔ ¬ (aK i).toInt < 0
    omega
  rw [e1]
  refine br_c (fun q => step 0 ?_) (fun q => ⟨vp_in_nI (by omega) (by omega), step (aC i) ?_⟩)
  · unfold ns_y0
    rw [if_neg (k0.mp q), ni_0]
  · unfold ns_y0
    rw [if_pos (Decidable.not_not.mp (fun z => q (k0.mpr z)))]
    rfl
theorem wx_relax {n m : Nat} {st tc sf : Int32} {aS aT aH aC aK W aF aE aD aP : Nat → Int32} {post : Int32 → SX → Prop} {k f t : Nat} {l : Int32} (hf : f < 24) (ht : t < 24) (h0 : (aD f = 1000000 ∨ aD t ≤ aD f + l) → post 0 ((nI n), (nI m), st, tc, sf, aS, aT, aH, aC, aK, W, aF, aE, aD, aP))
    (h1 : ¬ aD f = 1000000 → ¬ aD t ≤ aD f + l → post 1 ((nI n), (nI m), st, tc, sf, aS, aT, aH, aC, aK, W, aF, aE, (upd aD t (aD f + l)), (upd aP t (nI k)))) : wpX_relax post ((nI n), (nI m), st, tc, sf, aS, aT, aH, aC, aK, W, aF, aE, aD, aP) (nI k) (nI f) (nI t) l := by
  have i1 : vp_in (nI f) 24 := vp_in_nI hf (by omega)
  have i2 : vp_in (nI t) 24 := vp_in_nI ht (by omega)
  unfold wpX_relax
  dsimp only
  rw [nI_clamp (show f < 2 ^ 31 by omega), nI_clamp (show t < 2 ^ 31 by omega)]
  exact ⟨i1, br_c (fun z => h0 (Or.inl z)) (fun z => ⟨i1, i2, br_c (fun q => ⟨i1, i2, nm_e ⟨i2, nm_e (h1 z (Int32.not_le.mpr q))⟩⟩) (fun q => h0 (Or.inr (Int32.not_lt.mp q)))⟩)⟩
def nx_in (n m : Nat) (aP : Nat → Int32) : Prop := ∀ u, u < n → aP u = -1 ∨ ∃ k, k < m ∧ aP u = nI k
theorem nx_in_u {n m : Nat} {aP : Nat → Int32} (h : nx_in n m aP) {k : Nat} (hk : k < m) (t : Nat) : nx_in n m (upd aP t (nI k)) := by
  intro u hu
  by_cases q : u = t
  · rw [q, nu_s]; exact Or.inr ⟨k, hk, rfl⟩
  · rw [nu_n q]; exact h u hu
theorem ni_nb {x : Int32} (h : x = 0 ∨ x = 1) : narrow .boolean (.int x) = .int x := by
  rcases h with h | h
  · rw [h]; rfl
  · rw [h]; rfl
theorem wx_55 {n m : Nat} {st tc sf : Int32} {aS aT aH aC aK W aF aE aD aP : Nat → Int32} {post : Int32 → SX → Prop} {J4 : Int32 → Int32 → Int32 → Int32 → Int32 → Int32 → Int32 → (Nat → Int32) → (Nat → Int32) → (Nat → Int32) → (Nat → Int32) → (Nat → Int32) → (Nat → Int32) → (Nat → Int32) → (Nat → Int32) → (Nat → Int32) → (Nat → Int32) → Prop}
    {x1 : Int32} {k : Nat} {π : Nat → Int} {src : Nat → Bool} {hi : Int} {l : List Nat} {w : Nat} {c : Int} (hN : ns_Net n m aS aT aH aC aK) (hk : k < m) (hU : hi + 50 * ((2 * k + 1 : Nat) : Int) + 50 < 1000000) (h0 : 0 ≤ hi) (hP : ns_Pot m (ns_xf (ns_n aT) (ns_n aH)) (ns_xf (ns_n aH) (ns_n aT)) (ns_xl (ns_t aK)) (ns_xr (ns_t aC) (ns_t aF)) π)
    (h1 : x1 = 0 ∨ x1 = 1) (hin : nx_in n m aP)
    (hJ : ns_J n m (ns_xf (ns_n aT) (ns_n aH)) (ns_xf (ns_n aH) (ns_n aT)) (ns_xl (ns_t aK)) (ns_xr (ns_t aC) (ns_t aF)) π 1000000 src hi l w c (2 * k + 1) (decide (x1 = 1)) (ns_t aD) (ns_xp (ns_n aH) aP))
    (h : ∀ (x1 : Int32) (aD aP : Nat → Int32), (x1 = 0 ∨ x1 = 1) → nx_in n m aP → ns_J n m (ns_xf (ns_n aT) (ns_n aH)) (ns_xf (ns_n aH) (ns_n aT)) (ns_xl (ns_t aK)) (ns_xr (ns_t aC) (ns_t aF)) π 1000000 src hi l w c (2 * (k + 1)) (decide (x1 = 1)) (ns_t aD) (ns_xp (ns_n aH) aP) → J4 x1 (nI (k + 1)) (nI n) (nI m) st tc sf aS aT aH aC aK W aF aE aD aP) :
    wX_relaxAllArcs_55 post J4 x1 (nI k) (nI n) (nI m) st tc sf aS aT aH aC aK W aF aE aD aP := by
  have hm := hN.2.2.1
  have hn := hN.2.1
  obtain ⟨a1, a2, a3, a4, a5⟩ := hN.2.2.2.2.1 k hk
  have e := nx_e1 hN hk hU h0 hP hJ
  have iI : vp_in (nI k) 96 := vp_in_nI (by omega) (by omega)
  unfold wX_relaxAllArcs_55
  rw [nI_clamp (show k < 2 ^ 31 by omega)]
  refine ⟨iI, br_c (fun q => nm_r (nI_1 k) (h x1 aD aP h1 hin (e.1 q))) (fun q => ⟨iI, iI, iI, ?_⟩)⟩
  rw [a1, a3]
  refine wx_relax (by omega) (by omega) (fun z => br_t rfl (nm_r (nI_1 k) (h x1 aD aP h1 hin ((e.2 q).1 z)))) (fun z1 z2 => br_f (by decide) (nm_r (nI_1 k) (h 1 _ _ (Or.inr rfl) (nx_in_u hin hk _) ((e.2 q).2 z1 z2))))
theorem wx_relaxAll {n m : Nat} {st tc sf : Int32} {aS aT aH aC aK W aF aE aD aP : Nat → Int32} {post : Int32 → SX → Prop} {π : Nat → Int} {src : Nat → Bool} {r : Nat} (hN : ns_Net n m aS aT aH aC aK) (hP : ns_Pot m (ns_xf (ns_n aT) (ns_n aH)) (ns_xf (ns_n aH) (ns_n aT)) (ns_xl (ns_t aK)) (ns_xr (ns_t aC) (ns_t aF)) π) (hr : r < n) (hin : nx_in n m aP)
    (hK : ns_K n m (ns_xf (ns_n aT) (ns_n aH)) (ns_xf (ns_n aH) (ns_n aT)) (ns_xl (ns_t aK)) (ns_xr (ns_t aC) (ns_t aF)) π 1000000 src r true (ns_t aD) (ns_xp (ns_n aH) aP))
    (h : ∀ (x1 : Int32) (aD aP : Nat → Int32), (x1 = 0 ∨ x1 = 1) → nx_in n m aP → ns_K n m (ns_xf (ns_n aT) (ns_n aH)) (ns_xf (ns_n aH) (ns_n aT)) (ns_xl (ns_t aK)) (ns_xr (ns_t aC) (ns_t aF)) π 1000000 src (r + 1) (decide (x1 = 1)) (ns_t aD) (ns_xp (ns_n aH) aP) → post x1 ((nI n), (nI m), st, tc, sf, aS, aT, aH, aC, aK, W, aF, aE, aD, aP)) :
    wpX_relaxAllArcs post ((nI n), (nI m), st, tc, sf, aS, aT, aH, aC, aK, W, aF, aE, aD, aP) := by
  have hm := hN.2.2.1
  have hn := hN.2.1
  obtain ⟨l, w, c, hl, hw, hJ⟩ := ns_K_J hK hr
  unfold wpX_relaxAllArcs
  refine loop_0 (fun k i (s : Int32 × (Nat → Int32) × (Nat → Int32)) => wX_relaxAllArcs_4 post k s.1 (nI i) (nI n) (nI m) st tc sf aS aT aH aC aK W aF aE s.2.1 s.2.2)
    (fun i s => (s.1 = 0 ∨ s.1 = 1) ∧ nx_in n m s.2.2 ∧ ns_J n m (ns_xf (ns_n aT) (ns_n aH)) (ns_xf (ns_n aH) (ns_n aT)) (ns_xl (ns_t aK)) (ns_xr (ns_t aC) (ns_t aF)) π 1000000 src (12000 * r) l w c (2 * i) (decide (s.1 = 1)) (ns_t s.2.1) (ns_xp (ns_n aH) s.2.2)) m (0, aD, aP)
    ⟨Or.inl rfl, hin, hJ⟩
    (fun k s hs => br_t (nI_le (Nat.le_refl _) (by omega)) ⟨ni_nb hs.1, h s.1 s.2.1 s.2.2 hs.1 hs.2.1 (ns_J_K hs.2.2 (by omega) hl hw)⟩)
    (fun k i s hi hs ih => br_f (nI_ge hi (by omega)) ⟨vp_in_nI (by omega) (by omega), vp_in_nI (by omega) (by omega), ?_⟩)
  obtain ⟨a1, a2, a3, a4, a5⟩ := hN.2.2.2.2.1 i hi
  obtain ⟨s1, s2, s3⟩ := hs
  have iI : vp_in (nI i) 96 := vp_in_nI (by omega) (by omega)
  have e := nx_e0 hN hi (by omega) (by omega) hP s3
  rw [nI_clamp (show i < 2 ^ 31 by omega)]
  refine br_c (fun q => wx_55 hN hi (by omega) (by omega) hP s1 s2 (e.1 (Int32.not_lt.mpr q)) (fun x D P p1 p2 p3 => ih (x, D, P) ⟨p1, p2, p3⟩)) (fun q => ⟨iI, iI, iI, ?_⟩)
  rw [a1, a3]
  refine wx_relax (by omega) (by omega) (fun z => br_t rfl (wx_55 hN hi (by omega) (by omega) hP s1 s2 ((e.2 (Int32.not_le.mp q)).1 z) (fun x D P p1 p2 p3 => ih (x, D, P) ⟨p1, p2, p3⟩)))
    (fun z1 z2 => br_f (by decide) (wx_55 hN hi (by omega) (by omega) hP (Or.inr rfl) (nx_in_u s2 hi _) ((e.2 (Int32.not_le.mp q)).2 z1 z2) (fun x D P p1 p2 p3 => ih (x, D, P) ⟨p1, p2, p3⟩)))
