/-! 16: the class's walks: the witness, and the whole solve -/
theorem nx_m0 {n m : Nat} {aS aT aH aC aK aF W : Nat → Int32} {ini : Nat → Bool} {r k : Nat} {g : Bool} (hN : ns_Net n m aS aT aH aC aK) (hk : k < m) (h1 : ns_01 n W) (h : ns_mk n m (ns_xf (ns_n aT) (ns_n aH)) (ns_xf (ns_n aH) (ns_n aT)) (ns_xr (ns_t aC) (ns_t aF)) ini r (2 * k) g (ns_mb W)) :
    ((aC k ≤ aF k ∨ W (ns_n aH k) = 0 ∨ ¬ W (ns_n aT k) = 0) → ns_mk n m (ns_xf (ns_n aT) (ns_n aH)) (ns_xf (ns_n aH) (ns_n aT)) (ns_xr (ns_t aC) (ns_t aF)) ini r (2 * k + 1) g (ns_mb W)) ∧
    (¬ aC k ≤ aF k → ¬ W (ns_n aH k) = 0 → W (ns_n aT k) = 0 → ns_mk n m (ns_xf (ns_n aT) (ns_n aH)) (ns_xf (ns_n aH) (ns_n aT)) (ns_xr (ns_t aC) (ns_t aF)) ini r (2 * k + 1) true (ns_mb (upd W (ns_n aT k) 1))) := by
  obtain ⟨a1, a2, a3, a4, a5⟩ := hN.2.2.2.2.1 k hk
  have er : (ns_xr (ns_t aC) (ns_t aF)) (2 * k) = (aC k).toInt - (aF k).toInt := ns_xr_0 _ _ _
  have ef : (ns_xf (ns_n aT) (ns_n aH)) (2 * k) = ns_n aT k := ns_xf_0 _ _ _
  have et : (ns_xf (ns_n aH) (ns_n aT)) (2 * k) = ns_n aH k := ns_xf_0 _ _ _
  have bT := ns_mb_0 (h1 _ a2)
  have bH := ns_mb_0 (h1 _ a4)
  refine ⟨fun q => ns_mk_no h (fun z y => ?_), fun q1 q2 q3 => ?_⟩
  · rw [er] at z
    rw [et] at y
    rw [ef]
    rcases q with q | q | q
    · rw [ni_le] at q; omega
    · exact absurd q (bH.mp y)
    · exact bT.mpr q
  · rw [ni_le] at q1
    have u := ns_mk_upd (by rw [ef]; exact a2) (by rw [et]; exact a4) h (by omega) (by rw [er]; omega) (by rw [et]; exact bH.mpr q2) (by rw [ef]; intro z; exact bT.mp z q3)
    rw [ef] at u
    rw [ns_mb_u]
    exact u
theorem nx_m1 {n m : Nat} {aS aT aH aC aK aF W : Nat → Int32} {ini : Nat → Bool} {r k : Nat} {g : Bool} (hN : ns_Net n m aS aT aH aC aK) (hk : k < m) (h1 : ns_01 n W) (h : ns_mk n m (ns_xf (ns_n aT) (ns_n aH)) (ns_xf (ns_n aH) (ns_n aT)) (ns_xr (ns_t aC) (ns_t aF)) ini r (2 * k + 1) g (ns_mb W)) :
    ((aF k ≤ 0 ∨ W (ns_n aT k) = 0 ∨ ¬ W (ns_n aH k) = 0) → ns_mk n m (ns_xf (ns_n aT) (ns_n aH)) (ns_xf (ns_n aH) (ns_n aT)) (ns_xr (ns_t aC) (ns_t aF)) ini r (2 * (k + 1)) g (ns_mb W)) ∧
    (¬ aF k ≤ 0 → ¬ W (ns_n aT k) = 0 → W (ns_n aH k) = 0 → ns_mk n m (ns_xf (ns_n aT) (ns_n aH)) (ns_xf (ns_n aH) (ns_n aT)) (ns_xr (ns_t aC) (ns_t aF)) ini r (2 * (k + 1)) true (ns_mb (upd W (ns_n aH k) 1))) := by
  obtain ⟨a1, a2, a3, a4, a5⟩ := hN.2.2.2.2.1 k hk
  have er : (ns_xr (ns_t aC) (ns_t aF)) (2 * k + 1) = (aF k).toInt := ns_xr_1 _ _ _
  have ef : (ns_xf (ns_n aT) (ns_n aH)) (2 * k + 1) = ns_n aH k := ns_xf_1 _ _ _
  have et : (ns_xf (ns_n aH) (ns_n aT)) (2 * k + 1) = ns_n aT k := ns_xf_1 _ _ _
  have bT := ns_mb_0 (h1 _ a2)
  have bH := ns_mb_0 (h1 _ a4)
  have e2 : 2 * (k + 1) = 2 * k + 1 + 1 := by omega
  rw [e2]
  refine ⟨fun q => ns_mk_no h (fun z y => ?_), fun q1 q2 q3 => ?_⟩
  · rw [er] at z
    rw [et] at y
    rw [ef]
    rcases q with q | q | q
    · rw [ni_le, ni_0] at q; omega
    · exact absurd q (bT.mp y)
    · exact bH.mpr q
  · rw [ni_le, ni_0] at q1
    have u := ns_mk_upd (by rw [ef]; exact a4) (by rw [et]; exact a2) h (by omega) (by rw [er]; omega) (by rw [et]; exact bT.mpr q2) (by rw [ef]; intro z; exact bH.mp z q3)
    rw [ef] at u
    rw [ns_mb_u]
    exact u
theorem wx_70 {n m : Nat} {st tc sf : Int32} {aS aT aH aC aK W aF aE aD aP : Nat → Int32} {post : Int32 → SX → Prop} {J4 : Int32 → Int32 → (Nat → Int32) → (Nat → Int32) → (Nat → Int32) → (Nat → Int32) → (Nat → Int32) → (Nat → Int32) → (Nat → Int32) → (Nat → Int32) → (Nat → Int32) → (Nat → Int32) → Prop}
    {x1 : Int32} {k r : Nat} {ini : Nat → Bool} (hN : ns_Net n m aS aT aH aC aK) (hk : k < m) (h1 : x1 = 0 ∨ x1 = 1) (h01 : ns_01 n W) (hmk : ns_mk n m (ns_xf (ns_n aT) (ns_n aH)) (ns_xf (ns_n aH) (ns_n aT)) (ns_xr (ns_t aC) (ns_t aF)) ini r (2 * k + 1) (decide (x1 = 1)) (ns_mb W))
    (h : ∀ (x1 : Int32) (W : Nat → Int32), (x1 = 0 ∨ x1 = 1) → ns_01 n W → ns_mk n m (ns_xf (ns_n aT) (ns_n aH)) (ns_xf (ns_n aH) (ns_n aT)) (ns_xr (ns_t aC) (ns_t aF)) ini r (2 * (k + 1)) (decide (x1 = 1)) (ns_mb W) → J4 x1 (nI (k + 1)) aS aT aH aC aK W aF aE aD aP) :
    wX_growWitness_70 post J4 x1 (nI k) (nI (ns_n aT k)) (nI (ns_n aH k)) (nI n) (nI m) st tc sf aS aT aH aC aK W aF aE aD aP := by
  have hm := hN.2.2.1
  have hn := hN.2.1
  obtain ⟨a1, a2, a3, a4, a5⟩ := hN.2.2.2.2.1 k hk
  have e := nx_m1 hN hk h01 hmk
  have iT : vp_in (nI (ns_n aT k)) 24 := vp_in_nI (by omega) (by omega)
  have iH : vp_in (nI (ns_n aH k)) 24 := vp_in_nI (by omega) (by omega)
  unfold wX_growWitness_70
  rw [nI_clamp (show k < 2 ^ 31 by omega), nI_clamp (show ns_n aT k < 2 ^ 31 by omega), nI_clamp (show ns_n aH k < 2 ^ 31 by omega)]
  exact ⟨vp_in_nI (by omega) (by omega), br_c (fun q => nm_r (nI_1 k) (h x1 W h1 h01 (e.1 (Or.inl q)))) (fun q => ⟨iT, br_c (fun y => nm_r (nI_1 k) (h x1 W h1 h01 (e.1 (Or.inr (Or.inl y))))) (fun y => ⟨iH,
    br_c (fun z => ⟨iH, nm_r (e' := upd W (ns_n aH k) 1) (by rw [ni_b1]) (nm_r (nI_1 k) (h 1 _ (Or.inr rfl) (ns_01_u h01 _ 1 (Or.inr rfl)) (e.2 q y z)))⟩) (fun z => nm_r (nI_1 k) (h x1 W h1 h01 (e.1 (Or.inr (Or.inr z)))))⟩)⟩)⟩
theorem wx_grow {n m : Nat} {st tc sf : Int32} {aS aT aH aC aK W aF aE aD aP : Nat → Int32} {post : Int32 → SX → Prop} {r : Nat} {ini : Nat → Bool} (hN : ns_Net n m aS aT aH aC aK) (h01 : ns_01 n W) (hmk : ns_mk n m (ns_xf (ns_n aT) (ns_n aH)) (ns_xf (ns_n aH) (ns_n aT)) (ns_xr (ns_t aC) (ns_t aF)) ini r 0 false (ns_mb W))
    (h : ∀ (x1 : Int32) (W : Nat → Int32), (x1 = 0 ∨ x1 = 1) → ns_01 n W → ns_mk n m (ns_xf (ns_n aT) (ns_n aH)) (ns_xf (ns_n aH) (ns_n aT)) (ns_xr (ns_t aC) (ns_t aF)) ini (r + 1) 0 false (ns_mb W) → (x1 = 0 → ns_cA m (ns_xf (ns_n aT) (ns_n aH)) (ns_xf (ns_n aH) (ns_n aT)) (ns_xr (ns_t aC) (ns_t aF)) (2 * m) (ns_mb W)) → post x1 ((nI n), (nI m), st, tc, sf, aS, aT, aH, aC, aK, W, aF, aE, aD, aP)) : wpX_growWitness post ((nI n), (nI m), st, tc, sf, aS, aT, aH, aC, aK, W, aF, aE, aD, aP) := by
  have hm := hN.2.2.1
  have hn := hN.2.1
  unfold wpX_growWitness
  refine loop_0 (fun k i (s : Int32 × (Nat → Int32)) => wX_growWitness_4 post (nI n) (nI m) st tc sf k s.1 (nI i) aS aT aH aC aK s.2 aF aE aD aP)
    (fun i s => (s.1 = 0 ∨ s.1 = 1) ∧ ns_01 n s.2 ∧ ns_mk n m (ns_xf (ns_n aT) (ns_n aH)) (ns_xf (ns_n aH) (ns_n aT)) (ns_xr (ns_t aC) (ns_t aF)) ini r (2 * i) (decide (s.1 = 1)) (ns_mb s.2)) m (0, W) ⟨Or.inl rfl, h01, hmk⟩
    (fun k s hs => br_t (nI_le (Nat.le_refl _) (by omega)) ⟨ni_nb hs.1, h s.1 s.2 hs.1 hs.2.1 (ns_mk_end hs.2.2).1 (fun z => (ns_mk_end hs.2.2).2 (decide_eq_false (by rw [z]; decide)))⟩)
    (fun k i s hi hs ih => br_f (nI_ge hi (by omega)) ?_)
  obtain ⟨s1, s2, s3⟩ := hs
  obtain ⟨a1, a2, a3, a4, a5⟩ := hN.2.2.2.2.1 i hi
  have iI : vp_in (nI i) 96 := vp_in_nI (by omega) (by omega)
  have iT : vp_in (nI (ns_n aT i)) 24 := vp_in_nI (by omega) (by omega)
  have iH : vp_in (nI (ns_n aH i)) 24 := vp_in_nI (by omega) (by omega)
  have e := nx_m0 hN hi s2 s3
  have cont : ∀ (x : Int32) (W' : Nat → Int32), (x = 0 ∨ x = 1) → ns_01 n W' → ns_mk n m (ns_xf (ns_n aT) (ns_n aH)) (ns_xf (ns_n aH) (ns_n aT)) (ns_xr (ns_t aC) (ns_t aF)) ini r (2 * i + 1) (decide (x = 1)) (ns_mb W') → wX_growWitness_70 post (wX_growWitness_4 post (nI n) (nI m) st tc sf k) x (nI i) (nI (ns_n aT i)) (nI (ns_n aH i)) (nI n) (nI m) st tc sf aS aT aH aC aK W' aF aE aD aP :=
    fun x W' p1 p2 p3 => wx_70 hN hi p1 p2 p3 (fun y W'' q1 q2 q3 => ih (y, W'') ⟨q1, q2, q3⟩)
  refine ⟨iI, nm_r (e' := nI (ns_n aT i)) (by rw [nI_clamp (show i < 2 ^ 31 by omega)]; exact a1) ⟨iI, nm_r (e' := nI (ns_n aH i)) (by rw [nI_clamp (show i < 2 ^ 31 by omega)]; exact a3) ⟨iI, iI, ?_⟩⟩⟩
  rw [nI_clamp (show i < 2 ^ 31 by omega), nI_clamp (show ns_n aT i < 2 ^ 31 by omega), nI_clamp (show ns_n aH i < 2 ^ 31 by omega)]
  exact br_c (fun q => cont s.1 s.2 s1 s2 (e.1 (Or.inl q))) (fun q => ⟨iH, br_c (fun y => cont s.1 s.2 s1 s2 (e.1 (Or.inr (Or.inl y)))) (fun y => ⟨iT,
    br_c (fun z => ⟨iT, nm_r (e' := upd s.2 (ns_n aT i) 1) (by rw [ni_b1]) (cont 1 _ (Or.inr rfl) (ns_01_u s2 _ 1 (Or.inr rfl)) (e.2 q y z))⟩) (fun z => cont s.1 s.2 s1 s2 (e.1 (Or.inr (Or.inr z))))⟩)⟩)
theorem wx_mark {n m : Nat} {st tc sf : Int32} {aS aT aH aC aK W aF aE aD aP : Nat → Int32} {post : SX → Prop} (hN : ns_Net n m aS aT aH aC aK)
    (h : ∀ W : Nat → Int32, ns_01 n W → (∀ v, v < n → (aE v).toInt < 0 → ns_mb W v = true) →
      (∀ Z : Nat → Bool, (∀ v, v < n → (aE v).toInt < 0 → Z v = true) → ns_cA m (ns_xf (ns_n aT) (ns_n aH)) (ns_xf (ns_n aH) (ns_n aT)) (ns_xr (ns_t aC) (ns_t aF)) (2 * m) Z → ∀ v, v < n → ns_mb W v = true → Z v = true) → ns_cA m (ns_xf (ns_n aT) (ns_n aH)) (ns_xf (ns_n aH) (ns_n aT)) (ns_xr (ns_t aC) (ns_t aF)) (2 * m) (ns_mb W) → post ((nI n), (nI m), st, tc, sf, aS, aT, aH, aC, aK, W, aF, aE, aD, aP)) : wpX_markWitness post ((nI n), (nI m), st, tc, sf, aS, aT, aH, aC, aK, W, aF, aE, aD, aP) := by
  have hm := hN.2.2.1
  have hn := hN.2.1
  unfold wpX_markWitness
  refine loop_0 (fun k i W => wX_markWitness_2 post (nI n) (nI m) st tc sf k (nI i) aS aT aH aC aK W aF aE aD aP) (fun i W => ∀ v, v < i → (W v = 0 ∨ W v = 1) ∧ ns_mb W v = decide ((aE v).toInt < 0)) n W (fun v hv => absurd hv (Nat.not_lt_zero _))
    (fun k W hW => br_t (nI_le (Nat.le_refl _) (by omega)) ?_) (fun k i W hi hW ih => br_f (nI_ge hi (by omega)) ⟨vp_in_nI (by omega) (by omega), ?_⟩)
  · have fin : ∀ (r i : Nat) (g : Bool) (W : Nat → Int32), ns_01 n W → ns_mk n m (ns_xf (ns_n aT) (ns_n aH)) (ns_xf (ns_n aH) (ns_n aT)) (ns_xr (ns_t aC) (ns_t aF)) (fun v => decide ((aE v).toInt < 0)) r i g (ns_mb W) → ns_cA m (ns_xf (ns_n aT) (ns_n aH)) (ns_xf (ns_n aH) (ns_n aT)) (ns_xr (ns_t aC) (ns_t aF)) (2 * m) (ns_mb W) → post ((nI n), (nI m), st, tc, sf, aS, aT, aH, aC, aK, W, aF, aE, aD, aP) := by
      intro r i g W h1 h2 h3
      exact h W h1 (fun v hv k => h2.1 v hv (decide_eq_true k)) (fun Z hZ => h2.2.1 Z (fun v hv k => hZ v hv (of_decide_eq_true k))) h3
    refine loop_0 (fun k i (t : Int32 × (Nat → Int32)) => wX_markWitness_40 post k t.1 (nI i) (nI n) (nI m) st tc sf aS aT aH aC aK t.2 aF aE aD aP)
      (fun i t => (t.1 = 0 ∨ t.1 = 1) ∧ ns_01 n t.2 ∧ ns_mk n m (ns_xf (ns_n aT) (ns_n aH)) (ns_xf (ns_n aH) (ns_n aT)) (ns_xr (ns_t aC) (ns_t aF)) (fun v => decide ((aE v).toInt < 0)) i 0 false (ns_mb t.2) ∧ (t.1 = 0 → ns_cA m (ns_xf (ns_n aT) (ns_n aH)) (ns_xf (ns_n aH) (ns_n aT)) (ns_xr (ns_t aC) (ns_t aF)) (2 * m) (ns_mb t.2))) n (1, W)
      ⟨Or.inr rfl, fun v hv => (hW v hv).1, ns_mk_0 (fun e he => (nx_G hN e he).2.1) (fun v hv => (hW v hv).2), fun z => absurd (show (1 : Int32) = 0 from z) (by decide)⟩
      (fun k t ht => br_c (fun q => fin _ _ _ t.2 ht.2.1 ht.2.2.1 (ht.2.2.2 q)) (fun q => br_t (nI_le (Nat.le_refl _) (by omega)) (fin _ _ _ t.2 ht.2.1 ht.2.2.1 (ns_mk_all ht.2.2.1 (Nat.le_refl _)))))
      (fun k i t hi ht ih => br_c (fun q => fin _ _ _ t.2 ht.2.1 ht.2.2.1 (ht.2.2.2 q)) (fun q => br_f (nI_ge hi (by omega)) (wx_grow hN ht.2.1 ht.2.2.1 (fun x W' p1 p2 p3 p4 => nm_r (nI_1 i) (ih (x, W') ⟨p1, p2, p3, p4⟩)))))
  · have e1 : (nI i).toNatClampNeg = i := nI_clamp (by omega)
    have iI : vp_in (nI i) 24 := vp_in_nI (by omega) (by omega)
    have nxt : ∀ x : Int32, (x = 0 ∨ x = 1) → (x = 1 ↔ (aE i).toInt < 0) → ∀ v, v < i + 1 → (upd W i x v = 0 ∨ upd W i x v = 1) ∧ ns_mb (upd W i x) v = decide ((aE v).toInt < 0) := by
      intro x hx hx' v hv
      by_cases q : v = i
      · unfold ns_mb
        rw [q, nu_s]
        exact ⟨hx, decide_eq_decide.mpr hx'⟩
      · have := hW v (by omega)
        unfold ns_mb at this ⊢
        rw [nu_n q]
        exact this
    rw [e1]
    refine br_c (fun q => ⟨iI, nm_r (e' := upd W i 0) (by rw [ni_b0]) (nm_r (nI_1 i) (ih _ (nxt 0 (Or.inl rfl) ⟨fun z => absurd z (by decide), fun z => ?_⟩)))⟩) (fun q => ⟨iI, nm_r (e' := upd W i 1) (by rw [ni_b1]) (nm_r (nI_1 i) (ih _ (nxt 1 (Or.inr rfl) ⟨fun _ => ?_, fun _ => rfl⟩)))⟩)
    · rw [ni_le, ni_0] at q; omega
    · rw [ni_le, ni_0] at q; omega
theorem ns_Cl_e {n m : Nat} {tl hd : Nat → Nat} {cap e f x : Nat → Int} {Z : Nat → Bool} (h : ∀ v, v < n → e v = f v) (hc : ns_Cl n m tl hd cap e x Z) : ns_Cl n m tl hd cap f x Z := by
  obtain ⟨c1, c2, c3, c4⟩ := hc
  exact ⟨fun v hv k => c1 v hv (by rw [h v hv]; exact k), fun v hv k => by rw [← h v hv]; exact c2 v hv k, c3, c4⟩
theorem wx_solve {n m : Nat} {st tc sf : Int32} {aS aT aH aC aK W aF aE aD aP : Nat → Int32} {post : Int32 → SX → Prop} (hN : ns_Net n m aS aT aH aC aK) (h : ∀ (r st tc sf : Int32) (W aF aE aD aP : Nat → Int32), ns_Spec n m aS aT aH aC aK r st tc sf W → post r ((nI n), (nI m), st, tc, sf, aS, aT, aH, aC, aK, W, aF, aE, aD, aP)) : wpX_solve post ((nI n), (nI m), st, tc, sf, aS, aT, aH, aC, aK, W, aF, aE, aD, aP) := by
  have hm := hN.2.2.1
  have hn := hN.2.1
  unfold wpX_solve
  refine wx_reset hn (fun W0 hW0 => wx_sum hN (fun s hs => br_c (fun q => ?_) (fun q => h 3 3 0 0 W0 _ _ _ _ (Or.inl ⟨fun z => q (ni_eq.mpr (by rw [hs, z, ni_0])), rfl, rfl, rfl, rfl, hW0⟩))))
  have z0 : ns_sm (ns_t aS) n = 0 := by rw [← hs, q, ni_0]
  refine wx_start hN (fun F E hI hE => wx_route hN hI ?_ (fun F E D P hI hZ => ?_))
  · have b := ns_P_bd (b := ns_t aS) (x := ns_y0 (ns_t aK) (ns_t aC)) (tl := (ns_n aT)) (hd := (ns_n aH)) (n := n) hN.2.2.2.1 m (fun a ha => (nx_r hN a ha).1) (fun a ha => ns_y0_bd (hN.2.2.2.2.2.1 a ha))
    rw [ns_P_c (e := ns_t E) (f := fun v => ns_exc (ns_t aS) (ns_n aT) (ns_n aH) (ns_y0 (ns_t aK) (ns_t aC)) m v) hE]
    omega
  · obtain ⟨bE, bF⟩ := nx_eb hN hI
    have eE : ns_P (ns_t E) n = ns_P (fun v => ns_exc (ns_t aS) (ns_n aT) (ns_n aH) (ns_t F) m v) n := ns_P_c hI.2.1
    have hFin : ns_Fin n m (ns_n aT) (ns_n aH) (ns_t aS) (ns_t aK) (ns_t aC) (ns_t F) := by
      obtain ⟨Z, hZ⟩ := hZ
      obtain ⟨π, hπ⟩ := hI.2.2
      exact ⟨hI.1, ⟨Z, ns_Cl_e hI.2.1 hZ⟩, π, ns_Pot_x hπ⟩
    refine wx_unr hn bE (fun r hr => br_c (fun q => wx_cost hN bF (fun c hc => h 1 1 c r W0 _ _ _ _ (Or.inr ⟨z0, ns_t F, hFin, by rw [hr, eE], Or.inr ⟨?_, rfl, rfl, hc, hW0⟩⟩))) (fun q => ?_))
    · rw [ni_le, ni_0] at q; exact q
    · have q' : 0 < r.toInt := by rw [ni_le, ni_0] at q; omega
      refine wx_mark hN (fun W1 w1 w2 w3 w4 => h 2 2 0 r W1 _ _ _ _ (Or.inr ⟨z0, ns_t F, hFin, by rw [hr, eE], Or.inl ⟨q', rfl, rfl, rfl, w1, ?_⟩⟩))
      obtain ⟨Z, hZ⟩ := hZ
      have cl := ns_X_cA.mp w4
      refine ⟨ns_Cl_e hI.2.1 ⟨w2, fun v hv k => hZ.2.1 v hv (w3 Z hZ.1 (ns_X_cA.mpr hZ.2.2) v hv k), cl.1, cl.2⟩, fun Z' hZ' => ?_⟩
      have hZ'' := ns_Cl_e (fun v hv => (hI.2.1 v hv).symm) hZ'
      exact w3 Z' hZ''.1 (ns_X_cA.mpr hZ''.2.2)
