/-! 18: the reference's walks: its witness, its end, its pushes -/
theorem ni_bz {x : Int32} (h : x = 0 ∨ x = 1) : vp_nar .boolean x = x := by
  rcases h with h | h
  · rw [h]; exact ni_b0
  · rw [h]; exact ni_b1
theorem ny_m {V H : Nat} {F T C K Q : Nat → Int32} {ini : Nat → Bool} {r e : Nat} {g : Bool} (hG : ns_G V H (ns_n F) (ns_n T) (ns_t K)) (he : e < 2 * H) (h1 : ns_01 V Q) (h : ns_mk V H (ns_n F) (ns_n T) (ns_t C) ini r e g (ns_mb Q)) :
    ((C e ≤ 0 ∨ Q (ns_n T e) = 0) → ∃ g', ns_mk V H (ns_n F) (ns_n T) (ns_t C) ini r (e + 1) g' (ns_mb Q)) ∧
    (¬ C e ≤ 0 → ¬ Q (ns_n T e) = 0 → ∃ g', ns_mk V H (ns_n F) (ns_n T) (ns_t C) ini r (e + 1) g' (ns_mb (upd Q (ns_n F e) 1))) := by
  obtain ⟨g1, g2, g3, g4, g5, g6, g7, g8⟩ := hG e he
  have bT := ns_mb_0 (h1 _ g2)
  refine ⟨fun q => ⟨g, ns_mk_no h (fun z y => ?_)⟩, fun q1 q2 => ?_⟩
  · rcases q with q | q
    · rw [ni_le, ni_0] at q
      have z : 0 < (C e).toInt := z
      omega
    · exact absurd q (bT.mp y)
  · rw [ni_le, ni_0] at q1
    by_cases z : ns_mb Q (ns_n F e) = true
    · refine ⟨g, ?_⟩
      have eq : ns_mb (upd Q (ns_n F e) 1) = ns_mb Q := by
        rw [ns_mb_u]
        funext v
        by_cases w : v = ns_n F e
        · rw [w, ns_us, z]
        · rw [ns_un w]
      rw [eq]
      exact ns_mk_no h (fun _ _ => z)
    · refine ⟨true, ?_⟩
      rw [ns_mb_u]
      exact ns_mk_upd g1 g2 h he (by show 0 < (C e).toInt; omega) (bT.mpr q2) z
theorem wy_mark {n m : Nat} {st tc sf ec : Int32} {aT aH aC aK aS aJ W F T C K D P Q : Nat → Int32} {post : SY → Prop} {H : Nat} (hn : n ≤ 24) (hH : H ≤ 120) (hec : ec = nI (2 * H)) (hG : ns_G (n + 2) H (ns_n F) (ns_n T) (ns_t K)) (hE : ∀ e, e < 2 * H → F e = nI (ns_n F e) ∧ T e = nI (ns_n T e))
    (h : ∀ W Q : Nat → Int32, (∀ v, v < n → W v = Q v) → ns_01 (n + 2) Q → ns_mb Q (n + 1) = true →
      (∀ Z : Nat → Bool, Z (n + 1) = true → ns_cA H (ns_n F) (ns_n T) (ns_t C) (2 * H) Z → ∀ v, v < n + 2 → ns_mb Q v = true → Z v = true) → ns_cA H (ns_n F) (ns_n T) (ns_t C) (2 * H) (ns_mb Q) → post ((nI n), (nI m), st, tc, sf, ec, aT, aH, aC, aK, aS, aJ, W, F, T, C, K, D, P, Q)) : wpY_markWitness post ((nI n), (nI m), st, tc, sf, ec, aT, aH, aC, aK, aS, aJ, W, F, T, C, K, D, P, Q) (nI (n + 1)) := by
  have en : (nI (n + 1)).toNatClampNeg = n + 1 := nI_clamp (by omega)
  unfold wpY_markWitness
  refine loop_0 (fun k i Q => wY_markWitness_2 post (nI (n + 1)) (nI n) (nI m) st tc sf ec k (nI i) aT aH aC aK aS aJ W F T C K D P Q) (fun i Q => ∀ v, v < i → Q v = 0) 26 Q (fun v hv => absurd hv (Nat.not_lt_zero _))
    (fun k Q hQ => br_t (nI_le (a := 26) (b := 26) (Nat.le_refl _) (by decide)) ⟨vp_in_nI (by omega) (by omega), nm_r (e' := upd Q (n + 1) 1) (by rw [en, ni_b1]) ?_⟩)
    (fun k i Q hi hQ ih => br_f (nI_ge (b := 26) hi (by decide)) ⟨vp_in_nI (by omega) (by omega), nm_r (e' := upd Q i 0) (by rw [nI_clamp (by omega), ni_b0]) (nm_r (nI_1 i) (ih _ (fun v hv => by
      by_cases q : v = i
      · rw [q, nu_s]
      · rw [nu_n q]; exact hQ v (by omega))))⟩)
  have q0 : ns_01 (n + 2) (upd Q (n + 1) 1) := ns_01_u (fun v hv => Or.inl (hQ v (by omega))) _ 1 (Or.inr rfl)
  have m0 : ns_mk (n + 2) H (ns_n F) (ns_n T) (ns_t C) (fun v => decide (v = n + 1)) 0 0 false (ns_mb (upd Q (n + 1) 1)) := by
    refine ns_mk_0 (fun e he => (hG e he).2.1) (fun v hv => ?_)
    unfold ns_mb
    by_cases q : v = n + 1
    · rw [q, nu_s, decide_eq_true rfl, decide_eq_true rfl]
    · rw [nu_n q, hQ v (by omega), decide_eq_false (by decide), decide_eq_false q]
  refine loop_0 (fun k i Q => wY_markWitness_30 post (nI n) (nI m) st tc sf ec k (nI i) aT aH aC aK aS aJ W F T C K D P Q) (fun i Q => ns_01 (n + 2) Q ∧ ns_mk (n + 2) H (ns_n F) (ns_n T) (ns_t C) (fun v => decide (v = n + 1)) i 0 false (ns_mb Q)) 26 _ ⟨q0, m0⟩
    (fun k Q hQ => br_t (nI_le (a := 26) (b := 26) (Nat.le_refl _) (by decide)) ?_) (fun k r Q hr hQ ih => br_f (nI_ge (b := 26) hr (by decide)) ?_)
  · obtain ⟨h1, h2⟩ := hQ
    refine loop_0 (fun k i W => wY_markWitness_95 post (nI n) (nI m) st tc sf ec k (nI i) aT aH aC aK aS aJ W F T C K D P Q) (fun i W => ∀ v, v < i → W v = Q v) n W (fun v hv => absurd hv (Nat.not_lt_zero _))
      (fun k W hW => br_t (nI_le (Nat.le_refl _) (by omega)) (h W Q hW h1 (h2.1 (n + 1) (by omega) (decide_eq_true rfl)) (fun Z hZ => h2.2.1 Z (fun v hv k => by rw [of_decide_eq_true k]; exact hZ)) (ns_mk_all h2 (by omega))))
      (fun k i W hi hW ih => br_f (nI_ge hi (by omega)) ⟨vp_in_nI (by omega) (by omega), vp_in_nI (by omega) (by omega), nm_r (e' := upd W i (Q i)) (by rw [nI_clamp (by omega), ni_bz (h1 i (by omega))]) (nm_r (nI_1 i) (ih _ (fun v hv => by
        by_cases q : v = i
        · rw [q, nu_s]
        · rw [nu_n q]; exact hW v (by omega))))⟩)
  · obtain ⟨h1, h2⟩ := hQ
    refine loop_0 (fun j i Q => wY_markWitness_38 post (wY_markWitness_30 post (nI n) (nI m) st tc sf ec k) (nI r) (nI n) (nI m) st tc sf ec j (nI i) aT aH aC aK aS aJ W F T C K D P Q) (fun i Q => ns_01 (n + 2) Q ∧ ∃ g, ns_mk (n + 2) H (ns_n F) (ns_n T) (ns_t C) (fun v => decide (v = n + 1)) r i g (ns_mb Q)) (2 * H) Q ⟨h1, false, h2⟩
      (fun j Q hQ => br_t (by rw [hec]; exact nI_le (Nat.le_refl _) (by omega)) (nm_r (nI_1 r) (ih Q ⟨hQ.1, by obtain ⟨g, hg⟩ := hQ.2; exact (ns_mk_end hg).1⟩)))
      (fun j i Q hi hQ ih2 => br_f (by rw [hec]; exact nI_ge hi (by omega)) ⟨vp_in_nI (by omega) (by omega), ?_⟩)
    obtain ⟨q1, g, hg⟩ := hQ
    obtain ⟨f1, f2⟩ := hE i hi
    obtain ⟨g1, g2, g3, g4, g5, g6, g7, g8⟩ := hG i hi
    have e := ny_m hG hi q1 hg
    have iI : vp_in (nI i) 240 := vp_in_nI (by omega) (by omega)
    have ei : (nI i).toNatClampNeg = i := nI_clamp (by omega)
    have iF : vp_in (F i) 26 := by rw [f1]; exact vp_in_nI (by omega) (by omega)
    have iT : vp_in (T i) 26 := by rw [f2]; exact vp_in_nI (by omega) (by omega)
    rw [ei]
    exact br_c (fun q => nm_r (nI_1 i) (ih2 Q ⟨q1, e.1 (Or.inl q)⟩)) (fun q => ⟨iI, iT, br_c (fun y => nm_r (nI_1 i) (ih2 Q ⟨q1, e.1 (Or.inr y)⟩)) (fun y => ⟨iI, iF, nm_r (e' := upd Q (ns_n F i) 1) (by rw [ni_b1]; rfl) (nm_r (nI_1 i) (ih2 _ ⟨ns_01_u q1 _ 1 (Or.inr rfl), e.2 q y⟩))⟩)⟩)
theorem ns_Cl_z {n m : Nat} {tl hd : Nat → Nat} {cap e x : Nat → Int} {Z Z' : Nat → Bool} (hr : ∀ a, a < m → hd a < n ∧ tl a < n) (h : ∀ v, v < n → Z' v = Z v) (hc : ns_Cl n m tl hd cap e x Z) : ns_Cl n m tl hd cap e x Z' := by
  obtain ⟨c1, c2, c3, c4⟩ := hc
  refine ⟨fun v hv k => by rw [h v hv]; exact c1 v hv k, fun v hv k => c2 v hv (by rw [← h v hv]; exact k), fun a ha k w => ?_, fun a ha k w => ?_⟩
  · rw [h _ (hr a ha).1] at w
    rw [h _ (hr a ha).2]
    exact c3 a ha k w
  · rw [h _ (hr a ha).2] at w
    rw [h _ (hr a ha).1]
    exact c4 a ha k w
/-- what stands while the reference pushes: the network laid, x2 its first cost, x5 its need -/
def ny_S (n m : Nat) (aS aT aH aC aK aJ F T K : Nat → Int32) (x2 x5 : Int32) : Prop :=
  ns_Net n m aS aT aH aC aK ∧ ns_sm (ns_t aS) n = 0 ∧ (∀ v, v < n → ns_t aJ v = ns_exc (ns_t aS) (ns_n aT) (ns_n aH) (ns_y0 (ns_t aK) (ns_t aC)) m v) ∧
  (∀ e, e < 2 * (m + ns_cnt (ns_t aJ) n) → F e = nI (ns_n F e) ∧ T e = nI (ns_n T e)) ∧ ns_YE n m (ns_n aT) (ns_n aH) (ns_t aK) (ns_t aJ) (ns_n F) (ns_n T) (ns_t K) ∧
  x2.toInt = ns_sm (fun a => ns_t aK a * ns_y0 (ns_t aK) (ns_t aC) a) m ∧ x5.toInt = ns_P (ns_t aJ) n
theorem ny_G {n m : Nat} {aS aT aH aC aK aJ F T K : Nat → Int32} {x2 x5 : Int32} (h : ny_S n m aS aT aH aC aK aJ F T K x2 x5) : ns_G (n + 2) (m + ns_cnt (ns_t aJ) n) (ns_n F) (ns_n T) (ns_t K) :=
  ns_y_G (nx_r h.1) (fun a ha => (h.1.2.2.2.2.1 a ha).2.2.2.2) (fun a ha => h.1.2.2.2.2.2.2 a ha) h.2.2.2.2.1
theorem ny_H {n m : Nat} {aS aT aH aC aK aJ F T K : Nat → Int32} {x2 x5 : Int32} (h : ny_S n m aS aT aH aC aK aJ F T K x2 x5) : m + ns_cnt (ns_t aJ) n ≤ 120 := by
  have := ns_cnt_le (ns_t aJ) n
  have := h.1.2.1
  have := h.1.2.2.1
  omega
theorem ny_P {n m : Nat} {aS aT aH aC aK aJ F T K : Nat → Int32} {x2 x5 : Int32} (h : ny_S n m aS aT aH aC aK aJ F T K x2 x5) : ns_P (ns_t aJ) n ≤ 3000 := by
  have hN := h.1
  have hm := hN.2.2.1
  have hn := hN.2.1
  have b := ns_P_bd (b := ns_t aS) (x := ns_y0 (ns_t aK) (ns_t aC)) (tl := (ns_n aT)) (hd := (ns_n aH)) (n := n) hN.2.2.2.1 m (fun a ha => (nx_r hN a ha).1) (fun a ha => ns_y0_bd (hN.2.2.2.2.2.1 a ha))
  rw [ns_P_c (e := ns_t aJ) (f := fun v => ns_exc (ns_t aS) (ns_n aT) (ns_n aH) (ns_y0 (ns_t aK) (ns_t aC)) m v) h.2.2.1]
  omega
/-- numbers of a state between two pushes -/
theorem ny_num {n m : Nat} {aS aT aH aC aK aJ F T K : Nat → Int32} {rc : Nat → Int} {x2 x5 : Int32} {f q : Int} (h : ny_S n m aS aT aH aC aK aJ F T K x2 x5) (hI : ns_YI n m (ns_t aC) (ns_t aJ) (ns_n F) (ns_n T) (ns_t K) rc f q) :
    f ≤ 3000 ∧ -192000 ≤ q ∧ q ≤ 192000 ∧ -96000 ≤ x2.toInt ∧ x2.toInt ≤ 96000 ∧ -96000 ≤ x2.toInt + q ∧ x2.toInt + q ≤ 96000 ∧ (∀ e, e < 2 * (m + ns_cnt (ns_t aJ) n) → 0 ≤ rc e ∧ rc e ≤ 2000) := by
  have hN := h.1
  have hm := hN.2.2.1
  have hn := hN.2.1
  obtain ⟨f1, f2, f3, f4⟩ := ns_YI_flow (nx_r hN) h.2.2.2.2.1 h.2.2.1 hI
  have p0 := ns_P_nn (fun v => ns_exc (ns_t aS) (ns_n aT) (ns_n aH) (ns_yy (ns_t aK) (ns_t aC) rc) m v) n
  have p1 := ny_P h
  have s1 := ns_sm_bd (f := fun a => ns_t aK a * ns_y0 (ns_t aK) (ns_t aC) a) (B := 1000) m (fun a ha => ns_cx_bd (hN.2.2.2.2.2.2 a ha) (ns_y0_bd (hN.2.2.2.2.2.1 a ha)))
  have s2 := ns_sm_bd (f := fun a => ns_t aK a * ns_yy (ns_t aK) (ns_t aC) rc a) (B := 1000) m (fun a ha => ns_cx_bd (hN.2.2.2.2.2.2 a ha) (by
    have a1 := f1 a ha
    have a2 := hN.2.2.2.2.2.1 a ha
    have a1 : 0 ≤ ns_yy (ns_t aK) (ns_t aC) rc a ∧ ns_yy (ns_t aK) (ns_t aC) rc a ≤ (aC a).toInt := a1
    omega))
  have s3 := h.2.2.2.2.2.1
  refine ⟨by omega, by omega, by omega, by omega, by omega, by omega, by omega, ?_⟩
  obtain ⟨i1, i2, i3, _⟩ := hI
  have pr : ∀ j, j < m + ns_cnt (ns_t aJ) n → rc (2 * j) + rc (2 * j + 1) ≤ 2000 := by
    intro j hj
    rcases ns_cnt_in n j hj with k | ⟨u, hu, hz, k⟩
    · have a1 := i2 j k
      have a2 := hN.2.2.2.2.2.1 j k
      have a1 : rc (2 * j) + rc (2 * j + 1) = (aC j).toInt := a1
      omega
    · rw [k]
      have b := ns_exc_bd (b := ns_t aS) (x := ns_y0 (ns_t aK) (ns_t aC)) (tl := (ns_n aT)) (hd := (ns_n aH)) (m := m) (v := u) (hN.2.2.2.1 u hu) (fun a ha => by have := ns_y0_bd (c := ns_t aK) (cap := ns_t aC) (a := a) (hN.2.2.2.2.2.1 a ha); omega)
      rw [← h.2.2.1 u hu] at b
      by_cases w : 0 < ns_t aJ u
      · have := (i3 u hu).1 w
        omega
      · have := (i3 u hu).2 (by omega)
        omega
  intro e he
  have e0 := i1 e he
  have e1 := i1 (ns_fl e) (ns_fl_lt he)
  rcases ns_ev e with ⟨k, k1, k2⟩ | ⟨k, k1, k2⟩
  · have := pr k (by omega)
    rw [k2] at e1
    rw [k1] at e0 ⊢
    omega
  · have := pr k (by omega)
    rw [k2] at e1
    rw [k1] at e0 ⊢
    omega
theorem wy_403 {n m : Nat} {st tc sf ec : Int32} {aT aH aC aK aS aJ W F T C K D P Q : Nat → Int32} {post : Int32 → SY → Prop} {x2 x5 x6 x7 : Int32} (hec : ec = nI (2 * (m + ns_cnt (ns_t aJ) n))) (hS : ny_S n m aS aT aH aC aK aJ F T K x2 x5) (hI : ns_YI n m (ns_t aC) (ns_t aJ) (ns_n F) (ns_n T) (ns_t K) (ns_t C) x6.toInt x7.toInt) (h6 : 0 ≤ x6.toInt)
    (hB : ns_B (n + 2) (m + ns_cnt (ns_t aJ) n) (ns_n F) (ns_n T) (ns_t K) (ns_t C) 1000000000 (ny_src n) 400000 (ns_t D) (ns_yp P)) (hC : ns_C (m + ns_cnt (ns_t aJ) n) (ns_n F) (ns_n T) (ns_t K) (ns_t C) 1000000000 (2 * (m + ns_cnt (ns_t aJ) n)) (ns_t D)) (ht : D (n + 1) = 1000000000)
    (htc : tc = 0) (hW : ∀ v, v < n → W v = 0)
    (h : ∀ (r st tc sf : Int32) (W Q : Nat → Int32), ns_Spec n m aS aT aH aC aK r st tc sf W → post r ((nI n), (nI m), st, tc, sf, ec, aT, aH, aC, aK, aS, aJ, W, F, T, C, K, D, P, Q)) : wY_solve_403 post x2 (nI (n + 1)) x5 x6 x7 (nI n) (nI m) st tc sf ec aT aH aC aK aS aJ W F T C K D P Q := by
  have hN := hS.1
  have hm := hN.2.2.1
  have hn := hN.2.1
  have hG := ny_G hS
  have hr := nx_r hN
  obtain ⟨u1, u2, u3, u4, u5, u6, u7, u8⟩ := ny_num hS hI
  have p1 := ny_P hS
  have p2 := ns_P_nn (ns_t aJ) n
  have p3 := hS.2.2.2.2.2.2
  obtain ⟨f1, f2, f3, f4⟩ := ns_YI_flow hr hS.2.2.2.2.1 hS.2.2.1 hI
  have zA : ns_cA (m + ns_cnt (ns_t aJ) n) (ns_n F) (ns_n T) (ns_t C) (2 * (m + ns_cnt (ns_t aJ) n)) (fun v => decide (ns_t D v = 1000000000)) := by
    intro e he _ hrc k
    exact decide_eq_true (ns_CU hG hB (by decide) hC he hrc (of_decide_eq_true k))
  have zn : ¬ (fun v => decide (ns_t D v = 1000000000)) n = true := by
    intro k
    have k : ns_t D n = 1000000000 := of_decide_eq_true k
    have := hB.2.2.2.1 n (by omega) (decide_eq_true rfl)
    omega
  have zt : (fun v => decide (ns_t D v = 1000000000)) (n + 1) = true := decide_eq_true (by show (D (n + 1)).toInt = 1000000000; rw [ht, ni_I])
  have hFin : ns_Fin n m (ns_n aT) (ns_n aH) (ns_t aS) (ns_t aK) (ns_t aC) (ns_yy (ns_t aK) (ns_t aC) (ns_t C)) := by
    obtain ⟨π, hπ⟩ := hI.2.2.2.2.2.2
    exact ⟨f1, ⟨_, ns_Y_cl (U := 0) (hi := 0) (src := fun _ => true) (d := fun _ => 0) (p := fun _ => none) hr hG hS.2.2.2.2.1 hS.2.2.1 hI _ zA zn zt⟩, π, ns_Pot_y hS.2.2.2.2.1 hI.2.1 hπ⟩
  have es : (x5 - x6).toInt = ns_P (fun v => ns_exc (ns_t aS) (ns_n aT) (ns_n aH) (ns_yy (ns_t aK) (ns_t aC) (ns_t C)) m v) n := by
    rw [ni_sub (by omega) (by omega), f3, p3]
  have pn := ns_P_nn (fun v => ns_exc (ns_t aS) (ns_n aT) (ns_n aH) (ns_yy (ns_t aK) (ns_t aC) (ns_t C)) m v) n
  refine nm_e (br_c (fun q => nm_e (h 1 1 _ 0 W Q (Or.inr ⟨hS.2.1, _, hFin, ?_, Or.inr ⟨by rw [ni_0]; exact Int.le_refl _, rfl, rfl, ?_, hW⟩⟩))) (fun q => ?_))
  · rw [ni_le, ni_0, es] at q
    rw [ni_0]; omega
  · rw [ni_add (by omega) (by omega), f4, hS.2.2.2.2.2.1]
  · have q' : 0 < (x5 - x6).toInt := by rw [ni_le, ni_0] at q; omega
    rw [htc] at *
    refine wy_mark hn (ny_H hS) hec hG hS.2.2.2.1 (fun W' Q' w1 w2 w3 w4 w5 => h 2 2 0 _ W' Q' (Or.inr ⟨hS.2.1, _, hFin, es, Or.inl ⟨q', rfl, rfl, rfl, fun v hv => by rw [w1 v hv]; exact w2 v (by omega), ?_, fun Z hZ v hv k => ?_⟩⟩))
    · refine ns_Cl_z (Z := ns_mb Q') hr (fun v hv => by unfold ns_mb; rw [w1 v hv]) (ns_Y_cl (U := 0) (hi := 0) (src := fun _ => true) (d := fun _ => 0) (p := fun _ => none) hr hG hS.2.2.2.2.1 hS.2.2.1 hI _ w5 (fun k => zn (w4 _ zt zA n (by omega) k)) w3)
    · have z := w4 _ (by show (if n + 1 < n then Z (n + 1) else decide (n + 1 = n + 1)) = true; rw [if_neg (by omega)]; exact decide_eq_true rfl) (ns_Y_cA hr hS.2.2.2.2.1 hS.2.2.1 hI Z hZ) v (by omega) (by unfold ns_mb; rw [← w1 v hv]; exact k)
      have z : (if v < n then Z v else decide (v = n + 1)) = true := z
      rw [if_pos hv] at z
      exact z
