/-! 19: the reference's walks: the pushes, the laying, the whole solve -/
theorem ns_path_root {fr : Nat → Nat} {p : Nat → Option Nat} {r : Nat} : ∀ (es : List Nat) (v : Nat), ns_path fr p r v es → p r = none := by
  intro es
  induction es with
  | nil => intro v h; rw [← h.1]; exact h.2
  | cons e es ih => intro v h; exact ih _ h.2
theorem ns_ad_bd {a d : Int} (ha : 0 ≤ a ∧ a ≤ 3000) (hd : -400000 ≤ d ∧ d ≤ 400000) : -1200000000 ≤ a * d ∧ a * d ≤ 1200000000 := by
  have p := Int.mul_nonneg (a := a) (b := d + 400000) ha.1 (by omega)
  have q := Int.mul_nonneg (a := a) (b := 400000 - d) ha.1 (by omega)
  rw [Int.mul_add] at p
  rw [Int.mul_sub] at q
  omega
theorem wy_it {n m : Nat} {st tc sf ec : Int32} {aT aH aC aK aS aJ W F T C K D P Q : Nat → Int32} {post : Int32 → SY → Prop} {x2 x5 : Int32} (hec : ec = nI (2 * (m + ns_cnt (ns_t aJ) n))) (hS : ny_S n m aS aT aH aC aK aJ F T K x2 x5) (hI : ns_YI n m (ns_t aC) (ns_t aJ) (ns_n F) (ns_n T) (ns_t K) (ns_t C) 0 0)
    (htc : tc = 0) (hW : ∀ v, v < n → W v = 0)
    (h : ∀ (r st tc sf : Int32) (W C D P Q : Nat → Int32), ns_Spec n m aS aT aH aC aK r st tc sf W → post r ((nI n), (nI m), st, tc, sf, ec, aT, aH, aC, aK, aS, aJ, W, F, T, C, K, D, P, Q)) : ∃ k, wY_solve_328 post x2 (nI n) (nI (n + 1)) x5 k 0 0 0 (nI n) (nI m) st tc sf ec aT aH aC aK aS aJ W F T C K D P Q := by
  have hN := hS.1
  have hm := hN.2.2.1
  have hn := hN.2.1
  have hG := ny_G hS
  have hH := ny_H hS
  refine loop_0 (fun k i (s : Int32 × Int32 × (Nat → Int32) × (Nat → Int32) × (Nat → Int32)) => wY_solve_328 post x2 (nI n) (nI (n + 1)) x5 k s.1 s.2.1 (nI i) (nI n) (nI m) st tc sf ec aT aH aC aK aS aJ W F T s.2.2.1 K s.2.2.2.1 s.2.2.2.2 Q)
    (fun i s => ns_YI n m (ns_t aC) (ns_t aJ) (ns_n F) (ns_n T) (ns_t K) (ns_t s.2.2.1) s.1.toInt s.2.1.toInt ∧ (i : Int) ≤ s.1.toInt) 5000 (0, 0, C, D, P) ⟨by rw [ni_0]; exact hI, by rw [ni_0]; exact Int.le_refl _⟩
    (fun k s hs => absurd hs.2 (by have := (ny_num hS hs.1).1; omega)) (fun k i s hi hs ih => br_f (nI_ge (b := 5000) hi (by decide)) ?_)
  obtain ⟨x6, x7, C, D0, P0⟩ := s
  obtain ⟨hI, h6⟩ := hs
  dsimp only at hI h6 ⊢
  obtain ⟨π, hP⟩ := hI.2.2.2.2.2.2
  refine wy_short hn hH hec hG hS.2.2.2.1 hP (fun D P hB hC => ⟨fun q => br_t rfl (wy_403 hec hS hI (by omega) hB hC q htc hW (fun r st tc sf W Q hs => h r st tc sf W C D P Q hs)), fun q => br_f (by decide) ?_⟩)
  have hd : ns_t D (n + 1) ≠ 1000000000 := by
    intro z
    exact q (ni_eq.mpr (by rw [ni_I]; exact z))
  obtain ⟨es, r, p1, p2, p3, p4⟩ := ns_path_of hG hB (show n + 1 < n + 2 by omega) hd
  have p4 : r = n := of_decide_eq_true p4
  rw [p4] at p1
  obtain ⟨ρ, hρ⟩ := hB.2.2.2.2
  have hd0 : ns_t D n = 0 := by
    rcases hB.2.2.1 n (by omega) (ns_path_root es _ p1) with z | z
    · have := hB.2.2.2.1 n (by omega) (decide_eq_true rfl)
      omega
    · exact z.2
  have bd := hB.1 (n + 1) (by omega)
  have bd : -400000 ≤ ns_t D (n + 1) ∧ ns_t D (n + 1) ≤ 400000 := by omega
  have bd : -400000 ≤ (D (n + 1)).toInt ∧ (D (n + 1)).toInt ≤ 400000 := bd
  obtain ⟨v1, v2, v3, v4, v5, v6, v7, v8⟩ := ny_num hS hI
  refine ⟨es.length + 1, wy_bot hn hH hG hS.2.2.2.1 hB hρ es (n + 1) 0 1000000000 p1 (by omega) (by omega) (by rw [ni_I]; decide) (fun a a1 a2 a3 => br_t (by rw [ni_lt, ni_0]; exact a1) ?_)⟩
  have hY := ns_YI_push (tl := (ns_n aT)) (hd := (ns_n aH)) (c := ns_t aK) hG hI hB (by decide) hC hP p1 (Int.le_of_lt a1) a3 hd0
  obtain ⟨u1, u2, u3, u4, u5, u6, u7, u8⟩ := ny_num hS hY
  have am : (a * D (n + 1)).toInt = a.toInt * (D (n + 1)).toInt := by
    have := ns_ad_bd (a := a.toInt) (d := (D (n + 1)).toInt) (by omega) bd
    exact ni_mul (by omega) (by omega)
  have hY : ns_YI n m (ns_t aC) (ns_t aJ) (ns_n F) (ns_n T) (ns_t K) (ns_pu a.toInt es (ns_t C)) (x6.toInt + a.toInt) (x7.toInt + a.toInt * (D (n + 1)).toInt) := hY
  have u2 : -192000 ≤ x7.toInt + a.toInt * (D (n + 1)).toInt := u2
  have u3 : x7.toInt + a.toInt * (D (n + 1)).toInt ≤ 192000 := u3
  refine ⟨es.length + 1, wy_push hn hH hG hS.2.2.2.1 hB hρ (C := C) (by omega) es (n + 1) 0 C 2000 p1 (by omega) (by omega) (fun k hk => ?_) (by omega) (fun C' hC' => nm_e ⟨vp_in_nI (by omega) (by omega), nm_r (e' := x7 + a * D (n + 1)) (by rw [nI_clamp (show n + 1 < 2 ^ 31 by omega)])
    (nm_r (nI_1 i) (ih (x6 + a, x7 + a * D (n + 1), C', D, P) ⟨?_, ?_⟩))⟩)⟩
  · have b := v8 k hk
    have b : 0 ≤ (C k).toInt ∧ (C k).toInt ≤ 2000 := b
    omega
  · show ns_YI n m (ns_t aC) (ns_t aJ) (ns_n F) (ns_n T) (ns_t K) (ns_t C') (x6 + a).toInt (x7 + a * D (n + 1)).toInt
    rw [hC', ni_add (by omega) (by omega), ni_add (by omega) (by omega), am]
    exact hY
  · show ((i + 1 : Nat) : Int) ≤ (x6 + a).toInt
    rw [ni_add (by omega) (by omega)]
    omega
theorem wy_nodes {n m : Nat} {st tc sf ec : Int32} {aT aH aC aK aS aJ W F T C K D P Q : Nat → Int32} {post : Int32 → SY → Prop} {x2 : Int32} (hN : ns_Net n m aS aT aH aC aK) (hz : ns_sm (ns_t aS) n = 0) (hJ : ∀ v, v < n → ns_t aJ v = ns_exc (ns_t aS) (ns_n aT) (ns_n aH) (ns_y0 (ns_t aK) (ns_t aC)) m v)
    (hx2 : x2.toInt = ns_sm (fun a => ns_t aK a * ns_y0 (ns_t aK) (ns_t aC) a) m) (hya : ns_ya (ns_n aT) (ns_n aH) (ns_t aK) (ns_t aC) F T C K m) (htc : tc = 0) (hW : ∀ v, v < n → W v = 0)
    (h : ∀ (r st tc sf ec : Int32) (W F T C K D P Q : Nat → Int32), ns_Spec n m aS aT aH aC aK r st tc sf W → post r ((nI n), (nI m), st, tc, sf, ec, aT, aH, aC, aK, aS, aJ, W, F, T, C, K, D, P, Q)) : ∃ k, wY_solve_237 post x2 (nI n) (nI (n + 1)) k 0 0 (nI n) (nI m) st tc sf (nI (2 * m)) aT aH aC aK aS aJ W F T C K D P Q := by
  have hm := hN.2.2.1
  have hn := hN.2.1
  have bJ : ∀ v, v < n → -2000 ≤ (aJ v).toInt ∧ (aJ v).toInt ≤ 2000 := by
    intro v hv
    have b := ns_exc_bd (b := ns_t aS) (x := ns_y0 (ns_t aK) (ns_t aC)) (tl := (ns_n aT)) (hd := (ns_n aH)) (m := m) (v := v) (hN.2.2.2.1 v hv) (fun a ha => by have := ns_y0_bd (c := ns_t aK) (cap := ns_t aC) (a := a) (hN.2.2.2.2.2.1 a ha); omega)
    rw [← hJ v hv] at b
    have b : -(20 + 20 * (m : Int)) ≤ (aJ v).toInt ∧ (aJ v).toInt ≤ 20 + 20 * (m : Int) := b
    omega
  refine loop_0 (fun k i (s : Int32 × (Nat → Int32) × (Nat → Int32) × (Nat → Int32) × (Nat → Int32)) => wY_solve_237 post x2 (nI n) (nI (n + 1)) k s.1 (nI i) (nI n) (nI m) st tc sf (nI (2 * (m + ns_cnt (ns_t aJ) i))) aT aH aC aK aS aJ W s.2.1 s.2.2.1 s.2.2.2.1 s.2.2.2.2 D P Q)
    (fun i s => s.1.toInt = ns_P (ns_t aJ) i ∧ ns_ya (ns_n aT) (ns_n aH) (ns_t aK) (ns_t aC) s.2.1 s.2.2.1 s.2.2.2.1 s.2.2.2.2 m ∧ ns_yn n m (ns_t aJ) s.2.1 s.2.2.1 s.2.2.2.1 s.2.2.2.2 i) n (0, F, T, C, K)
    ⟨ni_0, hya, fun v hv => absurd hv (Nat.not_lt_zero _)⟩ (fun k s hs => br_t (nI_le (Nat.le_refl _) (by omega)) ?_) (fun k i s hi hs ih => br_f (nI_ge hi (by omega)) ⟨vp_in_nI (by omega) (by omega), ?_⟩)
  · obtain ⟨x5, F, T, C, K⟩ := s
    obtain ⟨s1, s2, s3⟩ := hs
    obtain ⟨y1, y2, y3⟩ := ns_y_all hn (nx_r hN) s2 s3 (fun a ha => (hN.2.2.2.2.2.1 a ha).1)
    exact wy_it rfl ⟨hN, hz, hJ, y1, y2, hx2, s1⟩ y3 htc hW (fun r st tc sf W C D P Q hs => h r st tc sf _ W F T C K D P Q hs)
  · obtain ⟨x5, F, T, C, K⟩ := s
    obtain ⟨s1, s2, s3⟩ := hs
    dsimp only at s1 s2 s3 ⊢
    have iI : vp_in (nI i) 24 := vp_in_nI (by omega) (by omega)
    have cl := ns_cnt_le (ns_t aJ) i
    have b := bJ i hi
    have sP : ns_P (ns_t aJ) (i + 1) = ns_P (ns_t aJ) i + ns_ps (aJ i).toInt := rfl
    have pb := ns_sm_bd (f := fun v => ns_ps (ns_t aJ v)) (B := 2000) i (fun v hv => by
      have := bJ v (by omega)
      show -2000 ≤ ns_ps (aJ v).toInt ∧ ns_ps (aJ v).toInt ≤ 2000
      unfold ns_ps
      split <;> omega)
    have s1' : x5.toInt = ns_sm (fun v => ns_ps (ns_t aJ v)) i := s1
    have nx : ∀ (hzz : ns_t aJ i ≠ 0), 2 * (m + ns_cnt (ns_t aJ) (i + 1)) = 2 * (m + ns_cnt (ns_t aJ) i + 1) := by
      intro hzz
      rw [ns_cnt_s, if_neg hzz]
      omega
    rw [nI_clamp (show i < 2 ^ 31 by omega)]
    refine br_c (fun q => ⟨iI, br_c (fun y => nm_r (nI_1 i) ?_) (fun y => ⟨iI, wy_add (ec := 0) (by omega) (nm_r (nI_1 i) ?_)⟩)⟩) (fun q => ⟨iI, wy_add (ec := 0) (by omega) ⟨iI, nm_e (nm_r (nI_1 i) ?_)⟩⟩)
    · rw [ni_le, ni_0] at q y
      have z0 : ns_t aJ i = 0 := by show (aJ i).toInt = 0; omega
      have t := ih (x5, F, T, C, K) ⟨by show x5.toInt = _; rw [sP, ← s1]; unfold ns_ps; rw [if_neg (by omega)]; omega, s2, ns_yn_z s3 z0⟩
      have ec' : ns_cnt (ns_t aJ) (i + 1) = ns_cnt (ns_t aJ) i := by rw [ns_cnt_s, if_pos z0]; rfl
      dsimp only at t
      rw [ec'] at t
      exact t
    · rw [ni_le, ni_0] at q y
      have z0 : ns_t aJ i ≠ 0 := by show (aJ i).toInt ≠ 0; omega
      have hg : (-(aJ i)).toInt = -(aJ i).toInt := ni_neg (by omega) (by omega)
      have t := ih (x5, ns_u2 F (m + ns_cnt (ns_t aJ) i) (nI i) (nI (n + 1)), ns_u2 T (m + ns_cnt (ns_t aJ) i) (nI (n + 1)) (nI i), ns_u2 C (m + ns_cnt (ns_t aJ) i) (-(aJ i)) 0, ns_u2 K (m + ns_cnt (ns_t aJ) i) 0 (-0)) ⟨by show x5.toInt = _; rw [sP, ← s1]; unfold ns_ps; rw [if_neg (by omega)]; omega, ns_ya_k s2 (Nat.le_add_right m (ns_cnt (ns_t aJ) i)) (ns_u2_k _ _ _ _) (ns_u2_k _ _ _ _) (ns_u2_k _ _ _ _) (ns_u2_k _ _ _ _),
        ns_yn_s (s := i) (t := n + 1) (x := -(aJ i)) s3 z0 (fun w => by have w : 0 < (aJ i).toInt := w; omega) (fun w => ⟨rfl, rfl, hg⟩)⟩
      dsimp only at t
      rw [nx z0] at t
      exact t
    · rw [ni_le, ni_0] at q
      have z0 : ns_t aJ i ≠ 0 := by show (aJ i).toInt ≠ 0; omega
      have t := ih (x5 + aJ i, ns_u2 F (m + ns_cnt (ns_t aJ) i) (nI n) (nI i), ns_u2 T (m + ns_cnt (ns_t aJ) i) (nI i) (nI n), ns_u2 C (m + ns_cnt (ns_t aJ) i) (aJ i) 0, ns_u2 K (m + ns_cnt (ns_t aJ) i) 0 (-0)) ⟨by
          show (x5 + aJ i).toInt = _
          rw [sP, ni_add (by omega) (by omega), s1]; unfold ns_ps; rw [if_pos (by omega)], ns_ya_k s2 (Nat.le_add_right m (ns_cnt (ns_t aJ) i)) (ns_u2_k _ _ _ _) (ns_u2_k _ _ _ _) (ns_u2_k _ _ _ _) (ns_u2_k _ _ _ _),
        ns_yn_s (s := n) (t := i) (x := aJ i) s3 z0 (fun w => ⟨rfl, rfl, rfl⟩) (fun w => by have w : (aJ i).toInt < 0 := w; omega)⟩
      dsimp only at t
      rw [nx z0] at t
      exact t
theorem wy_arcs {n m : Nat} {st tc sf ec : Int32} {aT aH aC aK aS aJ W F T C K D P Q : Nat → Int32} {post : Int32 → SY → Prop} (hN : ns_Net n m aS aT aH aC aK) (hz : ns_sm (ns_t aS) n = 0) (hJ : ∀ v, v < n → aJ v = aS v) (htc : tc = 0) (hW : ∀ v, v < n → W v = 0)
    (h : ∀ (r st tc sf ec : Int32) (aJ W F T C K D P Q : Nat → Int32), ns_Spec n m aS aT aH aC aK r st tc sf W → post r ((nI n), (nI m), st, tc, sf, ec, aT, aH, aC, aK, aS, aJ, W, F, T, C, K, D, P, Q)) : ∃ k, wY_solve_79 post k 0 0 (nI n) (nI m) st tc sf 0 aT aH aC aK aS aJ W F T C K D P Q := by
  have hm := hN.2.2.1
  have hn := hN.2.1
  refine loop_0 (fun k i (s : Int32 × (Nat → Int32) × (Nat → Int32) × (Nat → Int32) × (Nat → Int32) × (Nat → Int32)) => wY_solve_79 post k s.1 (nI i) (nI n) (nI m) st tc sf (nI (2 * i)) aT aH aC aK aS s.2.1 W s.2.2.1 s.2.2.2.1 s.2.2.2.2.1 s.2.2.2.2.2 D P Q)
    (fun i s => s.1.toInt = ns_sm (fun a => ns_t aK a * ns_y0 (ns_t aK) (ns_t aC) a) i ∧ (∀ v, v < n → (s.2.1 v).toInt = ns_exc (ns_t aS) (ns_n aT) (ns_n aH) (ns_y0 (ns_t aK) (ns_t aC)) i v) ∧
      ns_ya (ns_n aT) (ns_n aH) (ns_t aK) (ns_t aC) s.2.2.1 s.2.2.2.1 s.2.2.2.2.1 s.2.2.2.2.2 i) m (0, aJ, F, T, C, K)
    ⟨ni_0, fun v hv => by rw [ns_exc_0]; show (aJ v).toInt = (aS v).toInt; rw [hJ v hv], fun a ha => absurd ha (Nat.not_lt_zero _)⟩ (fun k s hs => br_t (nI_le (Nat.le_refl _) (by omega)) ?_) (fun k i s hi hs ih => br_f (nI_ge hi (by omega)) ⟨vp_in_nI (by omega) (by omega), ?_⟩)
  · obtain ⟨x2, aJ, F, T, C, K⟩ := s
    obtain ⟨s1, s2, s3⟩ := hs
    exact nm_r (e' := nI (n + 1)) (nI_1 n) (wy_nodes (ec := 0) hN hz s2 s1 s3 htc hW (fun r st tc sf ec W F T C K D P Q hs => h r st tc sf ec aJ W F T C K D P Q hs))
  · obtain ⟨x2, aJ, F, T, C, K⟩ := s
    obtain ⟨s1, s2, s3⟩ := hs
    dsimp only at s1 s2 s3 ⊢
    obtain ⟨a1, a2, a3, a4, a5⟩ := hN.2.2.2.2.1 i hi
    have bC := hN.2.2.2.2.2.1
    have bK := hN.2.2.2.2.2.2 i hi
    have bCi := bC i hi
    have iI : vp_in (nI i) 96 := vp_in_nI (by omega) (by omega)
    have ei : (nI i).toNatClampNeg = i := nI_clamp (by omega)
    have iT : vp_in (aT i) 24 := by rw [a1]; exact vp_in_nI (by omega) (by omega)
    have iH : vp_in (aH i) 24 := by rw [a3]; exact vp_in_nI (by omega) (by omega)
    have k0 : (0 ≤ aK i) ↔ ¬ ns_t aK i < 0 := by
      rw [ni_le, ni_0]
      show 0 ≤ (aK i).toInt ↔ ¬ (aK i).toInt < 0
      omega
    have sb := ns_sm_bd (f := fun a => ns_t aK a * ns_y0 (ns_t aK) (ns_t aC) a) (B := 1000) i (fun a ha => ns_cx_bd (hN.2.2.2.2.2.2 a (by omega)) (ns_y0_bd (bC a (by omega))))
    have cb := ns_cx_bd bK bCi
    have cm : (aK i * aC i).toInt = (aK i).toInt * (aC i).toInt := ni_mul (by omega) (by omega)
    rw [ei]
    refine br_c (fun q => ⟨iI, iI, iI, iI, ?_⟩) (fun q => ⟨iI, iI, iI, iI, ?_⟩)
    · have y0 : ns_y0 (ns_t aK) (ns_t aC) i = 0 := if_neg (k0.mp q)
      rw [a1, a3]
      refine wy_add (ec := 0) (by omega) (nm_r (nI_1 i) (ih (x2, aJ, _, _, _, _) ⟨?_, fun v hv => ?_, ns_ya_s s3 bK rfl (fun w => absurd w (k0.mp q)) (fun _ => ⟨rfl, rfl, rfl⟩)⟩))
      · show x2.toInt = _
        rw [ns_sm_s, ← s1, y0, Int.mul_zero, Int.add_zero]
      · rw [ns_exc_s, y0, Int.zero_mul, Int.add_zero]; exact s2 v hv
    · have qn : ns_t aK i < 0 := Decidable.not_not.mp (fun z => q (k0.mpr z))
      have y0 : ns_y0 (ns_t aK) (ns_t aC) i = (aC i).toInt := if_pos qn
      have hg : (-(aK i)).toInt = -(aK i).toInt := ni_neg (by omega) (by omega)
      have st1 := wx_st1 (aE := aJ) (fl := aC i) (b := ns_t aS) (y := ns_y0 (ns_t aK) (ns_t aC)) a2 a4 a5 (fun a ha => ns_y0_bd (bC a (by omega))) hN.2.2.2.1 (by omega) y0.symm (ns_y0_bd (bC i hi)) s2
      have base : (x2 + aK i * aC i).toInt = ns_sm (fun a => ns_t aK a * ns_y0 (ns_t aK) (ns_t aC) a) (i + 1) := by
        rw [ns_sm_s, y0, ni_add (by omega) (by omega), s1, cm]
        rfl
      rw [a1, a3]
      refine wy_add (ec := 0) (by omega) ⟨iI, iT, iI, iT, nm_r (e' := upd aJ (ns_n aT i) (aJ (ns_n aT i) - aC i)) rfl ⟨iI, iH, iI, iH, nm_r (e' := upd (upd aJ (ns_n aT i) (aJ (ns_n aT i) - aC i)) (ns_n aH i) (upd aJ (ns_n aT i) (aJ (ns_n aT i) - aC i) (ns_n aH i) + aC i)) rfl
        ⟨iI, iI, nm_e (nm_r (nI_1 i) (ih (x2 + aK i * aC i, _, _, _, _, _) ⟨base, st1, ns_ya_s s3 (by rw [hg]; omega) rfl (fun _ => ⟨rfl, rfl, hg⟩) (fun w => absurd qn w)⟩))⟩⟩⟩
theorem wy_solve {n m : Nat} {st tc sf ec : Int32} {aT aH aC aK aS aJ W F T C K D P Q : Nat → Int32} {post : Int32 → SY → Prop} (hN : ns_Net n m aS aT aH aC aK) (h : ∀ (r st tc sf ec : Int32) (aJ W F T C K D P Q : Nat → Int32), ns_Spec n m aS aT aH aC aK r st tc sf W → post r ((nI n), (nI m), st, tc, sf, ec, aT, aH, aC, aK, aS, aJ, W, F, T, C, K, D, P, Q)) : wpY_solve post ((nI n), (nI m), st, tc, sf, ec, aT, aH, aC, aK, aS, aJ, W, F, T, C, K, D, P, Q) := by
  have hm := hN.2.2.1
  have hn := hN.2.1
  unfold wpY_solve
  refine wy_reset (fun W0 hW0 => ?_)
  refine loop_0 (fun k i s => wY_solve_8 post (nI n) (nI m) 0 0 0 ec aT aH aC aK aS aJ W0 F T C K D P Q k s (nI i)) (fun i s => s.toInt = ns_sm (ns_t aS) i) n 0 ni_0
    (fun k s hs => br_t (nI_le (Nat.le_refl _) (by omega)) (br_c (fun q => ?_) (fun q => h 3 3 0 0 ec aJ W0 F T C K D P Q (Or.inl ⟨fun z => q (ni_eq.mpr (by rw [hs, z, ni_0])), rfl, rfl, rfl, rfl, fun v hv => hW0 v (by omega)⟩))))
    (fun k i s hi hs ih => br_f (nI_ge hi (by omega)) ⟨vp_in_nI (by omega) (by omega), nm_r (e' := s + aS i) (by rw [nI_clamp (by omega)]) (nm_r (nI_1 i) (ih _ (by
      have b := ns_sm_bd (f := ns_t aS) (B := 20) i (fun v hv => hN.2.2.2.1 v (by omega))
      have c := hN.2.2.2.1 i (by omega)
      show (s + aS i).toInt = ns_sm (ns_t aS) i + (aS i).toInt
      rw [ni_add (by omega) (by omega), hs])))⟩)
  have z0 : ns_sm (ns_t aS) n = 0 := by rw [← hs, q, ni_0]
  refine loop_0 (fun k i aJ => wY_solve_51 post 0 (nI n) (nI m) 0 0 0 0 k (nI i) aT aH aC aK aS aJ W0 F T C K D P Q) (fun i aJ => ∀ v, v < i → aJ v = aS v) n aJ (fun v hv => absurd hv (Nat.not_lt_zero _))
    (fun k aJ hJ => br_t (nI_le (Nat.le_refl _) (by omega)) (wy_arcs (ec := 0) hN z0 hJ rfl (fun v hv => hW0 v (by omega)) h))
    (fun k i aJ hi hJ ih => br_f (nI_ge hi (by omega)) ⟨vp_in_nI (by omega) (by omega), vp_in_nI (by omega) (by omega), nm_r (e' := upd aJ i (aS i)) (by rw [nI_clamp (by omega)]) (nm_r (nI_1 i) (ih _ (fun v hv => by
      by_cases q : v = i
      · rw [q, nu_s]
      · rw [nu_n q]; exact hJ v (by omega))))⟩)
