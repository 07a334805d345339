/-! 21: what is owed of solve and of the answers -/
theorem ns_Spec_01 {n m : Nat} {aS aT aH aC aK : Nat → Int32} {r st tc sf : Int32} {W : Nat → Int32} (h : ns_Spec n m aS aT aH aC aK r st tc sf W) : ns_01 n W := by
  rcases h with h | ⟨_, _, _, _, h | h⟩
  · exact fun v hv => Or.inl (h.2.2.2.2.2 v hv)
  · exact h.2.2.2.2.1
  · exact fun v hv => Or.inl (h.2.2.2.2 v hv)
theorem i_vc_solve {k : Nat} {u : SX} {v : SY} (I : i_Rel k u v) (hk : k + 5 ≤ 2561) : wpX_solve (fun r u' => wpY_solve (fun r' v' => r' = r ∧ i_Rel (k + 5) u' v') v) u := by
  obtain ⟨n, m, st, tc, sf, ec, aS, aT, aH, aC, aK, W, aF, aE, aD, aP, aJ, V, F, T, C, K, D, P, Q, rfl, rfl, hN, h1, hV⟩ := I
  refine wx_solve hN (fun r st tc sf W aF aE aD aP hs => wy_solve hN (fun r' st' tc' sf' ec aJ V F T C K D P Q hs' => ?_))
  obtain ⟨e1, e2, e3, e4, e5⟩ := ns_Spec_u (nx_r hN) hs hs'
  subst e1 e2 e3 e4
  exact ⟨rfl, ir_mk hN (ns_Spec_01 hs) e5⟩
theorem i_vc_getStatus {k : Nat} {u : SX} {v : SY} (I : i_Rel k u v) (hk : k + 5 ≤ 2561) : wpX_getStatus (fun r => wpY_getStatus (fun r' => r' = r ∧ i_Rel (k + 5) u v) v) u := by
  have I' : i_Rel (k + 5) u v := I
  obtain ⟨n, m, st, tc, sf, ec, aS, aT, aH, aC, aK, W, aF, aE, aD, aP, aJ, V, F, T, C, K, D, P, Q, rfl, rfl, hN, h1, hV⟩ := I
  exact ⟨rfl, I'⟩
theorem i_vc_getTotalCost {k : Nat} {u : SX} {v : SY} (I : i_Rel k u v) (hk : k + 5 ≤ 2561) : wpX_getTotalCost (fun r => wpY_getTotalCost (fun r' => r' = r ∧ i_Rel (k + 5) u v) v) u := by
  have I' : i_Rel (k + 5) u v := I
  obtain ⟨n, m, st, tc, sf, ec, aS, aT, aH, aC, aK, W, aF, aE, aD, aP, aJ, V, F, T, C, K, D, P, Q, rfl, rfl, hN, h1, hV⟩ := I
  exact ⟨rfl, I'⟩
theorem i_vc_getShortfall {k : Nat} {u : SX} {v : SY} (I : i_Rel k u v) (hk : k + 5 ≤ 2561) : wpX_getShortfall (fun r => wpY_getShortfall (fun r' => r' = r ∧ i_Rel (k + 5) u v) v) u := by
  have I' : i_Rel (k + 5) u v := I
  obtain ⟨n, m, st, tc, sf, ec, aS, aT, aH, aC, aK, W, aF, aE, aD, aP, aJ, V, F, T, C, K, D, P, Q, rfl, rfl, hN, h1, hV⟩ := I
  exact ⟨rfl, I'⟩
theorem i_vc_inWitness {k : Nat} {u : SX} {v : SY} (I : i_Rel k u v) (hk : k + 5 ≤ 2561) (v1 : Int32) : wpX_inWitness (fun r => wpY_inWitness (fun r' => r' = r ∧ i_Rel (k + 5) u v) v v1) u v1 := by
  have I' : i_Rel (k + 5) u v := I
  obtain ⟨n, m, st, tc, sf, ec, aS, aT, aH, aC, aK, W, aF, aE, aD, aP, aJ, V, F, T, C, K, D, P, Q, rfl, rfl, hN, h1, hV⟩ := I
  have hm := hN.2.2.1
  have hn := hN.2.1
  unfold wpX_inWitness
  rcases wc_ix v1 n with b1 | ⟨a, ha, rfl⟩
  · exact wx_nb b1 (br_t rfl (wc_bad b1 ⟨rfl, I'⟩))
  · have em : (nI a).toNatClampNeg = a := nI_clamp (by omega)
    have im : vp_in (nI a) 24 := vp_in_nI (by omega) (by omega)
    have ev := hV a ha
    refine wx_nk ha hn (br_f (by decide) ⟨im, ?_⟩)
    unfold wpY_inWitness
    dsimp only
    rw [em, ev]
    rcases h1 a ha with q | q
    · exact br_t q (wc_ok ha (by omega) ⟨im, ni_nb (Or.inl q), q, I'⟩)
    · exact br_f (by rw [q]; decide) (wc_ok ha (by omega) ⟨im, ni_nb (Or.inr q), q, I'⟩)
def nc_n (W : Nat → Int32) : Nat → Int32
  | 0 => 0
  | i + 1 => if W i = 0 then nc_n W i else nc_n W i + 1
theorem nc_s (W : Nat → Int32) (i : Nat) : nc_n W (i + 1) = if W i = 0 then nc_n W i else nc_n W i + 1 := rfl
theorem nc_c {W V : Nat → Int32} : ∀ n : Nat, (∀ j, j < n → V j = W j) → nc_n V n = nc_n W n := by
  intro n
  induction n with
  | zero => intro _; rfl
  | succ n ih =>
    intro h
    rw [nc_s, nc_s, h n (by omega), ih (fun j hj => h j (by omega))]
theorem wx_size {n m : Nat} {st tc sf : Int32} {aS aT aH aC aK W aF aE aD aP : Nat → Int32} {post : Int32 → Prop} (hn : n ≤ 24) (h : post (nc_n W n)) : wpX_getWitnessSize post ((nI n), (nI m), st, tc, sf, aS, aT, aH, aC, aK, W, aF, aE, aD, aP) := by
  unfold wpX_getWitnessSize
  refine loop_0 (fun k i s => wX_getWitnessSize_4 post (nI n) (nI m) st tc sf aS aT aH aC aK W aF aE aD aP k s (nI i)) (fun i s => s = nc_n W i) n 0 rfl
    (fun k s hs => br_t (nI_le (Nat.le_refl _) (by omega)) (by rw [hs]; exact h)) (fun k i s hi hs ih => br_f (nI_ge hi (by omega)) ⟨vp_in_nI (by omega) (by omega), ?_⟩)
  rw [nI_clamp (show i < 2 ^ 31 by omega)]
  exact br_c (fun q => nm_r (nI_1 i) (ih _ (by rw [nc_s, if_pos q]; exact hs))) (fun q => nm_e (nm_r (nI_1 i) (ih _ (by rw [nc_s, if_neg q, hs]))))
theorem wy_size {n m : Nat} {st tc sf ec : Int32} {aT aH aC aK aS aJ W F T C K D P Q : Nat → Int32} {post : Int32 → Prop} (hn : n ≤ 24) (h : post (nc_n W n)) : wpY_getWitnessSize post ((nI n), (nI m), st, tc, sf, ec, aT, aH, aC, aK, aS, aJ, W, F, T, C, K, D, P, Q) := by
  unfold wpY_getWitnessSize
  refine loop_0 (fun k i s => wY_getWitnessSize_4 post (nI n) (nI m) st tc sf ec aT aH aC aK aS aJ W F T C K D P Q k s (nI i)) (fun i s => s = nc_n W i) n 0 rfl
    (fun k s hs => br_t (nI_le (Nat.le_refl _) (by omega)) (by rw [hs]; exact h)) (fun k i s hi hs ih => br_f (nI_ge hi (by omega)) ⟨vp_in_nI (by omega) (by omega), ?_⟩)
  rw [nI_clamp (show i < 2 ^ 31 by omega)]
  exact br_c (fun q => nm_r (nI_1 i) (ih _ (by rw [nc_s, if_pos q]; exact hs))) (fun q => nm_e (nm_r (nI_1 i) (ih _ (by rw [nc_s, if_neg q, hs]))))
theorem i_vc_getWitnessSize {k : Nat} {u : SX} {v : SY} (I : i_Rel k u v) (hk : k + 5 ≤ 2561) : wpX_getWitnessSize (fun r => wpY_getWitnessSize (fun r' => r' = r ∧ i_Rel (k + 5) u v) v) u := by
  have I' : i_Rel (k + 5) u v := I
  obtain ⟨n, m, st, tc, sf, ec, aS, aT, aH, aC, aK, W, aF, aE, aD, aP, aJ, V, F, T, C, K, D, P, Q, rfl, rfl, hN, h1, hV⟩ := I
  exact wx_size hN.2.1 (wy_size hN.2.1 ⟨nc_c n hV, I'⟩)
theorem i_vc_getNodeCount {k : Nat} {u : SX} {v : SY} (I : i_Rel k u v) (hk : k + 5 ≤ 2561) : wpX_getNodeCount (fun r => wpY_getNodeCount (fun r' => r' = r ∧ i_Rel (k + 5) u v) v) u := by
  have I' : i_Rel (k + 5) u v := I
  obtain ⟨n, m, st, tc, sf, ec, aS, aT, aH, aC, aK, W, aF, aE, aD, aP, aJ, V, F, T, C, K, D, P, Q, rfl, rfl, hN, h1, hV⟩ := I
  exact ⟨rfl, I'⟩
theorem i_vc_getArcCount {k : Nat} {u : SX} {v : SY} (I : i_Rel k u v) (hk : k + 5 ≤ 2561) : wpX_getArcCount (fun r => wpY_getArcCount (fun r' => r' = r ∧ i_Rel (k + 5) u v) v) u := by
  have I' : i_Rel (k + 5) u v := I
  obtain ⟨n, m, st, tc, sf, ec, aS, aT, aH, aC, aK, W, aF, aE, aD, aP, aJ, V, F, T, C, K, D, P, Q, rfl, rfl, hN, h1, hV⟩ := I
  exact ⟨rfl, I'⟩
theorem i_vc_getSupply {k : Nat} {u : SX} {v : SY} (I : i_Rel k u v) (hk : k + 5 ≤ 2561) (v1 : Int32) : wpX_getSupply (fun r => wpY_getSupply (fun r' => r' = r ∧ i_Rel (k + 5) u v) v v1) u v1 := by
  have I' : i_Rel (k + 5) u v := I
  obtain ⟨n, m, st, tc, sf, ec, aS, aT, aH, aC, aK, W, aF, aE, aD, aP, aJ, V, F, T, C, K, D, P, Q, rfl, rfl, hN, h1, hV⟩ := I
  have hm := hN.2.2.1
  have hn := hN.2.1
  unfold wpX_getSupply
  rcases wc_ix v1 n with b1 | ⟨a, ha, rfl⟩
  · exact wx_nb b1 (br_t rfl (wc_bad b1 ⟨rfl, I'⟩))
  · have im : vp_in (nI a) 24 := vp_in_nI (by omega) (by omega)
    exact wx_nk ha hn (br_f (by decide) ⟨im, wc_ok ha (by omega) ⟨im, rfl, I'⟩⟩)
theorem i_vc_getArc {k : Nat} {u : SX} {v : SY} (I : i_Rel k u v) (hk : k + 5 ≤ 2561) (v1 : Int32) (v2 : Int32) : wpX_getArc (fun r => wpY_getArc (fun r' => r' = r ∧ i_Rel (k + 5) u v) v v1 v2) u v1 v2 := by
  have I' : i_Rel (k + 5) u v := I
  obtain ⟨n, m, st, tc, sf, ec, aS, aT, aH, aC, aK, W, aF, aE, aD, aP, aJ, V, F, T, C, K, D, P, Q, rfl, rfl, hN, h1, hV⟩ := I
  have hm := hN.2.2.1
  have hn := hN.2.1
  unfold wpX_getArc
  rcases wc_ix v1 m with b1 | ⟨a, ha, rfl⟩
  · exact wx_ab b1 (br_t rfl (wc_bad b1 ⟨rfl, I'⟩))
  · have im : vp_in (nI a) 96 := vp_in_nI (by omega) (by omega)
    refine wx_ak ha hm (br_f (by decide) ?_)
    by_cases q0 : v2 = 0
    · have l0 : ¬ v2 < 0 := by rw [q0]; decide
      have l3 : ¬ 3 < v2 := by rw [q0]; decide
      exact br_f l0 (br_f l3 (br_t q0 ⟨im, wc_ok ha (by omega) (br_t q0 ⟨im, rfl, I'⟩)⟩))
    · by_cases q1 : v2 = 1
      · have l0 : ¬ v2 < 0 := by rw [q1]; decide
        have l3 : ¬ 3 < v2 := by rw [q1]; decide
        exact br_f l0 (br_f l3 (br_f q0 (br_t q1 ⟨im, wc_ok ha (by omega) (br_f q0 (br_t q1 ⟨im, rfl, I'⟩))⟩)))
      · by_cases q2 : v2 = 2
        · have l0 : ¬ v2 < 0 := by rw [q2]; decide
          have l3 : ¬ 3 < v2 := by rw [q2]; decide
          exact br_f l0 (br_f l3 (br_f q0 (br_f q1 (br_t q2 ⟨im, wc_ok ha (by omega) (br_f q0 (br_f q1 (br_t q2 ⟨im, rfl, I'⟩)))⟩))))
        · by_cases q3 : v2 = 3
          · have l0 : ¬ v2 < 0 := by rw [q3]; decide
            have l3 : ¬ 3 < v2 := by rw [q3]; decide
            exact br_f l0 (br_f l3 (br_f q0 (br_f q1 (br_f q2 (br_t q3 ⟨im, wc_ok ha (by omega) (br_f q0 (br_f q1 (br_f q2 (br_t q3 ⟨im, rfl, I'⟩))))⟩)))))
          · exact br_c (fun _ => wc_ok ha (by omega) (br_f q0 (br_f q1 (br_f q2 (br_f q3 ⟨rfl, I'⟩))))) (fun _ => br_c (fun _ => wc_ok ha (by omega) (br_f q0 (br_f q1 (br_f q2 (br_f q3 ⟨rfl, I'⟩))))) (fun _ => br_f q0 (br_f q1 (br_f q2 (br_f q3 trivial)))))
