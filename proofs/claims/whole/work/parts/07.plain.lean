/-! ===== the other methods ===== -/
theorem i_vc_again {k : Nat} {u : SX} {v : SY} (I : i_Rel k u v) (hk : k + 5 ≤ 2561) (v1 : Int32) : wpX_again (fun r => wpY_again (fun r' => r' = r ∧ i_Rel (k + 5) u v) v v1) u v1 := by
  obtain ⟨ls, lv, va, sec, hd, ak, ka, rnd, h, go, gr, gd, no, nr, rfl, rfl, H⟩ := I
  unfold wpX_again wpY_again
  dsimp only
  rcases aw_user v1 with ⟨hU, n0, n1⟩ | ⟨a, ha, rfl, hU⟩
  · exact hU _ (br_t rfl (br_f n0 (br_f n1 ⟨rfl, sr_mk5 H⟩)))
  · have i2 : vp_in (nI a) 2 := vp_in_nI ha (by decide)
    have key : ∀ post : Int32 → Prop, wY_again_11 post (nI a) lv va rnd h go gr gd no nr ak ka → ((nI a = 0 → wY_again_11 post (nI a) lv va rnd h go gr gd no nr ak ka) ∧ (¬ nI a = 0 → ((nI a = 1 → wY_again_11 post (nI a) lv va rnd h go gr gd no nr ak ka) ∧ (¬ nI a = 1 → post (-1))))) := by
      intro post hp
      rcases (aw_2 a ha).2.2 with z | ⟨z, z1⟩
      · exact br_t z hp
      · exact br_f z (br_t z1 hp)
    refine hU _ (br_f (by decide) ⟨i2, ?_⟩)
    by_cases z : ak (nI a).toNatClampNeg = 0
    · refine br_t z (key _ ?_)
      unfold wY_again_11
      exact ⟨i2, br_t z ⟨rfl, sr_mk5 H⟩⟩
    · refine br_f z ⟨i2, key _ ?_⟩
      unfold wY_again_11
      exact ⟨i2, br_f z ⟨i2, rfl, sr_mk5 H⟩⟩
theorem i_vc_copy {k : Nat} {u : SX} {v : SY} (I : i_Rel k u v) (hk : k + 5 ≤ 2561) (v1 : Int32) (v2 : Int32) (v3 : Int32) : wpX_copy (fun r u' => wpY_copy (fun r' v' => r' = r ∧ i_Rel (k + 5) u' v') v v1 v2 v3) u v1 v2 v3 := by
  obtain ⟨ls, lv, va, sec, hd, ak, ka, rnd, h, go, gr, gd, no, nr, rfl, rfl, H⟩ := I
  unfold wpX_copy wpY_copy
  dsimp only
  rcases aw_adr v1 v2 (lv, va, rnd, h, go, gr, gd, no, nr, ak, ka) with ⟨e, e0, e1, hX, hY⟩ | ⟨a, b, ha, hb, rfl, rfl, hX, hY⟩
  · exact hX _ (br_f e0 (hY _ (br_f e1 ⟨rfl, sr_mk5 H⟩)))
  · have h16 : a * 8 + b < 16 := by omega
    have hi : vp_in (nI (a * 8 + b)) 16 := vp_in_nI h16 (by decide)
    have hc : (nI (a * 8 + b)).toNatClampNeg = a * 8 + b := nI_clamp (by omega)
    obtain ⟨t, ht, e1, e2⟩ := cy_at v3
    have ti : vp_in (nI t) 16 := vp_in_nI ht (by decide)
    have tc : (nI t).toNatClampNeg = t := nI_clamp (by omega)
    have hn : vp_nar .boolean (h (a * 8 + b)) = h (a * 8 + b) := by
      rcases H.2 (a * 8 + b) with z | z
      · rw [z.1]
        rfl
      · rw [z.1]
        rfl
    refine hX _ (br_t rfl (nm_e (nm_e ?_)))
    unfold wpX_placeOf
    rw [aw_pl, e2]
    dsimp only
    rw [hc, tc]
    refine ⟨hi, ti, nm_e ?_⟩
    refine hY _ (br_t (by decide) (nm_e (nm_r e1 ?_)))
    rw [hc, tc, hn]
    refine ⟨hi, ti, nm_e ⟨hi, ti, nm_e ⟨hi, ti, nm_e ⟨hi, ti, nm_e ⟨hi, ti, nm_e ⟨hi, ti, nm_e ?_⟩⟩⟩⟩⟩⟩
    exact ⟨rfl, sr_mk5 (sr_put H (H.2 (a * 8 + b)) t)⟩
theorem i_vc_tamper {k : Nat} {u : SX} {v : SY} (I : i_Rel k u v) (hk : k + 5 ≤ 2561) (v1 : Int32) (v2 : Int32) (v3 : Int32) : wpX_tamper (fun r u' => wpY_tamper (fun r' v' => r' = r ∧ i_Rel (k + 5) u' v') v v1 v2 v3) u v1 v2 v3 := by
  obtain ⟨ls, lv, va, sec, hd, ak, ka, rnd, h, go, gr, gd, no, nr, rfl, rfl, H⟩ := I
  unfold wpX_tamper wpY_tamper
  dsimp only
  rcases aw_adr v1 v2 (lv, va, rnd, h, go, gr, gd, no, nr, ak, ka) with ⟨e, e0, e1, hX, hY⟩ | ⟨a, b, ha, hb, rfl, rfl, hX, hY⟩
  · exact hX _ (br_f e0 (hY _ (br_f e1 ⟨rfl, sr_mk5 H⟩)))
  · have h16 : a * 8 + b < 16 := by omega
    have hi : vp_in (nI (a * 8 + b)) 16 := vp_in_nI h16 (by decide)
    have hc : (nI (a * 8 + b)).toNatClampNeg = a * 8 + b := nI_clamp (by omega)
    refine hX _ (br_t rfl ?_)
    unfold wpX_placeOf
    rw [aw_pl]
    dsimp only
    rw [hc]
    refine ⟨hi, ?_⟩
    rcases H.2 (a * 8 + b) with z | z
    · refine br_t z.2 (hY _ (br_t (by decide) (nm_e ?_)))
      rw [hc]
      exact ⟨hi, br_t z.1 ⟨rfl, sr_mk5 H⟩⟩
    · have nz : ¬ hd (a * 8 + b) = 0 := cm_nz z.2.1
      have nh : ¬ h (a * 8 + b) = 0 := by
        rw [z.1]
        decide
      refine br_f nz ⟨hi, hi, nm_e (hY _ (br_t (by decide) (nm_e ?_)))⟩
      rw [hc]
      refine ⟨hi, br_f nh ⟨hi, hi, nm_e ⟨hi, hi, nm_e ?_⟩⟩⟩
      exact ⟨rfl, sr_mk5 (sr_tam H (a * 8 + b) nz v3)⟩
theorem i_vc_clear {k : Nat} {u : SX} {v : SY} (I : i_Rel k u v) (hk : k + 5 ≤ 2561) (v1 : Int32) (v2 : Int32) : wpX_clear (fun r u' => wpY_clear (fun r' v' => r' = r ∧ i_Rel (k + 5) u' v') v v1 v2) u v1 v2 := by
  obtain ⟨ls, lv, va, sec, hd, ak, ka, rnd, h, go, gr, gd, no, nr, rfl, rfl, H⟩ := I
  unfold wpX_clear wpY_clear
  dsimp only
  rcases aw_adr v1 v2 (lv, va, rnd, h, go, gr, gd, no, nr, ak, ka) with ⟨e, e0, e1, hX, hY⟩ | ⟨a, b, ha, hb, rfl, rfl, hX, hY⟩
  · exact hX _ (br_f e0 (hY _ (br_f e1 ⟨rfl, sr_mk5 H⟩)))
  · have h16 : a * 8 + b < 16 := by omega
    have hi : vp_in (nI (a * 8 + b)) 16 := vp_in_nI h16 (by decide)
    have hc : (nI (a * 8 + b)).toNatClampNeg = a * 8 + b := nI_clamp (by omega)
    refine hX _ (br_t rfl ?_)
    unfold wpX_placeOf wX_clear_36 wY_clear_36
    rw [aw_pl]
    dsimp only
    rw [hc]
    refine ⟨hi, ?_⟩
    rcases H.2 (a * 8 + b) with z | z
    · refine br_t z.2 ⟨hi, nm_e (hY _ (br_t (by decide) (nm_e ?_)))⟩
      rw [hc, aw_nar0]
      exact ⟨hi, br_t z.1 ⟨hi, nm_e ⟨rfl, sr_mk5 (sr_clr H (a * 8 + b))⟩⟩⟩
    · have nz : ¬ hd (a * 8 + b) = 0 := cm_nz z.2.1
      have nh : ¬ h (a * 8 + b) = 0 := by
        rw [z.1]
        decide
      refine br_f nz ⟨hi, nm_e (hY _ (br_t (by decide) (nm_e ?_)))⟩
      rw [hc, aw_nar0]
      exact ⟨hi, br_f nh ⟨hi, nm_e ⟨rfl, sr_mk5 (sr_clr H (a * 8 + b))⟩⟩⟩
theorem i_vc_genuine {k : Nat} {u : SX} {v : SY} (I : i_Rel k u v) (hk : k + 5 ≤ 2561) (v1 : Int32) (v2 : Int32) : wpX_genuine (fun r => wpY_genuine (fun r' => r' = r ∧ i_Rel (k + 5) u v) v v1 v2) u v1 v2 := by
  obtain ⟨ls, lv, va, sec, hd, ak, ka, rnd, h, go, gr, gd, no, nr, rfl, rfl, H⟩ := I
  unfold wpX_genuine
  dsimp only
  rcases aw_adr v1 v2 (lv, va, rnd, h, go, gr, gd, no, nr, ak, ka) with ⟨e, e0, e1, hX, hY⟩ | ⟨a, b, ha, hb, rfl, rfl, hX, hY⟩
  · refine hX _ (br_f e0 ?_)
    unfold wpY_genuine
    exact hY _ (br_f e1 ⟨rfl, sr_mk5 H⟩)
  · have h16 : a * 8 + b < 16 := by omega
    have hi : vp_in (nI (a * 8 + b)) 16 := vp_in_nI h16 (by decide)
    refine hX _ (br_t rfl ?_)
    unfold wpX_placeOf
    rw [aw_pl]
    refine ⟨hi, nm_r (ms_hd hd h16) ?_⟩
    obtain ⟨g, hg, gX, gY⟩ := gn_both hk H ha hb lv va ak ka
    refine gX _ ?_
    rcases hg with rfl | ⟨rfl, G⟩
    · exact ⟨rfl, gY _ ⟨rfl, sr_mk5 H⟩⟩
    · exact ⟨rfl, gY _ ⟨rfl, sr_mk5 H⟩⟩
theorem i_vc_rights {k : Nat} {u : SX} {v : SY} (I : i_Rel k u v) (hk : k + 5 ≤ 2561) (v1 : Int32) (v2 : Int32) : wpX_rights (fun r => wpY_rights (fun r' => r' = r ∧ i_Rel (k + 5) u v) v v1 v2) u v1 v2 := by
  obtain ⟨ls, lv, va, sec, hd, ak, ka, rnd, h, go, gr, gd, no, nr, rfl, rfl, H⟩ := I
  unfold wpX_rights wpY_rights
  dsimp only
  rcases aw_adr v1 v2 (lv, va, rnd, h, go, gr, gd, no, nr, ak, ka) with ⟨e, e0, e1, hX, hY⟩ | ⟨a, b, ha, hb, rfl, rfl, hX, hY⟩
  · exact hX _ (br_f e0 (hY _ (br_f e1 ⟨rfl, sr_mk5 H⟩)))
  · have h16 : a * 8 + b < 16 := by omega
    have hi : vp_in (nI (a * 8 + b)) 16 := vp_in_nI h16 (by decide)
    have hc : (nI (a * 8 + b)).toNatClampNeg = a * 8 + b := nI_clamp (by omega)
    refine hX _ (br_t rfl ?_)
    unfold wpX_placeOf wpX_rightsIn
    rw [aw_pl]
    refine ⟨hi, nm_r (ms_hd hd h16) (hY _ (br_t (by decide) ?_))⟩
    rw [hc]
    rcases H.2 (a * 8 + b) with z | z
    · refine ⟨hi, br_t z.1 ⟨?_, sr_mk5 H⟩⟩
      rw [z.2]
      decide
    · have nh : ¬ h (a * 8 + b) = 0 := by
        rw [z.1]
        decide
      exact ⟨hi, br_f nh ⟨hi, z.2.2.2.1, sr_mk5 H⟩⟩
