/-! ===== methods that use a capability ===== -/
theorem ms_hd (f : Nat → Int64) {i : Nat} (hi : i < 16) : f (nI i).toNatClampNeg = f i := by
  rw [nI_clamp (by omega)]
theorem i_vc_read {k : Nat} {u : SX} {v : SY} (I : i_Rel k u v) (hk : k + 5 ≤ 2561) (v1 : Int32) (v2 : Int32) : wpX_read (fun r u' => wpY_read (fun r' v' => r' = r ∧ i_Rel (k + 5) u' v') v v1 v2) u v1 v2 := by
  obtain ⟨ls, lv, va, sec, hd, ak, ka, rnd, h, go, gr, gd, no, nr, rfl, rfl, H⟩ := I
  unfold wpX_read wpY_read
  dsimp only
  rcases aw_adr v1 v2 (lv, va, rnd, h, go, gr, gd, no, nr, ak, ka) with ⟨e, e0, e1, hX, hY⟩ | ⟨a, b, ha, hb, rfl, rfl, hX, hY⟩
  · exact hX _ (br_f e0 (hY _ (br_f e1 ⟨rfl, sr_mk5 H⟩)))
  · refine hX _ (br_t rfl ?_)
    unfold wpX_placeOf
    rw [aw_pl]
    have h16 : a * 8 + b < 16 := by omega
    have hi : vp_in (nI (a * 8 + b)) 16 := vp_in_nI h16 (by decide)
    have hc : (nI (a * 8 + b)).toNatClampNeg = a * 8 + b := nI_clamp (by omega)
    refine ⟨hi, nm_r (ms_hd hd h16) ?_⟩
    obtain ⟨g, hg, gX, gY⟩ := gn_perm hk H ha hb cq_1 lv va ak ka
    refine gX _ ?_
    rcases hg with rfl | ⟨rfl, G⟩
    · refine br_t rfl (aw_keepX ha ?_)
      dsimp only
      refine hY _ (br_t (by decide) (gY _ (br_t rfl (aw_keepY ha ?_))))
      exact ⟨rfl, sr_mk5 H⟩
    · obtain ⟨q, hq, eq⟩ := cp_oN (hd (a * 8 + b))
      have i8 : vp_in (nI q) 8 := vp_in_nI hq (by decide)
      refine br_f (by decide) ?_
      show _ ∧ _
      rw [show (((hd (a * 8 + b)).toInt32 >>> ((4 : Int32) &&& 31)) &&& 7) = nI q from eq]
      refine ⟨i8, aw_keepX ha ?_⟩
      dsimp only
      refine hY _ (br_t (by decide) (gY _ (br_f (by decide) ?_)))
      rw [hc, G.2.1, eq]
      refine ⟨hi, i8, aw_keepY ha ?_⟩
      exact ⟨rfl, sr_mk5 H⟩
theorem i_vc_add {k : Nat} {u : SX} {v : SY} (I : i_Rel k u v) (hk : k + 5 ≤ 2561) (v1 : Int32) (v2 : Int32) (v3 : Int32) : wpX_add (fun r u' => wpY_add (fun r' v' => r' = r ∧ i_Rel (k + 5) u' v') v v1 v2 v3) u v1 v2 v3 := by
  obtain ⟨ls, lv, va, sec, hd, ak, ka, rnd, h, go, gr, gd, no, nr, rfl, rfl, H⟩ := I
  unfold wpX_add wpY_add
  dsimp only
  rcases aw_adr v1 v2 (lv, va, rnd, h, go, gr, gd, no, nr, ak, ka) with ⟨e, e0, e1, hX, hY⟩ | ⟨a, b, ha, hb, rfl, rfl, hX, hY⟩
  · exact hX _ (br_f e0 (hY _ (br_f e1 ⟨rfl, sr_mk5 H⟩)))
  · refine hX _ (br_t rfl ?_)
    unfold wpX_placeOf
    rw [aw_pl]
    have h16 : a * 8 + b < 16 := by omega
    have hi : vp_in (nI (a * 8 + b)) 16 := vp_in_nI h16 (by decide)
    have hc : (nI (a * 8 + b)).toNatClampNeg = a * 8 + b := nI_clamp (by omega)
    refine ⟨hi, nm_r (ms_hd hd h16) ?_⟩
    obtain ⟨g, hg, gX, gY⟩ := gn_perm hk H ha hb cq_2 lv va ak ka
    refine gX _ ?_
    rcases hg with rfl | ⟨rfl, G⟩
    · refine br_t rfl (aw_keepX ha ?_)
      dsimp only
      refine hY _ (br_t (by decide) (gY _ (br_t rfl (aw_keepY ha ?_))))
      exact ⟨rfl, sr_mk5 H⟩
    · obtain ⟨q, hq, eq⟩ := cp_oN (hd (a * 8 + b))
      have i8 : vp_in (nI q) 8 := vp_in_nI hq (by decide)
      refine br_f (by decide) ?_
      show _ ∧ _
      rw [show (((hd (a * 8 + b)).toInt32 >>> ((4 : Int32) &&& 31)) &&& 7) = nI q from eq]
      refine ⟨i8, i8, nm_e ⟨i8, aw_keepX ha ?_⟩⟩
      dsimp only
      refine hY _ (br_t (by decide) (gY _ (br_f (by decide) ?_)))
      rw [hc, G.2.1, eq]
      refine ⟨hi, nm_e ⟨i8, i8, nm_e ⟨i8, aw_keepY ha ?_⟩⟩⟩
      exact ⟨rfl, sr_mk5 H⟩
theorem i_vc_destroy {k : Nat} {u : SX} {v : SY} (I : i_Rel k u v) (hk : k + 5 ≤ 2561) (v1 : Int32) (v2 : Int32) : wpX_destroy (fun r u' => wpY_destroy (fun r' v' => r' = r ∧ i_Rel (k + 5) u' v') v v1 v2) u v1 v2 := by
  obtain ⟨ls, lv, va, sec, hd, ak, ka, rnd, h, go, gr, gd, no, nr, rfl, rfl, H⟩ := I
  unfold wpX_destroy wpY_destroy
  dsimp only
  rcases aw_adr v1 v2 (lv, va, rnd, h, go, gr, gd, no, nr, ak, ka) with ⟨e, e0, e1, hX, hY⟩ | ⟨a, b, ha, hb, rfl, rfl, hX, hY⟩
  · exact hX _ (br_f e0 (hY _ (br_f e1 ⟨rfl, sr_mk5 H⟩)))
  · refine hX _ (br_t rfl ?_)
    unfold wpX_placeOf
    rw [aw_pl]
    have h16 : a * 8 + b < 16 := by omega
    have hi : vp_in (nI (a * 8 + b)) 16 := vp_in_nI h16 (by decide)
    have hc : (nI (a * 8 + b)).toNatClampNeg = a * 8 + b := nI_clamp (by omega)
    refine ⟨hi, nm_r (ms_hd hd h16) ?_⟩
    obtain ⟨g, hg, gX, gY⟩ := gn_perm hk H ha hb cq_4 lv va ak ka
    refine gX _ ?_
    rcases hg with rfl | ⟨rfl, G⟩
    · refine br_t rfl (aw_keepX ha ?_)
      dsimp only
      refine hY _ (br_t (by decide) (gY _ (br_t rfl (aw_keepY ha ?_))))
      exact ⟨rfl, sr_mk5 H⟩
    · obtain ⟨q, hq, eq⟩ := cp_oN (hd (a * 8 + b))
      have i8 : vp_in (nI q) 8 := vp_in_nI hq (by decide)
      refine br_f (by decide) ?_
      show _ ∧ _
      rw [show (((hd (a * 8 + b)).toInt32 >>> ((4 : Int32) &&& 31)) &&& 7) = nI q from eq]
      refine ⟨i8, nm_e (aw_keepX ha ?_)⟩
      dsimp only
      refine hY _ (br_t (by decide) (gY _ (br_f (by decide) ?_)))
      rw [hc, G.2.1, eq]
      refine ⟨hi, i8, nm_e (aw_keepY ha ?_)⟩
      exact ⟨rfl, sr_mk5 H⟩
theorem i_vc_revoke {k : Nat} {u : SX} {v : SY} (I : i_Rel k u v) (hk : k + 5 ≤ 2561) (v1 : Int32) (v2 : Int32) : wpX_revoke (fun r u' => wpY_revoke (fun r' v' => r' = r ∧ i_Rel (k + 5) u' v') v v1 v2) u v1 v2 := by
  obtain ⟨ls, lv, va, sec, hd, ak, ka, rnd, h, go, gr, gd, no, nr, rfl, rfl, H⟩ := I
  unfold wpX_revoke wpY_revoke
  dsimp only
  rcases aw_adr v1 v2 (lv, va, rnd, h, go, gr, gd, no, nr, ak, ka) with ⟨e, e0, e1, hX, hY⟩ | ⟨a, b, ha, hb, rfl, rfl, hX, hY⟩
  · exact hX _ (br_f e0 (hY _ (br_f e1 ⟨rfl, sr_mk5 H⟩)))
  · refine hX _ (br_t rfl ?_)
    unfold wpX_placeOf
    rw [aw_pl]
    have h16 : a * 8 + b < 16 := by omega
    have hi : vp_in (nI (a * 8 + b)) 16 := vp_in_nI h16 (by decide)
    have hc : (nI (a * 8 + b)).toNatClampNeg = a * 8 + b := nI_clamp (by omega)
    refine ⟨hi, nm_r (ms_hd hd h16) ?_⟩
    obtain ⟨g, hg, gX, gY⟩ := gn_perm hk H ha hb cq_8 lv va ak ka
    refine gX _ ?_
    rcases hg with rfl | ⟨rfl, G⟩
    · refine br_t rfl (aw_keepX ha ?_)
      dsimp only
      refine hY _ (br_t (by decide) (gY _ (br_t rfl (aw_keepY ha ?_))))
      exact ⟨rfl, sr_mk5 H⟩
    · obtain ⟨q, hq, eq⟩ := cp_oN (hd (a * 8 + b))
      obtain ⟨w, hw, ew⟩ := cp_rN (hd (a * 8 + b))
      have i8 : vp_in (nI q) 8 := vp_in_nI hq (by decide)
      have cq : (nI q).toNatClampNeg = q := nI_clamp (by omega)
      refine br_f (by decide) ?_
      unfold wpX_objectIn wpX_rightsIn
      rw [show (((hd (a * 8 + b)).toInt32 >>> ((4 : Int32) &&& 31)) &&& 7) = nI q from eq, show ((hd (a * 8 + b)).toInt32 &&& 15) = nI w from ew]
      refine aw_renewX hq ?_
      dsimp only
      refine aw_newX hq ?_
      rw [hc]
      refine ⟨hi, nm_e (aw_keepX ha ?_)⟩
      dsimp only
      refine hY _ (br_t (by decide) (gY _ (br_f (by decide) (nm_e ?_))))
      rw [hc, G.2.1, eq, G.2.2.1, ew, cq]
      refine ⟨hi, i8, i8, nm_e ⟨hi, hi, aw_giveY h16 hq ?_⟩⟩
      refine aw_keepY ha ?_
      exact ⟨rfl, sr_mk (sr_fresh hk H hq hw (a * 8 + b))⟩
theorem i_vc_restrict {k : Nat} {u : SX} {v : SY} (I : i_Rel k u v) (hk : k + 5 ≤ 2561) (v1 : Int32) (v2 : Int32) (v3 : Int32) (v4 : Int32) : wpX_restrict (fun r u' => wpY_restrict (fun r' v' => r' = r ∧ i_Rel (k + 5) u' v') v v1 v2 v3 v4) u v1 v2 v3 v4 := by
  obtain ⟨ls, lv, va, sec, hd, ak, ka, rnd, h, go, gr, gd, no, nr, rfl, rfl, H⟩ := I
  unfold wpX_restrict wpY_restrict
  dsimp only
  rcases aw_adr v1 v2 (lv, va, rnd, h, go, gr, gd, no, nr, ak, ka) with ⟨e, e0, e1, hX, hY⟩ | ⟨a, b, ha, hb, rfl, rfl, hX, hY⟩
  · refine hX _ (br_f e0 (hY _ (br_f e0 ?_)))
    unfold wY_restrict_21
    exact br_f e1 ⟨rfl, sr_mk5 H⟩
  · refine hX _ (br_t rfl ?_)
    rcases aw_to ha v3 (lv, va, rnd, h, go, gr, gd, no, nr, ak, ka) with ⟨sX, sY⟩ | ⟨c, hc8, rfl, sX, sY⟩
    · refine sX _ (br_t rfl (hY _ (br_t rfl (sY _ ?_))))
      unfold wY_restrict_21
      exact br_f (by decide) ⟨rfl, sr_mk5 H⟩
    · refine sX _ (br_f (by decide) ?_)
      rcases aw_ix v4 (n := 16) (by decide) with n | ⟨n, n2⟩ | ⟨t, ht, rfl⟩
      · refine br_t n (hY _ (br_t rfl (sY _ ?_)))
        unfold wY_restrict_21
        exact br_t (by decide) (br_t n ⟨rfl, sr_mk5 H⟩)
      · refine br_f n (br_f (aw_n15 n2) (hY _ (br_t rfl (sY _ ?_))))
        unfold wY_restrict_21
        exact br_t (by decide) (br_f n (br_f (aw_n15 n2) ⟨rfl, sr_mk5 H⟩))
      · refine br_f (aw_16 t ht).1 (br_t (aw_16 t ht).2 ?_)
        unfold wpX_placeOf
        rw [aw_pl, aw_pl]
        have h16 : a * 8 + b < 16 := by omega
        have h16' : a * 8 + c < 16 := by omega
        have hi : vp_in (nI (a * 8 + b)) 16 := vp_in_nI h16 (by decide)
        have hi' : vp_in (nI (a * 8 + c)) 16 := vp_in_nI h16' (by decide)
        have hc : (nI (a * 8 + b)).toNatClampNeg = a * 8 + b := nI_clamp (by omega)
        have hc' : (nI (a * 8 + c)).toNatClampNeg = a * 8 + c := nI_clamp (by omega)
        refine ⟨hi, nm_r (ms_hd hd h16) ?_⟩
        obtain ⟨g, hg, gX, gY⟩ := gn_both hk H ha hb lv va ak ka
        refine gX _ ?_
        rcases hg with rfl | ⟨rfl, G⟩
        · refine br_t rfl (aw_keepX ha ?_)
          dsimp only
          refine hY _ (br_t rfl (sY _ ?_))
          unfold wY_restrict_21
          refine br_t (by decide) (br_f (aw_16 t ht).1 (br_t (aw_16 t ht).2 (gY _ (br_t rfl (aw_keepY ha ?_)))))
          exact ⟨rfl, sr_mk5 H⟩
        · obtain ⟨q, hq, eq⟩ := cp_oN (hd (a * 8 + b))
          obtain ⟨w, hw, ew⟩ := cp_rN (hd (a * 8 + b))
          obtain ⟨d, hd16, ed⟩ := cq_and w hw t ht
          have i8 : vp_in (nI q) 8 := vp_in_nI hq (by decide)
          have cq : (nI q).toNatClampNeg = q := nI_clamp (by omega)
          refine br_f (by decide) ?_
          unfold wpX_objectIn wpX_rightsIn
          rw [show (((hd (a * 8 + b)).toInt32 >>> ((4 : Int32) &&& 31)) &&& 7) = nI q from eq, show ((hd (a * 8 + b)).toInt32 &&& 15) = nI w from ew]
          refine nm_r ed ?_
          refine aw_newX hq ?_
          rw [hc']
          refine ⟨hi', nm_e (aw_keepX ha ?_)⟩
          dsimp only
          refine hY _ (br_t rfl (sY _ ?_))
          unfold wY_restrict_21
          refine br_t (by decide) (br_f (aw_16 t ht).1 (br_t (aw_16 t ht).2 (gY _ (br_f (by decide) (nm_r (aw_pl a b) ?_)))))
          rw [hc, G.2.1, eq, G.2.2.1, ew, aw_pl]
          refine ⟨hi, nm_r ed ⟨hi, aw_giveY h16' hq ?_⟩⟩
          refine aw_keepY ha ?_
          obtain ⟨_, _, _, G4, j, hj, G5⟩ := G
          rw [eq, cq] at G4
          obtain ⟨R, hR, eR⟩ := H.1 q
          exact ⟨rfl, sr_mk5 (sr_put H (sr_new hq hd16 hR eR hj (G4.trans G5)) (a * 8 + c))⟩
