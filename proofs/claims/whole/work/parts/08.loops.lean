/-! ===== the loops: create, restart, alive ===== -/
theorem lo_8 : ∀ j, j < 8 → ¬ (8 : Int32) ≤ nI j ∧ vp_in (nI j) 8 ∧ (nI j).toNatClampNeg = j ∧ ¬ nI j = 8 := by
  intro j hj
  exact ⟨(aw_8 j hj).2.1, vp_in_nI hj (by decide), nI_clamp (by omega), (by decide +kernel : ∀ j, j < 8 → ¬ nI j = 8) j hj⟩
theorem lo_free (f_lastSecret : Int32) (a_living a_value a_secret : Nat → Int32) (a_held : Nat → Int64) (a_answerKept a_keptAnswer : Nat → Int32) (x1 x2 : Int32) (y2 y3 y4 y5 y6 y7 y8 y9 y10 y11 : Nat → Int32) :
    ∀ d j : Nat, j + d = 8 → ∃ f, f ≤ 8 ∧ (f = 8 ∨ (f < 8 ∧ a_living f = 0)) ∧
      (∀ post : Int32 → Prop, post (nI f) → ∃ n, wX_smallestFreeObject_2 post f_lastSecret a_living a_value a_secret a_held a_answerKept a_keptAnswer n (nI j)) ∧
      (∀ post : Int32 → SY → Prop, (∃ n, wY_create_16 post x1 x2 a_living y2 y3 y4 y5 y6 y7 y8 y9 y10 y11 n (nI f)) → ∃ n, wY_create_16 post x1 x2 a_living y2 y3 y4 y5 y6 y7 y8 y9 y10 y11 n (nI j)) := by
  intro d
  induction d with
  | zero =>
    intro j hj
    obtain rfl : j = 8 := by omega
    refine ⟨8, by omega, Or.inl rfl, fun post hp => ⟨1, ?_⟩, fun post hp => hp⟩
    unfold wX_smallestFreeObject_2
    exact br_t (by decide) hp
  | succ d ih =>
    intro j hj
    obtain ⟨h1, h2, h3, h4⟩ := lo_8 j (by omega)
    by_cases z : a_living j = 0
    · refine ⟨j, by omega, Or.inr ⟨by omega, z⟩, fun post hp => ⟨1, ?_⟩, fun post hp => hp⟩
      unfold wX_smallestFreeObject_2
      exact br_f h1 ⟨h2, br_t (by rw [h3]; exact z) hp⟩
    · obtain ⟨f, hf, hz, hX, hY⟩ := ih (j + 1) (by omega)
      refine ⟨f, hf, hz, fun post hp => ?_, fun post hp => ?_⟩
      · obtain ⟨n, hn⟩ := hX post hp
        refine ⟨n + 1, ?_⟩
        unfold wX_smallestFreeObject_2
        exact br_f h1 ⟨h2, br_f (by rw [h3]; exact z) (nm_r (nI_1 j) hn)⟩
      · obtain ⟨n, hn⟩ := hY post hp
        refine ⟨n + 1, ?_⟩
        unfold wY_create_16
        exact br_f h1 ⟨h2, br_f (by rw [h3]; exact z) (nm_r (nI_1 j) hn)⟩
theorem i_vc_create {k : Nat} {u : SX} {v : SY} (I : i_Rel k u v) (hk : k + 5 ≤ 2561) (v1 : Int32) (v2 : Int32) : wpX_create (fun r u' => wpY_create (fun r' v' => r' = r ∧ i_Rel (k + 5) u' v') v v1 v2) u v1 v2 := by
  obtain ⟨ls, lv, va, sec, hd, ak, ka, rnd, h, go, gr, gd, no, nr, rfl, rfl, H⟩ := I
  unfold wpX_create wpY_create
  dsimp only
  rcases aw_adr v1 v2 (lv, va, rnd, h, go, gr, gd, no, nr, ak, ka) with ⟨e, e0, e1, hX, hY⟩ | ⟨a, b, ha, hb, rfl, rfl, hX, hY⟩
  · exact hX _ (br_f e0 (hY _ (br_f e1 ⟨rfl, sr_mk5 H⟩)))
  · refine hX _ (br_t rfl ?_)
    have h16 : a * 8 + b < 16 := by omega
    have hi : vp_in (nI (a * 8 + b)) 16 := vp_in_nI h16 (by decide)
    have hc : (nI (a * 8 + b)).toNatClampNeg = a * 8 + b := nI_clamp (by omega)
    obtain ⟨f, hf, hz, fX, fY⟩ := lo_free ls lv va sec hd ak ka (nI a) (nI b) va rnd h go gr gd no nr ak ka 8 0 rfl
    unfold wpX_smallestFreeObject
    refine fX _ ?_
    rcases hz with rfl | ⟨hf8, z⟩
    · refine br_t (by decide) (aw_keepX ha ?_)
      dsimp only
      refine hY _ (br_t (by decide) (fY _ ⟨1, ?_⟩))
      unfold wY_create_16
      refine br_t (by decide) (aw_keepY ha ?_)
      exact ⟨rfl, sr_mk5 H⟩
    · obtain ⟨h1, h2, h3, h4⟩ := lo_8 f hf8
      refine br_f h4 ?_
      unfold wpX_placeOf
      rw [h3]
      refine ⟨h2, nm_e ⟨h2, nm_e (aw_renewX hf8 ?_)⟩⟩
      dsimp only
      rw [aw_pl]
      refine aw_newX hf8 ?_
      rw [hc]
      refine ⟨hi, nm_e (aw_keepX ha ?_)⟩
      dsimp only
      refine hY _ (br_t (by decide) (fY _ ⟨1, ?_⟩))
      unfold wY_create_16
      rw [h3, aw_pl]
      refine br_f h1 ⟨h2, br_t z ⟨h2, nm_e ⟨h2, nm_e ⟨h2, h2, nm_e (aw_giveY h16 hf8 ?_)⟩⟩⟩⟩
      refine aw_keepY ha ?_
      exact ⟨rfl, sr_mk (sr_fresh hk H hf8 (b := 15) (by decide) (a * 8 + b))⟩
theorem i_vc_restart {k : Nat} {u : SX} {v : SY} (I : i_Rel k u v) (hk : k + 5 ≤ 2561) : wpX_restart (fun u' => wpY_restart (fun v' => i_Rel (k + 5) u' v') v) u := by
  obtain ⟨ls, lv, va, sec, hd, ak, ka, rnd, h, go, gr, gd, no, nr, rfl, rfl, H⟩ := I
  unfold wpX_restart wpY_restart
  dsimp only
  have i0 : vp_in 0 2 := vp_in_nI (n := 0) (by decide) (by decide)
  have i1 : vp_in (0 + 1) 2 := vp_in_nI (n := 1) (by decide) (by decide)
  refine ⟨3, ?_⟩
  unfold wX_restart_2
  refine br_f (by decide) ⟨i0, nm_e (nm_e ?_)⟩
  unfold wX_restart_2
  refine br_f (by decide) ⟨i1, nm_e (nm_e ?_)⟩
  unfold wX_restart_2
  refine br_t (by decide) (nm_e (nm_e ?_))
  exact sr_mk5 H
theorem lo_count (f_lastSecret : Int32) (a_living a_value a_secret : Nat → Int32) (a_held : Nat → Int64) (a_answerKept a_keptAnswer : Nat → Int32) (y2 y3 y4 y5 y6 y7 y8 y9 y10 y11 : Nat → Int32) :
    ∀ d j : Nat, j + d = 8 → ∀ c : Int32, ∃ r : Int32, (∀ post : Int32 → Prop, post r → wX_alive_4 post f_lastSecret a_living a_value a_secret a_held a_answerKept a_keptAnswer (d + 1) c (nI j)) ∧ (∀ post : Int32 → Prop, post r → wY_alive_4 post a_living y2 y3 y4 y5 y6 y7 y8 y9 y10 y11 (d + 1) c (nI j)) := by
  intro d
  induction d with
  | zero =>
    intro j hj c
    obtain rfl : j = 8 := by omega
    refine ⟨c, fun post hp => ?_, fun post hp => ?_⟩
    · unfold wX_alive_4
      exact br_t (by decide) hp
    · unfold wY_alive_4
      exact br_t (by decide) hp
  | succ d ih =>
    intro j hj c
    obtain ⟨h1, h2, h3, h4⟩ := lo_8 j (by omega)
    by_cases z : a_living (nI j).toNatClampNeg = 0
    · obtain ⟨r, hX, hY⟩ := ih (j + 1) (by omega) c
      refine ⟨r, fun post hp => ?_, fun post hp => ?_⟩
      · unfold wX_alive_4
        exact br_f h1 ⟨h2, br_t z (nm_r (nI_1 j) (hX post hp))⟩
      · unfold wY_alive_4
        exact br_f h1 ⟨h2, br_t z (nm_r (nI_1 j) (hY post hp))⟩
    · obtain ⟨r, hX, hY⟩ := ih (j + 1) (by omega) (c + 1)
      refine ⟨r, fun post hp => ?_, fun post hp => ?_⟩
      · unfold wX_alive_4
        exact br_f h1 ⟨h2, br_f z (nm_e (nm_r (nI_1 j) (hX post hp)))⟩
      · unfold wY_alive_4
        exact br_f h1 ⟨h2, br_f z (nm_e (nm_r (nI_1 j) (hY post hp)))⟩
theorem i_vc_alive {k : Nat} {u : SX} {v : SY} (I : i_Rel k u v) (hk : k + 5 ≤ 2561) : wpX_alive (fun r => wpY_alive (fun r' => r' = r ∧ i_Rel (k + 5) u v) v) u := by
  obtain ⟨ls, lv, va, sec, hd, ak, ka, rnd, h, go, gr, gd, no, nr, rfl, rfl, H⟩ := I
  obtain ⟨r, hX, hY⟩ := lo_count ls lv va sec hd ak ka va rnd h go gr gd no nr ak ka 8 0 rfl 0
  unfold wpX_alive wpY_alive
  dsimp only
  exact ⟨9, hX _ ⟨9, hY _ ⟨rfl, sr_mk5 H⟩⟩⟩
