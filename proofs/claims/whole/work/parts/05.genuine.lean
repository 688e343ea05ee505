/-! ===== genuine, permits ===== -/
/-- what both sides know of a slot whose capability is genuine -/
def gn_Is (k : Nat) (ls : Int32) (sec : Nat → Int32) (L : Int64) (h no nr : Int32) : Prop :=
  h = 1 ∧ no = cp_o L ∧ nr = cp_r L ∧ sec (cp_o L).toNatClampNeg = cp_s L ∧ ∃ j, j ≤ k ∧ cp_s L = ls + nI j * 1640531527
theorem gn_X0 {post : Int32 → Prop} {ls : Int32} {lv va sec : Nat → Int32} {hd : Nat → Int64} {ak ka : Nat → Int32} {L : Int64} (z : L = 0) (hp : post 0) : wpX_isGenuine post (ls, lv, va, sec, hd, ak, ka) L := by
  unfold wpX_isGenuine wpX_objectIn
  exact br_t z hp
theorem gn_X1 {post : Int32 → Prop} {ls : Int32} {lv va sec : Nat → Int32} {hd : Nat → Int64} {ak ka : Nat → Int32} {L : Int64} (z : ¬ L = 0) (f : ¬ cp_g L &&& 127 = L &&& 127) (hp : post 0) : wpX_isGenuine post (ls, lv, va, sec, hd, ak, ka) L := by
  unfold wpX_isGenuine wpX_objectIn wpX_sealFits
  exact br_f z (nm_e (nm_e (br_f f (br_t rfl hp))))
theorem gn_X2 {post : Int32 → Prop} {ls : Int32} {lv va sec : Nat → Int32} {hd : Nat → Int64} {ak ka : Nat → Int32} {L : Int64} (z : ¬ L = 0) (f : cp_g L &&& 127 = L &&& 127) (i : vp_in (cp_o L) 8) (l : lv (cp_o L).toNatClampNeg = 0) (hp : post 0) : wpX_isGenuine post (ls, lv, va, sec, hd, ak, ka) L := by
  unfold wpX_isGenuine wpX_objectIn wpX_sealFits
  exact br_f z (nm_e (nm_e (br_t f (br_f (by decide) ⟨i, br_t l hp⟩))))
theorem gn_X3 {post : Int32 → Prop} {ls : Int32} {lv va sec : Nat → Int32} {hd : Nat → Int64} {ak ka : Nat → Int32} {L : Int64} (z : ¬ L = 0) (f : cp_g L &&& 127 = L &&& 127) (i : vp_in (cp_o L) 8) (l : ¬ lv (cp_o L).toNatClampNeg = 0) (s : ¬ cp_s L = sec (cp_o L).toNatClampNeg) (hp : post 0) : wpX_isGenuine post (ls, lv, va, sec, hd, ak, ka) L := by
  unfold wpX_isGenuine wpX_objectIn wpX_sealFits
  exact br_f z (nm_e (nm_e (br_t f (br_f (by decide) ⟨i, br_f l ⟨i, br_f s hp⟩⟩))))
theorem gn_X4 {post : Int32 → Prop} {ls : Int32} {lv va sec : Nat → Int32} {hd : Nat → Int64} {ak ka : Nat → Int32} {L : Int64} (z : ¬ L = 0) (f : cp_g L &&& 127 = L &&& 127) (i : vp_in (cp_o L) 8) (l : ¬ lv (cp_o L).toNatClampNeg = 0) (s : cp_s L = sec (cp_o L).toNatClampNeg) (hp : post 1) : wpX_isGenuine post (ls, lv, va, sec, hd, ak, ka) L := by
  unfold wpX_isGenuine wpX_objectIn wpX_sealFits
  exact br_f z (nm_e (nm_e (br_t f (br_f (by decide) ⟨i, br_f l ⟨i, br_t s hp⟩⟩))))
section
variable {post : Int32 → Prop} {lv va rnd h go gr gd no nr ak ka : Nat → Int32} {a b : Nat}
theorem gn_rY (ha : a < 2) (hb : b < 8) (v : SY) {q : Int32 → Prop} (hq : q 0) : wpY_refusal q v (nI a) (nI b) := by
  rcases aw_adr (nI a) (nI b) v with ⟨e, _, _, hX, _⟩ | ⟨_, _, _, _, _, _, _, hY⟩
  · exact absurd (hX (fun r => r = 0 → False) (fun z => by contradiction)) (by
      unfold wpX_addressFault wpX_isUser wpX_isSlot
      intro w
      have w1 := (w.2 (aw_2 a ha).1).2 (aw_2 a ha).2.1
      have w2 := ((w1.2 (by decide)).2 (aw_8 b hb).1).2 (aw_8 b hb).2.1
      exact w2.2 (by decide) rfl)
  · exact hY q hq
theorem gn_Y0 (ha : a < 2) (hb : b < 8) (z : h (a * 8 + b) = 0) (hp : post 0) : wpY_genuine post (lv, va, rnd, h, go, gr, gd, no, nr, ak, ka) (nI a) (nI b) := by
  have hi : vp_in (nI (a * 8 + b)) 16 := vp_in_nI (by omega) (by decide)
  have hc : (nI (a * 8 + b)).toNatClampNeg = a * 8 + b := nI_clamp (by omega)
  unfold wpY_genuine
  dsimp only
  refine gn_rY ha hb _ (br_t (by decide) (nm_r (aw_pl a b) ?_))
  rw [hc]
  exact ⟨hi, br_t z hp⟩
theorem gn_Y1 (ha : a < 2) (hb : b < 8) (z : ¬ h (a * 8 + b) = 0) (f : ¬ (no (a * 8 + b) = go (a * 8 + b) ∧ nr (a * 8 + b) = gr (a * 8 + b))) (hp : post 0) : wpY_genuine post (lv, va, rnd, h, go, gr, gd, no, nr, ak, ka) (nI a) (nI b) := by
  have hi : vp_in (nI (a * 8 + b)) 16 := vp_in_nI (by omega) (by decide)
  have hc : (nI (a * 8 + b)).toNatClampNeg = a * 8 + b := nI_clamp (by omega)
  unfold wpY_genuine
  dsimp only
  refine gn_rY ha hb _ (br_t (by decide) (nm_r (aw_pl a b) ?_))
  rw [hc]
  refine ⟨hi, br_f z ⟨hi, hi, ?_⟩⟩
  by_cases g : no (a * 8 + b) = go (a * 8 + b)
  · exact br_t g ⟨hi, hi, br_f (fun y => f ⟨g, y⟩) hp⟩
  · exact br_f g hp
theorem gn_Y2 (ha : a < 2) (hb : b < 8) (z : ¬ h (a * 8 + b) = 0) (f : no (a * 8 + b) = go (a * 8 + b) ∧ nr (a * 8 + b) = gr (a * 8 + b)) (i : vp_in (no (a * 8 + b)) 8) (l : lv (no (a * 8 + b)).toNatClampNeg = 0) (hp : post 0) : wpY_genuine post (lv, va, rnd, h, go, gr, gd, no, nr, ak, ka) (nI a) (nI b) := by
  have hi : vp_in (nI (a * 8 + b)) 16 := vp_in_nI (by omega) (by decide)
  have hc : (nI (a * 8 + b)).toNatClampNeg = a * 8 + b := nI_clamp (by omega)
  unfold wpY_genuine
  dsimp only
  refine gn_rY ha hb _ (br_t (by decide) (nm_r (aw_pl a b) ?_))
  rw [hc]
  exact ⟨hi, br_f z ⟨hi, hi, br_t f.1 ⟨hi, hi, br_t f.2 ⟨hi, i, br_t l hp⟩⟩⟩⟩
theorem gn_Y3 (ha : a < 2) (hb : b < 8) (z : ¬ h (a * 8 + b) = 0) (f : no (a * 8 + b) = go (a * 8 + b) ∧ nr (a * 8 + b) = gr (a * 8 + b)) (i : vp_in (no (a * 8 + b)) 8) (l : ¬ lv (no (a * 8 + b)).toNatClampNeg = 0) (s : ¬ rnd (no (a * 8 + b)).toNatClampNeg = gd (a * 8 + b)) (hp : post 0) : wpY_genuine post (lv, va, rnd, h, go, gr, gd, no, nr, ak, ka) (nI a) (nI b) := by
  have hi : vp_in (nI (a * 8 + b)) 16 := vp_in_nI (by omega) (by decide)
  have hc : (nI (a * 8 + b)).toNatClampNeg = a * 8 + b := nI_clamp (by omega)
  unfold wpY_genuine
  dsimp only
  refine gn_rY ha hb _ (br_t (by decide) (nm_r (aw_pl a b) ?_))
  rw [hc]
  exact ⟨hi, br_f z ⟨hi, hi, br_t f.1 ⟨hi, hi, br_t f.2 ⟨hi, i, br_f l ⟨hi, i, hi, br_f s hp⟩⟩⟩⟩⟩
theorem gn_Y4 (ha : a < 2) (hb : b < 8) (z : ¬ h (a * 8 + b) = 0) (f : no (a * 8 + b) = go (a * 8 + b) ∧ nr (a * 8 + b) = gr (a * 8 + b)) (i : vp_in (no (a * 8 + b)) 8) (l : ¬ lv (no (a * 8 + b)).toNatClampNeg = 0) (s : rnd (no (a * 8 + b)).toNatClampNeg = gd (a * 8 + b)) (hp : post 1) : wpY_genuine post (lv, va, rnd, h, go, gr, gd, no, nr, ak, ka) (nI a) (nI b) := by
  have hi : vp_in (nI (a * 8 + b)) 16 := vp_in_nI (by omega) (by decide)
  have hc : (nI (a * 8 + b)).toNatClampNeg = a * 8 + b := nI_clamp (by omega)
  unfold wpY_genuine
  dsimp only
  refine gn_rY ha hb _ (br_t (by decide) (nm_r (aw_pl a b) ?_))
  rw [hc]
  exact ⟨hi, br_f z ⟨hi, hi, br_t f.1 ⟨hi, hi, br_t f.2 ⟨hi, i, br_f l ⟨hi, i, hi, br_t s hp⟩⟩⟩⟩⟩
end
theorem gn_both {k : Nat} {ls : Int32} {sec rnd : Nat → Int32} {hd : Nat → Int64} {h go gr gd no nr : Nat → Int32} (hk : k + 5 ≤ 2561) (H : sr_All k ls sec rnd hd h go gr gd no nr) {a b : Nat} (ha : a < 2) (hb : b < 8) (lv va ak ka : Nat → Int32) :
    ∃ g : Int32, (g = 0 ∨ (g = 1 ∧ gn_Is k ls sec (hd (a * 8 + b)) (h (a * 8 + b)) (no (a * 8 + b)) (nr (a * 8 + b)))) ∧
      (∀ post : Int32 → Prop, post g → wpX_isGenuine post (ls, lv, va, sec, hd, ak, ka) (hd (a * 8 + b))) ∧
      (∀ post : Int32 → Prop, post g → wpY_genuine post (lv, va, rnd, h, go, gr, gd, no, nr, ak, ka) (nI a) (nI b)) := by
  rcases H.2 (a * 8 + b) with ⟨h1, h2⟩ | ⟨h1, h2, h3, h4, h5, h6, c, r, j, p1, p2, p3, p4, p5, p6, p7⟩
  · exact ⟨0, Or.inl rfl, fun post hp => gn_X0 h2 hp, fun post hp => gn_Y0 ha hb h1 hp⟩
  · have nz : ¬ hd (a * 8 + b) = 0 := cm_nz h2
    have nh : ¬ h (a * 8 + b) = 0 := by
      rw [h1]
      decide
    have io : vp_in (cp_o (hd (a * 8 + b))) 8 := by
      obtain ⟨q, hq, e⟩ := cp_oN (hd (a * 8 + b))
      rw [e]
      exact vp_in_nI hq (by decide)
    have io' : vp_in (no (a * 8 + b)) 8 := by
      rw [h3]
      exact io
    by_cases f : cp_g (hd (a * 8 + b)) &&& 127 = hd (a * 8 + b) &&& 127
    · obtain ⟨f1, f2⟩ := (cp_fit _ _).mp f
      have fY : no (a * 8 + b) = go (a * 8 + b) ∧ nr (a * 8 + b) = gr (a * 8 + b) := ⟨by rw [h3, h5, f1], by rw [h4, h6, f2]⟩
      rw [← f1] at p5 p6
      by_cases l : lv (cp_o (hd (a * 8 + b))).toNatClampNeg = 0
      · exact ⟨0, Or.inl rfl, fun post hp => gn_X2 nz f io l hp, fun post hp => gn_Y2 ha hb nh fY io' (by rw [h3]; exact l) hp⟩
      · by_cases s : cp_s (hd (a * 8 + b)) = sec (cp_o (hd (a * 8 + b))).toNatClampNeg
        · have e : rnd (no (a * 8 + b)).toNatClampNeg = gd (a * 8 + b) := by
            rw [h3, p5, p4, p6.mp s]
          exact ⟨1, Or.inr ⟨rfl, h1, h3, h4, s.symm, j, p3, p7⟩, fun post hp => gn_X4 nz f io l s hp, fun post hp => gn_Y4 ha hb nh fY io' (by rw [h3]; exact l) e hp⟩
        · have e : ¬ rnd (no (a * 8 + b)).toNatClampNeg = gd (a * 8 + b) := by
            rw [h3, p5, p4, nI_eq (by omega) (by omega)]
            exact fun z => s (p6.mpr z.symm)
          exact ⟨0, Or.inl rfl, fun post hp => gn_X3 nz f io l s hp, fun post hp => gn_Y3 ha hb nh fY io' (by rw [h3]; exact l) e hp⟩
    · have fY : ¬ (no (a * 8 + b) = go (a * 8 + b) ∧ nr (a * 8 + b) = gr (a * 8 + b)) := by
        rw [h3, h4, h5, h6]
        exact fun z => f ((cp_fit _ _).mpr z)
      exact ⟨0, Or.inl rfl, fun post hp => gn_X1 nz f hp, fun post hp => gn_Y1 ha hb nh fY hp⟩
theorem gn_perm {k : Nat} {ls : Int32} {sec rnd : Nat → Int32} {hd : Nat → Int64} {h go gr gd no nr : Nat → Int32} (hk : k + 5 ≤ 2561) (H : sr_All k ls sec rnd hd h go gr gd no nr) {a b : Nat} (ha : a < 2) (hb : b < 8) {q : Int32} (hq : cq_ok q) (lv va ak ka : Nat → Int32) :
    ∃ g : Int32, (g = 0 ∨ (g = 1 ∧ gn_Is k ls sec (hd (a * 8 + b)) (h (a * 8 + b)) (no (a * 8 + b)) (nr (a * 8 + b)))) ∧
      (∀ post : Int32 → Prop, post g → wpX_permits post (ls, lv, va, sec, hd, ak, ka) (hd (a * 8 + b)) q) ∧
      (∀ post : Int32 → Prop, post g → wpY_allows post (lv, va, rnd, h, go, gr, gd, no, nr, ak, ka) (nI a) (nI b) q) := by
  have hi : vp_in (nI (a * 8 + b)) 16 := vp_in_nI (by omega) (by decide)
  have hc : (nI (a * 8 + b)).toNatClampNeg = a * 8 + b := nI_clamp (by omega)
  obtain ⟨g, hg, gX, gY⟩ := gn_both hk H ha hb lv va ak ka
  rcases hg with rfl | ⟨rfl, G⟩
  · refine ⟨0, Or.inl rfl, fun post hp => ?_, fun post hp => ?_⟩
    · unfold wpX_permits
      exact gX _ (br_t rfl hp)
    · unfold wpY_allows
      exact gY _ (br_t rfl hp)
  · obtain ⟨w, hw, ew⟩ := cp_rN (hd (a * 8 + b))
    have en : nr (a * 8 + b) = nI w := by rw [G.2.2.1, ew]
    by_cases z : (nI w &&& q) = 0
    · refine ⟨0, Or.inl rfl, fun post hp => ?_, fun post hp => ?_⟩
      · unfold wpX_permits
        refine gX _ (br_f (by decide) ?_)
        unfold wpX_rightsIn
        have z' : (cp_r (hd (a * 8 + b)) &&& q) = 0 := by rw [ew]; exact z
        exact br_t z' hp
      · unfold wpY_allows
        refine gY _ (br_f (by decide) ?_)
        rw [aw_pl, hc, en]
        exact ⟨hi, br_f (fun y => ((hq w hw).mp y) z) hp⟩
    · refine ⟨1, Or.inr ⟨rfl, G⟩, fun post hp => ?_, fun post hp => ?_⟩
      · unfold wpX_permits
        refine gX _ (br_f (by decide) ?_)
        unfold wpX_rightsIn
        have z' : ¬ (cp_r (hd (a * 8 + b)) &&& q) = 0 := by rw [ew]; exact z
        exact br_f z' hp
      · unfold wpY_allows
        refine gY _ (br_f (by decide) ?_)
        rw [aw_pl, hc, en]
        exact ⟨hi, br_t ((hq w hw).mpr z) hp⟩
