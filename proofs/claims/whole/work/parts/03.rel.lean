/-! ===== the relation ===== -/
/-- one slot: the component's long against the reference's six cells. Nothing held on either side; or the open bits are what the capability says now, the seal is what was given out, and the secret is the object's own just when the round is the object's own. c: the round it was given in, r: the object's round, j: how many secrets ago its secret was the newest -/
def sr_Slot (k : Nat) (ls : Int32) (sec rnd : Nat → Int32) (L : Int64) (h go gr gd no nr : Int32) : Prop :=
  (h = 0 ∧ L = 0) ∨ (h = 1 ∧ cl_b L 7 = true ∧ no = cp_o L ∧ nr = cp_r L ∧ go = cp_o (cp_g L) ∧ gr = cp_r (cp_g L) ∧
    ∃ c r j : Nat, c ≤ r ∧ r ≤ k ∧ j ≤ k ∧ gd = nI c ∧ rnd (cp_o (cp_g L)).toNatClampNeg = nI r ∧ (cp_s L = sec (cp_o (cp_g L)).toNatClampNeg ↔ c = r) ∧ cp_s L = ls + nI j * 1640531527)
def sr_All (k : Nat) (ls : Int32) (sec rnd : Nat → Int32) (hd : Nat → Int64) (h go gr gd no nr : Nat → Int32) : Prop :=
  (∀ o, ∃ r, r ≤ k ∧ rnd o = nI r) ∧ ∀ i, sr_Slot k ls sec rnd (hd i) (h i) (go i) (gr i) (gd i) (no i) (nr i)
def i_Rel (k : Nat) (u : SX) (v : SY) : Prop :=
  ∃ (ls : Int32) (lv va sec : Nat → Int32) (hd : Nat → Int64) (ak ka rnd h go gr gd no nr : Nat → Int32),
    u = (ls, lv, va, sec, hd, ak, ka) ∧ v = (lv, va, rnd, h, go, gr, gd, no, nr, ak, ka) ∧ sr_All k ls sec rnd hd h go gr gd no nr
theorem sr_up {k k' : Nat} {ls : Int32} {sec rnd : Nat → Int32} {L : Int64} {h go gr gd no nr : Int32} (hk : k ≤ k') (H : sr_Slot k ls sec rnd L h go gr gd no nr) : sr_Slot k' ls sec rnd L h go gr gd no nr := by
  rcases H with H | ⟨h1, h2, h3, h4, h5, h6, c, r, j, p1, p2, p3, p4⟩
  · exact Or.inl H
  · exact Or.inr ⟨h1, h2, h3, h4, h5, h6, c, r, j, p1, by omega, by omega, p4⟩
theorem sr_upA {k k' : Nat} {ls : Int32} {sec rnd : Nat → Int32} {hd : Nat → Int64} {h go gr gd no nr : Nat → Int32} (hk : k ≤ k') (H : sr_All k ls sec rnd hd h go gr gd no nr) : sr_All k' ls sec rnd hd h go gr gd no nr := by
  refine ⟨fun o => ?_, fun i => sr_up hk (H.2 i)⟩
  obtain ⟨r, hr, e⟩ := H.1 o
  exact ⟨r, by omega, e⟩
theorem sr_mk {k : Nat} {ls : Int32} {lv va sec : Nat → Int32} {hd : Nat → Int64} {ak ka rnd h go gr gd no nr : Nat → Int32} (H : sr_All k ls sec rnd hd h go gr gd no nr) : i_Rel k (ls, lv, va, sec, hd, ak, ka) (lv, va, rnd, h, go, gr, gd, no, nr, ak, ka) :=
  ⟨ls, lv, va, sec, hd, ak, ka, rnd, h, go, gr, gd, no, nr, rfl, rfl, H⟩
theorem sr_mk5 {k : Nat} {ls : Int32} {lv va sec : Nat → Int32} {hd : Nat → Int64} {ak ka rnd h go gr gd no nr : Nat → Int32} (H : sr_All k ls sec rnd hd h go gr gd no nr) : i_Rel (k + 5) (ls, lv, va, sec, hd, ak, ka) (lv, va, rnd, h, go, gr, gd, no, nr, ak, ka) :=
  sr_mk (sr_upA (by omega) H)
theorem i_up {k : Nat} {u : SX} {v : SY} (h : i_Rel k u v) : i_Rel (k + 5) u v := by
  obtain ⟨ls, lv, va, sec, hd, ak, ka, rnd, h, go, gr, gd, no, nr, rfl, rfl, H⟩ := h
  exact sr_mk5 H
theorem i_vc0 (k0 : Int32) : wpX_init (fun u => wpY_init (fun v => i_Rel 1 u v) k0) k0 := by
  unfold wpX_init wpY_init
  exact sr_mk ⟨fun o => ⟨0, by omega, rfl⟩, fun i => Or.inl ⟨rfl, rfl⟩⟩
theorem sr_put {k : Nat} {ls : Int32} {sec rnd : Nat → Int32} {hd : Nat → Int64} {h go gr gd no nr : Nat → Int32} (H : sr_All k ls sec rnd hd h go gr gd no nr) {L : Int64} {x1 x2 x3 x4 x5 x6 : Int32} (S : sr_Slot k ls sec rnd L x1 x2 x3 x4 x5 x6) (a : Nat) :
    sr_All k ls sec rnd (vp_updL hd a L) (upd h a x1) (upd go a x2) (upd gr a x3) (upd gd a x4) (upd no a x5) (upd nr a x6) := by
  refine ⟨H.1, fun i => ?_⟩
  by_cases e : i = a
  · subst e
    rw [pk_uLs, pk_us, pk_us, pk_us, pk_us, pk_us, pk_us]
    exact S
  · rw [pk_uLn e, pk_un e, pk_un e, pk_un e, pk_un e, pk_un e, pk_un e]
    exact H.2 i
theorem sr_clr {k : Nat} {ls : Int32} {sec rnd : Nat → Int32} {hd : Nat → Int64} {h go gr gd no nr : Nat → Int32} (H : sr_All k ls sec rnd hd h go gr gd no nr) (a : Nat) :
    sr_All k ls sec rnd (vp_updL hd a 0) (upd h a 0) go gr gd no nr := by
  refine ⟨H.1, fun i => ?_⟩
  by_cases e : i = a
  · subst e
    rw [pk_uLs, pk_us]
    exact Or.inl ⟨rfl, rfl⟩
  · rw [pk_uLn e, pk_un e]
    exact H.2 i
theorem sr_tam {k : Nat} {ls : Int32} {sec rnd : Nat → Int32} {hd : Nat → Int64} {h go gr gd no nr : Nat → Int32} (H : sr_All k ls sec rnd hd h go gr gd no nr) (a : Nat) (hn : ¬ hd a = 0) (p : Int32) :
    sr_All k ls sec rnd (vp_updL hd a (hd a ^^^ (p &&& 127).toInt64)) h go gr gd (upd no a (no a ^^^ ((p >>> ((4 : Int32) &&& 31)) &&& 7))) (upd nr a (nr a ^^^ (p &&& 15))) := by
  refine ⟨H.1, fun i => ?_⟩
  by_cases e : i = a
  · subst e
    rw [pk_uLs, pk_us, pk_us]
    rcases H.2 i with ⟨_, z⟩ | ⟨h1, h2, h3, h4, h5, h6, c, r, j, p1, p2, p3, p4, p5, p6, p7⟩
    · exact absurd z hn
    · refine Or.inr ⟨h1, ?_, ?_, ?_, ?_, ?_, c, r, j, p1, p2, p3, p4, ?_, ?_, ?_⟩
      · rw [cx_hi _ _ (by decide) (by decide)]
        exact h2
      · rw [cx_o, h3]
      · rw [cx_r, h4]
      · rw [cx_go, h5]
      · rw [cx_gr, h6]
      · rw [cx_go]
        exact p5
      · rw [cx_go, cx_s]
        exact p6
      · rw [cx_s]
        exact p7
  · rw [pk_uLn e, pk_un e, pk_un e]
    exact H.2 i
theorem sr_new {k : Nat} {ls : Int32} {sec rnd : Nat → Int32} {a b j R : Nat} (ha : a < 8) (hb : b < 16) (hR : R ≤ k) (eR : rnd a = nI R) (hj : j ≤ k) (es : sec a = ls + nI j * 1640531527) :
    sr_Slot k ls sec rnd (cp_m (sec a) (nI a) (nI b)) 1 (nI a) (nI b) (rnd a) (nI a) (nI b) := by
  have ho := cm_hi a 3 ha
  have hr := cm_hi b 4 hb
  have ca : (nI a).toNatClampNeg = a := nI_clamp (by omega)
  refine Or.inr ⟨rfl, cm_7 ho hr, (cm_o ho hr).symm, (cm_r ho hr).symm, (cm_go ho hr).symm, (cm_gr ho hr).symm, R, R, j, by omega, hR, hj, eR, ?_, ?_, ?_⟩
  · rw [cm_go ho hr, ca]
    exact eR
  · rw [cm_go ho hr, ca, cm_s ho hr]
    exact ⟨fun _ => rfl, fun _ => rfl⟩
  · rw [cm_s ho hr]
    exact es
theorem sr_renew {k : Nat} {ls : Int32} {sec rnd : Nat → Int32} {L : Int64} {h go gr gd no nr : Int32} (hk : k + 5 ≤ 2561) (H : sr_Slot k ls sec rnd L h go gr gd no nr) (o : Nat) :
    sr_Slot (k + 5) (ls + (-1640531527)) (upd sec o (ls + (-1640531527))) (upd rnd o (rnd o + 1)) L h go gr gd no nr := by
  rcases H with H | ⟨h1, h2, h3, h4, h5, h6, c, r, j, p1, p2, p3, p4, p5, p6, p7⟩
  · exact Or.inl H
  · by_cases e : (cp_o (cp_g L)).toNatClampNeg = o
    · subst e
      refine Or.inr ⟨h1, h2, h3, h4, h5, h6, c, r + 1, j + 1, by omega, by omega, by omega, p4, ?_, ?_, ?_⟩
      · rw [pk_us, p5, nI_1]
      · rw [pk_us, p7, cf_st]
        constructor
        · exact fun z => absurd z (cf_ne (by omega))
        · exact fun z => absurd z (by omega)
      · rw [p7, cf_st]
    · refine Or.inr ⟨h1, h2, h3, h4, h5, h6, c, r, j + 1, p1, by omega, by omega, p4, ?_, ?_, ?_⟩
      · rw [pk_un e]
        exact p5
      · rw [pk_un e]
        exact p6
      · rw [p7, cf_st]
/-- a secret renewed, and one new capability for its object laid into a slot: create and revoke -/
theorem sr_fresh {k : Nat} {ls : Int32} {sec rnd : Nat → Int32} {hd : Nat → Int64} {h go gr gd no nr : Nat → Int32} (hk : k + 5 ≤ 2561) (H : sr_All k ls sec rnd hd h go gr gd no nr) {a b : Nat} (ha : a < 8) (hb : b < 16) (i : Nat) :
    sr_All (k + 5) (ls + (-1640531527)) (upd sec a (ls + (-1640531527))) (upd rnd a (rnd a + 1))
      (vp_updL hd i (cp_m (upd sec a (ls + (-1640531527)) a) (nI a) (nI b))) (upd h i 1) (upd go i (nI a)) (upd gr i (nI b)) (upd gd i (upd rnd a (rnd a + 1) a)) (upd no i (nI a)) (upd nr i (nI b)) := by
  have H' : sr_All (k + 5) (ls + (-1640531527)) (upd sec a (ls + (-1640531527))) (upd rnd a (rnd a + 1)) hd h go gr gd no nr := by
    refine ⟨fun o => ?_, fun i => sr_renew hk (H.2 i) a⟩
    by_cases e : o = a
    · subst e
      obtain ⟨r, hr, e⟩ := H.1 o
      exact ⟨r + 1, by omega, by rw [pk_us, e, nI_1]⟩
    · obtain ⟨r, hr, e2⟩ := H.1 o
      exact ⟨r, by omega, by rw [pk_un e, e2]⟩
  obtain ⟨R, hR, eR⟩ := H'.1 a
  refine sr_put H' (sr_new ha hb hR eR (j := 0) (by omega) ?_) i
  rw [pk_us, show nI 0 = 0 from rfl, Int32.zero_mul, Int32.add_zero]
