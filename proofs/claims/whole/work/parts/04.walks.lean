/-! ===== small walks: users, slots, places, keep, give ===== -/
theorem aw_nar1 : vp_nar .boolean 1 = 1 := by rfl
theorem aw_nar0 : vp_nar .boolean 0 = 0 := by rfl
theorem aw_8 : ∀ b, b < 8 → ¬ nI b < 0 ∧ ¬ 8 ≤ nI b ∧ nI b ≤ 7 := by decide +kernel
theorem aw_2 : ∀ a, a < 2 → ¬ nI a < 0 ∧ ¬ 2 ≤ nI a ∧ (nI a = 0 ∨ (¬ nI a = 0 ∧ nI a = 1)) := by decide +kernel
theorem aw_16 : ∀ a, a < 16 → ¬ nI a < 0 ∧ nI a ≤ 15 := by decide +kernel
theorem aw_pl (a b : Nat) : nI a * 8 + nI b = nI (a * 8 + b) := by
  show nI a * nI 8 + nI b = _
  rw [pk_mul, nI_add]
theorem aw_ix (x : Int32) {n : Nat} (hn : n < 2 ^ 31) : x < 0 ∨ (¬ x < 0 ∧ nI n ≤ x) ∨ ∃ j : Nat, j < n ∧ x = nI j := by
  by_cases h : x < 0
  · exact Or.inl h
  · obtain ⟨j, hj, rfl⟩ := nI_of h
    by_cases h2 : j < n
    · exact Or.inr (Or.inr ⟨j, h2, rfl⟩)
    · exact Or.inr (Or.inl ⟨h, nI_le (by omega) hj⟩)
theorem aw_n7 {x : Int32} (h : 8 ≤ x) : ¬ x ≤ 7 := by
  rw [Int32.le_iff_toInt_le] at h ⊢
  have e8 : (8 : Int32).toInt = 8 := by decide
  have e7 : (7 : Int32).toInt = 7 := by decide
  omega
theorem aw_n15 {x : Int32} (h : 16 ≤ x) : ¬ x ≤ 15 := by
  rw [Int32.le_iff_toInt_le] at h ⊢
  have e8 : (16 : Int32).toInt = 16 := by decide
  have e7 : (15 : Int32).toInt = 15 := by decide
  omega
theorem aw_n01 {x : Int32} (h : 2 ≤ x) : ¬ x = 0 ∧ ¬ x = 1 := by
  constructor
  · intro e
    subst e
    exact absurd h (by decide)
  · intro e
    subst e
    exact absurd h (by decide)
theorem aw_m01 {x : Int32} (h : x < 0) : ¬ x = 0 ∧ ¬ x = 1 := by
  constructor
  · intro e
    subst e
    exact absurd h (by decide)
  · intro e
    subst e
    exact absurd h (by decide)
theorem aw_user (p : Int32) : ((∀ post : Int32 → Prop, post 0 → wpX_isUser post p) ∧ ¬ p = 0 ∧ ¬ p = 1) ∨ ∃ a, a < 2 ∧ p = nI a ∧ (∀ post : Int32 → Prop, post 1 → wpX_isUser post p) := by
  rcases aw_ix p (n := 2) (by decide) with h | ⟨h, h2⟩ | ⟨a, ha, rfl⟩
  · refine Or.inl ⟨fun post hp => ?_, aw_m01 h⟩
    unfold wpX_isUser
    exact br_t h hp
  · refine Or.inl ⟨fun post hp => ?_, aw_n01 h2⟩
    unfold wpX_isUser
    exact br_f h (br_t h2 hp)
  · refine Or.inr ⟨a, ha, rfl, fun post hp => ?_⟩
    unfold wpX_isUser
    exact br_f (aw_2 a ha).1 (br_f (aw_2 a ha).2.1 hp)
theorem aw_slot (p : Int32) : ((∀ post : Int32 → Prop, post 0 → wpX_isSlot post p) ∧ (∀ (post : Int32 → Prop) (y1 y2 y3 y4 y5 y6 y7 y8 y9 y10 y11 : Nat → Int32), post (-2) → wY_refusal_11 post p y1 y2 y3 y4 y5 y6 y7 y8 y9 y10 y11)) ∨ ∃ b, b < 8 ∧ p = nI b ∧ (∀ post : Int32 → Prop, post 1 → wpX_isSlot post p) ∧ (∀ (post : Int32 → Prop) (y1 y2 y3 y4 y5 y6 y7 y8 y9 y10 y11 : Nat → Int32), post 0 → wY_refusal_11 post p y1 y2 y3 y4 y5 y6 y7 y8 y9 y10 y11) := by
  rcases aw_ix p (n := 8) (by decide) with h | ⟨h, h2⟩ | ⟨b, hb, rfl⟩
  · refine Or.inl ⟨fun post hp => ?_, fun post y1 y2 y3 y4 y5 y6 y7 y8 y9 y10 y11 hp => ?_⟩
    · unfold wpX_isSlot
      exact br_t h hp
    · unfold wY_refusal_11
      exact br_t h hp
  · refine Or.inl ⟨fun post hp => ?_, fun post y1 y2 y3 y4 y5 y6 y7 y8 y9 y10 y11 hp => ?_⟩
    · unfold wpX_isSlot
      exact br_f h (br_t h2 hp)
    · unfold wY_refusal_11
      exact br_f h (br_f (aw_n7 h2) hp)
  · obtain ⟨h1, h2, h3⟩ := aw_8 b hb
    refine Or.inr ⟨b, hb, rfl, fun post hp => ?_, fun post y1 y2 y3 y4 y5 y6 y7 y8 y9 y10 y11 hp => ?_⟩
    · unfold wpX_isSlot
      exact br_f h1 (br_f h2 hp)
    · unfold wY_refusal_11
      exact br_f h1 (br_t h3 hp)
theorem aw_ref {a : Nat} (ha : a < 2) (p : Int32) {post : Int32 → Prop} (v : SY) (e : Int32) (h : ∀ (y1 y2 y3 y4 y5 y6 y7 y8 y9 y10 y11 : Nat → Int32), wY_refusal_11 post p y1 y2 y3 y4 y5 y6 y7 y8 y9 y10 y11) : wpY_refusal post v (nI a) p := by
  obtain ⟨y1, y2, y3, y4, y5, y6, y7, y8, y9, y10, y11⟩ := v
  unfold wpY_refusal
  dsimp only
  rcases (aw_2 a ha).2.2 with z | ⟨z, z1⟩
  · exact br_t z (h ..)
  · exact br_f z (br_t z1 (h ..))
/-- the two sides test user and slot alike -/
theorem aw_to {a : Nat} (ha : a < 2) (p : Int32) (v : SY) : ((∀ post : Int32 → Prop, post 0 → wpX_isSlot post p) ∧ (∀ post : Int32 → Prop, post (-2) → wpY_refusal post v (nI a) p)) ∨ ∃ b, b < 8 ∧ p = nI b ∧ (∀ post : Int32 → Prop, post 1 → wpX_isSlot post p) ∧ (∀ post : Int32 → Prop, post 0 → wpY_refusal post v (nI a) p) := by
  rcases aw_slot p with ⟨hX, hY⟩ | ⟨b, hb, e, hX, hY⟩
  · exact Or.inl ⟨hX, fun post hp => aw_ref ha p v (-2) (fun y1 y2 y3 y4 y5 y6 y7 y8 y9 y10 y11 => hY post y1 y2 y3 y4 y5 y6 y7 y8 y9 y10 y11 hp)⟩
  · exact Or.inr ⟨b, hb, e, hX, fun post hp => aw_ref ha p v 0 (fun y1 y2 y3 y4 y5 y6 y7 y8 y9 y10 y11 => hY post y1 y2 y3 y4 y5 y6 y7 y8 y9 y10 y11 hp)⟩
theorem aw_adr (p0 p1 : Int32) (v : SY) :
    (∃ e : Int32, ¬ e = 0 ∧ ¬ 0 ≤ e ∧ (∀ post : Int32 → Prop, post e → wpX_addressFault post p0 p1) ∧ (∀ post : Int32 → Prop, post e → wpY_refusal post v p0 p1)) ∨
    ∃ a b, a < 2 ∧ b < 8 ∧ p0 = nI a ∧ p1 = nI b ∧ (∀ post : Int32 → Prop, post 0 → wpX_addressFault post p0 p1) ∧ (∀ post : Int32 → Prop, post 0 → wpY_refusal post v p0 p1) := by
  rcases aw_user p0 with ⟨hU, n0, n1⟩ | ⟨a, ha, rfl, hU⟩
  · refine Or.inl ⟨-1, by decide, by decide, fun post hp => ?_, fun post hp => ?_⟩
    · unfold wpX_addressFault
      exact hU _ (br_t rfl hp)
    · obtain ⟨y1, y2, y3, y4, y5, y6, y7, y8, y9, y10, y11⟩ := v
      unfold wpY_refusal
      exact br_f n0 (br_f n1 hp)
  · rcases aw_to ha p1 v with ⟨hX, hY⟩ | ⟨b, hb, rfl, hX, hY⟩
    · refine Or.inl ⟨-2, by decide, by decide, fun post hp => ?_, hY⟩
      unfold wpX_addressFault
      exact hU _ (br_f (by decide) (hX _ (br_t rfl hp)))
    · refine Or.inr ⟨a, b, ha, hb, rfl, rfl, fun post hp => ?_, hY⟩
      unfold wpX_addressFault
      exact hU _ (br_f (by decide) (hX _ (br_f (by decide) hp)))
theorem aw_keepX {a : Nat} (ha : a < 2) {p : Int32} {post : Int32 → SX → Prop} {ls : Int32} {lv va sec : Nat → Int32} {hd : Nat → Int64} {ak ka : Nat → Int32} (h : post p (ls, lv, va, sec, hd, upd ak a 1, upd ka a p)) : wpX_keep post (ls, lv, va, sec, hd, ak, ka) (nI a) p := by
  have hi : vp_in (nI a) 2 := vp_in_nI ha (by decide)
  unfold wpX_keep
  dsimp only
  rw [nI_clamp (show a < 2 ^ 31 by omega), aw_nar1]
  exact ⟨hi, nm_e ⟨hi, nm_e h⟩⟩
theorem aw_keepY {a : Nat} (ha : a < 2) {p : Int32} {post : Int32 → SY → Prop} {lv va rnd h go gr gd no nr ak ka : Nat → Int32} (hp : post p (lv, va, rnd, h, go, gr, gd, no, nr, upd ak a 1, upd ka a p)) : wpY_answered post (lv, va, rnd, h, go, gr, gd, no, nr, ak, ka) (nI a) p := by
  have hi : vp_in (nI a) 2 := vp_in_nI ha (by decide)
  unfold wpY_answered
  dsimp only
  rw [nI_clamp (show a < 2 ^ 31 by omega), aw_nar1]
  exact ⟨hi, nm_e ⟨hi, nm_e hp⟩⟩
theorem aw_giveY {i q : Nat} (hi : i < 16) (hq : q < 8) {r : Int32} {post : SY → Prop} {lv va rnd h go gr gd no nr ak ka : Nat → Int32}
    (hp : post (lv, va, rnd, upd h i 1, upd go i (nI q), upd gr i r, upd gd i (rnd q), upd no i (nI q), upd nr i r, ak, ka)) : wpY_give post (lv, va, rnd, h, go, gr, gd, no, nr, ak, ka) (nI i) (nI q) r := by
  have h1 : vp_in (nI i) 16 := vp_in_nI hi (by decide)
  have h2 : vp_in (nI q) 8 := vp_in_nI hq (by decide)
  unfold wpY_give
  dsimp only
  rw [nI_clamp (show i < 2 ^ 31 by omega), nI_clamp (show q < 2 ^ 31 by omega), aw_nar1]
  exact ⟨h1, nm_e ⟨h1, nm_e ⟨h1, nm_e ⟨h2, h1, nm_e ⟨h1, nm_e ⟨h1, nm_e hp⟩⟩⟩⟩⟩⟩
theorem aw_renewX {q : Nat} (hq : q < 8) {post : SX → Prop} {ls : Int32} {lv va sec : Nat → Int32} {hd : Nat → Int64} {ak ka : Nat → Int32} (h : post (ls + (-1640531527), lv, va, upd sec q (ls + (-1640531527)), hd, ak, ka)) : wpX_renewSecret post (ls, lv, va, sec, hd, ak, ka) (nI q) := by
  have h2 : vp_in (nI q) 8 := vp_in_nI hq (by decide)
  unfold wpX_renewSecret
  dsimp only
  rw [nI_clamp (show q < 2 ^ 31 by omega)]
  exact nm_e ⟨h2, nm_e h⟩
theorem aw_newX {q : Nat} (hq : q < 8) {r : Int32} {post : Int64 → Prop} {ls : Int32} {lv va sec : Nat → Int32} {hd : Nat → Int64} {ak ka : Nat → Int32} (h : post (cp_m (sec q) (nI q) r)) : wpX_newCapability post (ls, lv, va, sec, hd, ak, ka) (nI q) r := by
  have h2 : vp_in (nI q) 8 := vp_in_nI hq (by decide)
  unfold wpX_newCapability
  dsimp only
  rw [nI_clamp (show q < 2 ^ 31 by omega)]
  exact nm_e ⟨h2, nm_e h⟩
