section
/-- the low 24 bits: masked as a long and cut, or cut and masked as an int -/
theorem sw_and (e : Int64) : (e &&& 16777215).toInt32 = e.toInt32 &&& 16777215 := by
  rw [Int64.toInt32_and]
  exact congrArg (fun z => e.toInt32 &&& z) (by decide)
theorem sw_24 : nI 24 = 24 := by decide +kernel
theorem sw_lo : ∀ c, c < 10 → ¬ (10 : Int32) ≤ nI c ∧ ¬ (0 : Int32) ≤ nI c - 10 ∧ nI c - 10 + 24 = nI (c + 14) := by decide +kernel
theorem sw_hi : ∀ c, c < 24 → 10 ≤ c → (10 : Int32) ≤ nI c ∧ (0 : Int32) ≤ nI c - 10 ∧ nI c - 10 = nI (c - 10) := by decide +kernel
theorem sw_23 : nI 23 = 23 ∧ nI 23 + 1 = 24 := by decide +kernel
theorem sw_ne : ∀ c, c < 24 → c ≠ 23 → ¬ nI c = 23 ∧ ¬ nI c + 1 = 24 := by decide +kernel
/-- the filling loop: one borrow and one array for both sides, whatever is asked of them -/
theorem sw_fill (bx cx by' cy m : Int32) : ∀ d j : Nat, j + d = 24 → ∀ (e : Int64) (a : Nat → Int32), ∃ (b : Int32) (a' : Nat → Int32),
    (∀ post : SX → Prop, post (b, 0, a') → wX_fillFrom_8 post bx cx (d + 1) e (nI j) a) ∧
    (∀ post : Int32 → SY → Prop, post m (b, 0, a') → wY_seed_33 post m by' cy (d + 1) e (nI j) a) := by
  intro d
  induction d with
  | zero =>
    intro j hj e a
    have h : (24 : Int32) ≤ nI j := by rw [← sw_24]; exact nI_le (by omega) (by omega)
    by_cases z : a 23 = 0
    · exact ⟨1, a, fun _ hp => br_t h (br_t z hp), fun _ hp => br_t h (br_t z hp)⟩
    · exact ⟨0, a, fun _ hp => br_t h (br_f z hp), fun _ hp => br_t h (br_f z hp)⟩
  | succ d ih =>
    intro j hj e a
    have h : ¬ (24 : Int32) ≤ nI j := by rw [← sw_24]; exact nI_ge (by omega) (by omega)
    have hi : vp_in (nI j) 24 := vp_in_nI (by omega) (by omega)
    obtain ⟨b, a', hX, hY⟩ := ih (j + 1) (by omega) ((e * 40014) - (e * 40014) / 2147483563 * 2147483563)
      (upd a (nI j).toNatClampNeg (((e * 40014) - (e * 40014) / 2147483563 * 2147483563).toInt32 &&& 16777215))
    refine ⟨b, a', fun post hp => br_f h ⟨by decide, fun y ey => ⟨hi, fun a1 ea k ek => ?_⟩⟩, fun post hp => br_f h ⟨by decide, fun y ey => ⟨hi, fun a1 ea k ek => ?_⟩⟩⟩
    · rw [ek, nI_1, ea, sw_and, ey]; exact hX post hp
    · rw [ek, nI_1, ea, ey]; exact hY post hp
/-- the filling from a seed number that isn't 0 -/
theorem sw_from (s m bx cx by' cy : Int32) (a : Nat → Int32) : ∃ (b : Int32) (a' : Nat → Int32),
    (∀ post : SX → Prop, post (b, 0, a') → wpX_fillFrom post (bx, cx, a) s) ∧
    (∀ post : Int32 → SY → Prop, post m (b, 0, a') → wY_seed_11 post s m by' cy a) := by
  by_cases z : (s.toInt64 &&& 4294967295) - (s.toInt64 &&& 4294967295) / 2147483563 * 2147483563 = 0
  · obtain ⟨b, a', hX, hY⟩ := sw_fill bx cx by' cy m 24 0 rfl 1 a
    rw [nI_0] at hX hY
    exact ⟨b, a', fun post hp => ⟨by decide, fun y ey => br_t (ey.trans z) ⟨_, hX post hp⟩⟩, fun post hp => ⟨by decide, fun y ey => br_t (ey.trans z) ⟨_, hY post hp⟩⟩⟩
  · obtain ⟨b, a', hX, hY⟩ := sw_fill bx cx by' cy m 24 0 rfl ((s.toInt64 &&& 4294967295) - (s.toInt64 &&& 4294967295) / 2147483563 * 2147483563) a
    rw [nI_0] at hX hY
    refine ⟨b, a', fun post hp => ⟨by decide, fun y ey => ?_⟩, fun post hp => ⟨by decide, fun y ey => ?_⟩⟩
    · rw [← ey] at hX z; exact br_f z ⟨_, hX post hp⟩
    · rw [← ey] at hY z; exact br_f z ⟨_, hY post hp⟩
/-- the end of a step: the store and the cursor -/
theorem sw_tail (d b : Int32) (c : Nat) (hc : c < 24) (a : Nat → Int32) : ∃ c' : Nat, c' < 24 ∧
    (∀ post : Int32 → SX → Prop, post d (b, nI c', upd a (nI c).toNatClampNeg d) → wX_step_52 post d b (nI c) a) ∧
    (∀ post : Int32 → SY → Prop, post d (b, nI c', upd a (nI c).toNatClampNeg d) → wY_next_56 post d b (nI c) a) := by
  have hi : vp_in (nI c) 24 := vp_in_nI hc (by omega)
  by_cases z : c = 23
  · have z1 : nI c = 23 := by rw [z]; exact sw_23.1
    have z2 : nI c + 1 = 24 := by rw [z]; exact sw_23.2
    refine ⟨0, by decide, fun post hp => ⟨hi, fun a1 ea => ?_⟩, fun post hp y ey => ⟨hi, fun a1 ea => ?_⟩⟩
    · subst ea; exact br_t z1 hp
    · subst ea; exact br_t (ey.trans z2) hp
  · have w := sw_ne c hc z
    refine ⟨c + 1, by omega, fun post hp => ⟨hi, fun a1 ea => br_f w.1 fun y ey => ?_⟩, fun post hp y ey => ⟨hi, fun a1 ea => ?_⟩⟩
    · rw [ea, ey, nI_1]; exact hp
    · subst ea; subst ey; refine br_f w.2 ?_; rw [nI_1]; exact hp
/-- the middle of a step: the difference and the borrow -/
theorem sw_mid (b : Int32) (c j : Nat) (hc : c < 24) (hj : j < 24) (a : Nat → Int32) : ∃ (r b' : Int32) (c' : Nat) (a' : Nat → Int32), c' < 24 ∧
    (∀ post : Int32 → SX → Prop, post r (b', nI c', a') → vp_in (nI j) 24 ∧ (vp_in (nI c) 24 ∧ (∀ x2_4 : Int32, x2_4 = ((a (nI j).toNatClampNeg) - (a (nI c).toNatClampNeg)) - b → (((0 ≤ x2_4 → (wX_step_52 post x2_4 0 (nI c) a)) ∧ (¬ 0 ≤ x2_4 → (∀ x2_10 : Int32, x2_10 = x2_4 + 16777216 → (wX_step_52 post x2_10 1 (nI c) a)))))))) ∧
    (∀ post : Int32 → SY → Prop, post r (b', nI c', a') → wY_next_15 post (nI j) b (nI c) a) := by
  have hi : vp_in (nI c) 24 := vp_in_nI hc (by omega)
  have hj' : vp_in (nI j) 24 := vp_in_nI hj (by omega)
  by_cases z : 0 ≤ ((a (nI j).toNatClampNeg) - (a (nI c).toNatClampNeg)) - b
  · obtain ⟨c', hc', hX, hY⟩ := sw_tail (((a (nI j).toNatClampNeg) - (a (nI c).toNatClampNeg)) - b) 0 c hc a
    refine ⟨((a (nI j).toNatClampNeg) - (a (nI c).toNatClampNeg)) - b, 0, c', upd a (nI c).toNatClampNeg (((a (nI j).toNatClampNeg) - (a (nI c).toNatClampNeg)) - b), hc', fun post hp => ⟨hj', hi, fun y ey => ?_⟩, fun post hp => ⟨hj', hi, fun y ey => ?_⟩⟩
    · subst ey; exact br_t z (hX post hp)
    · subst ey; exact br_t z (hY post hp)
  · obtain ⟨c', hc', hX, hY⟩ := sw_tail (((a (nI j).toNatClampNeg) - (a (nI c).toNatClampNeg)) - b + 16777216) 1 c hc a
    refine ⟨((a (nI j).toNatClampNeg) - (a (nI c).toNatClampNeg)) - b + 16777216, 1, c', upd a (nI c).toNatClampNeg (((a (nI j).toNatClampNeg) - (a (nI c).toNatClampNeg)) - b + 16777216), hc', fun post hp => ⟨hj', hi, fun y ey => ?_⟩, fun post hp => ⟨hj', hi, fun y ey => ?_⟩⟩
    · subst ey; exact br_f z (nm_e (hX post hp))
    · subst ey; exact br_f z (nm_e (hY post hp))
/-- a step: one answer and one state for both sides -/
theorem sw_step (b : Int32) (c : Nat) (hc : c < 24) (a : Nat → Int32) : ∃ (r b' : Int32) (c' : Nat) (a' : Nat → Int32), c' < 24 ∧
    (∀ post : Int32 → SX → Prop, post r (b', nI c', a') → wpX_step post (b, nI c, a)) ∧
    (∀ post : Int32 → SY → Prop, post r (b', nI c', a') → wpY_next post (b, nI c, a)) := by
  by_cases h : c < 10
  · obtain ⟨h1, h2, h3⟩ := sw_lo c h
    obtain ⟨r, b', c', a', hc', hX, hY⟩ := sw_mid b c (c + 14) hc (by omega) a
    refine ⟨r, b', c', a', hc', fun post hp => ?_, fun post hp => ?_⟩
    · unfold wpX_step wpX_laggedIndex
      dsimp only
      refine br_f h1 ?_
      rw [h3]
      exact hX post hp
    · unfold wpY_next
      dsimp only
      intro y ey
      subst ey
      refine br_f h2 (nm_r h3 ?_)
      exact hY post hp
  · obtain ⟨h1, h2, h3⟩ := sw_hi c hc (by omega)
    obtain ⟨r, b', c', a', hc', hX, hY⟩ := sw_mid b c (c - 10) hc (by omega) a
    refine ⟨r, b', c', a', hc', fun post hp => ?_, fun post hp => ?_⟩
    · unfold wpX_step wpX_laggedIndex
      dsimp only
      refine br_t h1 ?_
      rw [h3]
      exact hX post hp
    · unfold wpY_next
      dsimp only
      intro y ey
      subst ey
      refine br_t h2 ?_
      rw [h3]
      exact hY post hp
/-- the loop of skip, in lockstep -/
theorem sw_skip (m : Nat) (hm : m < 2 ^ 31) : ∀ d j : Nat, j + d = m → ∀ (b : Int32) (c : Nat) (a : Nat → Int32), c < 24 → ∃ (b' : Int32) (c' : Nat) (a' : Nat → Int32), c' < 24 ∧
    (∀ post : Int32 → SX → Prop, post (nI m) (b', nI c', a') → wX_skip_18 post (nI m) (d + 1) (nI j) b (nI c) a) ∧
    (∀ post : Int32 → SY → Prop, post (nI m) (b', nI c', a') → wY_skip_18 post (nI m) (d + 1) (nI j) b (nI c) a) := by
  intro d
  induction d with
  | zero =>
    intro j hj b c a hc
    have h : nI m ≤ nI j := nI_le (by omega) (by omega)
    exact ⟨b, c, a, hc, fun _ hp => br_t h hp, fun _ hp => br_t h hp⟩
  | succ d ih =>
    intro j hj b c a hc
    have h : ¬ nI m ≤ nI j := nI_ge (by omega) (by omega)
    obtain ⟨r, b1, c1, a1, hc1, sX, sY⟩ := sw_step b c hc a
    obtain ⟨b', c', a', hc', hX, hY⟩ := ih (j + 1) (by omega) b1 c1 a1 hc1
    refine ⟨b', c', a', hc', fun post hp => br_f h (sX _ ?_), fun post hp => br_f h (sY _ ?_)⟩
    · show ∀ y : Int32, y = nI j + 1 → wX_skip_18 post (nI m) (d + 1) y b1 (nI c1) a1
      exact nm_r (nI_1 j) (hX post hp)
    · show ∀ y : Int32, y = nI j + 1 → wY_skip_18 post (nI m) (d + 1) y b1 (nI c1) a1
      exact nm_r (nI_1 j) (hY post hp)
end
section
/-- the two states are the same borrow, the same cursor within the words, the same words -/
def i_Rel (_ : Nat) (u : SX) (v : SY) : Prop := ∃ (b : Int32) (c : Nat) (a : Nat → Int32), c < 24 ∧ u = (b, nI c, a) ∧ v = (b, nI c, a)
theorem i_up {k : Nat} {u : SX} {v : SY} (h : i_Rel k u v) : i_Rel (k + 2) u v := h
theorem i_vc0 : wpX_init (fun u => wpY_init (fun v => i_Rel 0 u v)) := by
  obtain ⟨b', a', hX, hY⟩ := sw_from 19780503 1 0 0 0 0 (fun _ => 0)
  unfold wpX_init
  refine hX _ ?_
  show wpY_init (fun v => i_Rel 0 (b', 0, a') v)
  unfold wpY_init wpY_seed
  exact @br_t ((0 : Int32) = 0) _ _ rfl (hY _ ⟨b', 0, a', by decide, rfl, rfl⟩)
theorem i_vc_seed {k : Nat} {u : SX} {v : SY} (I : i_Rel k u v) (hk : k + 2 ≤ 1024) (v1 : Int32) : wpX_seed (fun r u' => wpY_seed (fun r' v' => r' = r ∧ i_Rel (k + 2) u' v') v v1) u v1 := by
  obtain ⟨b, c, a, hc, rfl, rfl⟩ := I
  by_cases z : v1 = 0
  · obtain ⟨b', a', hX, hY⟩ := sw_from 19780503 1 b (nI c) b (nI c) a
    unfold wpX_seed
    refine br_t z (hX _ ?_)
    show wpY_seed (fun r' v' => r' = 1 ∧ i_Rel (k + 2) (b', 0, a') v') (b, nI c, a) v1
    unfold wpY_seed
    exact br_t z (hY _ ⟨rfl, b', 0, a', by decide, rfl, rfl⟩)
  · obtain ⟨b', a', hX, hY⟩ := sw_from v1 0 b (nI c) b (nI c) a
    unfold wpX_seed
    refine br_f z (hX _ ?_)
    show wpY_seed (fun r' v' => r' = 0 ∧ i_Rel (k + 2) (b', 0, a') v') (b, nI c, a) v1
    unfold wpY_seed
    exact br_f z (hY _ ⟨rfl, b', 0, a', by decide, rfl, rfl⟩)
theorem i_vc_next {k : Nat} {u : SX} {v : SY} (I : i_Rel k u v) (hk : k + 2 ≤ 1024) : wpX_next (fun r u' => wpY_next (fun r' v' => r' = r ∧ i_Rel (k + 2) u' v') v) u := by
  obtain ⟨b, c, a, hc, rfl, rfl⟩ := I
  obtain ⟨r, b', c', a', hc', hX, hY⟩ := sw_step b c hc a
  unfold wpX_next
  refine hX _ ?_
  show wpY_next (fun r' v' => r' = r ∧ i_Rel (k + 2) (b', nI c', a') v') (b, nI c, a)
  exact hY _ ⟨rfl, b', c', a', hc', rfl, rfl⟩
theorem i_vc_skip {k : Nat} {u : SX} {v : SY} (I : i_Rel k u v) (hk : k + 2 ≤ 1024) (v1 : Int32) : wpX_skip (fun r u' => wpY_skip (fun r' v' => r' = r ∧ i_Rel (k + 2) u' v') v v1) u v1 := by
  obtain ⟨b, c, a, hc, rfl, rfl⟩ := I
  by_cases h0 : 0 ≤ v1
  · by_cases h2 : v1 ≤ 200
    · obtain ⟨m, hm, rfl⟩ := nI_of (x := v1) (Int32.not_lt.mpr h0)
      obtain ⟨b', c', a', hc', hX, hY⟩ := sw_skip m hm m 0 (by omega) b c a hc
      rw [nI_0] at hX hY
      exact br_t h0 (br_t h2 ⟨m + 1, hX _ (br_t h0 (br_t h2 ⟨m + 1, hY _ ⟨rfl, b', c', a', hc', rfl, rfl⟩⟩))⟩)
    · exact br_t h0 (br_f h2 (br_t h0 (br_f h2 ⟨rfl, b, c, a, hc, rfl, rfl⟩)))
  · exact br_f h0 (br_f h0 ⟨rfl, b, c, a, hc, rfl, rfl⟩)
theorem i_vc_status {k : Nat} {u : SX} {v : SY} (I : i_Rel k u v) (hk : k + 2 ≤ 1024) : wpX_status (fun r => wpY_status (fun r' => r' = r ∧ i_Rel (k + 2) u v) v) u := by
  obtain ⟨b, c, a, hc, rfl, rfl⟩ := I
  exact ⟨rfl, b, c, a, hc, rfl, rfl⟩
end
