/-- the two states are the same borrow, the same cursor within the words, the same words -/
def i_Rel (_ : Nat) (u : SX) (v : SY) : Prop := ∃ (b : Int32) (c : Nat) (a : Nat → Int32), c < 24 ∧ u = (b, nI c, a) ∧ v = (b, nI c, a)
theorem i_up {k : Nat} {u : SX} {v : SY} (h : i_Rel k u v) : i_Rel (k + 2) u v := h
theorem i_vc0 : wpX_init (fun u => wpY_init (fun v => i_Rel 0 u v)) := by
  obtain ⟨b', a', hX, hY⟩ := sw_from 19780503 1 0 0 0 0 (fun _ => 0)
  unfold wpX_init
  refine hX _ ?_
  show wpY_init (fun v => i_Rel 0 (b', 0, a') v)
  unfold wpY_init wpY_seed
  exact @br_t ((0 : Int32) = 0) _ _ rfl (hY _ ⟨b', 0, a', by decide, rfl, rfl⟩)
theorem i_vc_seed {k : Nat} {u : SX} {v : SY} (I : i_Rel k u v) (hk : k + 2 ≤ 1024) (v1 : Int32) : wpX_seed (fun r u' => wpY_seed (fun r' v' => r' = r ∧ i_Rel (k + 2) u' v') v v1) u v1 := by
  obtain ⟨b, c, a, hc, rfl, rfl⟩ := I
  by_cases z : v1 = 0
  · obtain ⟨b', a', hX, hY⟩ := sw_from 19780503 1 b (nI c) b (nI c) a
    unfold wpX_seed
    refine br_t z (hX _ ?_)
    show wpY_seed (fun r' v' => r' = 1 ∧ i_Rel (k + 2) (b', 0, a') v') (b, nI c, a) v1
    unfold wpY_seed
    exact br_t z (hY _ ⟨rfl, b', 0, a', by decide, rfl, rfl⟩)
  · obtain ⟨b', a', hX, hY⟩ := sw_from v1 0 b (nI c) b (nI c) a
    unfold wpX_seed
    refine br_f z (hX _ ?_)
    show wpY_seed (fun r' v' => r' = 0 ∧ i_Rel (k + 2) (b', 0, a') v') (b, nI c, a) v1
    unfold wpY_seed
    exact br_f z (hY _ ⟨rfl, b', 0, a', by decide, rfl, rfl⟩)
theorem i_vc_next {k : Nat} {u : SX} {v : SY} (I : i_Rel k u v) (hk : k + 2 ≤ 1024) : wpX_next (fun r u' => wpY_next (fun r' v' => r' = r ∧ i_Rel (k + 2) u' v') v) u := by
  obtain ⟨b, c, a, hc, rfl, rfl⟩ := I
  obtain ⟨r, b', c', a', hc', hX, hY⟩ := sw_step b c hc a
  unfold wpX_next
  refine hX _ ?_
  show wpY_next (fun r' v' => r' = r ∧ i_Rel (k + 2) (b', nI c', a') v') (b, nI c, a)
  exact hY _ ⟨rfl, b', c', a', hc', rfl, rfl⟩
theorem i_vc_skip {k : Nat} {u : SX} {v : SY} (I : i_Rel k u v) (hk : k + 2 ≤ 1024) (v1 : Int32) : wpX_skip (fun r u' => wpY_skip (fun r' v' => r' = r ∧ i_Rel (k + 2) u' v') v v1) u v1 := by
  obtain ⟨b, c, a, hc, rfl, rfl⟩ := I
  by_cases h0 : 0 ≤ v1
  · by_cases h2 : v1 ≤ 200
    · obtain ⟨m, hm, rfl⟩ := nI_of (x := v1) (Int32.not_lt.mpr h0)
      obtain ⟨b', c', a', hc', hX, hY⟩ := sw_skip m hm m 0 (by omega) b c a hc
      rw [nI_0] at hX hY
      exact br_t h0 (br_t h2 ⟨m + 1, hX _ (br_t h0 (br_t h2 ⟨m + 1, hY _ ⟨rfl, b', c', a', hc', rfl, rfl⟩⟩))⟩)
    · exact br_t h0 (br_f h2 (br_t h0 (br_f h2 ⟨rfl, b, c, a, hc, rfl, rfl⟩)))
  · exact br_f h0 (br_f h0 ⟨rfl, b, c, a, hc, rfl, rfl⟩)
theorem i_vc_status {k : Nat} {u : SX} {v : SY} (I : i_Rel k u v) (hk : k + 2 ≤ 1024) : wpX_status (fun r => wpY_status (fun r' => r' = r ∧ i_Rel (k + 2) u v) v) u := by
  obtain ⟨b, c, a, hc, rfl, rfl⟩ := I
  exact ⟨rfl, b, c, a, hc, rfl, rfl⟩
