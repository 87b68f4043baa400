section
theorem he_8 : nI 8 = 8 := by decide +kernel
theorem he_7 : nI 7 = 7 := by decide +kernel
/-- eight turns at most: one answer r and one table w that X's two loops and Y's one loop all reach, whatever is asked behind them -/
theorem he_turns (t : Int64) (ht : ¬ t = 0) (c : Nat → Int32) : ∀ d j : Nat, j + d = 8 → ∀ (s : Int64) (b : Int32) (a : Nat → Int32), ∃ (r : Int32) (w : Nat → Int32),
    (∀ post : SX → Prop, post (t, c, w) → wX_fillValues_4 post t (d + 1) s (nI j) c a) ∧
    (∀ (post : Int32 → Prop) (q : Nat → Int32), post r → wX_usedLevels_4 post t c q (d + 1) b (nI j)) ∧
    (∀ post : Int32 → SY → Prop, post r (t, c, w) → wY_build_18 post t (d + 1) s b (nI j) c a) := by
  intro d
  induction d with
  | zero =>
    intro j hj s b a
    have h : (8 : Int32) ≤ nI j := by rw [← he_8]; exact nI_le (by omega) (by omega)
    exact ⟨b, a, fun _ hp => br_t h hp, fun _ _ hp => br_t h hp, fun _ hp => br_t h hp⟩
  | succ d ih =>
    intro j hj s b a
    have h : ¬ (8 : Int32) ≤ nI j := by rw [← he_8]; exact nI_ge (by omega) (by omega)
    have hi : vp_in (nI j) 8 := vp_in_nI (by omega) (by omega)
    by_cases z : c (nI j).toNatClampNeg ≤ 0
    · obtain ⟨r, w, hF, hU, hY⟩ := ih (j + 1) (by omega) (s + (c (nI j).toNatClampNeg).toInt64) b (upd a (nI j).toNatClampNeg (vp_nar .byte (((((s + (c (nI j).toNatClampNeg).toInt64) * 255) / t).toInt32).toInt8.toInt32)))
      exact ⟨r, w,
        fun post hp => br_f h ⟨hi, nm_e ⟨ht, hi, nm_e (nm_r (nI_1 j) (hF post hp))⟩⟩,
        fun post q hp => br_f h ⟨hi, br_t z (nm_r (nI_1 j) (hU post q hp))⟩,
        fun post hp => br_f h ⟨hi, br_t z ⟨hi, nm_e ⟨ht, hi, nm_e (nm_r (nI_1 j) (hY post hp))⟩⟩⟩⟩
    · obtain ⟨r, w, hF, hU, hY⟩ := ih (j + 1) (by omega) (s + (c (nI j).toNatClampNeg).toInt64) (b + 1) (upd a (nI j).toNatClampNeg (vp_nar .byte (((((s + (c (nI j).toNatClampNeg).toInt64) * 255) / t).toInt32).toInt8.toInt32)))
      exact ⟨r, w,
        fun post hp => br_f h ⟨hi, nm_e ⟨ht, hi, nm_e (nm_r (nI_1 j) (hF post hp))⟩⟩,
        fun post q hp => br_f h ⟨hi, br_f z (nm_e (nm_r (nI_1 j) (hU post q hp)))⟩,
        fun post hp => br_f h ⟨hi, br_f z (nm_e ⟨hi, nm_e ⟨ht, hi, nm_e (nm_r (nI_1 j) (hY post hp))⟩⟩)⟩⟩
end
section
/-- the two states are one and the same triple -/
def i_Rel (_ : Nat) (u : SX) (v : SY) : Prop := u = v
theorem i_up {k : Nat} {u : SX} {v : SY} (h : i_Rel k u v) : i_Rel (k + 2) u v := h
theorem i_vc0 : wpX_init (fun u => wpY_init (fun v => i_Rel 0 u v)) := rfl
theorem he_low {post : Int32 → Prop} {p : Int32} (h : p < 0) (hp : post 0) : wpX_isLevel post p := br_t h hp
theorem he_high {post : Int32 → Prop} {p : Int32} (h0 : ¬ p < 0) (h : 8 ≤ p) (hp : post 0) : wpX_isLevel post p := br_f h0 (br_t h hp)
theorem he_level {post : Int32 → Prop} {p : Int32} (h0 : ¬ p < 0) (h : ¬ 8 ≤ p) (hp : post 1) : wpX_isLevel post p := br_f h0 (br_f h hp)
/-- an argument is below 0, above 7, or one of the eight levels, as both sides ask for it -/
theorem he_arg (p : Int32) : p < 0 ∨ (¬ p < 0 ∧ 8 ≤ p ∧ ¬ p ≤ 7) ∨ (¬ p < 0 ∧ ¬ 8 ≤ p ∧ p ≤ 7 ∧ vp_in p 8) := by
  by_cases h0 : p < 0
  · exact Or.inl h0
  · obtain ⟨j, hj, rfl⟩ := nI_of h0
    by_cases h : 8 ≤ j
    · exact Or.inr (Or.inl ⟨h0, by rw [← he_8]; exact nI_le h hj, by rw [← he_7]; exact nI_ge (by omega) hj⟩)
    · exact Or.inr (Or.inr ⟨h0, by rw [← he_8]; exact nI_ge (by omega) (by omega), by rw [← he_7]; exact nI_le (by omega) (by omega), vp_in_nI (by omega) (by omega)⟩)
theorem he_1 : ¬ (1 : Int32) = 0 := by decide
theorem he_upd (c : Nat → Int32) (i : Nat) (x : Int32) : upd c i x i = x := by simp [upd]
theorem i_vc_add {k : Nat} {u : SX} {v : SY} (I : i_Rel k u v) (hk : k + 2 ≤ 1024) (v1 : Int32) : wpX_add (fun r u' => wpY_add (fun r' v' => r' = r ∧ i_Rel (k + 2) u' v') v v1) u v1 := by
  cases I
  obtain ⟨t, c, a⟩ := u
  unfold wpX_add wpY_add
  dsimp only
  rcases he_arg v1 with h | ⟨h0, h8, h7⟩ | ⟨h0, h8, h7, hi⟩
  · exact he_low h (br_t rfl (br_t h ⟨rfl, rfl⟩))
  · exact he_high h0 h8 (br_t rfl (br_f h0 (br_f h7 ⟨rfl, rfl⟩)))
  · exact he_level h0 h8 (br_f he_1 ⟨hi, hi, nm_e (nm_e ⟨hi, br_f h0 (br_t h7 (nm_e ⟨hi, hi, nm_e ⟨(he_upd _ _ _).symm, rfl⟩⟩))⟩)⟩)
theorem i_vc_total {k : Nat} {u : SX} {v : SY} (I : i_Rel k u v) (hk : k + 2 ≤ 1024) : wpX_total (fun r => wpY_total (fun r' => r' = r ∧ i_Rel (k + 2) u v) v) u := by
  cases I
  exact ⟨rfl, rfl⟩
theorem i_vc_build {k : Nat} {u : SX} {v : SY} (I : i_Rel k u v) (hk : k + 2 ≤ 1024) : wpX_build (fun r u' => wpY_build (fun r' v' => r' = r ∧ i_Rel (k + 2) u' v') v) u := by
  cases I
  obtain ⟨t, c, a⟩ := u
  unfold wpX_build wpY_build
  dsimp only
  by_cases ht : t = 0
  · exact br_t ht (br_t ht ⟨rfl, rfl⟩)
  · obtain ⟨r, w, hF, hU, hY⟩ := he_turns t ht c 8 0 rfl 0 0 a
    rw [nI_0] at hF hU hY
    exact br_f ht ⟨9, hF _ ⟨9, hU _ w (br_f ht ⟨9, hY _ ⟨rfl, rfl⟩⟩)⟩⟩
theorem i_vc_map {k : Nat} {u : SX} {v : SY} (I : i_Rel k u v) (hk : k + 2 ≤ 1024) (v1 : Int32) : wpX_map (fun r => wpY_map (fun r' => r' = r ∧ i_Rel (k + 2) u v) v v1) u v1 := by
  cases I
  obtain ⟨t, c, a⟩ := u
  unfold wpX_map wpY_map
  dsimp only
  rcases he_arg v1 with h | ⟨h0, h8, h7⟩ | ⟨h0, h8, h7, hi⟩
  · exact he_low h (br_t rfl (br_t h ⟨rfl, rfl⟩))
  · exact he_high h0 h8 (br_t rfl (br_f h0 (br_f h7 ⟨rfl, rfl⟩)))
  · exact he_level h0 h8 (br_f he_1 ⟨hi, br_f h0 (br_t h7 ⟨hi, rfl, rfl⟩)⟩)
end
