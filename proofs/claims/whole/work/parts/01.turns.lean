theorem he_8 : nI 8 = 8 := by decide +kernel
theorem he_7 : nI 7 = 7 := by decide +kernel
/-- eight turns at most: one answer r and one table w that X's two loops and Y's one loop all reach, whatever is asked behind them -/
theorem he_turns (t : Int64) (ht : ¬ t = 0) (c : Nat → Int32) : ∀ d j : Nat, j + d = 8 → ∀ (s : Int64) (b : Int32) (a : Nat → Int32), ∃ (r : Int32) (w : Nat → Int32),
    (∀ post : SX → Prop, post (t, c, w) → wX_fillValues_4 post t (d + 1) s (nI j) c a) ∧
    (∀ (post : Int32 → Prop) (q : Nat → Int32), post r → wX_usedLevels_4 post t c q (d + 1) b (nI j)) ∧
    (∀ post : Int32 → SY → Prop, post r (t, c, w) → wY_build_18 post t (d + 1) s b (nI j) c a) := by
  intro d
  induction d with
  | zero =>
    intro j hj s b a
    have h : (8 : Int32) ≤ nI j := by rw [← he_8]; exact nI_le (by omega) (by omega)
    exact ⟨b, a, fun _ hp => br_t h hp, fun _ _ hp => br_t h hp, fun _ hp => br_t h hp⟩
  | succ d ih =>
    intro j hj s b a
    have h : ¬ (8 : Int32) ≤ nI j := by rw [← he_8]; exact nI_ge (by omega) (by omega)
    have hi : vp_in (nI j) 8 := vp_in_nI (by omega) (by omega)
    by_cases z : c (nI j).toNatClampNeg ≤ 0
    · obtain ⟨r, w, hF, hU, hY⟩ := ih (j + 1) (by omega) (s + (c (nI j).toNatClampNeg).toInt64) b (upd a (nI j).toNatClampNeg (vp_nar .byte (((((s + (c (nI j).toNatClampNeg).toInt64) * 255) / t).toInt32).toInt8.toInt32)))
      exact ⟨r, w,
        fun post hp => br_f h ⟨hi, nm_e ⟨ht, hi, nm_e (nm_r (nI_1 j) (hF post hp))⟩⟩,
        fun post q hp => br_f h ⟨hi, br_t z (nm_r (nI_1 j) (hU post q hp))⟩,
        fun post hp => br_f h ⟨hi, br_t z ⟨hi, nm_e ⟨ht, hi, nm_e (nm_r (nI_1 j) (hY post hp))⟩⟩⟩⟩
    · obtain ⟨r, w, hF, hU, hY⟩ := ih (j + 1) (by omega) (s + (c (nI j).toNatClampNeg).toInt64) (b + 1) (upd a (nI j).toNatClampNeg (vp_nar .byte (((((s + (c (nI j).toNatClampNeg).toInt64) * 255) / t).toInt32).toInt8.toInt32)))
      exact ⟨r, w,
        fun post hp => br_f h ⟨hi, nm_e ⟨ht, hi, nm_e (nm_r (nI_1 j) (hF post hp))⟩⟩,
        fun post q hp => br_f h ⟨hi, br_f z (nm_e (nm_r (nI_1 j) (hU post q hp)))⟩,
        fun post hp => br_f h ⟨hi, br_f z (nm_e ⟨hi, nm_e ⟨ht, hi, nm_e (nm_r (nI_1 j) (hY post hp))⟩⟩)⟩⟩
