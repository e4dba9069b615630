/-! ===== both begin alike ===== -/
theorem z_1 : h0A.1 0 0 13 = h0A.1 34 0 0 ∧ h0A.1 0 0 14 = h0A.1 34 0 2 ∧ h0A.2 0 0 15 = h0A.2 34 0 3 ∧ h0A.2 0 0 16 = h0A.2 34 0 4 := by decide +kernel
theorem z_2 : ∀ j, j < 6 → h0A.1 33 0 j = h0A.1 35 0 j := by decide +kernel
theorem z_3 : ∀ r, r < 6 → (h0A.1 2 r 1 = -1 ∧ h0A.1 36 0 r = -1) := by decide +kernel
theorem z_4 : ∀ r, r < 6 → ∀ j, j < 40 → h0A.1 3 r j = h0A.1 37 0 (40 * r + j) := by decide +kernel
theorem z_5 : ∀ r, r < 4 → (h0A.1 5 r 1 = -1 ∧ h0A.1 39 0 r = -1) := by decide +kernel
theorem z_6 : ∀ r, r < 4 → ∀ j, j < 80 → h0A.1 6 r j = h0A.1 40 0 (80 * r + j) := by decide +kernel
theorem z_7 : h0A.1 12 0 5 = 0 ∧ h0A.1 12 0 6 = 0 ∧ h0A.1 34 0 10 = 0 ∧ h0A.1 34 0 11 = 0 ∧ h0A.1 8 3 2 = 0 ∧ h0A.1 8 3 3 = 0 ∧ h0A.1 8 3 4 = 0 ∧ h0A.1 8 3 5 = 0 ∧ h0A.1 34 0 27 = 0 ∧ h0A.1 34 0 16 = 0 ∧ h0A.1 34 0 17 = 0 ∧ h0A.1 34 0 18 = 0 := by decide +kernel
theorem z_8 : ∀ j, j < 6 → h0A.1 14 0 j = 0 := by decide +kernel
theorem z_9 : ∀ c, c < 3 → (h0A.1 8 c 6 = 0 ∧ h0A.1 50 0 c = 0) := by decide +kernel
theorem nlt0 {i : Nat} : ¬ i < 0 := Nat.not_lt_zero i
theorem nbt0 {i : Nat} : ¬ bt 0 i = true := by rw [bt_0]; decide
theorem rel0 : Rel h0A h0A := by
  obtain ⟨a1, a2, a3, a4⟩ := z_1
  obtain ⟨b1, b2, b3, b4, b5, b6, b7, b8, b9, b10, b11, b12⟩ := z_7
  refine ⟨⟨⟨a1, a2, a3, a4, z_2⟩, fun r hr => ⟨by rw [(z_3 r hr).1, (z_3 r hr).2], Or.inl (z_3 r hr).2, z_4 r hr⟩, fun r hr => ⟨by rw [(z_5 r hr).1, (z_5 r hr).2], Or.inl (z_5 r hr).2, z_6 r hr⟩⟩, (0, 0, fun _ => 0, fun _ => 0, fun _ => 0), s0 (fun _ => 0), ?_, ?_, ?_, ?_, ?_, ?_, fun c hc => Or.inl (z_9 c hc)⟩
  · exact ⟨Nat.zero_le _, Nat.zero_le _, fun x hx => absurd hx nlt0, fun k hk => absurd hk nlt0, fun x => Nat.zero_le _⟩
  · exact ⟨fun i hi => absurd hi nbt0, fun i hi => absurd hi nbt0, Nat.zero_le _, Nat.zero_le _, fun k hk => absurd hk nlt0, fun i hi => absurd hi nlt0⟩
  · refine ⟨b1, b2, fun x hx => absurd hx nlt0, fun j hj x => ?_, fun k hk => absurd hk nlt0⟩
    rw [z_8 j hj, bt_0]
    symm
    exact decide_eq_false (fun z => nlt0 z.1)
  · exact ⟨b3, b4, fun x hx => absurd hx nlt0, fun k hk => absurd hk nlt0⟩
  · exact ⟨b5, b6, b7, b8, fun k hk => absurd hk nlt0, fun i hi => absurd hi nlt0⟩
  · exact ⟨b9, b10, b11, b12, fun k hk => absurd hk nlt0, fun i hi => absurd hi nlt0⟩
theorem allEq : AllEq Rel := ⟨e_row, e_lay, e_at, e_tear, e_copy, e_mean, e_text, e_put, e_fault, e_room, e_claim, e_reason, e_mark, e_trust, e_away, e_learn, e_law, e_begin, e_answer, e_undo, e_here, e_may, e_ends, e_asks, e_image, e_on, e_stands, e_soonest, e_steps, e_sure, e_longest, e_lost, e_never, e_game, e_words, e_agree, e_thin, e_without, e_falls, e_whose, e_judge, e_held, e_lied, e_fits, e_odds, e_night, e_asked, e_upper, e_lower, e_count, e_finding, e_findings, e_digest⟩
