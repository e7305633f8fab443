/-! ===== THE START, AND THE WHOLE ===== -/
set_option maxRecDepth 100000 in
theorem inv_w0 : Inv pb_w0 := by
  refine ⟨0, [], ⟨rfl, rfl, rfl⟩, ⟨⟨rfl, rfl, rfl, fun k hk => Or.inl ?_⟩, ⟨0, by decide, rfl, rfl, rfl, rfl, fun k hk => absurd hk (Nat.not_lt_zero k)⟩, Or.inl ⟨rfl, rfl⟩, ⟨fun k _ => rfl, fun k hk => ?_⟩, ⟨0, by decide, rfl, rfl, rfl⟩, ⟨0, by decide, rfl, rfl, rfl, rfl, fun k hk => absurd hk (Nat.not_lt_zero k)⟩, ⟨0, by decide, rfl, rfl, rfl, rfl, rfl, rfl, fun k hk => absurd hk (Nat.not_lt_zero k)⟩, ⟨0, by decide, rfl, rfl, rfl, rfl, rfl, fun k hk => absurd hk (Nat.not_lt_zero k)⟩, ⟨rfl, rfl, ⟨10, by decide, by decide, rfl⟩, 3, by decide, by decide, rfl⟩, ⟨0, by decide, rfl, rfl, fun k hk => absurd hk (Nat.not_lt_zero k)⟩, fun k => ?_, Or.inl ⟨rfl, rfl, rfl, rfl⟩⟩, ⟨⟨0, 0, by decide, by decide, rfl, rfl, rfl, rfl, rfl, rfl, ⟨rfl, rfl, rfl, rfl, rfl, rfl, rfl, rfl, rfl, rfl, rfl⟩, fun k hk => absurd hk (Nat.not_lt_zero k), fun k hk => absurd hk (Nat.not_lt_zero k), fun k hk => absurd hk (Nat.not_lt_zero k), ⟨0, by decide, rfl⟩, ⟨9999, by decide, rfl⟩⟩, ⟨by decide, rfl, rfl, rfl, rfl, rfl, rfl, rfl, fun k hk => absurd hk (Nat.not_lt_zero k), fun k hk => absurd hk (Nat.not_lt_zero k), fun k hk => absurd hk (Nat.not_lt_zero k), fun k hk => absurd hk (Nat.not_lt_zero k)⟩, ⟨0, 0, by decide, rfl, rfl, rfl, rfl, by decide, by decide, fun E hE => absurd hE (Nat.not_lt_zero E)⟩⟩, fun E l _ _ => Or.inl rfl, ⟨0, by decide, rfl, rfl, fun k hk => absurd hk (Nat.not_lt_zero k)⟩⟩
  · have : k = 0 ∨ k = 1 ∨ k = 2 ∨ k = 3 := by omega
    rcases this with rfl | rfl | rfl | rfl <;> rfl
  · have : k = 0 ∨ k = 1 ∨ k = 2 ∨ k = 3 := by omega
    rcases this with rfl | rfl | rfl | rfl
    · exact ⟨30, by decide, rfl⟩
    · exact ⟨50, by decide, rfl⟩
    · exact ⟨70, by decide, rfl⟩
    · exact ⟨100, by decide, rfl⟩
  · have e : pb_w0.1 22 k = 0 := rfl
    rw [e]
    unfold bY
    decide
theorem pure_all : ∀ (L : Nat) (xs : Nat → Int32), L ≤ 4096 → ∃ r, pb_run (T_L_law L xs) (18, [some (.ref 340), some (.ref 0), some (.ref 64), some (.int 0)], [], pb_w0) = some r := law_pure Inv inv_w0 y_status y_top y_bottom y_tray y_write y_read y_pour y_family y_words (fun b0 b1 b2 b3 b4 b5 b6 _ => y_line b0 b1 b2 b3 b4 b5 b6) y_reading y_asof y_pence y_feed y_edition y_fault y_kind y_moved y_spent y_told y_out y_slips y_slip y_rules y_ways y_span y_member y_scale y_mouths y_share y_price y_change y_weights y_weight y_gaps y_bound y_loss y_fell y_likes
