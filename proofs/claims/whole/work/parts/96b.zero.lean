theorem T00_0 (f i : Nat) (h : f ≠ 12) : T00 f i = 0 := if_neg fun h2 => h h2.1
theorem vis_0 (m : Nat) : vis T00 m = [] := rfl
theorem drn_0 (a : Nat) : drn T00 a = 0 := if_neg fun h => absurd h.1 (Nat.not_lt_zero _)
theorem drl_0 : drl T00 = [] := List.filter_eq_nil_iff.2 fun a _ => by
  rw [drn_0]
  decide
theorem nbz_0 : ∀ m, nbz T00 m = 0 := fun m => cnt_0 m fun k _ => rfl
theorem own_0 (a : Nat) : own T00 a (T00 0 2) = none := rfl
theorem R0 : R mu_0 := by
  obtain ⟨a1, a2, a3, a4, a5, a6, a7⟩ := z0_5
  obtain ⟨c1, c2, c3⟩ := z0_19
  obtain ⟨⟨d1, d2, d3, d4, d5, d6⟩, d7, d8⟩ := z0_39
  obtain ⟨g1, g2, g3, g4⟩ := z0_28
  obtain ⟨t1, t2, t3, t4, t5⟩ := z0_1
  obtain ⟨q1, q2, q3, q4, q5, q6, q7, q8, q9, q10, q11⟩ := z0_p
  have hs : ∀ i, 427 ≤ i → i < 975 → mu_0.1 205 i = 0 := fun i h1 h2 => by
    have := z0_205b (i - 427) (by omega)
    rw [show 427 + (i - 427) = i by omega] at this
    exact this
  have h0 : ∀ i, i < 427 → ¬ (7 ≤ i ∧ i < 10) → mu_0.1 205 i = 0 := fun i h1 h2 => by rw [z0_205 i h1, if_neg h2]
  refine R_iff.2 ⟨⟨T00, fun _ => [], fun _ _ => 0, fun _ _ => 0, fun _ _ => 0, ⟨⟨T00_wf, ⟨⟨a1, a2, a3, a4⟩, fun q hq => absurd hq (Nat.not_lt_zero q), fun q hq => a5 q hq, fun c hc => absurd hc (Nat.not_lt_zero c), fun i hi => ?_, fun a ha => ⟨?_, ?_⟩, fun i hi => a7 i hi⟩, ⟨⟨?_, ?_, ?_, ?_⟩, fun i hi => ?_, fun i hi => ?_, fun q hq => absurd hq (Nat.not_lt_zero q), fun q hq => ?_, fun c hc => absurd hc (Nat.not_lt_zero c), fun a ha => ⟨?_, ?_, ?_⟩⟩⟩, ⟨fun q hq => absurd hq (Nat.not_lt_zero q), fun q r hq => absurd hq (Nat.not_lt_zero q), fun q hq => absurd hq (Nat.not_lt_zero q)⟩, ⟨fun q => ⟨Nat.zero_le _, Nat.zero_le _, Nat.zero_le _, fun _ => ⟨rfl, rfl⟩, fun _ => rfl⟩, ⟨c1, fun q hq => c3 q hq⟩, ⟨hs _ (by decide) (by decide), fun q hq => ⟨hs _ (by omega) (by omega), hs _ (by omega) (by omega), hs _ (by omega) (by omega)⟩⟩⟩, ⟨⟨Nat.zero_le _, .inl rfl, fun i hi => absurd hi (Nat.not_lt_zero i)⟩, ⟨c2, fun i hi => absurd hi (Nat.not_lt_zero i)⟩, ⟨hs _ (by decide) (by decide), fun i hi => absurd hi (Nat.not_lt_zero i)⟩⟩, ⟨⟨by decide, by decide, by decide, by decide⟩, fun q => ⟨Nat.zero_le _, Nat.zero_le _⟩, fun i => Nat.zero_le _, fun c => Nat.zero_le _, fun a => ⟨Nat.zero_le _, Nat.zero_le _⟩, fun a _ => Nat.zero_le _⟩, ⟨⟨d1, d2, d6⟩, fun q hq => absurd hq (Nat.not_lt_zero q), fun c hc => absurd hc (Nat.not_lt_zero c), fun a ha => ⟨(d8 a ha).1, (d8 a ha).2⟩⟩, ⟨⟨hs _ (by decide) (by decide), hs _ (by decide) (by decide), hs _ (by decide) (by decide)⟩, fun q hq => absurd hq (Nat.not_lt_zero q), fun c hc => absurd hc (Nat.not_lt_zero c), fun a ha => ⟨hs _ (by omega) (by omega), hs _ (by omega) (by omega)⟩⟩, ⟨⟨?_, ?_, ?_, ?_, ?_, ?_⟩, fun q hq => absurd hq (Nat.not_lt_zero q), fun c hc => absurd hc (Nat.not_lt_zero c), fun k hk => absurd hk (Nat.not_lt_zero k)⟩⟩, ⟨fun p _ hq => absurd hq (Nat.not_lt_zero _), fun c hc => absurd hc (Nat.not_lt_zero c), ⟨?_, fun i hi => ?_, fun a ha => ?_⟩, ?_, fun m hm => ⟨fun _ => g4 m hm, fun h => absurd (vis_0 m) h⟩⟩⟩, ⟨0, fun _ => 0, by decide, t1, t2, fun i hi => absurd hi (Nat.not_lt_zero i)⟩, ?_, ⟨⟨0, by decide, (t5 0 (by decide)).1, (t5 0 (by decide)).2, fun h => by cases h⟩, ⟨0, by decide, (t5 1 (by decide)).1, (t5 1 (by decide)).2, fun h => by cases h⟩⟩, ⟨⟨0, by decide, q1, fun d hd => ?_⟩, ⟨0, by decide, q2, q3, fun i hi => absurd hi (by rw [Nat.zero_min]; exact Nat.not_lt_zero i)⟩, ⟨0, by decide, q4, q5, fun i hi => absurd hi (Nat.not_lt_zero i)⟩, ⟨0, by decide, q6, q7, fun i hi => absurd hi (Nat.not_lt_zero i)⟩, ⟨0, by decide, q8, q9, fun i j w hi => absurd hi (Nat.not_lt_zero i)⟩⟩, ⟨fun i hi => z0_k i hi, q10⟩⟩
  · show mu_0.1 15 i = _
    rw [a6 i hi, T00_0 13 i (by decide)]
    rfl
  · show mu_0.1 16 a = _
    rw [(z0_16 a ha).1]
    rfl
  · show mu_0.1 17 a = _
    rw [(z0_16 a ha).2]
    rfl
  · exact h0 0 (by decide) (by decide)
  · exact h0 1 (by decide) (by decide)
  · exact h0 2 (by decide) (by decide)
  · exact h0 3 (by decide) (by decide)
  · rw [h0 _ (by omega) (by omega), T00_0 13 i (by decide)]
    rfl
  · rw [z0_205 _ (by omega)]
    unfold T00
    by_cases c : i < 3
    · rw [if_pos (by omega), if_pos ⟨rfl, c⟩]
      rfl
    · rw [if_neg (by omega), if_neg fun h => c h.2]
      rfl
  · rw [h0 _ (by omega) (by omega), T00_0 4 q (by decide)]
    rfl
  · rw [h0 _ (by omega) (by omega), T00_0 9 a (by decide)]
    rfl
  · rw [h0 _ (by omega) (by omega), T00_0 10 a (by decide)]
    rfl
  · rw [h0 _ (by omega) (by omega), T00_0 11 a (by decide)]
    rfl
  · rw [d3, hs _ (by decide) (by decide)]
  · rw [d4, hs _ (by decide) (by decide)]
  · rw [d5, hs _ (by decide) (by decide)]
  · show mu_0.1 40 1 = _
    rw [d7 1 (by decide), hs _ (by decide) (by decide)]
  · show mu_0.1 40 0 = _
    rw [d7 0 (by decide), hs _ (by decide) (by decide)]
  · show mu_0.1 40 2 = _
    rw [d7 2 (by decide), hs _ (by decide) (by decide)]
  · rw [g1, drl_0]
    rfl
  · rw [drl_0] at hi
    exact absurd hi (Nat.not_lt_zero i)
  · show mu_0.1 34 a = _
    rw [g3 a ha, drn_0]
    rfl
  · rw [g2, nbz_0]
    rfl
  · show mu_0.1 0 11 = mu_0.1 203 15
    rw [t3, t4]
  · rw [q11 d hd, if_neg (by decide)]
