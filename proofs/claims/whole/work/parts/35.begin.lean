/-! what the start gives of texts and statics -/
theorem lw_bytes : ∀ j : Nat, j < 109 → Cond.eq (.elem (.field (.string RX6 19) "java/lang/String" "value" "[B") (.int (Int32.ofNat j))) (.int (bw_by.getD j 0)) ∈ flatC (Cond.and given_1 narrow_1) := by decide +kernel
theorem lw_hA {s : State} : ∀ a : Nat, a < s.heap.size → ¬ s.heap.size ≤ a := fun a h => by omega
theorem lw_bX {s : State} {args : Array Value} (hts : ∀ w ∈ lw_tbl, w.before args s = true) (hg : (Cond.and given_1 narrow_1).before args s = true) : bw_X (fun q => s.heap.size ≤ q) s s.heap := by
  have hs := flat_of_before _ hg
  obtain ⟨adK, adV, h1, h2⟩ := vk_Sof (args := args) (s := s) (N := 1) (tm := fun _ => .string RX6 19) (len := [109]) (byt := [bw_by]) (A := fun q => s.heap.size ≤ q)
    (fun i hi => by rw [show i = 0 by omega]; decide) (fun i hi => hs _ (by decide +kernel)) (fun i hi => hs _ (by decide +kernel)) (fun i hi => hs _ (by decide +kernel))
    (fun i hi => by rw [show i = 0 by omega]; exact hs _ (by decide +kernel)) (fun i hi j hj => by
      rw [show i = 0 by omega] at hj ⊢
      exact hs _ (lw_bytes j hj)) (fun i j hi hj hij => absurd (by omega) hij) lw_hA
  refine ⟨adK, adV, vk_R.of (hts _ (lw_in 38 (by decide +kernel))) (h2 0 (by decide)), h1, ?_, ?_, va_AO.of (hts _ (lw_in 488 (by decide +kernel)))⟩
  · exact va_Zof (hts _ (lw_in 48 (by decide +kernel))) (lw_TB hts _ tb_3) (va_eqi (hs _ (by decide +kernel))) lw_hA
  · exact va_Zqof (hts _ (lw_in 64 (by decide +kernel))) (lw_TB hts _ tb_5) (hs _ (by decide +kernel)) lw_hA
theorem lw_aX {s : State} {args : Array Value} (hts : ∀ w ∈ lw_tbl, w.before args s = true) (hg : (Cond.and given_1 narrow_1).before args s = true) : ax_X (fun q => s.heap.size ≤ q) s := by
  have hs := flat_of_before _ hg
  refine ⟨?_, ?_, ?_⟩
  · intro w hw
    simp only [ax_B, List.mem_cons, List.not_mem_nil, or_false] at hw
    rcases hw with rfl | rfl | rfl | rfl
    · exact va_Nw.of rfl (hts _ (lw_in 1356 (by decide +kernel)))
    · exact va_Nw.of rfl (hts _ (lw_in 1357 (by decide +kernel)))
    · exact va_Nw.of rfl (hts _ (lw_in 1359 (by decide +kernel)))
    · exact va_Nw.of rfl (hts _ (lw_in 1361 (by decide +kernel)))
  · exact vx_Zqof (hts _ (lw_in 1381 (by decide +kernel))) (lw_TB hts _ tb_20) (hs _ (by decide +kernel)) lw_hA
  · exact vx_Zqof (hts _ (lw_in 1383 (by decide +kernel))) (lw_TB hts _ tb_20) (hs _ (by decide +kernel)) lw_hA
theorem lw_vK {s : State} {args : Array Value} (hts : ∀ w ∈ lw_tbl, w.before args s = true) : ∃ (D : va_G) (C : Nat → ClassId), va_K D vwCl (aw_tys C) s := by
  have ht := lw_TB hts
  obtain ⟨f, hf⟩ := Classical.axiomOfChoice (lw_kn ht)
  obtain ⟨a0, g0, k0⟩ := lw_arr (ht _ tb_146)
  obtain ⟨a1, g1, k1⟩ := lw_arr (ht _ tb_148)
  obtain ⟨a2, g2, k2⟩ := lw_arr (ht _ tb_322)
  obtain ⟨a3, g3, k3⟩ := lw_arr (ht _ tb_147)
  obtain ⟨a4, g4, k4⟩ := lw_arrS (C := "OrangeFight$Scene") (hts _ (lw_in 488 (by decide +kernel)))
  refine ⟨(fun c => (f c).1, fun c => (f c).2), fun k => [a0, a1, a2, a3, a4].getD k 0, fun c q hq => hf c q hq, fun k q hq => ?_⟩
  rcases Nat.lt_or_ge k 5 with h | h
  · rcases (show k = 0 ∨ k = 1 ∨ k = 2 ∨ k = 3 ∨ k = 4 by omega) with rfl | rfl | rfl | rfl | rfl <;> cases hq
    · exact ⟨g0, k0⟩
    · exact ⟨g1, k1⟩
    · exact ⟨g2, k2⟩
    · exact ⟨g3, k3⟩
    · exact ⟨g4, k4⟩
  · have e : ∀ C : Nat → ClassId, (aw_tys C)[k]? = none := fun C => List.getElem?_eq_none (by exact h)
    rw [e] at hq
    cases hq
