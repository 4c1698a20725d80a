/-! tokens: the reference -/
def MC (B : Nat → Nat) (n lim : Nat) (μ : aw_M) : Prop := n ≤ 940 ∧ μ.1 203 3 = nI n ∧ μ.1 203 5 = nI lim ∧ (∀ i, i < n → B i < 256 ∧ μ.1 204 i = (nI (B i)).toInt8.toInt32) ∧ ∀ i, i < 20 → μ.2 209 i = e8 (kw i)
def kXm (a k : Nat) : Bool := decide (¬ (a = 203 ∧ (k = 4 ∨ (11 ≤ k ∧ k ≤ 14) ∨ k = 17)))
theorem MC_ag {B : Nat → Nat} {n lim : Nat} {μ μ' : aw_M} {K : Nat → Nat → Bool} (ag : AgK K μ μ') (hK : ∀ a k, (a = 203 ∧ (k = 3 ∨ k = 5)) ∨ a = 204 ∨ a = 209 → K a k = true) (h : MC B n lim μ) : MC B n lim μ' := by
  obtain ⟨h1, h2, h3, h4, h5⟩ := h
  refine ⟨h1, ?_, ?_, fun i hi => ⟨(h4 i hi).1, ?_⟩, fun i hi => ?_⟩
  · rw [(ag 203 3 (hK 203 3 (by omega))).1]; exact h2
  · rw [(ag 203 5 (hK 203 5 (by omega))).1]; exact h3
  · rw [(ag 204 i (hK 204 i (by omega))).1]; exact (h4 i hi).2
  · rw [(ag 209 i (hK 209 i (by omega))).2]; exact h5 i hi
def km (k : Nat) : Nat := if k = 4 then 0 else if k = 5 then 4 else k
def MTk (B : Nat → Nat) (n lim p : Nat) (μ : aw_M) : Prop := μ.1 203 4 = nI (tN B n lim p) ∧ μ.1 203 12 = nI (tSt B n lim p) ∧ μ.1 203 11 = nI (km (tK B n lim p)) ∧ (tK B n lim p = 1 → μ.2 203 17 = e8 (tW B n p)) ∧ ((tK B n lim p = 2 ∨ tK B n lim p = 3) → μ.1 203 14 = nI (tVl B n p))
theorem peek_m {F n lim q : Nat} {B : Nat → Nat} {μ : aw_M} (mc : MC B n lim μ) (h4 : μ.1 203 4 = nI q) (hq : q ≤ n) : f_X11_peek F 203 μ = some (if q < n then nI (B q) else -1, μ) := by
  have n9 := mc.1
  have r1 : aw_rf 203 1 = 204 := by simp only [rf203, rf203b]
  unfold f_X11_peek
  rw [mc.2.1, h4]
  by_cases c : q < n
  · obtain ⟨b1, b2⟩ := mc.2.2.2.1 q c
    rw [if_neg (nI_ge c (by omega)), pI_in_t (by omega) (by decide), pg_t, r1, nI_clamp (by omega), b2, oct_I _ b1, if_pos c]
  · rw [if_pos (nI_le (by omega) (by omega)), if_neg c]
theorem isSmall_m {F b : Nat} {μ : aw_M} (hb : b < 256) : f_X11_isSmall F (nI b) μ = some (sml b, μ) := by
  have key : ∀ b, b < 256 → (if nI b < 97 then false else if 122 < nI b then false else true) = sml b := by decide +kernel
  rw [← key b hb]
  unfold f_X11_isSmall
  split
  · rfl
  · split
    · rfl
    · rfl
theorem isDigit_m {F b : Nat} {μ : aw_M} (hb : b < 256) : f_X11_isDigit F (nI b) μ = some (dgt b, μ) := by
  have key : ∀ b, b < 256 → (if nI b < 48 then false else if 57 < nI b then false else true) = dgt b := by decide +kernel
  rw [← key b hb]
  unfold f_X11_isDigit
  split
  · rfl
  · split
    · rfl
    · rfl
theorem aw_b_eq : ∀ a b : Bool, aw_b a = aw_b b ↔ a = b := by decide
theorem shl8_m : ((8 : Int32).toInt64 &&& 63) = (8 : Int64) := by decide
theorem mrun {F a e n lim : Nat} {B : Nat → Nat} {μ : aw_M} (hF : 2000 ≤ F) (mc : MC B n lim μ) (h4 : μ.1 203 4 = nI a) (h13 : μ.1 203 13 = 0) (h1 : a < e) (h2 : e ≤ n) (h3 : ∀ i, a ≤ i → i < e → (sml (B i) || dgt (B i)) = true) (he : ¬ (e < n ∧ (sml (B e) || dgt (B e)) = true)) : T (f_X11_next_164 F 203 (nI (B a)) μ) fun μ' => AgK (fun a k => decide (¬ (a = 203 ∧ (k = 4 ∨ k = 11 ∨ k = 13 ∨ k = 14 ∨ k = 17)))) μ μ' ∧ μ'.1 203 4 = nI e ∧ μ'.1 203 11 = nI (km (tR B a e)) ∧ (tR B a e = 1 → μ'.2 203 17 = e8 (wd B a (e - a))) ∧ (tR B a e = 2 → μ'.1 203 14 = nI (nmv B a (e - a))) := by
  have n9 := mc.1
  obtain ⟨ba, -⟩ := mc.2.2.2.1 a (by omega)
  have dj : ∀ c, dgt c = true → sml c = true → False := fun c h h' => by
    have := of_decide_eq_true h
    have := of_decide_eq_true h'
    omega
  unfold f_X11_next_164
  rw [isSmall_m ba, Option.bind_some]
  dsimp only
  rw [plet, plet]
  refine T_lp (fun i s => ∃ x3 μ', s = (sml (B a), x3, μ') ∧ AgK (fun a k => decide (¬ (a = 203 ∧ (k = 4 ∨ k = 11 ∨ k = 13 ∨ k = 14 ∨ k = 17)))) μ μ' ∧ μ'.1 203 4 = nI (a + i) ∧ μ'.1 203 13 = nI i ∧ (x3 = true ↔ ∀ j, j < a + i → a ≤ j → sml (B j) = sml (B a)) ∧ (alf sml B a (a + i) = true → i ≤ 7 → μ'.2 203 17 = e8 (wd B a i)) ∧ (alf dgt B a (a + i) = true → i ≤ 3 → μ'.1 203 14 = nI (nmv B a i))) (e - a) (by omega) ⟨true, _, rfl, ((AgK.rf μ).wL (decide_eq_false (by omega))).wI (decide_eq_false (by omega)), ?_, ?_, ⟨fun _ j h1 h2 => by omega, fun _ => rfl⟩, fun _ _ => ?_, fun _ _ => rI_s⟩ ?_ ?_
  · rw [rI_k (by decide), rL_1]; exact h4
  · rw [rI_k (by decide), rL_1]; exact h13
  · rw [rI_2, rL_s]; rfl
  · rintro i hi _ ⟨x3, μ', rfl, ag, g4, g13, gx, gw, gn⟩ k hk
    have mc' : MC B n lim μ' := MC_ag ag (fun a k h => decide_eq_true (by omega)) mc
    obtain ⟨b1, -⟩ := mc'.2.2.2.1 (a + i) (by omega)
    have h3' := h3 (a + i) (by omega) (by omega)
    have hpk : f_X11_peek F 203 μ' = some (nI (B (a + i)), μ') := by
      rw [peek_m mc' g4 (by omega), if_pos (by omega)]
    -- the tail: x3' is what all is behind this letter
    have f221 : ∀ x3', (x3' = true ↔ ∀ j, j < a + (i + 1) → a ≤ j → sml (B j) = sml (B a)) → T (f_X11_next_221 F 203 k (sml (B a)) x3' μ') fun μ' => AgK (fun a k => decide (¬ (a = 203 ∧ (k = 4 ∨ k = 11 ∨ k = 13 ∨ k = 14 ∨ k = 17)))) μ μ' ∧ μ'.1 203 4 = nI e ∧ μ'.1 203 11 = nI (km (tR B a e)) ∧ (tR B a e = 1 → μ'.2 203 17 = e8 (wd B a (e - a))) ∧ (tR B a e = 2 → μ'.1 203 14 = nI (nmv B a (e - a))) := fun x3' hx3 => by
      have f275 : ∀ μ1, AgK (fun a k => decide (¬ (a = 203 ∧ (k = 4 ∨ k = 11 ∨ k = 13 ∨ k = 14 ∨ k = 17)))) μ μ1 → μ1.1 203 4 = nI (a + i) → μ1.1 203 13 = nI i → (alf sml B a (a + (i + 1)) = true → i + 1 ≤ 7 → μ1.2 203 17 = e8 (wd B a (i + 1))) → (alf dgt B a (a + (i + 1)) = true → i + 1 ≤ 3 → μ1.1 203 14 = nI (nmv B a (i + 1))) → T (f_X11_next_275 F 203 k (sml (B a)) x3' μ1) fun μ' => AgK (fun a k => decide (¬ (a = 203 ∧ (k = 4 ∨ k = 11 ∨ k = 13 ∨ k = 14 ∨ k = 17)))) μ μ' ∧ μ'.1 203 4 = nI e ∧ μ'.1 203 11 = nI (km (tR B a e)) ∧ (tR B a e = 1 → μ'.2 203 17 = e8 (wd B a (e - a))) ∧ (tR B a e = 2 → μ'.1 203 14 = nI (nmv B a (e - a))) := fun μ1 ag1 k4 k13 kw2 kn => by
        unfold f_X11_next_275
        rw [plet, plet]
        refine hk _ ⟨x3', _, rfl, (ag1.wI (decide_eq_false (by omega))).wI (decide_eq_false (by omega)), ?_, ?_, hx3, fun h1 h2 => ?_, fun h1 h2 => ?_⟩
        · rw [rI_s, rI_k (by decide), k4, nI_1]; rfl
        · rw [rI_k (by decide), rI_s, k13, nI_1]
        · rw [rI_2, rI_2]; exact kw2 h1 h2
        · rw [rI_k (by decide), rI_k (by decide)]; exact kn h1 h2
      have f248 : ∀ μ1, AgK (fun a k => decide (¬ (a = 203 ∧ (k = 4 ∨ k = 11 ∨ k = 13 ∨ k = 14 ∨ k = 17)))) μ μ1 → μ1.1 = μ'.1 → (alf sml B a (a + (i + 1)) = true → i + 1 ≤ 7 → μ1.2 203 17 = e8 (wd B a (i + 1))) → T (f_X11_next_248 F 203 k (sml (B a)) x3' μ1) fun μ' => AgK (fun a k => decide (¬ (a = 203 ∧ (k = 4 ∨ k = 11 ∨ k = 13 ∨ k = 14 ∨ k = 17)))) μ μ' ∧ μ'.1 203 4 = nI e ∧ μ'.1 203 11 = nI (km (tR B a e)) ∧ (tR B a e = 1 → μ'.2 203 17 = e8 (wd B a (e - a))) ∧ (tR B a e = 2 → μ'.1 203 14 = nI (nmv B a (e - a))) := fun μ1 ag1 e1 kw2 => by
        have mc1 : MC B n lim μ1 := MC_ag ag1 (fun a k h => decide_eq_true (by omega)) mc
        have k4 : μ1.1 203 4 = nI (a + i) := by rw [e1]; exact g4
        unfold f_X11_next_248
        rw [e1, g13]
        by_cases c : 3 ≤ i
        · rw [if_pos (show (3 : Int32) ≤ nI i from (show nI 3 ≤ nI i from nI_le c (by omega)))]
          exact f275 μ1 ag1 k4 (by rw [e1]; exact g13) kw2 fun _ h => by omega
        · rw [if_neg (show ¬ (3 : Int32) ≤ nI i from (show ¬ nI 3 ≤ nI i from nI_ge (by omega) (by omega))), peek_m mc1 k4 (by omega), if_pos (by omega), Option.bind_some, plet]
          refine f275 _ (ag1.wI (decide_eq_false (by omega))) ?_ ?_ ?_ fun h1 h2 => ?_
          · rw [rI_k (by decide)]; exact k4
          · rw [rI_k (by decide), e1]; exact g13
          · rw [rI_2]; exact kw2
          · have h5 := (alf_s (q := a + i) (by omega)).1 h1
            have h6 := of_decide_eq_true h5.2
            rw [rI_s, gn h5.1 (by omega), show (10 : Int32) * nI (nmv B a i) = nI (10 * nmv B a i) from pk_mul 10 _, nI_add, show (48 : Int32) = nI 48 from rfl, nI_sub (by omega)]
            exact congrArg nI (by show _ = nmv B a i * 10 + (B (a + i) - 48); omega)
      unfold f_X11_next_221
      rw [g13]
      by_cases c : 7 ≤ i
      · rw [if_pos (show (7 : Int32) ≤ nI i from (show nI 7 ≤ nI i from nI_le c (by omega)))]
        exact f248 μ' ag rfl fun _ h => by omega
      · rw [if_neg (show ¬ (7 : Int32) ≤ nI i from (show ¬ nI 7 ≤ nI i from nI_ge (by omega) (by omega))), hpk, Option.bind_some, plet]
        refine f248 _ (ag.wL (decide_eq_false (by omega))) rfl fun h1 h2 => ?_
        have h5 := (alf_s (q := a + i) (by omega)).1 h1
        have h6 := of_decide_eq_true h5.2
        rw [rL_s]
        dsimp only
        rw [gw h5.1 (by omega), shl8_m, i32_64 _ b1, wd_s, e8_s, show B (a + i) - 96 + 96 = B (a + i) by omega]
    have f201 : T (f_X11_next_201 F 203 k (sml (B a)) x3 μ') fun μ' => AgK (fun a k => decide (¬ (a = 203 ∧ (k = 4 ∨ k = 11 ∨ k = 13 ∨ k = 14 ∨ k = 17)))) μ μ' ∧ μ'.1 203 4 = nI e ∧ μ'.1 203 11 = nI (km (tR B a e)) ∧ (tR B a e = 1 → μ'.2 203 17 = e8 (wd B a (e - a))) ∧ (tR B a e = 2 → μ'.1 203 14 = nI (nmv B a (e - a))) := by
      have hno : ¬ (∀ j, j < a + (i + 1) → a ≤ j → sml (B j) = sml (B a)) → T (f_X11_next_220 F 203 k (sml (B a)) μ') fun μ' => AgK (fun a k => decide (¬ (a = 203 ∧ (k = 4 ∨ k = 11 ∨ k = 13 ∨ k = 14 ∨ k = 17)))) μ μ' ∧ μ'.1 203 4 = nI e ∧ μ'.1 203 11 = nI (km (tR B a e)) ∧ (tR B a e = 1 → μ'.2 203 17 = e8 (wd B a (e - a))) ∧ (tR B a e = 2 → μ'.1 203 14 = nI (nmv B a (e - a))) := fun h => by
        unfold f_X11_next_220
        exact f221 false ⟨fun h2 => (by cases h2), fun h2 => absurd h2 h⟩
      unfold f_X11_next_201
      by_cases c : x3 = true
      · rw [if_pos c, hpk, Option.bind_some]
        dsimp only
        rw [isSmall_m b1, Option.bind_some]
        dsimp only
        by_cases c2 : sml (B (a + i)) = sml (B a)
        · rw [if_pos ((aw_b_eq _ _).2 c2)]
          refine f221 true ⟨fun _ j h1 h2 => ?_, fun _ => rfl⟩
          by_cases ej : j = a + i
          · rw [ej]; exact c2
          · exact gx.1 c j (by omega) h2
        · rw [if_neg fun h => c2 ((aw_b_eq _ _).1 h)]
          exact hno fun h => c2 (h (a + i) (by omega) (by omega))
      · rw [if_neg c]
        exact hno fun h => c (gx.2 fun j h1 h2 => h j (by omega) h2)
    show T (f_X11_next_181 F 203 k (sml (B a)) x3 μ') _
    unfold f_X11_next_181
    rw [hpk, Option.bind_some]
    dsimp only
    rw [isSmall_m b1, Option.bind_some]
    dsimp only
    by_cases hs : sml (B (a + i)) = true
    · rw [hs, if_pos rfl]
      exact f201
    · rw [if_neg hs, hpk, Option.bind_some]
      dsimp only
      rw [isDigit_m b1, Option.bind_some]
      dsimp only
      have hd : dgt (B (a + i)) = true := by
        cases e : sml (B (a + i)) with
        | true => exact absurd e hs
        | false => rw [e, Bool.false_or] at h3'; exact h3'
      rw [if_pos hd]
      exact f201
  · rintro _ ⟨x3, μ', rfl, ag, g4, g13, gx, gw, gn⟩ k
    have mc' : MC B n lim μ' := MC_ag ag (fun a k h => decide_eq_true (by omega)) mc
    rw [show a + (e - a) = e by omega] at g4 gx gw gn
    have f298 : T (f_X11_next_298 F 203 (sml (B a)) x3 μ') fun μ' => AgK (fun a k => decide (¬ (a = 203 ∧ (k = 4 ∨ k = 11 ∨ k = 13 ∨ k = 14 ∨ k = 17)))) μ μ' ∧ μ'.1 203 4 = nI e ∧ μ'.1 203 11 = nI (km (tR B a e)) ∧ (tR B a e = 1 → μ'.2 203 17 = e8 (wd B a (e - a))) ∧ (tR B a e = 2 → μ'.1 203 14 = nI (nmv B a (e - a))) := by
      have wr : ∀ v, v = tR B a e → T (some (aw_wI μ' 203 11 (nI (km v)))) fun μ' => AgK (fun a k => decide (¬ (a = 203 ∧ (k = 4 ∨ k = 11 ∨ k = 13 ∨ k = 14 ∨ k = 17)))) μ μ' ∧ μ'.1 203 4 = nI e ∧ μ'.1 203 11 = nI (km (tR B a e)) ∧ (tR B a e = 1 → μ'.2 203 17 = e8 (wd B a (e - a))) ∧ (tR B a e = 2 → μ'.1 203 14 = nI (nmv B a (e - a))) := fun v hv => by
        rw [T_some, ← hv]
        have c1 : v = 1 → alf sml B a e = true ∧ e ≤ a + 7 := fun h => by
          rw [hv] at h
          unfold tR at h
          by_cases c : alf sml B a e = true ∧ e ≤ a + 7
          · exact c
          · rw [if_neg c] at h
            split at h <;> cases h
        have c2 : v = 2 → alf dgt B a e = true ∧ e ≤ a + 3 := fun h => by
          rw [hv] at h
          unfold tR at h
          by_cases c : alf sml B a e = true ∧ e ≤ a + 7
          · rw [if_pos c] at h
            cases h
          · rw [if_neg c] at h
            by_cases c2 : alf dgt B a e = true ∧ e ≤ a + 3
            · exact c2
            · rw [if_neg c2] at h
              cases h
        refine ⟨ag.wI (decide_eq_false (by omega)), ?_, rI_s, fun h => ?_, fun h => ?_⟩
        · rw [rI_k (by decide)]; exact g4
        · rw [rI_2]; exact gw (c1 h).1 (by have := (c1 h).2; omega)
        · rw [rI_k (by decide)]; exact gn (c2 h).1 (by have := (c2 h).2; omega)
      have f320 : tR B a e = 5 → T (f_X11_next_320 F 203 μ') fun μ' => AgK (fun a k => decide (¬ (a = 203 ∧ (k = 4 ∨ k = 11 ∨ k = 13 ∨ k = 14 ∨ k = 17)))) μ μ' ∧ μ'.1 203 4 = nI e ∧ μ'.1 203 11 = nI (km (tR B a e)) ∧ (tR B a e = 1 → μ'.2 203 17 = e8 (wd B a (e - a))) ∧ (tR B a e = 2 → μ'.1 203 14 = nI (nmv B a (e - a))) := fun h => by
        unfold f_X11_next_320
        rw [plet]
        exact wr 5 h.symm
      have hsa : sml (B a) = true → ¬ alf dgt B a e = true := fun h h2 => dj (B a) (alf_t.1 h2 a h1 (Nat.le_refl _)) h
      have hda : ¬ sml (B a) = true → ¬ alf sml B a e = true := fun h h2 => h (alf_t.1 h2 a h1 (Nat.le_refl _))
      unfold f_X11_next_298
      by_cases c : x3 = true
      · have hall := gx.1 c
        rw [if_pos c]
        by_cases cs : sml (B a) = true
        · have hs : alf sml B a e = true := alf_t.2 fun i h1 h2 => (hall i h1 h2).trans cs
          rw [if_pos cs]
          unfold f_X11_next_317
          rw [g13]
          by_cases c7 : e ≤ a + 7
          · rw [if_pos (show nI (e - a) ≤ 7 from (show nI (e - a) ≤ nI 7 from nI_le (by omega) (by decide))), if_pos cs, plet]
            exact wr 1 (by unfold tR; rw [if_pos ⟨hs, c7⟩])
          · rw [if_neg (show ¬ nI (e - a) ≤ 7 from (show ¬ nI (e - a) ≤ nI 7 from nI_ge (by omega) (by omega)))]
            exact f320 (by unfold tR; rw [if_neg (fun h => c7 h.2), if_neg (fun h => hsa cs h.1)])
        · have hd : alf dgt B a e = true := alf_t.2 fun i h4 h5 => by
            have h6 := hall i h4 h5
            have h7 := h3 i h5 h4
            cases e1 : sml (B i) with
            | true => rw [e1] at h6; exact absurd h6.symm cs
            | false => rw [e1, Bool.false_or] at h7; exact h7
          rw [if_neg cs]
          unfold f_X11_next_317
          rw [g13]
          by_cases c3 : e ≤ a + 3
          · rw [if_pos (show nI (e - a) ≤ 3 from (show nI (e - a) ≤ nI 3 from nI_le (by omega) (by decide))), if_neg cs, plet]
            exact wr 2 (by unfold tR; rw [if_neg (fun h => hda cs h.1), if_pos ⟨hd, c3⟩])
          · rw [if_neg (show ¬ nI (e - a) ≤ 3 from (show ¬ nI (e - a) ≤ nI 3 from nI_ge (by omega) (by omega)))]
            exact f320 (by unfold tR; rw [if_neg (fun h => hda cs h.1), if_neg (fun h => c3 h.2)])
      · rw [if_neg c]
        refine f320 ?_
        unfold tR
        rw [if_neg fun h => c (gx.2 fun j h4 h5 => ?_), if_neg fun h => c (gx.2 fun j h4 h5 => ?_)]
        · have e1 : ∀ j, a ≤ j → j < e → sml (B j) = false := fun j h6 h7 => by
            cases e2 : sml (B j) with
            | false => rfl
            | true => exact (dj (B j) (alf_t.1 h.1 j h7 h6) e2).elim
          rw [e1 j h5 h4, e1 a (Nat.le_refl _) h1]
        · rw [alf_t.1 h.1 j h4 h5, alf_t.1 h.1 a h1 (Nat.le_refl _)]
    show T (f_X11_next_181 F 203 k (sml (B a)) x3 μ') _
    unfold f_X11_next_181
    rw [peek_m mc' g4 h2, Option.bind_some]
    dsimp only
    by_cases hen : e < n
    · obtain ⟨b1, -⟩ := mc'.2.2.2.1 e hen
      have hno : (sml (B e) || dgt (B e)) = false := by
        cases e1 : (sml (B e) || dgt (B e)) with
        | false => rfl
        | true => exact absurd ⟨hen, e1⟩ he
      rw [Bool.or_eq_false_iff] at hno
      rw [if_pos hen, isSmall_m b1, Option.bind_some]
      dsimp only
      rw [hno.1, if_neg Bool.false_ne_true, peek_m mc' g4 h2, Option.bind_some]
      dsimp only
      rw [if_pos hen, isDigit_m b1, Option.bind_some]
      dsimp only
      rw [hno.2, if_neg Bool.false_ne_true]
      exact f298
    · rw [if_neg hen, show f_X11_isSmall F (-1) μ' = some (false, μ') from by unfold f_X11_isSmall; rw [if_pos (by decide)], Option.bind_some]
      dsimp only
      rw [if_neg Bool.false_ne_true, peek_m mc' g4 h2, Option.bind_some]
      dsimp only
      rw [if_neg hen, show f_X11_isDigit F (-1) μ' = some (false, μ') from by unfold f_X11_isDigit; rw [if_pos (by decide)], Option.bind_some]
      dsimp only
      rw [if_neg Bool.false_ne_true]
      exact f298
