theorem lp_u {σ α : Type} {f : (σ → Option α) → σ → Option α} {s0 : σ} (st : Nat → σ) (n : Nat) {res : Option α} (h0 : s0 = st 0) (hs : ∀ i, i < n → ∀ k, f k (st i) = k (st (i + 1))) (he : ∀ k, f k (st n) = res) {F : Nat} (hF : n < F) : aw_loop f F s0 = res := by
  rw [h0]
  exact lp_up st n res hs he hF
theorem wr0 {S : Nat → Int32} {n k : Nat} {g : Nat → Int32} (h : k < n) : wr S 0 n g k = g k := by
  rw [wr_in (by omega) (by omega)]
  rfl
/-- all but the fight at f -/
def kNF (f : Nat) (a k : Nat) : Bool := decide (a < f ∨ f + 11 < a)
theorem restart_x {F f : Nat} {v : Int32} {μ : aw_M} (hF : 2000 ≤ F) (hf : f = 39 ∨ f = 76) : T (f_X0_restart F f v μ) fun μ' => AgK (kNF f) μ μ' ∧ μ'.2 = μ.2 ∧
    (μ'.1 f 3 = 0 ∧ μ'.1 f 4 = 0 ∧ μ'.1 f 5 = v ∧ μ'.1 f 6 = 0 ∧ μ'.1 f 7 = 0 ∧ μ'.1 f 18 = 0) ∧ (∀ k, k < 5 → μ'.1 (f + 1) k = 0) ∧
    (∀ q, q < 9 → μ'.1 (f + 2) q = μ.1 8 q ∧ μ'.1 (f + 3) q = 0 ∧ μ'.1 (f + 4) q = 0 ∧ μ'.1 (f + 5) q = 0) ∧ (∀ k, k < 180 → μ'.1 (f + 6) k = 0) ∧
    (∀ c, c < 20 → μ'.1 (f + 7) c = μ.1 13 c ∧ μ'.1 (f + 8) c = 0) ∧ (∀ a, a < 100 → μ'.1 (f + 9) a = 0) ∧ μ'.1 (f + 10) = μ.1 (f + 10) := by
  unfold f_X0_restart f_X0_startDay
  rcases hf with rfl | rfl
  · simp only [plet, rf0, rf1, rf4, rf5, rf19, rf23, rf28, rf39, rf53, rf67, rf71, rf76, rf88, rf97, rf101, rf109, rf110, rf124, rf128, rf133, rf144, rf156, rf157, rf171, rf175, rf180, rf191, rf51]
    rw [fil_wr (n := 5) hF (by decide) (by decide), Option.bind_some, fil_wr (n := 9) hF (by decide) (by decide), Option.bind_some, fil_wr (n := 9) hF (by decide) (by decide), Option.bind_some, fil_wr (n := 9) hF (by decide) (by decide), Option.bind_some, fil_wr (n := 20) hF (by decide) (by decide), Option.bind_some, copyRow_eq (n := 9) (by decide) (by decide) (by decide), Option.bind_some, fil_wr (n := 180) hF (by decide) (by decide), Option.bind_some, fil_wr (n := 100) hF (by decide) (by decide), Option.bind_some, copyRow_eq (n := 20) (by decide) (by decide) (by decide), Option.bind_some, Option.bind_some, T_some]
    have hk : ∀ a k, 39 ≤ a → a ≤ 50 → kNF 39 a k = false := fun a k h1 h2 => decide_eq_false (by omega)
    have hk2 : ∀ (a : Nat) {X : Prop} (k : Nat), 39 ≤ a → a ≤ 50 → kNF 39 a k = true → X := fun a X k h1 h2 h => by rw [hk a k h1 h2] at h; cases h
    refine ⟨?_, rfl, ?_⟩
    · refine AgK.wA (AgK.wA (AgK.wA (AgK.wI (AgK.wA (AgK.wA (AgK.wA (AgK.wA (AgK.wA (AgK.wA (AgK.wI (AgK.wI (AgK.wI (AgK.wI (AgK.wI (AgK.rf μ) ?_) ?_) ?_) ?_) ?_) ?_) ?_) ?_) ?_) ?_) ?_) ?_) ?_) ?_) ?_
      all_goals first | exact hk _ _ (by decide) (by decide) | exact fun k h => hk2 _ k (by decide) (by decide) h
    · simp (disch := decide) only [Nat.reduceAdd, rA_s, rA_a, rI_s, rI_k, rI_a]
      refine ⟨⟨trivial, trivial, trivial, trivial, trivial, trivial⟩, fun k hk => wr0 hk, fun q hq => ⟨wr0 hq, wr0 hq, wr0 hq, wr0 hq⟩, fun k hk => wr0 hk, fun c hc => ⟨wr0 hc, wr0 hc⟩, fun a ha => wr0 ha, trivial⟩
  · simp only [plet, rf0, rf1, rf4, rf5, rf19, rf23, rf28, rf39, rf53, rf67, rf71, rf76, rf88, rf97, rf101, rf109, rf110, rf124, rf128, rf133, rf144, rf156, rf157, rf171, rf175, rf180, rf191, rf51]
    rw [fil_wr (n := 5) hF (by decide) (by decide), Option.bind_some, fil_wr (n := 9) hF (by decide) (by decide), Option.bind_some, fil_wr (n := 9) hF (by decide) (by decide), Option.bind_some, fil_wr (n := 9) hF (by decide) (by decide), Option.bind_some, fil_wr (n := 20) hF (by decide) (by decide), Option.bind_some, copyRow_eq (n := 9) (by decide) (by decide) (by decide), Option.bind_some, fil_wr (n := 180) hF (by decide) (by decide), Option.bind_some, fil_wr (n := 100) hF (by decide) (by decide), Option.bind_some, copyRow_eq (n := 20) (by decide) (by decide) (by decide), Option.bind_some, Option.bind_some, T_some]
    have hk : ∀ a k, 76 ≤ a → a ≤ 87 → kNF 76 a k = false := fun a k h1 h2 => decide_eq_false (by omega)
    have hk2 : ∀ (a : Nat) {X : Prop} (k : Nat), 76 ≤ a → a ≤ 87 → kNF 76 a k = true → X := fun a X k h1 h2 h => by rw [hk a k h1 h2] at h; cases h
    refine ⟨?_, rfl, ?_⟩
    · refine AgK.wA (AgK.wA (AgK.wA (AgK.wI (AgK.wA (AgK.wA (AgK.wA (AgK.wA (AgK.wA (AgK.wA (AgK.wI (AgK.wI (AgK.wI (AgK.wI (AgK.wI (AgK.rf μ) ?_) ?_) ?_) ?_) ?_) ?_) ?_) ?_) ?_) ?_) ?_) ?_) ?_) ?_) ?_
      all_goals first | exact hk _ _ (by decide) (by decide) | exact fun k h => hk2 _ k (by decide) (by decide) h
    · simp (disch := decide) only [Nat.reduceAdd, rA_s, rA_a, rI_s, rI_k, rI_a]
      refine ⟨⟨trivial, trivial, trivial, trivial, trivial, trivial⟩, fun k hk => wr0 hk, fun q hq => ⟨wr0 hq, wr0 hq, wr0 hq, wr0 hq⟩, fun k hk => wr0 hk, fun c hc => ⟨wr0 hc, wr0 hc⟩, fun a ha => wr0 ha, trivial⟩
/-- the reference's row behind a beginning -/
def zr (S : Nat → Int32) (i : Nat) : Nat → Int32 := fun k => if 455 ≤ k ∧ k < 455 + i ∧ ¬ (814 ≤ k ∧ k ≤ 913) then 0 else S k
def sDay0 (S : Nat → Int32) : Nat → Int32 := wr (wr S 674 20 (fun c => S (87 + c))) 494 180 (fun _ => 0)
def sBegin (nq : Nat) (v : Int32) (S : Nat → Int32) : Nat → Int32 := sDay0 (wr (upd (zr S 519) 457 v) 458 nq (fun q => S (20 + q)))
theorem newDay_m {F : Nat} {μ : aw_M} {S : Nat → Int32} (hF : 1000 ≤ F) : f_X11_newDay F 203 (aset μ 205 S) = some (aset μ 205 (sDay0 S)) := by
  unfold f_X11_newDay
  refine lp_u (fun i => (nI i, aset μ 205 (wr S 674 i (fun c => S (87 + c))))) 20 (by rw [wr_0]; rfl) ?_ ?_ (by omega)
  · intro i hi k
    show f_X11_newDay_2 F 203 k (nI i) (aset μ 205 _) = k (nI (i + 1), aset μ 205 _)
    unfold f_X11_newDay_2
    rw [if_neg (show ¬ (20 : Int32) ≤ nI i from nI_ge (b := 20) hi (by decide)), show (87 : Int32) + nI i = nI (87 + i) from nI_add 87 i, show (674 : Int32) + nI i = nI (674 + i) from nI_add 674 i, pI_in_t (by omega) (by decide), pg_t, pI_in_t (by omega) (by decide), pg_t, plet, rf203.2.1, nI_clamp (by omega), nI_clamp (by omega), rA_s, wI_wA, wr_out (k := 87 + i) (by omega), nI_1]
    rw [show S (87 + i) = (fun c => S (87 + c)) i from rfl, wr_s]
  · intro k
    show f_X11_newDay_2 F 203 k (nI 20) (aset μ 205 _) = _
    unfold f_X11_newDay_2 f_X11_newDay_33
    rw [if_pos (show (20 : Int32) ≤ nI 20 by decide)]
    refine lp_u (fun i => (nI i, aset μ 205 (wr (wr S 674 20 (fun c => S (87 + c))) 494 i (fun _ => 0)))) 180 (by rw [wr_0]; rfl) ?_ ?_ (by omega)
    · intro i hi k
      show f_X11_newDay_35 F 203 k (nI i) (aset μ 205 _) = k (nI (i + 1), aset μ 205 _)
      unfold f_X11_newDay_35
      rw [if_neg (show ¬ (180 : Int32) ≤ nI i from nI_ge (b := 180) hi (by decide)), show (494 : Int32) + nI i = nI (494 + i) from nI_add 494 i, pI_in_t (by omega) (by decide), pg_t, plet, rf203.2.1, nI_clamp (by omega), wI_wA, nI_1]
      rw [show (0 : Int32) = (fun _ : Nat => (0 : Int32)) i from rfl, wr_s]
    · intro k
      show f_X11_newDay_35 F 203 k (nI 180) (aset μ 205 _) = _
      unfold f_X11_newDay_35
      rw [if_pos (show (180 : Int32) ≤ nI 180 by decide)]
      rfl
theorem begins_m {F nq : Nat} {v : Int32} {μ : aw_M} {S : Nat → Int32} (hF : 1000 ≤ F) (hn : nq ≤ 9) (h2 : S 2 = nI nq) : f_X11_begins F 203 v (aset μ 205 S) = some (aset μ 205 (sBegin nq v S)) := by
  unfold f_X11_begins
  have z0 : zr S 0 = S := by
    funext k
    unfold zr
    rw [if_neg (by omega)]
  refine lp_u (fun i => (v, nI (455 + i), aset μ 205 (zr S i))) 519 (by rw [z0]; rfl) ?_ ?_ (by omega)
  · intro i hi k
    show f_X11_begins_4 F 203 k v (nI (455 + i)) (aset μ 205 (zr S i)) = k (v, nI (455 + i + 1), aset μ 205 (zr S (i + 1)))
    unfold f_X11_begins_4 f_X11_begins_31
    have hb : (814 ≤ nI (455 + i) ∧ nI (455 + i) ≤ 913) ↔ (814 ≤ 455 + i ∧ 455 + i ≤ 913) := by
      rw [show (814 : Int32) = nI 814 from rfl, show (913 : Int32) = nI 913 from rfl, nI_leI (by omega) (by omega), nI_leI (by omega) (by omega)]
    rw [if_neg (show ¬ (974 : Int32) ≤ nI (455 + i) from nI_ge (b := 974) (by omega) (by decide)), isIn_eq, Option.bind_some]
    by_cases hc : 814 ≤ 455 + i ∧ 455 + i ≤ 913
    · rw [decide_eq_true (hb.2 hc), if_pos rfl, nI_1]
      have : zr S (i + 1) = zr S i := by
        funext k
        unfold zr
        by_cases e : k = 455 + i
        · subst e
          rw [if_neg (by omega), if_neg (by omega)]
        · by_cases e2 : 455 ≤ k ∧ k < 455 + i ∧ ¬ (814 ≤ k ∧ k ≤ 913)
          · rw [if_pos e2, if_pos (by omega)]
          · rw [if_neg e2, if_neg (by omega)]
      rw [this]
    · rw [decide_eq_false (fun h => hc (hb.1 h)), if_neg Bool.false_ne_true, pI_in_t (by omega) (by decide), pg_t, plet, rf203.2.1, nI_clamp (by omega), wI_wA, nI_1]
      have : upd (zr S i) (455 + i) 0 = zr S (i + 1) := by
        funext k
        by_cases e : k = 455 + i
        · subst e
          rw [pk_us]
          unfold zr
          rw [if_pos (by omega)]
        · rw [pk_un e]
          unfold zr
          by_cases e2 : 455 ≤ k ∧ k < 455 + i ∧ ¬ (814 ≤ k ∧ k ≤ 913)
          · rw [if_pos e2, if_pos (by omega)]
          · rw [if_neg e2, if_neg (by omega)]
      rw [this]
  · intro k
    show f_X11_begins_4 F 203 k v (nI 974) (aset μ 205 (zr S 519)) = _
    unfold f_X11_begins_4 f_X11_begins_37
    have z2 : zr S 519 2 = nI nq := by
      unfold zr
      rw [if_neg (by omega)]
      exact h2
    rw [if_pos (show (974 : Int32) ≤ nI 974 by decide), show aw_in 457 1155 = true by decide, pg_t, plet, rf203.2.1, show (457 : Int32).toNatClampNeg = 457 by decide, wI_wA]
    refine lp_u (fun i => (nI i, aset μ 205 (wr (upd (zr S 519) 457 v) 458 i (fun q => S (20 + q))))) nq (by rw [wr_0]; rfl) ?_ ?_ (by omega)
    · intro i hi k
      show f_X11_begins_48 F 203 k (nI i) (aset μ 205 _) = k (nI (i + 1), aset μ 205 _)
      unfold f_X11_begins_48
      rw [show aw_in 2 1155 = true by decide, pg_t, rf203.2.1, show (2 : Int32).toNatClampNeg = 2 by decide, rA_s, wr_out (by omega), pk_un (by omega), z2, if_neg (nI_ge hi (by omega)), show (20 : Int32) + nI i = nI (20 + i) from nI_add 20 i, show (458 : Int32) + nI i = nI (458 + i) from nI_add 458 i, pI_in_t (by omega) (by decide), pg_t, pI_in_t (by omega) (by decide), pg_t, plet, nI_clamp (by omega), nI_clamp (by omega), wI_wA, wr_out (k := 20 + i) (by omega), pk_un (by omega), nI_1]
      have : zr S 519 (20 + i) = (fun q => S (20 + q)) i := by
        unfold zr
        rw [if_neg (by omega)]
      rw [this, wr_s]
    · intro k
      show f_X11_begins_48 F 203 k (nI nq) (aset μ 205 _) = _
      unfold f_X11_begins_48 f_X11_begins_83
      rw [show aw_in 2 1155 = true by decide, pg_t, rf203.2.1, show (2 : Int32).toNatClampNeg = 2 by decide, rA_s, wr_out (by omega), pk_un (by omega), z2, if_pos (nI_le (Nat.le_refl _) (by omega)), newDay_m hF]
      rfl
/-- all that a state needs but the fight -/
def kOF (a k : Nat) : Bool := keepF a k && decide (¬ (39 ≤ a ∧ a ≤ 50) ∧ a ≠ 205)
theorem kOF_f {a k : Nat} (h : 39 ≤ a) (h2 : a ≤ 50) : kOF a k = false := by
  unfold kOF
  rw [decide_eq_false (by omega), Bool.and_false]
theorem kOF_5 {k : Nat} : kOF 205 k = false := by
  unfold kOF
  rw [decide_eq_false (by omega), Bool.and_false]
theorem kOF_n {a k : Nat} (h : keepF a k = false) : kOF a k = false := by
  unfold kOF
  rw [h, Bool.false_and]
theorem kOF_t {a k : Nat} (h : keepF a k = true) (h2 : ¬ (39 ≤ a ∧ a ≤ 50) ∧ a ≠ 205) : kOF a k = true := by
  unfold kOF
  rw [h, decide_eq_true h2, Bool.and_true]
theorem keep_tp {a k : Nat} (h : kTp a k = true) : kOF a k = true := by
  unfold kTp at h
  replace h := of_decide_eq_true h
  rcases h with ⟨rfl, rfl⟩ | ⟨rfl, rfl⟩ | rfl | rfl <;> exact kOF_t rfl (by decide)
theorem keep_fa {a k : Nat} (h : kFa a k = true) : kOF a k = true := by
  unfold kFa at h
  replace h := of_decide_eq_true h
  rcases h with ⟨rfl, rfl⟩ | ⟨rfl, rfl⟩ <;> exact kOF_t rfl (by decide)
theorem keep_kp {a k : Nat} (h : kKp a k = true) : kOF a k = true := by
  unfold kKp at h
  replace h := of_decide_eq_true h
  rcases h with rfl | ⟨h1, h2⟩ | ⟨h1, h2⟩
  · exact kOF_t rfl (by decide)
  · exact kOF_t (keepA_F (keepA_k a h1 h2)) (by omega)
  · have h3 : a = 227 ∨ a = 228 ∨ a = 229 := by omega
    rcases h3 with rfl | rfl | rfl <;> exact kOF_t rfl (by decide)
theorem keep_pz {a k : Nat} (h : kPz a k = true) : kOF a k = true := by
  unfold kPz at h
  replace h := of_decide_eq_true h
  rcases h with rfl | rfl | rfl | rfl | rfl | rfl | rfl | rfl | rfl | ⟨rfl, h⟩ | ⟨rfl, h⟩ | ⟨rfl, h⟩ | ⟨rfl, h⟩
  · exact kOF_t rfl (by decide)
  · exact kOF_t rfl (by decide)
  · exact kOF_t rfl (by decide)
  · exact kOF_t rfl (by decide)
  · exact kOF_t rfl (by decide)
  · exact kOF_t rfl (by decide)
  · exact kOF_t rfl (by decide)
  · exact kOF_t rfl (by decide)
  · exact kOF_t rfl (by decide)
  · rcases h with rfl | rfl | rfl | rfl | rfl <;> exact kOF_t rfl (by decide)
  · subst h; exact kOF_t rfl (by decide)
  · rcases h with rfl | rfl | rfl <;> exact kOF_t rfl (by decide)
  · subst h; exact kOF_t rfl (by decide)
theorem keep_k {a k : Nat} (h : kK a k = true) : kOF a k = true := by
  unfold kK at h
  replace h := of_decide_eq_true h
  rcases h with rfl | rfl | rfl <;> exact kOF_t rfl (by decide)
theorem qSC_N {T : Nat → Nat → Nat} {W : Nat → List Nat} {P Y G : Nat → Nat → Nat} {μ : aw_M} {b : Nat} {S : Nat → Int32} {N N' : Nat → Int64} (hN : ∀ k, k < 9 → N' k = N k) (h : qSC T W P Y G μ b S N) : qSC T W P Y G μ b S N' := by
  refine ⟨h.1, ⟨fun q hq => ?_, h.2.1.2⟩, h.2.2⟩
  obtain ⟨g1, g2, g3⟩ := h.2.1.1 q hq
  have hq9 : q < 9 := Nat.lt_of_lt_of_le hq h.1.1.1.2.2.1
  exact ⟨g1, g2, by rw [hN q hq9]; exact g3⟩
/-- a state whose fight alone has changed -/
theorem R_fight {C : Nat → Nat → Nat} {W : Nat → List Nat} {P Y G : Nat → Nat → Nat} {d m n : Nat} {μ μ' : aw_M} (hR : R μ) (hS : qSC C W P Y G μ 4 (μ.1 205) (μ.2 208) ∧ qGX C μ 28) (hA : AgK kOF μ μ') (h5 : ∀ k, k < 455 ∨ 974 ≤ k ∨ (814 ≤ k ∧ k < 914) → μ'.1 205 k = μ.1 205 k) (hx : XS C 39 μ' (μ'.1 205)) (hw : SW C d m n (60 * m) (μ'.1 205)) (hd : dmn d m n) : R μ' := by
  obtain ⟨-, r2, r3, r4, r5, r6⟩ := R_iff.1 hR
  have hk : ∀ a, 5 ≤ a → a ≤ 38 → a ≠ 27 → ∀ k, kOF a k = true := fun a h1 h2 h3 k => by
    exact kOF_t (keepA_F (keepA_sc a h1 (by omega) h3)) (by omega)
  refine R_iff.2 ⟨⟨C, W, P, Y, gS (μ'.1 205), ?_, qGX_ag (fun a h1 h2 => hA.a (hk a (by omega) (by omega) (by omega))) hS.2⟩, Rtp_ag (hA.sub fun _ _ => keep_tp) r2, Rfa_ag (hA.sub fun _ _ => keep_fa) r3, Rkp_ag (hA.sub fun _ _ => keep_kp) r4, qPz_ag (hA.sub fun _ _ => keep_pz) r5, qK_ag (hA.sub fun _ _ => keep_k) r6⟩
  refine qSC_N (N := μ.2 208) (fun k hk9 => (hA 208 k ?_).2) (qSC_f hS.1 (fun a h1 h2 => hA.a (hk a (by omega) (by omega) (by omega))) (hA.b (hk 6 (by omega) (by omega) (by omega))) (fun k hk => h5 k (by omega)) (fight_of hx hw hd (fun a ha => by
    rw [h5 _ (by omega), (hS.1.2.2.2.2.2.2.1.2.2.2 a ha).2]
    exact inB_nI (hS.1.2.2.2.2.1.2.2.2.2.2 a ha))))
  refine kOF_t ?_ (by omega)
  unfold keepF
  rw [Bool.or_eq_true, decide_eq_true_eq]
  exact .inr (.inr (.inr (.inr (.inr (.inr (.inr ⟨rfl, hk9⟩))))))
