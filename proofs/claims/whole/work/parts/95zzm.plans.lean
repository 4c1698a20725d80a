/-! plans: the text -/
theorem qTM_s {C : Nat → Nat → Nat} {S S' : Nat → Int32} (hwf : qTWF C) (hs : ∀ i, i < 427 → S' i = S i) (tm : qTM C S) : qTM C S' := by
  have n9 := hwf.1.2.2.1
  have n20 := hwf.1.2.2.2
  obtain ⟨t1, t2, t3, t4, t5, t6, t7⟩ := tm
  refine ⟨?_, fun i hi => ?_, fun i hi => ?_, fun q hq => ?_, fun q hq => ?_, fun c hc => ?_, fun x hx => ?_⟩
  · rw [hs 0 (by decide), hs 1 (by decide), hs 2 (by decide), hs 3 (by decide)]; exact t1
  · rw [hs _ (by omega)]; exact t2 i hi
  · rw [hs _ (by omega)]; exact t3 i hi
  · rw [hs _ (by omega), hs (20 + q) (by omega), hs (29 + q) (by omega)]; exact t4 q hq
  · rw [hs _ (by omega)]; exact t5 q hq
  · rw [hs _ (by omega), hs (67 + c) (by omega), hs (87 + c) (by omega), hs (107 + c) (by omega)]; exact t6 c hc
  · rw [hs _ (by omega), hs (227 + x) (by omega), hs (327 + x) (by omega)]; exact t7 x hx
theorem qYM_s {Y : Nat → Nat → Nat} {nq : Nat} {S S' : Nat → Int32} (y1 : qYWF Y nq) (hs : ∀ i, 974 ≤ i → i < 1155 → S' i = S i) (y3 : qYM Y S) : qYM Y S' := by
  have yl := y1.1
  refine ⟨?_, fun i hi => ?_⟩
  · rw [hs _ (by decide) (by decide)]; exact y3.1
  · rw [hs _ (by omega) (by omega), hs (976 + 3 * i) (by omega) (by omega), hs (977 + 3 * i) (by omega) (by omega)]; exact y3.2 i hi
theorem qF_s {C G : Nat → Nat → Nat} {μ : aw_M} {f : Nat} {S S' : Nat → Int32} (hwf : qTWF C) (f1 : qFWF C G) (hs : ∀ i, 455 ≤ i → i < 974 → S' i = S i) (f3 : qFM C G S) (f4 : qFS C G μ f S) : qFM C G S' ∧ qFS C G μ f S' := by
  have n9 := hwf.1.2.2.1
  have n20 := hwf.1.2.2.2
  have gl := f1.1
  refine ⟨⟨?_, fun q hq => ⟨?_, ?_, fun c hc => ?_⟩, fun c hc => ?_, fun x hx => ?_⟩, ?_, fun q hq => ?_, fun c hc => ?_, fun k hk j hj => ?_⟩
  · rw [hs 455 (by decide) (by decide), hs 456 (by decide) (by decide), hs 919 (by decide) (by decide)]; exact f3.1
  · rw [hs _ (by omega) (by omega)]; exact (f3.2.1 q hq).1
  · rw [hs _ (by omega) (by omega)]; exact (f3.2.1 q hq).2.1
  · rw [hs _ (by omega) (by omega)]; exact (f3.2.1 q hq).2.2 c hc
  · rw [hs _ (by omega) (by omega)]; exact f3.2.2.1 c hc
  · rw [hs _ (by omega) (by omega), hs (814 + x) (by omega) (by omega)]; exact f3.2.2.2 x hx
  · rw [hs 457 (by decide) (by decide), hs 914 (by decide) (by decide), hs 915 (by decide) (by decide), hs 916 (by decide) (by decide), hs 917 (by decide) (by decide), hs 918 (by decide) (by decide)]; exact f4.1
  · rw [hs _ (by omega) (by omega), hs (476 + q) (by omega) (by omega)]; exact f4.2.1 q hq
  · rw [hs _ (by omega) (by omega)]; exact f4.2.2.1 c hc
  · rw [hs _ (by omega) (by omega)]; exact f4.2.2.2 k hk j hj
/-- what a text begins with, on either side -/
def StX (n : Nat) (B : Nat → Nat) (μ : aw_M) : Prop := n ≤ 940 ∧ μ.1 1 1 = nI n ∧ (∀ i, i < n → B i < 256 ∧ μ.1 2 i = nI (B i)) ∧ ∀ i, i < 20 → μ.2 3 i = e27 (kw i)
def StM (n : Nat) (B : Nat → Nat) (μ : aw_M) : Prop := n ≤ 940 ∧ μ.1 203 2 = nI n ∧ (∀ i, i < n → B i < 256 ∧ μ.1 204 i = (nI (B i)).toInt8.toInt32) ∧ ∀ i, i < 20 → μ.2 209 i = e8 (kw i)
theorem open_x {F n lim : Nat} {B : Nat → Nat} {μ : aw_M} (hF : 2000 ≤ F) (hl : lim ≤ 900) (st : StX n B μ) : T (f_X6_open F 1 (nI lim) μ) fun μ' => AgK (fun a k => decide (¬ (a = 1 ∧ 3 ≤ k ∧ k ≤ 12))) μ μ' ∧ PXk B n lim 0 μ' := by
  unfold f_X6_open
  rw [plet, plet, plet, plet]
  have ag : AgK (fun a k => decide (¬ (a = 1 ∧ 3 ≤ k ∧ k ≤ 12))) μ (aw_wI (aw_wI (aw_wI (aw_wI μ 1 3 (nI lim)) 1 4 0) 1 11 0) 1 12 0) := ((((AgK.rf μ).wI (decide_eq_false (by omega))).wI (decide_eq_false (by omega))).wI (decide_eq_false (by omega))).wI (decide_eq_false (by omega))
  have e3 : (aw_wI (aw_wI (aw_wI (aw_wI μ 1 3 (nI lim)) 1 4 0) 1 11 0) 1 12 0).1 1 3 = nI lim := by rw [rI_k (by decide), rI_k (by decide), rI_k (by decide), rI_s]
  have e4 : (aw_wI (aw_wI (aw_wI (aw_wI μ 1 3 (nI lim)) 1 4 0) 1 11 0) 1 12 0).1 1 4 = nI 0 := by rw [rI_k (by decide), rI_k (by decide), rI_s]; rfl
  generalize aw_wI (aw_wI (aw_wI (aw_wI μ 1 3 (nI lim)) 1 4 0) 1 11 0) 1 12 0 = μ1 at ag e3 e4 ⊢
  have xc : XC B n lim μ1 := ⟨st.1, by rw [(ag 1 1 (decide_eq_true (by omega))).1]; exact st.2.1, e3, fun i hi => ⟨(st.2.2.1 i hi).1, by rw [(ag 2 i (decide_eq_true (by omega))).1]; exact (st.2.2.1 i hi).2⟩, fun i hi => by rw [(ag 3 i (decide_eq_true (by omega))).2]; exact st.2.2.2 i hi⟩
  refine T_call (step_x hF hl xc e4 (Nat.zero_le n)) ?_
  rintro μ2 ⟨ag2, xt⟩
  rw [T_some]
  exact ⟨ag.tr (ag2.sub fun a k h => decide_eq_true (by have := of_decide_eq_true h; omega)), Nat.zero_le n, hl, XC_ag ag2 (fun a k h => decide_eq_true (by omega)) xc, xt⟩
/-- the reference before its first token -/
def Opn (n lim : Nat) (B : Nat → Nat) (μ : aw_M) : Prop := MC B n lim μ ∧ μ.1 203 4 = nI 0 ∧ μ.1 203 15 = 0 ∧ μ.1 203 2 = 0
theorem takenT_m {F n lim : Nat} {B : Nat → Nat} {μ : aw_M} (st : StM n B μ) : T (f_X11_taken F 203 (nI lim) (aw_wI μ 203 0 0)) fun μ' => AgK (fun a k => decide (¬ (a = 203 ∧ (k = 0 ∨ (2 ≤ k ∧ k ≤ 5) ∨ k = 15)))) μ (aw_wI μ' 203 15 0) ∧ Opn n lim B (aw_wI μ' 203 15 0) := by
  unfold f_X11_taken
  rw [plet, plet, plet, plet, T_some]
  have ag : AgK (fun a k => decide (¬ (a = 203 ∧ (k = 0 ∨ (2 ≤ k ∧ k ≤ 5) ∨ k = 15)))) μ (aw_wI (aw_wI (aw_wI (aw_wI (aw_wI (aw_wI μ 203 0 0) 203 3 ((aw_wI μ 203 0 0).1 203 2)) 203 2 0) 203 4 0) 203 5 (nI lim)) 203 15 0) := ((((((AgK.rf μ).wI (decide_eq_false (by omega))).wI (decide_eq_false (by omega))).wI (decide_eq_false (by omega))).wI (decide_eq_false (by omega))).wI (decide_eq_false (by omega))).wI (decide_eq_false (by omega))
  refine ⟨ag, ⟨st.1, ?_, ?_, fun i hi => ⟨(st.2.2.1 i hi).1, ?_⟩, fun i hi => ?_⟩, ?_, rI_s, ?_⟩
  · rw [rI_k (by decide), rI_k (by decide), rI_k (by decide), rI_k (by decide), rI_s, rI_k (by decide)]; exact st.2.1
  · rw [rI_k (by decide), rI_s]
  · rw [(ag 204 i (decide_eq_true (by omega))).1]; exact (st.2.2.1 i hi).2
  · rw [(ag 209 i (decide_eq_true (by omega))).2]; exact st.2.2.2 i hi
  · rw [rI_k (by decide), rI_k (by decide), rI_s]; rfl
  · rw [rI_k (by decide), rI_k (by decide), rI_k (by decide), rI_s]
theorem RT_all {α β : Type} {o1 : Option α} {o2 : aw_M → Option β} {S : aw_M → Prop} {Q : aw_M → α → β → Prop} (h : ∀ ν, S ν → RT o1 (o2 ν) (Q ν)) {ν0 : aw_M} (h0 : S ν0) : ∃ a, o1 = some a ∧ ∀ ν, S ν → T (o2 ν) fun b => Q ν a b := by
  obtain ⟨a, e, -⟩ := h ν0 h0
  refine ⟨a, e, fun ν hν => ?_⟩
  obtain ⟨a', e', h'⟩ := h ν hν
  rw [e] at e'
  cases e'
  exact h'
def kPX (a k : Nat) : Bool := decide (¬ (a = 1 ∧ 3 ≤ k ∧ k ≤ 12) ∧ ¬ (67 ≤ a ∧ a ≤ 70))
def kPM (a k : Nat) : Bool := decide (¬ (a = 203 ∧ (k = 0 ∨ (2 ≤ k ∧ k ≤ 5) ∨ (11 ≤ k ∧ k ≤ 18))) ∧ a ≠ 207 ∧ ¬ (a = 205 ∧ 427 ≤ k ∧ k ≤ 454))
theorem plans80_m {F : Nat} {x1 : Int32} {ν : aw_M} (hF : 100 ≤ F) : T (f_X11_plans_80 F 203 x1 ν) fun r => r.1 = x1 ∧ AgK (fun a k => decide (¬ (a = 205 ∧ 427 ≤ k ∧ k ≤ 454))) ν r.2 ∧ (∀ k, k < 27 → r.2.1 205 (427 + k) = ν.1 207 k) ∧ r.2.1 205 454 = x1 := by
  have r8 : aw_rf 203 8 = 207 ∧ aw_rf 203 6 = 205 := by simp only [rf203, rf203b, and_self]
  unfold f_X11_plans_80
  refine T_lp (fun i s => ∃ ν', s = (x1, nI i, ν') ∧ AgK (fun a k => decide (¬ (a = 205 ∧ 427 ≤ k ∧ k ≤ 454))) ν ν' ∧ ∀ k, k < i → ν'.1 205 (427 + k) = ν.1 207 k) 27 (by omega) ⟨ν, rfl, AgK.rf ν, fun k hk => absurd hk (Nat.not_lt_zero _)⟩ ?_ ?_
  · rintro i hi _ ⟨ν', rfl, ag, w⟩ k hk
    show T (f_X11_plans_82 F 203 k x1 (nI i) ν') _
    unfold f_X11_plans_82
    rw [if_neg (show ¬ (27 : Int32) ≤ nI i from (show ¬ nI 27 ≤ nI i from nI_ge hi (by decide))), pI_in_t (by omega) (by decide), pg_t, show (427 : Int32) + nI i = nI (427 + i) from nI_add 427 i, pI_in_t (by omega) (by decide), pg_t, plet, r8.1, r8.2, nI_clamp (by omega), nI_clamp (by omega), nI_1]
    refine hk _ ⟨_, rfl, ag.wI (decide_eq_false (by omega)), fun j hj => ?_⟩
    by_cases e : j = i
    · rw [e, rI_s, (ag 207 i (decide_eq_true (by omega))).1]
    · rw [rI_k (by omega)]; exact w j (by omega)
  · rintro _ ⟨ν', rfl, ag, w⟩ k
    show T (f_X11_plans_82 F 203 k x1 (nI 27) ν') _
    unfold f_X11_plans_82 f_X11_plans_110
    rw [if_pos (show (27 : Int32) ≤ nI 27 by decide), show aw_in 454 1155 = true by decide, pg_t, plet, r8.2, show (454 : Int32).toNatClampNeg = 454 by decide, T_some]
    refine ⟨rfl, ag.wI (decide_eq_false (by omega)), fun k hk => ?_, rI_s⟩
    show (aw_wI ν' 205 454 x1).1 205 (427 + k) = _
    rw [rI_k (by omega)]
    exact w k hk
/-- how a text of plans ends -/
def PlEnd (nq n : Nat) (μ ν : aw_M) (r1 : Bool × aw_M) (r2 : Int32 × aw_M) : Prop :=
  AgK kPX μ r1.2 ∧ AgK kPM ν r2.2 ∧ r2.2.1 203 2 = 0 ∧
  ((r1.1 = true ∧ ∃ P c, c ≤ 900 ∧ P 3 0 = c ∧ qPWF P nq ∧ r1.2.1 67 0 = nI c ∧ (∀ q, q < 9 → r1.2.1 68 q = nI (P 0 q) - 1 ∧ r1.2.1 69 q = (if P 0 q = 0 then -1 else nI (P 1 q)) ∧ r1.2.1 70 q = (if P 0 q = 0 then -1 else nI (P 2 q))) ∧ r2.1 = nI c ∧ r2.2.1 203 15 = 0 ∧ qPM P (r2.2.1 205)) ∨
   (r1.1 = false ∧ r2.2.1 205 = ν.1 205 ∧ ∃ v a, 1 ≤ v ∧ v ≤ 4 ∧ a ≤ n ∧ r1.2.1 1 11 = nI v ∧ r1.2.1 1 12 = nI a ∧ r2.1 = -1 - nI a ∧ r2.2.1 203 15 = nI v))
theorem plans_t {F n nq : Nat} {B : Nat → Nat} {W : Nat → List Nat} {μ ν : aw_M} (hF : 100000 ≤ F) (sx : StX n B μ) (sm : StM n B ν) (nx : NmX nq W μ) (nm : NmM nq W ν) (hinj : ∀ q r, q < nq → r < nq → W q = W r → q = r) : RT (f_X2_readFrom F 67 1 5 μ) (f_X11_plans F 203 ν) (PlEnd nq n μ ν) := by
  have rx : aw_rf 67 1 = 68 ∧ aw_rf 67 2 = 69 ∧ aw_rf 67 3 = 70 := by simp only [rf0, rf1, rf4, rf5, rf19, rf23, rf28, rf39, rf53, rf67, rf71, rf76, rf88, rf97, rf101, rf109, rf110, rf124, rf128, rf133, rf144, rf156, rf157, rf171, rf175, rf180, rf191, rf51, and_self]
  have r8 : aw_rf 203 8 = 207 := by simp only [rf203, rf203b]
  have n9 := sx.1
  unfold f_X2_readFrom f_X2_empty f_X11_plans
  rw [plet, rx.1, rx.2.1, rx.2.2, fil_eq (n := 9) (by omega) (by decide) (by decide), Option.bind_some, fil_eq (n := 9) (by omega) (by decide) (by decide), Option.bind_some, fil_eq (n := 9) (by omega) (by decide) (by decide), Option.bind_some, Option.bind_some]
  have d0 : ∀ k, k < 9 → (aset (aset (aset (aw_wI μ 67 0 0) 68 (fil ((aw_wI μ 67 0 0).1 68) 9 (-1))) 69 (fil ((aset (aw_wI μ 67 0 0) 68 (fil ((aw_wI μ 67 0 0).1 68) 9 (-1))).1 69) 9 (-1))) 70 (fil ((aset (aset (aw_wI μ 67 0 0) 68 (fil ((aw_wI μ 67 0 0).1 68) 9 (-1))) 69 (fil ((aset (aw_wI μ 67 0 0) 68 (fil ((aw_wI μ 67 0 0).1 68) 9 (-1))).1 69) 9 (-1))).1 70) 9 (-1))).1 68 k = -1 ∧ (aset (aset (aset (aw_wI μ 67 0 0) 68 (fil ((aw_wI μ 67 0 0).1 68) 9 (-1))) 69 (fil ((aset (aw_wI μ 67 0 0) 68 (fil ((aw_wI μ 67 0 0).1 68) 9 (-1))).1 69) 9 (-1))) 70 (fil ((aset (aset (aw_wI μ 67 0 0) 68 (fil ((aw_wI μ 67 0 0).1 68) 9 (-1))) 69 (fil ((aset (aw_wI μ 67 0 0) 68 (fil ((aw_wI μ 67 0 0).1 68) 9 (-1))).1 69) 9 (-1))).1 70) 9 (-1))).1 69 k = -1 ∧ (aset (aset (aset (aw_wI μ 67 0 0) 68 (fil ((aw_wI μ 67 0 0).1 68) 9 (-1))) 69 (fil ((aset (aw_wI μ 67 0 0) 68 (fil ((aw_wI μ 67 0 0).1 68) 9 (-1))).1 69) 9 (-1))) 70 (fil ((aset (aset (aw_wI μ 67 0 0) 68 (fil ((aw_wI μ 67 0 0).1 68) 9 (-1))) 69 (fil ((aset (aw_wI μ 67 0 0) 68 (fil ((aw_wI μ 67 0 0).1 68) 9 (-1))).1 69) 9 (-1))).1 70) 9 (-1))).1 70 k = -1 := fun k hk => by
    refine ⟨?_, ?_, ?_⟩
    · rw [rA_a (by decide), rA_a (by decide), rA_s]; unfold fil; rw [if_pos hk]
    · rw [rA_a (by decide), rA_s]; unfold fil; rw [if_pos hk]
    · rw [rA_s]; unfold fil; rw [if_pos hk]
  have z0 : (aset (aset (aset (aw_wI μ 67 0 0) 68 (fil ((aw_wI μ 67 0 0).1 68) 9 (-1))) 69 (fil ((aset (aw_wI μ 67 0 0) 68 (fil ((aw_wI μ 67 0 0).1 68) 9 (-1))).1 69) 9 (-1))) 70 (fil ((aset (aset (aw_wI μ 67 0 0) 68 (fil ((aw_wI μ 67 0 0).1 68) 9 (-1))) 69 (fil ((aset (aw_wI μ 67 0 0) 68 (fil ((aw_wI μ 67 0 0).1 68) 9 (-1))).1 69) 9 (-1))).1 70) 9 (-1))).1 67 0 = 0 := by
    rw [rA_a (by decide), rA_a (by decide), rA_a (by decide), rI_s]
  have ag0 : AgK kPX μ (aset (aset (aset (aw_wI μ 67 0 0) 68 (fil ((aw_wI μ 67 0 0).1 68) 9 (-1))) 69 (fil ((aset (aw_wI μ 67 0 0) 68 (fil ((aw_wI μ 67 0 0).1 68) 9 (-1))).1 69) 9 (-1))) 70 (fil ((aset (aset (aw_wI μ 67 0 0) 68 (fil ((aw_wI μ 67 0 0).1 68) 9 (-1))) 69 (fil ((aset (aw_wI μ 67 0 0) 68 (fil ((aw_wI μ 67 0 0).1 68) 9 (-1))).1 69) 9 (-1))).1 70) 9 (-1))) := ((((AgK.rf μ).wI (decide_eq_false (by omega))).wA (fun k hk => by rw [show kPX 68 k = false from decide_eq_false (by omega)] at hk; cases hk)).wA (fun k hk => by rw [show kPX 69 k = false from decide_eq_false (by omega)] at hk; cases hk)).wA (fun k hk => by rw [show kPX 70 k = false from decide_eq_false (by omega)] at hk; cases hk)
  generalize aset (aset (aset (aw_wI μ 67 0 0) 68 (fil ((aw_wI μ 67 0 0).1 68) 9 (-1))) 69 (fil ((aset (aw_wI μ 67 0 0) 68 (fil ((aw_wI μ 67 0 0).1 68) 9 (-1))).1 69) 9 (-1))) 70 (fil ((aset (aset (aw_wI μ 67 0 0) 68 (fil ((aw_wI μ 67 0 0).1 68) 9 (-1))) 69 (fil ((aset (aw_wI μ 67 0 0) 68 (fil ((aw_wI μ 67 0 0).1 68) 9 (-1))).1 69) 9 (-1))).1 70) 9 (-1)) = μ0 at d0 z0 ag0 ⊢
  have sx0 : StX n B μ0 := ⟨sx.1, by rw [(ag0 1 1 (decide_eq_true (by omega))).1]; exact sx.2.1, fun i hi => ⟨(sx.2.2.1 i hi).1, by rw [(ag0 2 i (decide_eq_true (by omega))).1]; exact (sx.2.2.1 i hi).2⟩, fun i hi => by rw [(ag0 3 i (decide_eq_true (by omega))).2]; exact sx.2.2.2 i hi⟩
  refine RT_l (open_x (lim := 400) (by omega) (by decide) sx0) ?_
  rintro μ1 ⟨ag1, px1⟩
  have fx1 : AgK kPX μ μ1 := ag0.tr (ag1.sub fun a k h => decide_eq_true (by have := of_decide_eq_true h; omega))
  have d1 : ∀ k, k < 9 → μ1.1 68 k = -1 ∧ μ1.1 69 k = -1 ∧ μ1.1 70 k = -1 := fun k hk => by
    rw [(ag1 68 k (decide_eq_true (by omega))).1, (ag1 69 k (decide_eq_true (by omega))).1, (ag1 70 k (decide_eq_true (by omega))).1]
    exact d0 k hk
  have z1 : μ1.1 67 0 = nI 0 := by rw [(ag1 67 0 (decide_eq_true (by omega))).1]; exact z0
  clear d0 z0 ag0 sx0 ag1
  rw [plet]
  refine RT_r (takenT_m (lim := 400) sm) ?_
  rintro νa ⟨agm, opn⟩
  rw [plet]
  generalize aw_wI νa 203 15 0 = ν1 at agm opn ⊢
  have fm1 : AgK kPM ν ν1 := agm.sub fun a k h => decide_eq_true (by have := of_decide_eq_true h; omega)
  -- the reference's rows of nothing
  suffices hrest : ∀ ν2, AgK (fun a k => decide (a ≠ 207)) ν1 ν2 → (∀ k, k < 27 → ν2.1 207 k = 0) → RT (aw_loop (fun k s => f_X2_readFrom_13 F 67 1 5 k s.1 s.2) F (0, μ1)) (f_X11_plans_40 F 203 false ν2) (PlEnd nq n μ ν) by
    obtain ⟨a, ea, hb⟩ := RT_all (S := fun ν2 => AgK (fun a k => decide (a ≠ 207)) ν1 ν2 ∧ ∀ k, k < 27 → ν2.1 207 k = 0) (Q := fun _ => PlEnd nq n μ ν) (fun ν2 h => hrest ν2 h.1 h.2) (ν0 := aset ν1 207 (fun _ => 0)) ⟨(AgK.rf ν1).wA (fun k hk => absurd rfl (of_decide_eq_true hk)), fun k _ => by rw [rA_s]⟩
    refine ⟨a, ea, ?_⟩
    refine T_lp (fun i s => ∃ ν', s = (false, nI i, ν') ∧ AgK (fun a k => decide (a ≠ 207)) ν1 ν' ∧ ∀ k, k < i → ν'.1 207 k = 0) 27 (by omega) ⟨ν1, rfl, AgK.rf ν1, fun k hk => absurd hk (Nat.not_lt_zero _)⟩ ?_ ?_
    · rintro i hi _ ⟨ν', rfl, ag, w⟩ k hk
      show T (f_X11_plans_21 F 203 k false (nI i) ν') _
      unfold f_X11_plans_21
      rw [if_neg (show ¬ (27 : Int32) ≤ nI i from (show ¬ nI 27 ≤ nI i from nI_ge hi (by decide))), pI_in_t (by omega) (by decide), pg_t, plet, r8, nI_clamp (by omega), nI_1]
      refine hk _ ⟨_, rfl, ag.wI (decide_eq_false (by omega)), fun j hj => ?_⟩
      by_cases e : j = i
      · rw [e, rI_s]
      · rw [rI_k e]; exact w j (by omega)
    · rintro _ ⟨ν', rfl, ag, w⟩ k
      show T (f_X11_plans_21 F 203 k false (nI 27) ν') _
      unfold f_X11_plans_21
      rw [if_pos (show (27 : Int32) ≤ nI 27 by decide)]
      exact hb ν' ⟨ag, w⟩
  intro ν2 ag2 w2
  have fm2 : AgK kPM ν ν2 := fm1.tr (ag2.sub fun a k h => decide_eq_true (by have := of_decide_eq_true h; omega))
  have mc2 : MC B n 400 ν2 := MC_ag ag2 (fun a k h => decide_eq_true (by omega)) opn.1
  have f203 : ∀ k, ν2.1 203 k = ν1.1 203 k := fun k => (ag2 203 k (decide_eq_true (by omega))).1
  unfold f_X11_plans_40
  refine RT_r (next_m (p := 0) (by omega) (by decide) mc2 (by rw [f203]; exact opn.2.1) (Nat.zero_le n)) ?_
  rintro ν3 ⟨ag3, mt3⟩
  have fm3 : AgK kPM ν ν3 := fm2.tr (ag3.sub fun a k h => decide_eq_true (by have := of_decide_eq_true h; omega))
  have pm3 : PMk B n 400 0 ν3 := ⟨Nat.zero_le n, by decide, MC_ag ag3 (fun a k h => decide_eq_true (by omega)) mc2, mt3⟩
  refine RT_lp (fun i s t => ∃ c p P μ' ν', i = n - p ∧ s = (nI c, μ') ∧ t = (nI c, ν') ∧ 4 * c ≤ p ∧ PXk B n 400 p μ' ∧ PMk B n 400 p ν' ∧ AgK kPX μ μ' ∧ AgK kPM ν ν' ∧ ν'.1 205 = ν.1 205 ∧ qPWF P nq ∧ DPP P μ' ν' ∧ μ'.1 67 0 = nI c ∧ ν'.1 203 15 = 0 ∧ ν'.1 203 2 = 0) ?_ n (by omega) (by omega) ⟨0, 0, fun _ _ => 0, μ1, ν3, rfl, rfl, rfl, Nat.le_refl _, px1, pm3, fx1, fm3, ?_, fun q => ⟨Nat.zero_le _, Nat.zero_le _, Nat.zero_le _, fun _ => ⟨rfl, rfl⟩, fun _ => rfl⟩, fun q hq => ?_, z1, ?_, ?_⟩
  · rintro i s t ⟨c, p, P, μ', ν', rfl, rfl, rfl, hc, px, pm, fx, fm, e205, hP, dp, e67, e15, e2⟩ k k' hk
    have hp := px.1
    have kx := kk_is (tK_le B n 400 p)
    have km' := km_is (tK_le B n 400 p)
    show RT (f_X2_readFrom_13 F 67 1 5 k (nI c) μ') (f_X11_plans_44 F 203 k' (nI c) ν') _
    unfold f_X2_readFrom_13 f_X11_plans_44
    rw [if_neg (show ¬ (400 : Int32) ≤ nI c from (show ¬ nI 400 ≤ nI c from nI_ge (by omega) (by decide))), px.2.2.2.2.2.1, pm.2.2.2.2.2.1]
    by_cases hE : tK B n 400 p = 4
    · rw [if_pos (kx.2.2.2.2 hE), if_pos (km'.2.2.2.2 hE)]
      obtain ⟨r2, er2, h1, h2, h3, h4⟩ := plans80_m (F := F) (x1 := nI c) (ν := ν') (by omega)
      refine ⟨_, rfl, r2, er2, fx, fm.tr (h2.sub fun a k h => decide_eq_true (by have := of_decide_eq_true h; omega)), ?_, .inl ⟨rfl, fun f q => if f = 3 then c else P f q, c, by omega, if_pos rfl, fun q => ?_, e67, fun q hq => ?_, h1, ?_, ?_, fun q hq => ?_⟩⟩
      · rw [(h2 203 2 (decide_eq_true (by omega))).1]; exact e2
      · exact hP q
      · exact ⟨(dp q hq).1, (dp q hq).2.1, (dp q hq).2.2.1⟩
      · rw [(h2 203 15 (decide_eq_true (by omega))).1]; exact e15
      · rw [h4]; rfl
      · obtain ⟨k1, k2, k3, k4, k5, k6⟩ := dp q hq
        refine ⟨?_, ?_, ?_⟩
        · rw [h3 q (by omega)]; exact k4
        · rw [show 436 + q = 427 + (9 + q) by omega, h3 (9 + q) (by omega)]; exact k5
        · rw [show 445 + q = 427 + (18 + q) by omega, h3 (18 + q) (by omega)]; exact k6
    · rw [if_neg fun h => hE (kx.2.2.2.1 h), if_neg fun h => hE (km'.2.2.2.1 h)]
      have nx' : NmX nq W μ' := NmX_ag fx (fun a k h => decide_eq_true (by omega)) nx
      have nm' : NmM nq W ν' := ⟨by rw [e205]; exact nm.1, fun q hq => ⟨(nm.2 q hq).1, by rw [(fm 208 q (decide_eq_true (by omega))).2]; exact (nm.2 q hq).2⟩⟩
      refine RT_call (planRow_t (by omega) px pm nx' nm' hinj hP dp) ?_
      rintro ⟨r1, μ4⟩ ⟨r2, ν4⟩ ⟨a4, b4, h⟩
      dsimp only at a4 b4 h ⊢
      have fx4 : AgK kPX μ μ4 := fx.tr (a4.sub fun a k h => decide_eq_true (by have := of_decide_eq_true h; omega))
      have fm4 : AgK kPM ν ν4 := fm.tr (b4.sub fun a k h => decide_eq_true (by have := of_decide_eq_true h; omega))
      have e2054 : ν4.1 205 = ν.1 205 := by rw [← e205]; exact b4.a fun k => decide_eq_true (by omega)
      have e24 : ν4.1 203 2 = 0 := by rw [(b4 203 2 (decide_eq_true (by omega))).1]; exact e2
      rcases h with ⟨rfl, rfl, p4, hp4, px4, pm4, x15, P', -, hP', dp'⟩ | ⟨rfl, rfl, v, a, v1, v2, va, t1, t2, t3, t4⟩
      · rw [if_pos rfl, if_pos rfl]
        refine RT_call (rsign (c := 59) (by omega) (by decide) px4 pm4) ?_
        rintro ⟨r1, μ5⟩ ⟨r2, ν5⟩ ⟨a5, b5, h⟩
        dsimp only at a5 b5 h ⊢
        have fx5 : AgK kPX μ μ5 := fx4.tr (a5.sub fun a k h => decide_eq_true (by have := of_decide_eq_true h; omega))
        have fm5 : AgK kPM ν ν5 := fm4.tr (b5.sub fun a k h => decide_eq_true (by have := of_decide_eq_true h; omega))
        have e2055 : ν5.1 205 = ν.1 205 := by rw [← e2054]; exact b5.a fun k => decide_eq_true (by omega)
        have e25 : ν5.1 203 2 = 0 := by rw [(b5 203 2 (decide_eq_true (by omega))).1]; exact e24
        rcases h with ⟨rfl, rfl, p5, hp5, px5, pm5, y15⟩ | ⟨rfl, rfl, v, a, v1, v2, va, t1, t2, t3, t4⟩
        · rw [if_pos rfl, if_pos rfl, plet]
          have e675 : μ5.1 67 0 = nI c := by rw [(a5 67 0 (decide_eq_true (by omega))).1, (a4 67 0 (decide_eq_true (by omega))).1]; exact e67
          rw [e675, nI_1]
          have hw : AgK (fun a k => decide (¬ (a = 67 ∧ k = 0))) μ5 (aw_wI μ5 67 0 (nI (c + 1))) := (AgK.rf μ5).wI (decide_eq_false (by omega))
          have hp5' := px5.1
          refine hk (n - p5) _ _ (by omega) ⟨c + 1, p5, P', _, ν5, rfl, rfl, rfl, by omega, PXk_ag hw (fun a k h => decide_eq_true (by omega)) px5, pm5, fx5.tr (hw.sub fun a k h => decide_eq_true (by have := of_decide_eq_true h; omega)), fm5, e2055, hP', fun q hq => ?_, rI_s, ?_, e25⟩
          · obtain ⟨k1, k2, k3, k4, k5, k6⟩ := dp' q hq
            rw [rI_a (by decide), rI_a (by decide), rI_a (by decide), (a5 68 q (decide_eq_true (by omega))).1, (a5 69 q (decide_eq_true (by omega))).1, (a5 70 q (decide_eq_true (by omega))).1, (b5 207 q (decide_eq_true (by omega))).1, (b5 207 (9 + q) (decide_eq_true (by omega))).1, (b5 207 (18 + q) (decide_eq_true (by omega))).1]
            exact ⟨k1, k2, k3, k4, k5, k6⟩
          · rw [y15, x15]; exact e15
        · rw [if_neg Bool.false_ne_true, if_neg Bool.false_ne_true, RT_some]
          exact ⟨fx5, fm5, e25, .inr ⟨rfl, e2055, v, a, v1, v2, va, t1, t2, by rw [t4], t3⟩⟩
      · rw [if_neg Bool.false_ne_true, if_neg Bool.false_ne_true, RT_some]
        exact ⟨fx4, fm4, e24, .inr ⟨rfl, e2054, v, a, v1, v2, va, t1, t2, by rw [t4], t3⟩⟩
  · rw [ag3.a fun k => decide_eq_true (by omega), ag2.a fun k => decide_eq_true (by omega)]
    exact agm.a fun k => decide_eq_true (by omega)
  · rw [(d1 q hq).1, (d1 q hq).2.1, (d1 q hq).2.2, (ag3 207 q (decide_eq_true (by omega))).1, (ag3 207 (9 + q) (decide_eq_true (by omega))).1, (ag3 207 (18 + q) (decide_eq_true (by omega))).1, w2 q (by omega), w2 (9 + q) (by omega), w2 (18 + q) (by omega)]
    exact ⟨(show (-1 : Int32) = nI 0 - 1 by decide), (if_pos rfl).symm, (if_pos rfl).symm, rfl, rfl, rfl⟩
  · rw [(ag3 203 15 (decide_eq_true (by omega))).1, f203]; exact opn.2.2.1
  · rw [(ag3 203 2 (decide_eq_true (by omega))).1, f203]; exact opn.2.2.2
