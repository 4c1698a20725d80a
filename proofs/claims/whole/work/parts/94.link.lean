/-! towns that differ by their quarters' cells alone -/
theorem vis_1 {T' C : Nat → Nat → Nat} (h : ∀ f, f ≠ 1 → T' f = C f) (m : Nat) : vis T' m = vis C m := by
  unfold vis ther
  rw [h 0 (by decide), h 5 (by decide)]
theorem nbz_1 {T' C : Nat → Nat → Nat} (h : ∀ f, f ≠ 1 → T' f = C f) (m : Nat) : nbz T' m = nbz C m := by
  unfold nbz
  simp only [vis_1 h]
theorem bzm_1 {T' C : Nat → Nat → Nat} (h : ∀ f, f ≠ 1 → T' f = C f) (i : Nat) : bzm T' i = bzm C i := by
  have : bzy T' = bzy C := by
    funext m
    unfold bzy
    rw [vis_1 h]
  unfold bzm bzl
  rw [this]
theorem nbr_1 {T' C : Nat → Nat → Nat} (h : ∀ f, f ≠ 1 → T' f = C f) (a : Nat) : nbr T' 9 a = nbr C 9 a := by
  unfold nbr side cellok
  rw [h 0 (by decide), h 9 (by decide)]
theorem jsee_1 {T' C : Nat → Nat → Nat} (h : ∀ f, f ≠ 1 → T' f = C f) (a : Nat) : jsee T' a = jsee C a := by
  unfold jsee
  rw [h 11 (by decide)]
theorem rAim_1 {T' C : Nat → Nat → Nat} (h : ∀ f, f ≠ 1 → T' f = C f) {D w : Nat → Nat} {m : Nat} {s : rS} : rAim T' D w m s = rAim C D w m s := by
  unfold rAim
  rw [vis_1 h]
theorem rBar_1 {T' C : Nat → Nat → Nat} (h : ∀ f, f ≠ 1 → T' f = C f) {D : Nat → Nat} {c : Nat} : rBar T' D c = rBar C D c := by
  unfold rBar
  rw [nbr_1 h, h 6 (by decide)]
theorem rEv_1 {T' C : Nat → Nat → Nat} (h : ∀ f, f ≠ 1 → T' f = C f) {D w : Nat → Nat} {m : Nat} {s : rS} : rEv T' D w m s = rEv C D w m s := by
  unfold rEv
  simp only [rAim_1 h, rBar_1 h, vis_1 h]
theorem rNx_1 {T' C : Nat → Nat → Nat} (h : ∀ f, f ≠ 1 → T' f = C f) {D w : Nat → Nat} {m : Nat} {s : rS} : rNx T' D w m s = rNx C D w m s := by
  unfold rNx
  simp only [rAim_1 h, rBar_1 h, vis_1 h]
theorem rB_1 {T' C : Nat → Nat → Nat} (h : ∀ f, f ≠ 1 → T' f = C f) {D w : Nat → Nat} : ∀ i, rB T' D w i = rB C D w i
  | 0 => rfl
  | i + 1 => by
    show rNx T' D w (bzm T' i) (rB T' D w i) = rNx C D w (bzm C i) (rB C D w i)
    rw [rB_1 h i, bzm_1 h, rNx_1 h]
theorem rHit_1 {T' C : Nat → Nat → Nat} (h : ∀ f, f ≠ 1 → T' f = C f) {D w : Nat → Nat} {c mo : Nat} : rHit T' D w c mo = rHit C D w c mo := by
  unfold rHit
  rw [h 8 (by decide)]
theorem gEv_1 {T' C : Nat → Nat → Nat} (h : ∀ f, f ≠ 1 → T' f = C f) {Dq Wq : Nat → Nat → Nat} {i q : Nat} : gEv T' Dq Wq i q = gEv C Dq Wq i q := by
  unfold gEv
  rw [rEv_1 h, bzm_1 h, rB_1 h]
theorem caQ_1 {T' C : Nat → Nat → Nat} (h : ∀ f, f ≠ 1 → T' f = C f) {m j : Nat} : caQ T' m j = caQ C m j := by
  unfold caQ
  rw [vis_1 h]
theorem gJ_1 {T' C : Nat → Nat → Nat} (h : ∀ f, f ≠ 1 → T' f = C f) {Dq Wq : Nat → Nat → Nat} {i c : Nat} : gJ T' Dq Wq i c = gJ C Dq Wq i c := by
  have : caQ T' (bzm T' i) = caQ C (bzm C i) := by
    funext j
    rw [caQ_1 h, bzm_1 h]
  unfold gJ
  rw [this, h 0 (by decide)]
  simp only [gEv_1 h]
theorem mkG_1 {T' C : Nat → Nat → Nat} (h : ∀ f, f ≠ 1 → T' f = C f) {Dq Wq : Nat → Nat → Nat} {sn : Nat → Nat} {L : Nat → Int32} {q i : Nat} : mkG T' Dq Wq sn L q i = mkG C Dq Wq sn L q i := by
  cases he : gEv C Dq Wq i q with
  | none => rw [mkG_none he, mkG_none ((gEv_1 h).trans he)]
  | some j => rw [mkG_some he, mkG_some ((gEv_1 h).trans he), rHit_1 h, caQ_1 h, bzm_1 h, rB_1 h, gJ_1 h]
theorem mkG_2 {C : Nat → Nat → Nat} {Dq Dq' Wq Wq' : Nat → Nat → Nat} {sn sn' : Nat → Nat} {L L' : Nat → Int32} {q i : Nat} (h : ∀ q, q < C 0 2 → Dq q = Dq' q ∧ Wq q = Wq' q ∧ sn q = sn' q) (hL : ∀ i, i < 4 → L (7 + i) = L' (7 + i)) (hq : q < C 0 2) : mkG C Dq Wq sn L q i = mkG C Dq' Wq' sn' L' q i := by
  have he : ∀ q, q < C 0 2 → gEv C Dq Wq i q = gEv C Dq' Wq' i q := fun q hq => by
    unfold gEv
    rw [(h q hq).1, (h q hq).2.1]
  have hJ : ∀ c, gJ C Dq Wq i c = gJ C Dq' Wq' i c := fun c => by
    unfold gJ
    exact cnt_ext _ fun q hq => by rw [he q hq]
  cases hx : gEv C Dq' Wq' i q with
  | none => rw [mkG_none hx, mkG_none ((he q hq).trans hx)]
  | some j =>
    rw [mkG_some hx, mkG_some ((he q hq).trans hx), hJ, (h q hq).1, (h q hq).2.1, (h q hq).2.2, hL 0 (by decide), hL 1 (by decide), hL 2 (by decide), hL 3 (by decide)]
theorem sumr_2 {g h : Nat → Int32} {n : Nat} (e : ∀ i, g i = h i) : sumr g n = sumr h n := sumr_ext n fun i _ => e i
/-- a quarter's marks of a sure day: every quarter at a place, by its numbers -/
def tv (C : Nat → Nat → Nat) (S : Nat → Int32) (pf : Nat → Nat) (wf : Nat → Nat → Nat) (q : Nat) : Int32 := sumr (mkG C (fun q => plD C (pf q)) wf (fun q => jsee C (pl C (pf q))) S q) (nbz C 240)
theorem tv_ext {C : Nat → Nat → Nat} {S S' : Nat → Int32} {pf pf' : Nat → Nat} {wf wf' : Nat → Nat → Nat} {q : Nat} (h : ∀ q, q < C 0 2 → pf q = pf' q ∧ wf q = wf' q) (hL : ∀ i, i < 4 → S (7 + i) = S' (7 + i)) (hq : q < C 0 2) : tv C S pf wf q = tv C S' pf' wf' q :=
  sumr_2 fun i => mkG_2 (fun q hq => ⟨by show plD C (pf q) = plD C (pf' q); rw [(h q hq).1], (h q hq).2, by show jsee C (pl C (pf q)) = jsee C (pl C (pf' q)); rw [(h q hq).1]⟩) hL hq
theorem mk_link {T' P' C : Nat → Nat → Nat} {S S' : Nat → Int32} {pf : Nat → Nat} {wf : Nat → Nat → Nat} {q : Nat} (h1 : ∀ f, f ≠ 1 → T' f = C f) (hc : ∀ q, q < C 0 2 → T' 1 q = pl C (pf q)) (hw : ∀ q, q < C 0 2 → rW T' P' q = wf q) (hL : ∀ i, i < 4 → S' (7 + i) = S (7 + i)) (hq : q < C 0 2) : sumr (mkD T' P' S' q) (nbz T' 240) = tv C S pf wf q := by
  rw [nbz_1 h1]
  refine sumr_2 fun i => ?_
  rw [mkD_G, mkG_1 h1]
  refine mkG_2 (fun q hq => ⟨?_, hw q hq, ?_⟩) hL hq
  · funext c
    show dst (T' 1 q) (T' 6 c) = dst (pl C (pf q)) (C 6 c)
    rw [hc q hq, h1 6 (by decide)]
  · show jsee T' (T' 1 q) = jsee C (pl C (pf q))
    rw [jsee_1 h1, hc q hq]
/-! what both sides rest on -/
def ctx (C P : Nat → Nat → Nat) (μ : aw_M) : Prop := qTWF C ∧ sOK C P (μ.1 205) ∧ env C P μ ∧ (∀ a, a < 100 → inB (μ.1 205 (814 + a)) 1) ∧ ∀ i, i < 4 → μ.1 18 i = μ.1 205 (7 + i)
theorem ctx_of {μ : aw_M} (hR : R μ) : ∃ C P, ctx C P μ := by
  obtain ⟨⟨C, W, P, Y, G, hS, hG⟩, hr⟩ := R_iff.1 hR
  obtain ⟨⟨hwf, tx, tm⟩, -, ⟨pw, px, pm⟩, -, fw, fx, fm, fs⟩ := hS
  refine ⟨C, P, hwf, ⟨hwf.t0, pw, tm, pm⟩, ⟨tx, px, hG⟩, fun a ha => ?_, fun i hi => ?_⟩
  · rw [(fm.2.2.2 a ha).2]
    exact inB_nI (fw.2.2.2.2.1 a).2
  · exact (tx.2.2.2.2.2.2 i hi).trans (tm.2.2.1 i hi).symm
theorem ctx.ag {C P : Nat → Nat → Nat} {μ μ' : aw_M} (h : ctx C P μ) (ha : ∀ a, (5 ≤ a ∧ a ≤ 38) ∨ a = 205 → μ'.1 a = μ.1 a) : ctx C P μ' := by
  obtain ⟨h1, h2, ⟨e1, e2, e3⟩, h4, h5⟩ := h
  have h205 := ha 205 (.inr rfl)
  refine ⟨h1, by rw [h205]; exact h2, ⟨?_, ?_, qGX_ag (fun a g1 g2 => ha a (by omega)) e3⟩, by rw [h205]; exact h4, by rw [h205, ha 18 (by omega)]; exact h5⟩
  · unfold qTX at e1 ⊢
    simp (disch := omega) only [ha]
    exact e1
  · unfold qPX at e2 ⊢
    simp (disch := omega) only [ha]
    exact e2
theorem marksOf_c {F q : Nat} {C P : Nat → Nat → Nat} {pf : Nat → Nat} {wf : Nat → Nat → Nat} {μ : aw_M} (hF : 2000 ≤ F) (hc : ctx C P μ) (h : SDC C (C 0 2) pf wf μ) (hq : q < C 0 2) : f_X5_marksOf F 88 (nI q) μ = some (tv C (μ.1 205) pf wf q, μ) :=
  marksOf_x (by omega) hc.1 hc.2.2.1 h hq hc.2.2.2.2
theorem sureDay_c {F : Nat} {T' P' C : Nat → Nat → Nat} {S : Nat → Int32} {pf : Nat → Nat} {wf : Nat → Nat → Nat} {μ : aw_M} (hF : 2000 ≤ F) (ok : sOK T' P' (μ.1 205)) (hsd : ∀ a, a < 100 → inB (μ.1 205 (814 + a)) 1) (h1 : ∀ f, f ≠ 1 → T' f = C f) (hc : ∀ q, q < C 0 2 → T' 1 q = pl C (pf q)) (hw : ∀ q, q < C 0 2 → rW T' P' q = wf q) (hL : ∀ i, i < 4 → μ.1 205 (7 + i) = S (7 + i)) : T (f_X11_sureDay F 203 μ) fun μ' => (∀ a, a ≠ 210 → a ≠ 211 → μ'.1 a = μ.1 a) ∧ μ'.2 = μ.2 ∧ ∀ q, q < C 0 2 → μ'.1 211 q = tv C S pf wf q := by
  refine T_mono (sureDay_m hF ok hsd) ?_
  rintro μ' ⟨g1, g2, g3⟩
  refine ⟨g1, g2, fun q hq => ?_⟩
  rw [g3 q (by rw [h1 0 (by decide)]; exact hq)]
  exact mk_link h1 hc hw hL hq
/-- what is only noted for a while -/
def scr (a : Nat) : Bool := decide ((76 ≤ a ∧ a ≤ 87) ∨ (89 ≤ a ∧ a ≤ 95) ∨ a = 206 ∨ a = 207 ∨ a = 210 ∨ a = 211 ∨ (213 ≤ a ∧ a ≤ 216) ∨ a = 218 ∨ a = 220 ∨ a = 221 ∨ (224 ≤ a ∧ a ≤ 226))
def kScr (a k : Nat) : Bool := !scr a && !decide (a = 203 ∧ k = 0)
theorem kScr_s {a k : Nat} (h : scr a = true) : kScr a k = false := by
  unfold kScr
  rw [h]
  rfl
theorem kScr_3 : kScr 203 0 = false := rfl
theorem keep_scr {a k : Nat} (h : scr a = true) : keepF a k = false := by
  unfold scr at h
  replace h := of_decide_eq_true h
  have h2 : (a = 76 ∨ a = 77 ∨ a = 78 ∨ a = 79 ∨ a = 80 ∨ a = 81 ∨ a = 82 ∨ a = 83 ∨ a = 84 ∨ a = 85 ∨ a = 86 ∨ a = 87) ∨ (a = 89 ∨ a = 90 ∨ a = 91 ∨ a = 92 ∨ a = 93 ∨ a = 94 ∨ a = 95) ∨ (a = 206 ∨ a = 207 ∨ a = 210 ∨ a = 211 ∨ a = 213 ∨ a = 214 ∨ a = 215 ∨ a = 216 ∨ a = 218 ∨ a = 220 ∨ a = 221 ∨ a = 224 ∨ a = 225 ∨ a = 226) := by
    rcases h with ⟨h1, h2⟩ | ⟨h1, h2⟩ | h | h | h | h | ⟨h1, h2⟩ | h | h | h | ⟨h1, h2⟩
    · left; omega
    · right; left; omega
    · right; right; omega
    · right; right; omega
    · right; right; omega
    · right; right; omega
    · right; right; omega
    · right; right; omega
    · right; right; omega
    · right; right; omega
    · right; right; omega
  rcases h2 with h2 | h2 | h2
  · rcases h2 with rfl | rfl | rfl | rfl | rfl | rfl | rfl | rfl | rfl | rfl | rfl | rfl <;> rfl
  · rcases h2 with rfl | rfl | rfl | rfl | rfl | rfl | rfl <;> rfl
  · rcases h2 with rfl | rfl | rfl | rfl | rfl | rfl | rfl | rfl | rfl | rfl | rfl | rfl | rfl | rfl <;> rfl
theorem R_scr {μ μ' : aw_M} (h : AgK kScr μ μ') (hR : R μ) : R μ' := R_ag (fun a k hk => h a k (by
  unfold kScr
  cases hs : scr a with
  | true => rw [keep_scr hs] at hk; cases hk
  | false =>
    by_cases e : a = 203 ∧ k = 0
    · obtain ⟨rfl, rfl⟩ := e
      cases hk
    · rw [decide_eq_false e]
      rfl)) hR
theorem sd_scr {μ μ' : aw_M} (h : AgK kSD μ μ') : AgK kScr μ μ' := h.sub fun a k hk => by
  refine decide_eq_true ?_
  by_cases e : 89 ≤ a ∧ a ≤ 93
  · rw [kScr_s (by unfold scr; exact decide_eq_true (by omega))] at hk
    cases hk
  · omega
theorem ag_scr {μ μ' : aw_M} (h1 : ∀ a, scr a = false → μ'.1 a = μ.1 a) (h2 : μ'.2 = μ.2) : AgK kScr μ μ' := fun a k hk => by
  cases hs : scr a with
  | true => rw [kScr_s hs] at hk; cases hk
  | false => rw [h1 a hs, h2]; exact ⟨rfl, rfl⟩
theorem day_scr {μ μ' : aw_M} (h1 : ∀ a, a ≠ 210 → a ≠ 211 → μ'.1 a = μ.1 a) (h2 : μ'.2 = μ.2) : AgK kScr μ μ' := ag_scr (fun a ha => h1 a (fun e => by subst e; cases ha) (fun e => by subst e; cases ha)) h2
theorem ctx.sc {C P : Nat → Nat → Nat} {μ μ' : aw_M} (h : ctx C P μ) (ag : AgK kScr μ μ') : ctx C P μ' := h.ag fun a ha => ag.a fun k => by
  unfold kScr
  have h1 : scr a = false := by
    unfold scr
    exact decide_eq_false (by omega)
  rw [h1, decide_eq_false (by omega)]
  rfl
theorem told_wf {C : Nat → Nat → Nat} {q : Nat} (h : C 0 2 ≤ 9) (hq : q < C 0 2) : C 1 q = pl C ((fun q => q) q) := by
  show C 1 q = pl C q
  unfold pl
  rw [if_pos (by omega)]
theorem p_sure : op_sure R := by
  intro F hF a0 μ hR
  obtain ⟨C, P, hc⟩ := ctx_of hR
  have hwf := hc.1
  have hnq := hwf.1.2.2.1
  have r8 : aw_rf 0 8 = 88 := by simp only [rf0, rf1, rf4, rf5, rf19, rf23, rf28, rf39, rf53, rf67, rf71, rf76, rf88, rf97, rf101, rf109, rf110, rf124, rf128, rf133, rf144, rf156, rf157, rf171, rf175, rf180, rf191, rf51]
  have r23 : aw_rf 203 23 = 211 := by simp only [rf203, rf203b]
  have x3 : μ.1 5 3 = nI (C 0 2) := hc.2.2.1.1.1.2.2.1
  unfold okI f_X10_sure f_X11_sure
  rw [xQ hnq x3, Option.bind_some]
  by_cases h0 : 0 ≤ a0 ∧ a0 ≤ nI (C 0 2) - 1
  · obtain ⟨q, hq, rfl⟩ := ix_of (by omega) h0
    rw [decide_eq_true h0, if_pos rfl, r8]
    unfold f_X5_marksAsTold
    obtain ⟨μ1, e1, g1, ag1⟩ := playAll_x (F := F) (by omega) hwf hc.2.1.2.1 hc.2.2.1
    have hc1 := hc.sc (sd_scr ag1)
    refine ⟨(tv C (μ1.1 205) (fun q => q) (rW C P) q, μ1), ?_, ?_⟩
    · rw [e1, Option.bind_some, marksOf_c (by omega) hc1 g1 hq]
      rfl
    · have ag2 : AgK kScr μ (aw_wI μ1 203 0 0) := (sd_scr ag1).wI kScr_3
      have hc2 := hc.sc ag2
      have y3 : (aw_wI μ1 203 0 0).1 205 2 = nI (C 0 2) := hc2.2.1.2.2.1.1.2.2.1
      show T (aw_let (aw_wI μ1 203 0 0) _) _
      rw [plet, mQ y3, Option.bind_some, decide_eq_true h0, if_pos rfl]
      refine T_call (sureDay_c (C := C) (S := μ1.1 205) (pf := fun q => q) (wf := rW C P) (by omega) hc2.2.1 hc2.2.2.2.1 (fun _ _ => rfl) (fun q hq => told_wf hnq hq) (fun _ _ => rfl) (fun i hi => by rw [rI_a (by decide)])) ?_
      rintro μ3 ⟨d1, d2, d3⟩
      rw [pI_in_t (by omega) (by decide), pg_t, T_some, r23, nI_clamp (by omega), d3 q hq]
      exact ⟨rfl, R_scr (ag2.tr (day_scr d1 d2)) hR⟩
  · rw [decide_eq_false h0, if_neg Bool.false_ne_true]
    refine ⟨_, rfl, ?_⟩
    have hc2 := hc.sc ((AgK.rf μ).wI (v := 0) kScr_3)
    have y3 : (aw_wI μ 203 0 0).1 205 2 = nI (C 0 2) := hc2.2.1.2.2.1.1.2.2.1
    show T (aw_let (aw_wI μ 203 0 0) _) _
    rw [plet, mQ y3, Option.bind_some, decide_eq_false h0, if_neg Bool.false_ne_true]
    exact ⟨_, rfl, rfl, R_th hR⟩
