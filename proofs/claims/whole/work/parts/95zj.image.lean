theorem cpT_qTX {C : Nat → Nat → Nat} {a b : Nat} {μ μ' : aw_M} (hwf : qTWF C) (h : cpT a b μ μ') (tx : qTX C μ a) : qTX C μ' b := by
  obtain ⟨w1, w2, w3, w4⟩ := hwf.1
  obtain ⟨f1, f2⟩ := h
  obtain ⟨⟨t1, t2, t3, t4⟩, t5, t6, t7, t8, t9, t10⟩ := tx
  refine ⟨⟨by rw [f1 1 (by decide) (by decide)]; exact t1, by rw [f1 2 (by decide) (by decide)]; exact t2, by rw [f1 3 (by decide) (by decide)]; exact t3, by rw [f1 4 (by decide) (by decide)]; exact t4⟩, fun q hq => ?_, fun q hq => ?_, fun c hc => ?_, fun i hi => ?_, fun x hx => ?_, fun i hi => ?_⟩
  · rw [f2 2 9 (by decide) q (by omega), f2 3 9 (by decide) q (by omega), f2 4 9 (by decide) q (by omega)]
    exact t5 q hq
  · rw [f2 5 9 (by decide) q hq]
    exact t6 q hq
  · rw [f2 6 20 (by decide) c (by omega), f2 7 20 (by decide) c (by omega), f2 8 20 (by decide) c (by omega), f2 9 20 (by decide) c (by omega)]
    exact t7 c hc
  · rw [f2 10 4 (by decide) i (by omega)]
    exact t8 i hi
  · rw [f2 11 100 (by decide) x hx, f2 12 100 (by decide) x hx]
    exact t9 x hx
  · rw [f2 13 4 (by decide) i hi]
    exact t10 i hi
/-- where the parts of a scene lie -/
def sOb (b : Nat) : Prop := (aw_rf b 0 = b + 1 ∧ aw_rf b 1 = b + 15 ∧ aw_rf b 2 = b + 19 ∧ aw_rf b 3 = b + 24 ∧ aw_rf b 4 = b + 35) ∧ tRf (b + 1) ∧ tSh (b + 1) ∧ pRf (b + 15) ∧ pSh (b + 15) ∧ yRf (b + 19) ∧ ySh (b + 19) ∧ gRf (b + 24) ∧ fRf (b + 35) ∧ fSh (b + 35)
theorem sOb_4 : sOb 4 := by
  unfold sOb tRf tSh pRf pSh yRf ySh gRf fRf fSh
  simp only [Nat.reduceAdd, rf0, rf1, rf4, rf5, rf19, rf23, rf28, rf39, rf53, rf67, rf71, rf76, rf88, rf97, rf101, rf109, rf110, rf124, rf128, rf133, rf144, rf156, rf157, rf171, rf175, rf180, rf191, rf51, and_self, true_and]
  decide
theorem sOb_109 : sOb 109 := by
  unfold sOb tRf tSh pRf pSh yRf ySh gRf fRf fSh
  simp only [Nat.reduceAdd, rf0, rf1, rf4, rf5, rf19, rf23, rf28, rf39, rf53, rf67, rf71, rf76, rf88, rf97, rf101, rf109, rf110, rf124, rf128, rf133, rf144, rf156, rf157, rf171, rf175, rf180, rf191, rf51, and_self, true_and]
  decide
theorem sOb_156 : sOb 156 := by
  unfold sOb tRf tSh pRf pSh yRf ySh gRf fRf fSh
  simp only [Nat.reduceAdd, rf0, rf1, rf4, rf5, rf19, rf23, rf28, rf39, rf53, rf67, rf71, rf76, rf88, rf97, rf101, rf109, rf110, rf124, rf128, rf133, rf144, rf156, rf157, rf171, rf175, rf180, rf191, rf51, and_self, true_and]
  decide
def kBs (b a _k : Nat) : Bool := decide (a < b + 1 ∨ b + 46 < a)
theorem take_x {F a b : Nat} {C : Nat → Nat → Nat} {W : Nat → List Nat} {P Y G : Nat → Nat → Nat} {μ : aw_M} {S : Nat → Int32} {N : Nat → Int64} (hF : 300 ≤ F) (hab : a + 46 < b ∨ b + 46 < a) (oa : sOb a) (ob : sOb b) (h : qSC C W P Y G μ a S N) : T (f_X4_takeFrom F b a μ) fun μ' => qSC C W P Y G μ' b S N ∧ qGX C μ' (b + 24) ∧ AgK (kBs b) μ μ' := by
  obtain ⟨⟨hwf, tx, tm⟩, ⟨w1, w2, w3⟩, ⟨p1, p2, p3⟩, ⟨y1, y2, y3⟩, f1, f2, f3, f4⟩ := h
  obtain ⟨⟨a0, a1, a2, a3, a4⟩, art, ast, arp, asp, ary, asy, arg, arf, asf⟩ := oa
  obtain ⟨⟨b0, b1, b2, b3, b4⟩, brt, bst, brp, bsp, bry, bsy, brg, brf, bsf⟩ := ob
  unfold f_X4_takeFrom
  rw [a0, a1, a2, a4, b0, b1, b2, b3, b4]
  refine T_call (takeT (by omega) art brt ast bst) ?_
  rintro m1 ⟨c1, l1, k1, u1⟩
  have tx1 := cpT_qTX hwf c1 tx
  refine T_call (derive_x (by omega) hwf brt brg (by omega) tx1) ?_
  rintro m2 ⟨gx, u2⟩
  have v2 : ∀ c, c < b + 24 ∨ b + 34 < c → m2.1 c = m1.1 c := fun c hc => u2.a fun k => decide_eq_true (by omega)
  have k2 : ∀ c, c < b + 24 ∨ b + 34 < c → m2.2 c = m1.2 c := fun c hc => u2.b fun k => decide_eq_true (by omega)
  refine T_call (takeP (by omega) arp brp asp bsp) ?_
  rintro m3 ⟨⟨c30, c3⟩, k3, u3⟩
  refine T_call (takeY (by omega) ary bry asy bsy) ?_
  rintro m4 ⟨⟨c40, c4⟩, k4, u4⟩
  refine T_call (takeF (by omega) arf brf asf bsf) ?_
  rintro m5 ⟨⟨c50, c5⟩, k5, u5⟩
  rw [T_some]
  have ua : ∀ c, (a + 1 ≤ c ∧ c ≤ a + 46) → (m2.1 c = μ.1 c ∧ m3.1 c = μ.1 c ∧ m4.1 c = μ.1 c) := fun c hc => by
    have e1 : m2.1 c = μ.1 c := (v2 c (by omega)).trans (u1 c fun k hk => by omega)
    have e2 : m3.1 c = μ.1 c := (u3 c fun k hk => by omega).trans e1
    exact ⟨e1, e2, (u4 c fun k hk => by omega).trans e2⟩
  have ut : ∀ c, (b + 1 ≤ c ∧ c ≤ b + 14) → m5.1 c = m1.1 c := fun c hc => (((u5 c fun k hk => by omega).trans (u4 c fun k hk => by omega)).trans (u3 c fun k hk => by omega)).trans (v2 c (by omega))
  have ug : ∀ c, (b + 24 ≤ c ∧ c ≤ b + 34) → m5.1 c = m2.1 c := fun c hc => ((u5 c fun k hk => by omega).trans (u4 c fun k hk => by omega)).trans (u3 c fun k hk => by omega)
  have up : ∀ c, (b + 15 ≤ c ∧ c ≤ b + 18) → m5.1 c = m3.1 c := fun c hc => (u5 c fun k hk => by omega).trans (u4 c fun k hk => by omega)
  have uy : ∀ c, (b + 19 ≤ c ∧ c ≤ b + 22) → m5.1 c = m4.1 c := fun c hc => u5 c fun k hk => by omega
  have ul : ∀ c, c < b + 24 ∨ b + 34 < c → m5.2 c = m1.2 c := fun c hc => by rw [k5, k4, k3]; exact k2 c hc
  have n9 := hwf.1.2.2.1
  have n20 := hwf.1.2.2.2
  have gg := f1.1
  refine ⟨⟨⟨hwf, qTX_ag (fun c h1 h2 => ut c (by omega)) tx1, tm⟩, ⟨fun q hq => ?_, w2, w3⟩, ⟨p1, ⟨?_, fun q hq => ?_⟩, p3⟩, ⟨y1, ⟨?_, fun i hi => ?_⟩, y3⟩, f1, ⟨⟨?_, ?_, ?_⟩, fun q hq => ⟨?_, ?_, fun c hc => ?_⟩, fun c hc => ?_, fun x hx => ⟨?_, ?_⟩⟩, f3, ⟨⟨?_, ?_, ?_, ?_, ?_, ?_⟩, fun q hq => ⟨?_, ?_⟩, fun c hc => ?_, fun k hk j hj => ?_⟩⟩, qGX_ag (fun c h1 h2 => ug c (by omega)) gx, fun c k h => ?_⟩
  · obtain ⟨g1, g2, g3⟩ := w1 q hq
    refine ⟨g1, ?_, g3⟩
    rw [ul _ (by omega), l1 q (by omega)]
    exact g2
  · rw [up _ (by omega), c30, (ua _ (by omega)).1]
    exact p2.1
  · have := p2.2 q hq
    rw [show b + 15 + 1 = b + 15 + 1 from rfl, up _ (by omega), up (b + 15 + 2) (by omega), up (b + 15 + 3) (by omega), c3 1 9 (by decide) q hq, c3 2 9 (by decide) q hq, c3 3 9 (by decide) q hq, (ua (a + 15 + 1) (by omega)).1, (ua (a + 15 + 2) (by omega)).1, (ua (a + 15 + 3) (by omega)).1]
    exact this
  · rw [uy _ (by omega), c40, (ua _ (by omega)).2.1]
    exact y2.1
  · have := y2.2 i hi
    have yl := y1.1
    rw [uy _ (by omega), uy (b + 19 + 2) (by omega), uy (b + 19 + 3) (by omega), c4 1 40 (by decide) i (by omega), c4 2 40 (by decide) i (by omega), c4 3 40 (by decide) i (by omega), (ua (a + 19 + 1) (by omega)).2.1, (ua (a + 19 + 2) (by omega)).2.1, (ua (a + 19 + 3) (by omega)).2.1]
    exact this
  · rw [c50 3 (by decide), (ua _ (by omega)).2.2]; exact f2.1.1
  · rw [c50 4 (by decide), (ua _ (by omega)).2.2]; exact f2.1.2.1
  · rw [c50 18 (by decide), (ua _ (by omega)).2.2]; exact f2.1.2.2
  · rw [c5 2 9 (by decide) q (by omega), (ua _ (by omega)).2.2]; exact (f2.2.1 q hq).1
  · rw [c5 5 9 (by decide) q (by omega), (ua _ (by omega)).2.2]; exact (f2.2.1 q hq).2.1
  · rw [c5 6 180 (by decide) _ (by omega), (ua _ (by omega)).2.2]; exact (f2.2.1 q hq).2.2 c hc
  · rw [c5 7 20 (by decide) c (by omega), (ua _ (by omega)).2.2]; exact f2.2.2.1 c hc
  · rw [c5 9 100 (by decide) x hx, (ua _ (by omega)).2.2]; exact (f2.2.2.2 x hx).1
  · rw [c5 10 100 (by decide) x hx, (ua _ (by omega)).2.2]; exact (f2.2.2.2 x hx).2
  · rw [c50 5 (by decide), (ua _ (by omega)).2.2]; exact f4.1.1
  · rw [c50 6 (by decide), (ua _ (by omega)).2.2]; exact f4.1.2.1
  · rw [c50 7 (by decide), (ua _ (by omega)).2.2]; exact f4.1.2.2.1
  · rw [c5 1 5 (by decide) 1 (by omega), (ua _ (by omega)).2.2]; exact f4.1.2.2.2.1
  · rw [c5 1 5 (by decide) 0 (by omega), (ua _ (by omega)).2.2]; exact f4.1.2.2.2.2.1
  · rw [c5 1 5 (by decide) 2 (by omega), (ua _ (by omega)).2.2]; exact f4.1.2.2.2.2.2
  · rw [c5 3 9 (by decide) q (by omega), (ua _ (by omega)).2.2]; exact (f4.2.1 q hq).1
  · rw [c5 4 9 (by decide) q (by omega), (ua _ (by omega)).2.2]; exact (f4.2.1 q hq).2
  · rw [c5 8 20 (by decide) c (by omega), (ua _ (by omega)).2.2]; exact f4.2.2.1 c hc
  · rw [c5 11 54 (by decide) _ (by omega), (ua _ (by omega)).2.2]; exact f4.2.2.2 k hk j hj
  · have h := of_decide_eq_true h
    have e1 : m5.1 c = μ.1 c := ((((u5 c fun k hk => by omega).trans (u4 c fun k hk => by omega)).trans (u3 c fun k hk => by omega)).trans (v2 c (by omega))).trans (u1 c fun k hk => by omega)
    have e2 : m5.2 c = μ.2 c := (ul c (by omega)).trans (k1 c (by omega))
    exact ⟨by rw [e1], by rw [e2]⟩
