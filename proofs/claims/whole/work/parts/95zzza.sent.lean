/-! sentences: the reference behind an operand -/
def LM (F G : Nat) (ν : aw_M) : Option (Int32 × aw_M) := aw_loop (fun k s => f_X11_sentence_48 F 203 k s.1 s.2) G (true, ν)
def FLM (ν0 : aw_M) (v a : Nat) (ν : aw_M) : Prop := AgK kSM ν0 ν ∧ ν.1 203 15 = nI v ∧ ν.1 203 16 = nI a
theorem LM_s {F G : Nat} {ν : aw_M} (h : 0 < G) : LM F G ν = f_X11_sentence_48 F 203 (fun s => aw_loop (fun k s => f_X11_sentence_48 F 203 k s.1 s.2) (G - 1) s) true ν := by
  unfold LM
  rw [lp_F h]
theorem kw2 {B : Nat → Nat} {n p i j : Nat} (h : isKw B n 200 p i = true) (hij : i ≠ j) : isKw B n 200 p j = false := decide_eq_false fun h2 => hij ((of_decide_eq_true h).2.symm.trans h2.2)
theorem badS {n p o d w v : Nat} {F : Nat} {B : Nat → Nat} {E : List (Nat × Nat × Nat)} {st : List Nat} {ν0 ν : aw_M} (h : MS B n ν0 E o d st w p ν) : T (f_X11_bad F 203 (nI v) ν) fun r => r.1 = false ∧ FLM ν0 v (tSt B n 200 p) r.2 := by
  refine T_mono (bad_m h.2.1) ?_
  rintro ⟨r, ν'⟩ ⟨h1, h2, h3, h4⟩
  exact ⟨h1, h.1.tr (h2.sub fun a k h => decide_eq_true (by have := of_decide_eq_true h; omega)), h3, h4⟩
/-- and, or behind an operand -/
theorem behind_j {α : Type} {F G n p o d k c : Nat} {B : Nat → Nat} {E : List (Nat × Nat × Nat)} {S P : List Nat} {ν0 ν : aw_M} {o1 : Option α} {Q : α → Int32 × aw_M → Prop} (hF : 2000 ≤ F) (hG : 0 < G) (hc : c = 11 ∨ c = 12) (hkw : isKw B n 200 p (21 - c) = true) (hP : ∀ x, x ∈ P → x = 11 ∨ (x = 12 ∧ c = 12)) (hS : topS S ≤ 13 ∧ topS S ≠ 11 ∧ topS S ≠ 10 ∧ (c = 12 → topS S ≠ 12)) (hl : S.length + P.length + k < 44) (hE : E.length + P.length + k ≤ 43) (hd : d + k < 1000) (h : MS B n ν0 E o (d + k) ((S ++ P) ++ List.replicate k 10) 1 p ν) (hk : ∀ ν', MS B n ν0 (tell E (P ++ List.replicate k 10)) o d (S ++ [c]) 0 (tN B n 200 p) ν' → RT o1 (LM F (G - 1) ν') Q) : RT o1 (LM F G ν) Q := by
  have r42 : aw_rf 203 42 = 225 := by simp only [rf203, rf203b]
  have hK : tK B n 200 p = 1 := (of_decide_eq_true hkw).1
  have km' := km_is (tK_le B n 200 p)
  rw [LM_s hG]
  unfold f_X11_sentence_48 f_X11_sentence_101
  rw [if_pos rfl, h.2.2.2.2.2.2.2.1, if_neg (show ¬ nI 1 = 0 by decide), h.2.1.2.2.2.2.2.1, if_neg (show ¬ nI (km (tK B n 200 p)) = 0 from fun h => by have := km'.2.2.2.1 h; omega), if_neg (show ¬ nI 1 = 0 by decide)]
  unfold f_X11_behind
  have topSP : topS (S ++ P) ≠ 10 ∧ topS (S ++ P) ≤ 13 := by
    by_cases e : P = []
    · rw [e, List.append_nil]
      exact ⟨hS.2.2.1, hS.1⟩
    · obtain ⟨s, x, hx⟩ : ∃ s x, P = s ++ [x] := ⟨P.dropLast, P.getLast e, (List.dropLast_concat_getLast e).symm⟩
      have := hP x (by rw [hx]; exact List.mem_append_right _ List.mem_cons_self)
      rw [hx, ← List.append_assoc, topS_s]
      omega
  rw [Option.bind_assoc]
  refine RT_r (nots_m (by omega) topSP (by rw [List.length_append]; omega) (by omega) hd h) ?_
  intro ν1 g1
  have f42 : ∀ z, z = nI c → RT o1 ((f_X11_behind_42 F 203 z ν1).bind fun r29 => if r29.1 = true then aw_loop (fun k s => f_X11_sentence_48 F 203 k s.1 s.2) (G - 1) (true, r29.2) else f_X11_sentence_115 F 203 r29.2) Q := fun z hz => by
    unfold f_X11_behind_42
    rw [Option.bind_assoc]
    refine RT_r (joins_m (by omega) hz hc hP ⟨hS.1, hS.2.1, hS.2.2.2⟩ (by omega) (by rw [tell_len, List.length_replicate]; omega) g1) ?_
    intro ν2 g2
    have f70 : ∀ z, z = nI c → RT o1 ((f_X11_behind_70 F 203 z (ν2.1 203 45) ν2).bind fun r29 => if r29.1 = true then aw_loop (fun k s => f_X11_sentence_48 F 203 k s.1 s.2) (G - 1) (true, r29.2) else f_X11_sentence_115 F 203 r29.2) Q := fun z hz => by
      have e45 := g2.2.2.2.2.1
      have g3 := MS_47 (w' := 0) (MS_225 (c := c) g2)
      unfold f_X11_behind_70
      rw [e45, pI_in_t (by omega) (by decide), pg_t, plet, r42, nI_clamp (by omega), rI_a (by decide), e45, nI_1, plet, plet, hz]
      rw [Option.bind_assoc]
      refine RT_r (MS_step hF g3 (by rw [hK]; decide)) ?_
      intro ν4 g4
      rw [Option.bind_some]
      dsimp only
      rw [if_pos rfl]
      refine hk ν4 ?_
      rw [tell_a]
      exact g4
    rw [isWord_m (i := 10) g2.2.1 (by decide) (by decide), Option.bind_some]
    dsimp only
    rcases hc with rfl | rfl
    · rw [if_pos hkw]
      exact f70 11 rfl
    · rw [if_neg (by rw [kw2 hkw (by decide)]; decide)]
      exact f70 12 rfl
  rw [isWord_m (i := 10) g1.2.1 (by decide) (by decide), Option.bind_some]
  dsimp only
  rcases hc with rfl | rfl
  · rw [if_pos hkw]
    unfold f_X11_behind_24
    rw [isWord_m (i := 10) g1.2.1 (by decide) (by decide), Option.bind_some]
    dsimp only
    rw [if_pos hkw]
    exact f42 11 rfl
  · rw [if_neg (by rw [kw2 hkw (by decide)]; decide), isWord_m (i := 9) g1.2.1 (by decide) (by decide), Option.bind_some]
    dsimp only
    rw [if_pos hkw]
    unfold f_X11_behind_24
    rw [isWord_m (i := 10) g1.2.1 (by decide) (by decide), Option.bind_some]
    dsimp only
    rw [if_neg (by rw [kw2 hkw (by decide)]; decide)]
    exact f42 12 rfl
theorem topSP12 {S P : List Nat} (hP : ∀ x, x ∈ P → x = 11 ∨ x = 12) (hS : topS S ≤ 13 ∧ topS S ≠ 10) : topS (S ++ P) ≠ 10 ∧ topS (S ++ P) ≤ 13 := by
  by_cases e : P = []
  · rw [e, List.append_nil]
    exact ⟨hS.2, hS.1⟩
  · obtain ⟨s, x, hx⟩ : ∃ s x, P = s ++ [x] := ⟨P.dropLast, P.getLast e, (List.dropLast_concat_getLast e).symm⟩
    have := hP x (by rw [hx]; exact List.mem_append_right _ List.mem_cons_self)
    rw [hx, ← List.append_assoc, topS_s]
    omega
/-- the bracket is closed -/
theorem behind_c {α : Type} {F G n p o d k : Nat} {B : Nat → Nat} {E : List (Nat × Nat × Nat)} {S P : List Nat} {ν0 ν : aw_M} {o1 : Option α} {Q : α → Int32 × aw_M → Prop} (hF : 2000 ≤ F) (hG : 0 < G) (hsg : isSg B n 200 p 41 = true) (hP : ∀ x, x ∈ P → x = 11 ∨ x = 12) (hl : S.length + 1 + P.length + k ≤ 45) (hE : E.length + P.length + k ≤ 44) (hd : d + 1 + k < 1000) (h : MS B n ν0 E o (d + 1 + k) (((S ++ [13]) ++ P) ++ List.replicate k 10) 1 p ν) (hk : ∀ ν', MS B n ν0 (tell E (P ++ List.replicate k 10)) o d S 1 (tN B n 200 p) ν' → RT o1 (LM F (G - 1) ν') Q) : RT o1 (LM F G ν) Q := by
  have hK : tK B n 200 p = 3 := (of_decide_eq_true hsg).1
  have km' := km_is (tK_le B n 200 p)
  have kwF : ∀ i, isKw B n 200 p i = false := fun i => decide_eq_false fun h2 => by omega
  rw [LM_s hG]
  unfold f_X11_sentence_48 f_X11_sentence_101
  rw [if_pos rfl, h.2.2.2.2.2.2.2.1, if_neg (show ¬ nI 1 = 0 by decide), h.2.1.2.2.2.2.2.1, if_neg (show ¬ nI (km (tK B n 200 p)) = 0 from fun h => by have := km'.2.2.2.1 h; omega), if_neg (show ¬ nI 1 = 0 by decide)]
  unfold f_X11_behind
  rw [Option.bind_assoc]
  refine RT_r (nots_m (by omega) (topSP12 hP (by rw [topS_s]; decide)) (by rw [List.length_append, lenS]; omega) (by omega) hd h) ?_
  intro ν1 g1
  rw [isWord_m (i := 10) g1.2.1 (by decide) (by decide), Option.bind_some]
  dsimp only
  rw [if_neg (by rw [kwF]; decide), isWord_m (i := 9) g1.2.1 (by decide) (by decide), Option.bind_some]
  dsimp only
  rw [if_neg (by rw [kwF]; decide), Option.bind_assoc]
  refine RT_r (joins_m (till := 12) (by omega) rfl (.inr rfl) (fun x hx => (hP x hx).imp id fun h => ⟨h, rfl⟩) (by rw [topS_s]; decide) (by rw [lenS]; omega) (by rw [tell_len, List.length_replicate]; omega) g1) ?_
  intro ν2 g2
  rw [show f_X11_isSign F 203 41 ν2 = some (isSg B n 200 p 41, ν2) from isSign_m g2.2.1 (by decide), Option.bind_some]
  dsimp only
  have e45 := g2.2.2.2.2.1
  have e46 := g2.2.2.2.2.2.2.1
  rw [lenS] at e45
  rw [if_pos hsg, e45, if_neg (show ¬ nI (S.length + 1) = 0 from fun h => by have := (nI_eq (b := 0) (by omega) (by decide)).1 h; omega), sub1 (by omega), show S.length + 1 - 1 = S.length by omega, plet, rI_k (by decide), e46, sub1 (by omega), show d + 1 - 1 = d by omega, plet, Option.bind_assoc]
  refine RT_r (MS_step hF (MS_46 (d' := d) (MS_45 g2)) (by rw [hK]; decide)) ?_
  intro ν4 g4
  rw [Option.bind_some]
  dsimp only
  rw [if_pos rfl]
  refine hk ν4 ?_
  rw [tell_a]
  exact g4
/-- nothing else can stand behind an operand -/
theorem behind_f {α : Type} {F G n p o d k : Nat} {B : Nat → Nat} {E : List (Nat × Nat × Nat)} {S P : List Nat} {ν0 ν : aw_M} {o1 : Option α} {Q : α → Int32 × aw_M → Prop} (hF : 2000 ≤ F) (hG : 0 < G) (h10 : isKw B n 200 p 10 = false) (h9 : isKw B n 200 p 9 = false) (hS : (S = [] ∧ tK B n 200 p ≠ 4) ∨ (topS S = 13 ∧ S ≠ [] ∧ isSg B n 200 p 41 = false)) (hP : ∀ x, x ∈ P → x = 11 ∨ x = 12) (hl : S.length + P.length + k ≤ 45) (hE : E.length + P.length + k ≤ 44) (hd : d + k < 1000) (h : MS B n ν0 E o (d + k) ((S ++ P) ++ List.replicate k 10) 1 p ν) (hk : ∀ ν', FLM ν0 1 (tSt B n 200 p) ν' → RT o1 (some (-1 - nI (tSt B n 200 p), ν')) Q) : RT o1 (LM F G ν) Q := by
  have km' := km_is (tK_le B n 200 p)
  have hS2 : topS S ≤ 13 ∧ topS S ≠ 10 ∧ topS S ≠ 11 ∧ topS S ≠ 12 := by
    rcases hS with ⟨rfl, -⟩ | ⟨h, -⟩
    · decide
    · omega
  have fin : ∀ ν1, MS B n ν0 (tell (tell E (List.replicate k 10)) P) o d S 1 p ν1 → T (f_X11_bad F 203 1 ν1) fun r => r.1 = false ∧ FLM ν0 1 (tSt B n 200 p) r.2 := fun ν1 g => badS (v := 1) g
  have pre : T (f_X11_nots F 203 ν) fun ν1 => T (f_X11_joins F 203 12 ν1) fun ν2 => MS B n ν0 (tell (tell E (List.replicate k 10)) P) o d S 1 p ν2 := by
    refine T_mono (nots_m (by omega) (topSP12 hP ⟨hS2.1, hS2.2.1⟩) (by rw [List.length_append]; omega) (by omega) hd h) ?_
    intro ν1 g1
    exact joins_m (till := 12) (by omega) rfl (.inr rfl) (fun x hx => (hP x hx).imp id fun h => ⟨h, rfl⟩) ⟨hS2.1, hS2.2.2.1, fun _ => hS2.2.2.2⟩ (by omega) (by rw [tell_len, List.length_replicate]; omega) g1
  rw [LM_s hG]
  unfold f_X11_sentence_48 f_X11_sentence_101
  rw [if_pos rfl, h.2.2.2.2.2.2.2.1, if_neg (show ¬ nI 1 = 0 by decide), h.2.1.2.2.2.2.2.1, if_neg (show ¬ nI 1 = 0 by decide)]
  by_cases hE4 : tK B n 200 p = 4
  · have hS3 : topS S = 13 ∧ S ≠ [] := by
      rcases hS with ⟨-, h⟩ | ⟨h1, h2, -⟩
      · exact absurd hE4 h
      · exact ⟨h1, h2⟩
    rw [if_pos (km'.2.2.2.2 hE4)]
    refine RT_r pre ?_
    intro ν1 g1
    refine RT_r g1 ?_
    intro ν2 g2
    have hn : 0 < S.length := List.length_pos_iff.2 hS3.2
    rw [g2.2.2.2.2.1, if_neg (show ¬ nI S.length ≤ 0 from (show ¬ nI S.length ≤ nI 0 from nI_ge (by omega) (by omega)))]
    unfold f_X11_sentence_83
    refine RT_r (fin ν2 g2) ?_
    rintro ⟨r, ν3⟩ ⟨-, g3⟩
    dsimp only
    rw [g3.2.2]
    exact hk ν3 g3
  · rw [if_neg fun h => hE4 (km'.2.2.2.1 h)]
    unfold f_X11_behind
    rw [Option.bind_assoc]
    obtain ⟨ν1, e1, ν2, e2, g2⟩ := pre
    obtain ⟨g1, hg1⟩ : ∃ g, MS B n ν0 g o d (S ++ P) 1 p ν1 := by
      obtain ⟨ν1', e1', g1⟩ := nots_m (by omega) (topSP12 hP ⟨hS2.1, hS2.2.1⟩) (by rw [List.length_append]; omega) (by omega) hd h (F := F)
      rw [e1] at e1'
      cases e1'
      exact ⟨_, g1⟩
    rw [e1, Option.bind_some]
    rw [isWord_m (i := 10) hg1.2.1 (by decide) (by decide), Option.bind_some]
    dsimp only
    rw [if_neg (by rw [h10]; decide), isWord_m (i := 9) hg1.2.1 (by decide) (by decide), Option.bind_some]
    dsimp only
    rw [if_neg (by rw [h9]; decide), Option.bind_assoc, e2, Option.bind_some, show f_X11_isSign F 203 41 ν2 = some (isSg B n 200 p 41, ν2) from isSign_m g2.2.1 (by decide), Option.bind_some]
    dsimp only
    have f114 : RT o1 ((f_X11_behind_114 F 203 ν2).bind fun r29 => if r29.1 = true then aw_loop (fun k s => f_X11_sentence_48 F 203 k s.1 s.2) (G - 1) (true, r29.2) else f_X11_sentence_115 F 203 r29.2) Q := by
      unfold f_X11_behind_114
      rw [Option.bind_assoc]
      refine RT_r (fin ν2 g2) ?_
      rintro ⟨r, ν3⟩ ⟨hr, g3⟩
      dsimp only at hr g3
      subst hr
      rw [Option.bind_some]
      dsimp only
      rw [if_neg Bool.false_ne_true]
      unfold f_X11_sentence_115
      rw [g3.2.2]
      exact hk ν3 g3
    by_cases hsg : isSg B n 200 p 41 = true
    · have hS4 : S = [] := by
        rcases hS with ⟨h, -⟩ | ⟨-, -, h⟩
        · exact h
        · rw [h] at hsg; cases hsg
      rw [if_pos hsg, g2.2.2.2.2.1, if_pos (show nI S.length = 0 by rw [hS4]; rfl)]
      exact f114
    · rw [if_neg hsg]
      exact f114
/-- the end -/
theorem behind_e {α : Type} {F G n p o d k : Nat} {B : Nat → Nat} {E : List (Nat × Nat × Nat)} {P : List Nat} {ν0 ν : aw_M} {o1 : Option α} {Q : α → Int32 × aw_M → Prop} (hF : 2000 ≤ F) (hG : 1 < G) (hE4 : tK B n 200 p = 4) (hP : ∀ x, x ∈ P → x = 11 ∨ x = 12) (hl : P.length + k ≤ 45) (hE : E.length + P.length + k ≤ 44) (hd : d + k < 1000) (h : MS B n ν0 E o (d + k) (([] ++ P) ++ List.replicate k 10) 1 p ν) (hk : ∀ ν', MS B n ν0 (tell E (P ++ List.replicate k 10)) o d [] 1 p ν' → RT o1 (f_X11_sentence_132 F 203 ν') Q) : RT o1 (LM F G ν) Q := by
  have km' := km_is (tK_le B n 200 p)
  rw [LM_s (by omega)]
  unfold f_X11_sentence_48
  rw [if_pos rfl, h.2.2.2.2.2.2.2.1, if_neg (show ¬ nI 1 = 0 by decide), h.2.1.2.2.2.2.2.1, if_pos (km'.2.2.2.2 hE4)]
  refine RT_r (nots_m (by omega) (topSP12 hP (by decide)) (by rw [List.length_append]; show 0 + _ + _ ≤ _; omega) (by omega) hd h) ?_
  intro ν1 g1
  refine RT_r (joins_m (till := 12) (by omega) rfl (.inr rfl) (fun x hx => (hP x hx).imp id fun h => ⟨h, rfl⟩) (by decide) (by show 0 + _ ≤ _; omega) (by rw [tell_len, List.length_replicate]; omega) g1) ?_
  intro ν2 g2
  rw [g2.2.2.2.2.1, if_pos (show nI ([] : List Nat).length ≤ 0 by decide)]
  show RT o1 (aw_loop (fun k s => f_X11_sentence_48 F 203 k s.1 s.2) (G - 1) (false, ν2)) Q
  rw [lp_F (show 0 < G - 1 by omega)]
  show RT o1 (f_X11_sentence_48 F 203 _ false ν2) Q
  unfold f_X11_sentence_48
  rw [if_neg Bool.false_ne_true]
  refine hk ν2 ?_
  rw [tell_a]
  exact g2
