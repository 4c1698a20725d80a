theorem sizeOf_eq {F a b : Nat} {μ : aw_M} (ha : a < 2 ^ 30) (hb : b < 2 ^ 30) : f_X11_sizeOf F (nI a - nI b) μ = some (nI (adiff a b), μ) := by
  unfold f_X11_sizeOf
  have e0 : (0 : Int32) = nI 0 := rfl
  rcases Nat.le_total b a with h | h
  · rw [nI_sub h, if_pos (nI_pos' (by omega))]
    have : adiff a b = a - b := by unfold adiff; omega
    rw [this]
  · have e1 : adiff a b = b - a := by unfold adiff; omega
    have e2 : -(nI a - nI b) = nI (b - a) := by rw [← nI_sub h]; grind
    by_cases e : a = b
    · subst e
      have e3 : nI a - nI a = 0 := by grind
      have e4 : adiff a a = 0 := by unfold adiff; omega
      rw [e3, if_pos (by decide), e4]
      rfl
    · have : ¬ 0 ≤ nI a - nI b := by
        have h1 := nI_lt (a := a) (b := b) (by omega) (by omega)
        have h2 := nI_pos' (n := a) (by omega)
        have h3 := nI_pos' (n := b) (by omega)
        grind
      rw [if_neg this, e2, e1]
theorem adiff_le (a b : Nat) : adiff a b ≤ a + b := by unfold adiff; omega
theorem dst_le {a b : Nat} (ha : a < 100) (hb : b < 100) : dst a b ≤ 18 := by
  unfold dst adiff
  have := Nat.mod_lt a (y := 10) (by decide)
  have := Nat.mod_lt b (y := 10) (by decide)
  omega
/-- how far two cells lie apart -/
theorem apart_eq {F a b : Nat} {μ : aw_M} (ha : a < 2 ^ 30) (hb : b < 2 ^ 30) : f_X11_apart F (nI a) (nI b) μ = some (nI (dst a b), μ) := by
  unfold f_X11_apart
  have e10 : (10 : Int32) = nI 10 := rfl
  have h1 := Nat.mod_le a 10
  have h2 := Nat.mod_le b 10
  have h3 := Nat.div_le_self a 10
  have h4 := Nat.div_le_self b 10
  rw [e10, nI_mod (by omega) (by decide), nI_mod (by omega) (by decide), nI_div (by omega) (by decide), nI_div (by omega) (by decide), sizeOf_eq (by omega) (by omega), Option.bind_some, sizeOf_eq (by omega) (by omega), Option.bind_some, nI_add]
  rfl
/-- one cart more, of those that are there: the nearest in reach that has not had all its boxes -/
def nearer (d : Nat → Nat) (o : Option Nat) (c : Nat) : Bool := match o with
  | none => true
  | some b => decide (d c < d b)
def stp (T P G : Nat → Nat → Nat) (q : Nat) (o : Option Nat) (c : Nat) : Option Nat :=
  if dst (T 1 q) (T 6 c) < P 0 q ∧ G 1 (20 * q + c) < P 1 q ∧ nearer (fun c => dst (T 1 q) (T 6 c)) o c = true then some c else o
def aimo (T P G : Nat → Nat → Nat) (q m n : Nat) : Option Nat := ((List.range n).filter (fun c => ther T c m)).foldl (stp T P G q) none
theorem aimo_succ {T P G : Nat → Nat → Nat} {q m n : Nat} : aimo T P G q m (n + 1) = if ther T n m = true then stp T P G q (aimo T P G q m n) n else aimo T P G q m n := by
  unfold aimo
  rw [List.range_succ, List.filter_append, List.foldl_append]
  cases h : ther T n m with
  | false => simp [h]
  | true => simp [h]
theorem stp_lt {T P G : Nat → Nat → Nat} {q c n : Nat} {o : Option Nat} (ho : ∀ b, o = some b → b < n) (hc : c < n) : ∀ b, stp T P G q o c = some b → b < n := by
  intro b
  unfold stp
  split
  · intro h
    cases h
    exact hc
  · exact ho b
theorem aimo_lt {T P G : Nat → Nat → Nat} {q m : Nat} : ∀ n b, aimo T P G q m n = some b → b < n
  | 0, b, h => by cases h
  | n + 1, b, h => by
    rw [aimo_succ] at h
    split at h
    · exact stp_lt (fun b hb => Nat.lt_succ_of_lt (aimo_lt n b hb)) (Nat.lt_succ_self n) b h
    · exact Nat.lt_succ_of_lt (aimo_lt n b h)
theorem aimed_m {F q m : Nat} {T P G : Nat → Nat → Nat} {μ : aw_M} (hF : 100 ≤ F) (hwf : qTWF T) (pw : qPWF P (T 0 2)) (fw : qFWF T G) (tm : qTM T (μ.1 205)) (pm : qPM P (μ.1 205)) (fm : qFM T G (μ.1 205)) (hq : q < T 0 2) (hm : m < 240) : f_X11_aimed F 203 (nI q) (nI m) μ = some (if P 0 q = 0 then -1 else if G 0 q = 0 then -1 else oI (aimo T P G q m (T 0 3)), μ) := by
  have hnq := hwf.1.2.2.1
  have hnc := hwf.1.2.2.2
  have hp := (pw q).1
  have hp1 := (pw q).2.1
  have hg := (fw.2.1 q).1
  have p0 := (pm.2 q (by omega)).1
  have p1 := (pm.2 q (by omega)).2.1
  have g0 := (fm.2.1 q hq).1
  have hcell : ∀ a, cellok T a → a < 100 := fun a h => by
    have := hwf.1
    unfold cellok at h
    omega
  have hT1 := hcell _ (hwf.2.1 q hq).1
  have t1 := (tm.2.2.2.1 q hq).1
  have e427 : (427 : Int32) + nI q = nI (427 + q) := nI_add 427 q
  have e458 : (458 : Int32) + nI q = nI (458 + q) := nI_add 458 q
  have e11 : (11 : Int32) + nI q = nI (11 + q) := nI_add 11 q
  have e436 : (436 : Int32) + nI q = nI (436 + q) := nI_add 436 q
  have z : ∀ {n : Nat}, n < 2 ^ 31 → (nI n = 0 ↔ n = 0) := fun hn => by rw [← nI_0]; exact nI_eq hn (by decide)
  unfold f_X11_aimed
  rw [e427, pI_in_t (by omega) (by decide), pg_t, rf203.2.1, nI_clamp (by omega), p0]
  by_cases hP : P 0 q = 0
  · rw [if_pos ((z (by omega)).2 hP), if_pos hP]
  rw [if_neg (fun h => hP ((z (by omega)).1 h)), if_neg hP, e458, pI_in_t (by omega) (by decide), pg_t, nI_clamp (by omega), g0]
  by_cases hG : G 0 q = 0
  · rw [if_pos ((z (by omega)).2 hG), if_pos hG]
  rw [if_neg (fun h => hG ((z (by omega)).1 h)), if_neg hG]
  refine lp_up (fun k => (nI q, nI m, oI (aimo T P G q m k), nI k, μ)) (T 0 3) _ ?_ ?_ (by omega)
  · intro c hc g
    show f_X11_aimed_33 F 203 g (nI q) (nI m) (oI (aimo T P G q m c)) (nI c) μ = g (nI q, nI m, oI (aimo T P G q m (c + 1)), nI (c + 1), μ)
    unfold f_X11_aimed_33 f_X11_aimed_155 f_X11_aimed_158
    have i3 : aw_in 3 1155 = true := by decide
    have c3 : (3 : Int32).toNatClampNeg = 3 := by decide
    have y3 := tm.1.2.2.2
    have e67 : ∀ c, (67 : Int32) + nI c = nI (67 + c) := fun c => nI_add 67 c
    have hc6 := hcell _ (hwf.2.2.2.1 c hc).2.1
    obtain ⟨t5, t6, -⟩ := tm.2.2.2.2.2.1 c hc
    have g1 := (fm.2.1 q hq).2.2 c hc
    have hg1 := fw.2.2.1 (20 * q + c)
    have hd := dst_le hT1 hc6
    have e494 : (494 : Int32) + 20 * nI q + nI c = nI (494 + 20 * q + c) := by simp (disch := omega) only [pI_lit, nI_add, nI_clamp, nI_leI, nI_ltI, nI_eq, pk_mul]
    have ht : (decide (T 5 c ≤ m ∧ m < T 5 c + 4)) = ther T c m := by
      unfold ther
      rw [decide_eq_true hm, Bool.and_true, Bool.decide_and]
    rw [i3, pg_t, c3, rf203.2.1, y3, if_neg (nI_ge hc (by omega)), e11, pI_in_t (by omega) (by decide), pg_t, e67, pI_in_t (by omega) (by decide), pg_t, nI_clamp (by omega), nI_clamp (by omega), t1, t6, apart_eq (by omega) (by omega), Option.bind_some, mThere (by omega) (hwf.2.2.2.1 c hc).1 (by omega) t5, Option.bind_some, ht, aimo_succ, nI_1]
    cases hth : ther T c m with
    | false => rw [if_neg Bool.false_ne_true, if_neg Bool.false_ne_true]
    | true =>
      rw [if_pos rfl, if_pos rfl, e427, pI_in_t (by omega) (by decide), pg_t, nI_clamp (by omega), p0]
      unfold stp
      by_cases k1 : dst (T 1 q) (T 6 c) < P 0 q
      · rw [if_neg (nI_ge k1 (by omega)), e494, pI_in_t (by omega) (by decide), pg_t, e436, pI_in_t (by omega) (by decide), pg_t, nI_clamp (by omega), nI_clamp (by omega), g1, p1]
        by_cases k2 : G 1 (20 * q + c) < P 1 q
        · rw [if_pos (nI_lt k2 (by omega))]
          cases ho : aimo T P G q m c with
          | none =>
            rw [if_pos (show oI none < 0 by decide), if_pos ⟨k1, k2, rfl⟩]
            rfl
          | some b =>
            have hb := aimo_lt _ _ ho
            obtain ⟨-, t6b, -⟩ := tm.2.2.2.2.2.1 b (by omega)
            have hb6 := hcell _ (hwf.2.2.2.1 b (by omega)).2.1
            have hdb := dst_le hT1 hb6
            have eo : oI (some b) = nI b := rfl
            rw [eo, if_neg (nI_pos (by omega))]
            rw [pg_t, e67, pI_in_t (by omega) (by decide), pg_t, nI_clamp (by omega), t6b, show (true, μ).2.1 205 (11 + q) = nI (T 1 q) from t1, apart_eq (by omega) (by omega), Option.bind_some]
            by_cases k3 : dst (T 1 q) (T 6 c) < dst (T 1 q) (T 6 b)
            · rw [if_neg (nI_ge k3 (by omega)), if_pos ⟨k1, k2, decide_eq_true k3⟩]
              rfl
            · rw [if_pos (nI_le (by omega) (by omega)), if_neg (fun h => k3 (of_decide_eq_true h.2.2))]
              rfl
        · rw [if_neg (fun h => k2 ((nI_ltI (by omega) (by omega)).1 h)), if_neg (fun h => k2 h.2.1)]
      · rw [if_pos (nI_le (by omega) (by omega)), if_neg (fun h => k1 h.1)]
  · intro g
    show f_X11_aimed_33 F 203 g (nI q) (nI m) (oI (aimo T P G q m (T 0 3))) (nI (T 0 3)) μ = _
    unfold f_X11_aimed_33
    have i3 : aw_in 3 1155 = true := by decide
    have c3 : (3 : Int32).toNatClampNeg = 3 := by decide
    rw [i3, pg_t, c3, rf203.2.1, tm.1.2.2.2, if_pos (nI_le (Nat.le_refl _) (by omega))]
