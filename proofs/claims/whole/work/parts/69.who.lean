theorem bars_x {F c d : Nat} {T : Nat → Nat → Nat} {μ : aw_M} (hwf : qTWF T) (hG : qGX T μ 28) (hc : c < T 0 3) (hd : d ≤ 100) : f_X1_bars F 28 (nI c) (nI d) μ = some (decide (3 ≤ d) && decide (0 < nbr T 9 (T 6 c)), μ) := by
  have hnc := hwf.1.2.2.2
  have r2 : aw_rf 28 2 = 31 := by simp only [rf0, rf1, rf4, rf5, rf19, rf23, rf28, rf39, rf53, rf67, rf71, rf76, rf88, rf97, rf101, rf109, rf110, rf124, rf128, rf133, rf144, rf156, rf157, rf171, rf175, rf180, rf191, rf51]
  have e : μ.1 31 c = nI (bN (decide (0 < nbr T 9 (T 6 c)))) := (hG.2.1 c hc).1
  have e2 : (2 : Int32) = nI 2 := rfl
  unfold f_X1_bars
  rw [pI_in_t (by omega) (by decide), pg_t, r2, nI_clamp (by omega), e, e2]
  cases hb : decide (0 < nbr T 9 (T 6 c)) with
  | false =>
    rw [if_pos (show nI (bN false) = 0 by decide), Bool.and_false]
  | true =>
    rw [if_neg (show ¬ nI (bN true) = 0 by decide), Bool.and_true]
    by_cases k : 3 ≤ d
    · rw [if_neg (nI_ge (by omega) (by omega)), decide_eq_true k]
    · rw [if_pos (nI_le (by omega) (by omega)), decide_eq_false k]
/-- does the quarter throw at the cart with just that hit -/
def whoc (T G : Nat → Nat → Nat) (c : Nat) (h : Int32) (q : Nat) : Bool := decide (G 0 q ≠ 0) && (!(decide (3 ≤ dst (T 1 q) (T 6 c)) && decide (0 < nbr T 9 (T 6 c))) && decide (nI (hitN T G q c (dst (T 1 q) (T 6 c))) = h))
def wm (T G : Nat → Nat → Nat) (c : Nat) (h : Int32) : Nat → Int32
  | 0 => 0
  | q + 1 => if whoc T G c h q = true then wm T G c h q ||| (1 <<< (nI q &&& 31)) else wm T G c h q
