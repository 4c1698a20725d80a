theorem cnt_add (f g : Nat → Nat) : ∀ n, cnt (fun k => f k + g k) n = cnt f n + cnt g n
  | 0 => rfl
  | n + 1 => by
    show cnt (fun k => f k + g k) n + (f n + g n) = (cnt f n + f n) + (cnt g n + g n)
    rw [cnt_add f g n]
    omega
theorem cnt_ther (T : Nat → Nat → Nat) (c : Nat) : ∀ m, cnt (fun k => bN (ther T c k)) m ≤ m - T 5 c ∧ cnt (fun k => bN (ther T c k)) m ≤ 4
  | 0 => ⟨Nat.zero_le _, Nat.zero_le _⟩
  | m + 1 => by
    obtain ⟨h1, h2⟩ := cnt_ther T c m
    have e : cnt (fun k => bN (ther T c k)) (m + 1) = cnt (fun k => bN (ther T c k)) m + bN (ther T c m) := rfl
    rw [e]
    cases h : ther T c m with
    | false =>
      have : bN false = 0 := rfl
      omega
    | true =>
      have : bN true = 1 := rfl
      unfold ther at h
      simp only [Bool.and_eq_true, decide_eq_true_eq] at h
      omega
theorem cntv_n (T : Nat → Nat → Nat) (m : Nat) : ∀ n, cnt (fun k => ((List.range n).filter (fun c => ther T c k)).length) m ≤ 4 * n
  | 0 => by
    have : ∀ m, cnt (fun k => ((List.range 0).filter (fun c => ther T c k)).length) m = 0 := fun m => by
      induction m with
      | zero => rfl
      | succ m ih => exact ih
    rw [this]
    omega
  | n + 1 => by
    have e : (fun k => ((List.range (n + 1)).filter (fun c => ther T c k)).length) = fun k => ((List.range n).filter (fun c => ther T c k)).length + bN (ther T n k) := by
      funext k
      rw [List.range_succ, List.filter_append, List.length_append]
      congr 1
      cases h : ther T n k with
      | false => simp [h, bN]
      | true => simp [h, bN]
    rw [e, cnt_add]
    have := cntv_n T m n
    have := (cnt_ther T n m).2
    omega
theorem cntv_le (T : Nat → Nat → Nat) (m : Nat) : cntv T m ≤ 4 * T 0 3 := cntv_n T m (T 0 3)
theorem cntv_succ (T : Nat → Nat → Nat) (m : Nat) : cntv T (m + 1) = cntv T m + (vis T m).length := rfl
theorem nbz_le (T : Nat → Nat → Nat) : ∀ m, nbz T m ≤ cntv T m
  | 0 => Nat.le_refl 0
  | m + 1 => by
    have h := nbz_le T m
    have e : nbz T (m + 1) = nbz T m + bN (!(vis T m).isEmpty) := rfl
    rw [e, cntv_succ]
    cases hv : vis T m with
    | nil =>
      have : bN (!([] : List Nat).isEmpty) = 0 := rfl
      omega
    | cons a l =>
      have : bN (!(a :: l).isEmpty) = 1 := rfl
      have : (a :: l).length = l.length + 1 := rfl
      omega
/-- the pick among places of a list, by place -/
def bd (D : Nat → Nat) (N : Nat) (V : Nat → Nat) (o : Option Nat) : Nat := match o with
  | none => N
  | some i => D (V i)
def xi (D U : Nat → Nat) (N E : Nat) (V : Nat → Nat) : Nat → Option Nat
  | 0 => none
  | j + 1 => if D (V j) < bd D N V (xi D U N E V j) ∧ U (V j) < E then some j else xi D U N E V j
def stpg (D U : Nat → Nat) (N E : Nat) (o : Option Nat) (c : Nat) : Option Nat := if D c < N ∧ U c < E ∧ nearer D o c = true then some c else o
theorem xi_lt {D U : Nat → Nat} {N E : Nat} {V : Nat → Nat} : ∀ j i, xi D U N E V j = some i → i < j ∧ D (V i) < N
  | 0, i, h => by cases h
  | j + 1, i, h => by
    have e : xi D U N E V (j + 1) = if D (V j) < bd D N V (xi D U N E V j) ∧ U (V j) < E then some j else xi D U N E V j := rfl
    rw [e] at h
    by_cases k : D (V j) < bd D N V (xi D U N E V j) ∧ U (V j) < E
    · rw [if_pos k] at h
      cases h
      refine ⟨Nat.lt_succ_self _, ?_⟩
      cases hx : xi D U N E V j with
      | none =>
        have := k.1
        rw [hx] at this
        exact this
      | some i =>
        have h1 := k.1
        rw [hx] at h1
        exact Nat.lt_trans h1 (xi_lt j i hx).2
    · rw [if_neg k] at h
      obtain ⟨h1, h2⟩ := xi_lt j i h
      exact ⟨Nat.lt_succ_of_lt h1, h2⟩
theorem xi_stp {D U : Nat → Nat} {N E : Nat} (l : List Nat) : ∀ j, j ≤ l.length → (xi D U N E (fun k => l.getD k 0) j).map (fun k => l.getD k 0) = (l.take j).foldl (stpg D U N E) none
  | 0, _ => rfl
  | j + 1, hj => by
    have ih := xi_stp (D := D) (U := U) (N := N) (E := E) l j (by omega)
    have e : xi D U N E (fun k => l.getD k 0) (j + 1) = if D (l.getD j 0) < bd D N (fun k => l.getD k 0) (xi D U N E (fun k => l.getD k 0) j) ∧ U (l.getD j 0) < E then some j else xi D U N E (fun k => l.getD k 0) j := rfl
    have et : l.take (j + 1) = l.take j ++ [l.getD j 0] := by
      rw [List.take_succ, List.getD_eq_getElem?_getD, List.getElem?_eq_getElem (by omega)]
      rfl
    rw [e, et, List.foldl_append, ← ih]
    show _ = stpg D U N E _ (l.getD j 0)
    cases hx : xi D U N E (fun k => l.getD k 0) j with
    | none =>
      unfold stpg bd nearer
      by_cases k : D (l.getD j 0) < N ∧ U (l.getD j 0) < E
      · rw [if_pos k]
        exact (if_pos ⟨k.1, k.2, rfl⟩).symm
      · rw [if_neg k]
        exact (if_neg (fun h => k ⟨h.1, h.2.1⟩)).symm
    | some i =>
      have hi := (xi_lt j i hx).2
      unfold stpg bd nearer
      by_cases k : D (l.getD j 0) < D (l.getD i 0) ∧ U (l.getD j 0) < E
      · rw [if_pos k]
        exact (if_pos ⟨Nat.lt_trans k.1 hi, k.2, decide_eq_true k.1⟩).symm
      · rw [if_neg k]
        exact (if_neg (fun h => k ⟨of_decide_eq_true h.2.2, h.2.1⟩)).symm
