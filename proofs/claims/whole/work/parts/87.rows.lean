/-! places in a list that is filtered from a range -/
theorem fr_at (p : Nat → Bool) {m : Nat} (hp : p m = true) : ∀ n, m < n → ((List.range n).filter p).getD (cnt (fun k => bN (p k)) m) 0 = m
  | 0, h => absurd h (Nat.not_lt_zero _)
  | n + 1, h => by
    have hl := filter_len p n
    rw [List.range_succ, List.filter_append]
    by_cases e : m = n
    · subst e
      have : [m].filter p = [m] := by simp [hp]
      rw [this, List.getD_eq_getElem?_getD, List.getElem?_append_right (by omega), hl, Nat.sub_self]
      rfl
    · have ih := fr_at p hp n (by omega)
      have hlt : cnt (fun k => bN (p k)) m < ((List.range n).filter p).length := by
        rw [hl]
        have h1 : cnt (fun k => bN (p k)) (m + 1) ≤ cnt (fun k => bN (p k)) n := by
          have : ∀ d, cnt (fun k => bN (p k)) (m + 1) ≤ cnt (fun k => bN (p k)) (m + 1 + d) := fun d => by
            induction d with
            | zero => exact Nat.le_refl _
            | succ d ih =>
              have : cnt (fun k => bN (p k)) (m + 1 + (d + 1)) = cnt (fun k => bN (p k)) (m + 1 + d) + bN (p (m + 1 + d)) := rfl
              omega
          have := this (n - (m + 1))
          have e2 : m + 1 + (n - (m + 1)) = n := by omega
          rw [e2] at this
          exact this
        have h2 : cnt (fun k => bN (p k)) (m + 1) = cnt (fun k => bN (p k)) m + bN (p m) := rfl
        rw [hp] at h2
        have h3 : bN true = 1 := rfl
        omega
      rw [List.getD_eq_getElem?_getD, List.getElem?_append_left hlt, ← List.getD_eq_getElem?_getD]
      exact ih
theorem fr_ex (p : Nat → Bool) : ∀ n j, j < cnt (fun k => bN (p k)) n → ∃ m, m < n ∧ p m = true ∧ cnt (fun k => bN (p k)) m = j
  | 0, j, h => absurd h (Nat.not_lt_zero _)
  | n + 1, j, h => by
    have e : cnt (fun k => bN (p k)) (n + 1) = cnt (fun k => bN (p k)) n + bN (p n) := rfl
    by_cases k : j < cnt (fun k => bN (p k)) n
    · obtain ⟨m, h1, h2, h3⟩ := fr_ex p n j k
      exact ⟨m, by omega, h2, h3⟩
    · cases hp : p n with
      | false =>
        rw [e, hp] at h
        have : bN false = 0 := rfl
        omega
      | true =>
        rw [e, hp] at h
        have : bN true = 1 := rfl
        exact ⟨n, by omega, hp, by omega⟩
theorem fr_ix (p : Nat → Bool) {n j : Nat} (h : j < ((List.range n).filter p).length) : ((List.range n).filter p).getD j 0 < n ∧ p (((List.range n).filter p).getD j 0) = true ∧ cnt (fun k => bN (p k)) (((List.range n).filter p).getD j 0) = j := by
  rw [filter_len] at h
  obtain ⟨m, h1, h2, h3⟩ := fr_ex p n j h
  have := fr_at p h2 n h1
  rw [h3] at this
  rw [this]
  exact ⟨h1, h2, h3⟩
/-- the busy minutes -/
def bzy (T : Nat → Nat → Nat) (m : Nat) : Bool := !(vis T m).isEmpty
def bzl (T : Nat → Nat → Nat) : List Nat := (List.range 240).filter (bzy T)
def bzm (T : Nat → Nat → Nat) (i : Nat) : Nat := (bzl T).getD i 0
theorem bzy_iff {T : Nat → Nat → Nat} {m : Nat} : bzy T m = true ↔ vis T m ≠ [] := by
  unfold bzy
  cases vis T m with
  | nil => exact ⟨fun h => (by cases h), fun h => absurd rfl h⟩
  | cons a l => exact ⟨fun _ h => (by cases h), fun _ => rfl⟩
theorem bzm_at {T : Nat → Nat → Nat} {m : Nat} (hm : m < 240) (hv : vis T m ≠ []) : bzm T (nbz T m) = m := fr_at (bzy T) (bzy_iff.2 hv) 240 hm
theorem bzm_ix {T : Nat → Nat → Nat} {i : Nat} (h : i < nbz T 240) : bzm T i < 240 ∧ vis T (bzm T i) ≠ [] ∧ nbz T (bzm T i) = i := by
  have h1 : i < ((List.range 240).filter (bzy T)).length := by rw [filter_len]; exact h
  obtain ⟨g1, g2, g3⟩ := fr_ix (bzy T) h1
  exact ⟨g1, bzy_iff.1 g2, g3⟩
theorem nbz_s {T : Nat → Nat → Nat} {m : Nat} (hv : vis T m ≠ []) : nbz T (m + 1) = nbz T m + 1 := by
  show nbz T m + bN (!(vis T m).isEmpty) = _
  cases hx : vis T m with
  | nil => exact absurd hx hv
  | cons a l => rfl
theorem nbz_i {T : Nat → Nat → Nat} {m : Nat} (hv : vis T m = []) : nbz T (m + 1) = nbz T m := by
  show nbz T m + bN (!(vis T m).isEmpty) = _
  rw [hv]
  rfl
theorem vis_inj {T : Nat → Nat → Nat} {m j j' : Nat} (h : j < (vis T m).length) (h' : j' < (vis T m).length) (e : (vis T m).getD j 0 = (vis T m).getD j' 0) : j = j' := by
  have g := (fr_ix (fun c => ther T c m) h).2.2
  have g' := (fr_ix (fun c => ther T c m) h').2.2
  have e : ((List.range (T 0 3)).filter (fun c => ther T c m)).getD j 0 = ((List.range (T 0 3)).filter (fun c => ther T c m)).getD j' 0 := e
  rw [e] at g
  exact g.symm.trans g'
/-! a quarter's row of a sure day, by busy minutes: boxes left, the more that a feint gave, boxes used by carts -/
abbrev rS : Type := Nat × Nat × (Nat → Nat)
/-- at which of the carts there; w 1: NEAR and 1, w 2: EACH, w 3: feint, w 4: boxes, w 5: AIM -/
def rAim (T : Nat → Nat → Nat) (D w : Nat → Nat) (m : Nat) (s : rS) : Option Nat := if s.1 = 0 then none else xi D s.2.2 (w 1) (w 2) (fun k => (vis T m).getD k 0) (vis T m).length
def rBar (T : Nat → Nat → Nat) (D : Nat → Nat) (c : Nat) : Bool := decide (3 ≤ D c) && decide (0 < nbr T 9 (T 6 c))
def rEv (T : Nat → Nat → Nat) (D w : Nat → Nat) (m : Nat) (s : rS) : Option Nat := match rAim T D w m s with
  | none => none
  | some j => if rBar T D ((vis T m).getD j 0) = true then none else if w 3 = 1 ∧ m % 2 = 1 then none else some j
def rNx (T : Nat → Nat → Nat) (D w : Nat → Nat) (m : Nat) (s : rS) : rS := match rAim T D w m s with
  | none => s
  | some j => if rBar T D ((vis T m).getD j 0) = true then s else if w 3 = 1 ∧ m % 2 = 1 then (s.1, 2, s.2.2) else (s.1 - 1, 0, fun x => s.2.2 x + (if x = (vis T m).getD j 0 then 1 else 0))
def rB (T : Nat → Nat → Nat) (D w : Nat → Nat) : Nat → rS
  | 0 => (w 4, 0, fun _ => 0)
  | i + 1 => rNx T D w (bzm T i) (rB T D w i)
def rHit (T : Nat → Nat → Nat) (D w : Nat → Nat) (c mo : Nat) : Nat := if 2 < D c then w 5 + mo - (D c + T 8 c) else w 5 + mo + 2 - T 8 c
theorem rNx_none {T : Nat → Nat → Nat} {D w : Nat → Nat} {m : Nat} {s : rS} (h : rAim T D w m s = none) : rNx T D w m s = s := by
  unfold rNx
  rw [h]
theorem rNx_some {T : Nat → Nat → Nat} {D w : Nat → Nat} {m j : Nat} {s : rS} (h : rAim T D w m s = some j) : rNx T D w m s = if rBar T D ((vis T m).getD j 0) = true then s else if w 3 = 1 ∧ m % 2 = 1 then (s.1, 2, s.2.2) else (s.1 - 1, 0, fun x => s.2.2 x + (if x = (vis T m).getD j 0 then 1 else 0)) := by
  unfold rNx
  rw [h]
theorem rEv_none {T : Nat → Nat → Nat} {D w : Nat → Nat} {m : Nat} {s : rS} (h : rAim T D w m s = none) : rEv T D w m s = none := by
  unfold rEv
  rw [h]
theorem rEv_some {T : Nat → Nat → Nat} {D w : Nat → Nat} {m j : Nat} {s : rS} (h : rAim T D w m s = some j) : rEv T D w m s = if rBar T D ((vis T m).getD j 0) = true then none else if w 3 = 1 ∧ m % 2 = 1 then none else some j := by
  unfold rEv
  rw [h]
theorem rAim_lt {T : Nat → Nat → Nat} {D w : Nat → Nat} {m j : Nat} {s : rS} (h : rAim T D w m s = some j) : s.1 ≠ 0 ∧ j < (vis T m).length ∧ D ((vis T m).getD j 0) < w 1 ∧ (vis T m).getD j 0 < T 0 3 := by
  unfold rAim at h
  by_cases k : s.1 = 0
  · rw [if_pos k] at h; cases h
  · rw [if_neg k] at h
    have := xi_lt _ _ h
    exact ⟨k, this.1, this.2, vis_lt this.1⟩
theorem rEv_aim {T : Nat → Nat → Nat} {D w : Nat → Nat} {m j : Nat} {s : rS} (h : rEv T D w m s = some j) : rAim T D w m s = some j := by
  cases ha : rAim T D w m s with
  | none => rw [rEv_none ha] at h; cases h
  | some a =>
    rw [rEv_some ha] at h
    split at h
    · cases h
    · split at h
      · cases h
      · exact h
theorem rB_le {T : Nat → Nat → Nat} {D w : Nat → Nat} : ∀ i, (rB T D w i).2.1 ≤ 2 ∧ ∀ c, (rB T D w i).2.2 c + (rB T D w i).1 ≤ w 4
  | 0 => ⟨Nat.zero_le _, fun c => by show 0 + w 4 ≤ w 4; omega⟩
  | i + 1 => by
    obtain ⟨h1, h2⟩ := rB_le (T := T) (D := D) (w := w) i
    show (rNx T D w (bzm T i) (rB T D w i)).2.1 ≤ 2 ∧ ∀ c, (rNx T D w (bzm T i) (rB T D w i)).2.2 c + (rNx T D w (bzm T i) (rB T D w i)).1 ≤ w 4
    generalize rB T D w i = s at h1 h2
    cases ha : rAim T D w (bzm T i) s with
    | none => rw [rNx_none ha]; exact ⟨h1, h2⟩
    | some j =>
      have h0 := (rAim_lt ha).1
      rw [rNx_some ha]
      by_cases k1 : rBar T D ((vis T (bzm T i)).getD j 0) = true
      · rw [if_pos k1]
        exact ⟨h1, h2⟩
      · rw [if_neg k1]
        by_cases k2 : w 3 = 1 ∧ bzm T i % 2 = 1
        · rw [if_pos k2]
          exact ⟨Nat.le_refl _, h2⟩
        · rw [if_neg k2]
          refine ⟨Nat.zero_le _, fun c => ?_⟩
          have := h2 c
          show s.2.2 c + (if c = (vis T (bzm T i)).getD j 0 then 1 else 0) + (s.1 - 1) ≤ w 4
          split <;> omega
theorem xi_congr {D U U' : Nat → Nat} {N E : Nat} {V : Nat → Nat} : ∀ j, (∀ k, k < j → U (V k) = U' (V k)) → xi D U N E V j = xi D U' N E V j
  | 0, _ => rfl
  | j + 1, h => by
    show (if D (V j) < bd D N V (xi D U N E V j) ∧ U (V j) < E then some j else xi D U N E V j) = (if D (V j) < bd D N V (xi D U' N E V j) ∧ U' (V j) < E then some j else xi D U' N E V j)
    rw [xi_congr j (fun k hk => h k (by omega)), h j (by omega)]
theorem xi_0 {D U : Nat → Nat} {E : Nat} {V : Nat → Nat} : ∀ j, xi D U 0 E V j = none
  | 0 => rfl
  | j + 1 => by
    show (if D (V j) < bd D 0 V (xi D U 0 E V j) ∧ U (V j) < E then some j else xi D U 0 E V j) = none
    rw [xi_0 j, if_neg (fun h => Nat.not_lt_zero _ h.1)]
/-- the reference's rows -/
def rD (T : Nat → Nat → Nat) (q : Nat) : Nat → Nat := fun c => dst (T 1 q) (T 6 c)
def rW (T P : Nat → Nat → Nat) (q : Nat) : Nat → Nat := fun k => if k = 1 then P 0 q else if k = 2 then P 1 q else if k = 3 then P 2 q else if k = 4 then T 2 q else T 3 q
/-- what S holds of the quarters, by their rows' states -/
def rIn (T : Nat → Nat → Nat) (q : Nat) (s : rS) (S : Nat → Int32) : Prop := S (458 + q) = nI s.1 ∧ S (485 + q) = nI s.2.1 ∧ ∀ c, c < T 0 3 → S (494 + 20 * q + c) = nI (s.2.2 c)
theorem rIn.g {T : Nat → Nat → Nat} {q : Nat} {s : rS} {S : Nat → Int32} (h : rIn T q s S) (h1 : s.2.1 ≤ 2) (h2 : ∀ c, s.2.2 c + s.1 ≤ 400) : gS S 0 q = s.1 ∧ gS S 6 q = s.2.1 ∧ ∀ c, c < T 0 3 → gS S 1 (20 * q + c) = s.2.2 c := by
  obtain ⟨g1, g2, g3⟩ := h
  have := h2 0
  refine ⟨?_, ?_, fun c hc => ?_⟩
  · show cl (S (458 + q)) 400 = _
    rw [g1, cl_nI (by omega) (by decide)]
  · show cl (S (485 + q)) 2 = _
    rw [g2, cl_nI h1 (by decide)]
  · have := h2 c
    show cl (S (494 + (20 * q + c))) 400 = _
    rw [← Nat.add_assoc, g3 c hc, cl_nI (by omega) (by decide)]
theorem sAim_r {T P : Nat → Nat → Nat} {q m : Nat} {s : rS} {S : Nat → Int32} (hq : q < 9) (h : rIn T q s S) (h1 : s.2.1 ≤ 2) (h2 : ∀ c, s.2.2 c + s.1 ≤ 400) : sAim T P S q m = (rAim T (rD T q) (rW T P q) m s).map (fun k => (vis T m).getD k 0) := by
  obtain ⟨g1, g2, g3⟩ := h.g h1 h2
  have hpl : pl T q = T 1 q := by unfold pl; rw [if_pos hq]
  unfold sAim rAim
  rw [g1]
  have e1 : rW T P q 1 = P 0 q := rfl
  have e2 : rW T P q 2 = P 1 q := rfl
  by_cases k1 : s.1 = 0
  · rw [if_pos k1, if_pos k1]
    split <;> rfl
  · rw [if_neg k1, if_neg k1, e1, e2]
    by_cases k0 : P 0 q = 0
    · rw [if_pos k0, k0, xi_0]
      rfl
    · rw [if_neg k0, aim_fold hq, hpl]
      congr 1
      exact xi_congr _ fun k hk => g3 _ (vis_lt hk)
