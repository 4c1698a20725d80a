/-! the reference's table of plans -/
def kTo (a _k : Nat) : Bool := decide (a ≠ 205 ∧ a ≠ 210 ∧ a ≠ 211 ∧ a ≠ 223 ∧ a ≠ 224)
def kTm (a k : Nat) : Bool := decide ((a ≠ 203 ∨ (k ≠ 0 ∧ (k < 2 ∨ (5 < k ∧ k ≠ 41)))) ∧ a ≠ 205 ∧ a ≠ 210 ∧ a ≠ 211 ∧ a ≠ 223 ∧ a ≠ 224)
def sv (μ : aw_M) (i : Nat) : aw_M :=
  let μ1 := aw_wI μ 224 (3 * i) (μ.1 205 (427 + i))
  let μ2 := aw_wI μ1 224 (3 * i + 1) (μ1.1 205 (436 + i))
  let μ3 := aw_wI μ2 224 (3 * i + 2) (μ2.1 205 (445 + i))
  aw_wI μ3 205 (445 + i) 0
def rs (μ : aw_M) (i : Nat) : aw_M :=
  let μ1 := aw_wI μ 205 (427 + i) (μ.1 224 (3 * i))
  let μ2 := aw_wI μ1 205 (436 + i) (μ1.1 224 (3 * i + 1))
  aw_wI μ2 205 (445 + i) (μ2.1 224 (3 * i + 2))
def its (f : aw_M → Nat → aw_M) (μ : aw_M) : Nat → aw_M
  | 0 => μ
  | i + 1 => f (its f μ i) i
theorem sv_2 {μ : aw_M} {S : Nat → Int32} (h : μ.1 205 = S) : (its sv μ 2).1 205 = upd (upd S 445 0) 446 0 ∧ AgK kTo μ (its sv μ 2) ∧ ((its sv μ 2).1 224 0 = S 427 ∧ (its sv μ 2).1 224 1 = S 436 ∧ (its sv μ 2).1 224 2 = S 445 ∧ (its sv μ 2).1 224 3 = S 428 ∧ (its sv μ 2).1 224 4 = S 437 ∧ (its sv μ 2).1 224 5 = S 446) := by
  subst h
  have e : its sv μ 2 = sv (sv μ 0) 1 := rfl
  rw [e]
  unfold sv
  dsimp only
  refine ⟨?_, ?_, ?_⟩
  · rw [wI_aset, rA_s, rI_a (by decide), rI_a (by decide), rI_a (by decide), wI_aset, rA_s, rI_a (by decide), rI_a (by decide), rI_a (by decide)]
  · exact (((((((((AgK.rf μ).wI (v := _) (decide_eq_false (by omega))).wI (v := _) (decide_eq_false (by omega))).wI (v := _) (decide_eq_false (by omega))).wI (v := _) (decide_eq_false (by omega))).wI (v := _) (decide_eq_false (by omega))).wI (v := _) (decide_eq_false (by omega))).wI (v := _) (decide_eq_false (by omega))).wI (v := _) (decide_eq_false (by omega)))
  · simp (disch := decide) only [rI_s, rI_k, rI_a, Nat.mul_zero, Nat.zero_add, Nat.add_zero, Nat.mul_one, Nat.reduceAdd, and_self]
theorem rs_2 {μ : aw_M} {S : Nat → Int32} (h : (μ.1 224 0 = S 427 ∧ μ.1 224 1 = S 436 ∧ μ.1 224 2 = S 445 ∧ μ.1 224 3 = S 428 ∧ μ.1 224 4 = S 437 ∧ μ.1 224 5 = S 446)) (h2 : ∀ k, k ≠ 427 → k ≠ 436 → k ≠ 428 → k ≠ 437 → μ.1 205 k = upd (upd S 445 0) 446 0 k) : (its rs μ 2).1 205 = S ∧ AgK (fun a _ => decide (a ≠ 205)) μ (its rs μ 2) := by
  have e : its rs μ 2 = rs (rs μ 0) 1 := rfl
  obtain ⟨h3, h4, h5, h6, h7, h8⟩ := h
  rw [e]
  unfold rs
  dsimp only
  refine ⟨?_, ?_⟩
  · have e1 : ∀ k v, (aw_wI (aw_wI (aw_wI (aw_wI (aw_wI μ 205 (427 + 0) (μ.1 224 (3 * 0))) 205 (436 + 0) ((aw_wI μ 205 (427 + 0) (μ.1 224 (3 * 0))).1 224 (3 * 0 + 1))) 205 (445 + 0) k) 205 (427 + 1) v) 205 0 0).1 224 = μ.1 224 := fun k v => by
      rw [rI_a (by decide), rI_a (by decide), rI_a (by decide), rI_a (by decide), rI_a (by decide)]
    simp (disch := decide) only [rI_a, Nat.mul_zero, Nat.zero_add, Nat.add_zero, Nat.mul_one, Nat.reduceAdd, h3, h4, h5, h6, h7, h8, wI_aset, rA_s, rA_a]
    funext k
    by_cases k1 : k = 446
    · subst k1; rw [pk_us]
    by_cases k2 : k = 437
    · subst k2; rw [pk_un (by decide), pk_us]
    by_cases k3 : k = 428
    · subst k3; rw [pk_un (by decide), pk_un (by decide), pk_us]
    by_cases k4 : k = 445
    · subst k4; rw [pk_un (by decide), pk_un (by decide), pk_un (by decide), pk_us]
    by_cases k5 : k = 436
    · subst k5; rw [pk_un (by decide), pk_un (by decide), pk_un (by decide), pk_un (by decide), pk_us]
    by_cases k6 : k = 427
    · subst k6; rw [pk_un (by decide), pk_un (by decide), pk_un (by decide), pk_un (by decide), pk_un (by decide), pk_us]
    · rw [pk_un k1, pk_un k2, pk_un k3, pk_un k4, pk_un k5, pk_un k6, h2 k k6 k5 k3 k2, pk_un k1, pk_un k4]
  · exact ((((((AgK.rf μ).wI (v := _) (decide_eq_false (by omega))).wI (v := _) (decide_eq_false (by omega))).wI (v := _) (decide_eq_false (by omega))).wI (v := _) (decide_eq_false (by omega))).wI (v := _) (decide_eq_false (by omega))).wI (v := _) (decide_eq_false (by omega))
theorem tS_of {g S : Nat → Int32} {x0 y0 x1 y1 : Int32} (h2 : ∀ k, k ≠ 427 → k ≠ 436 → k ≠ 428 → k ≠ 437 → g k = upd (upd S 445 0) 446 0 k) : upd (upd (upd (upd g 427 x0) 436 y0) 428 x1) 437 y1 = tS S x0 y0 x1 y1 := by
  unfold tS
  funext k
  by_cases k2 : k = 437
  · subst k2; rw [pk_us, pk_us]
  by_cases k3 : k = 428
  · subst k3; rw [pk_un (by decide), pk_us, pk_un (by decide), pk_us]
  by_cases k5 : k = 436
  · subst k5; rw [pk_un (by decide), pk_un (by decide), pk_us, pk_un (by decide), pk_un (by decide), pk_us]
  by_cases k6 : k = 427
  · subst k6; rw [pk_un (by decide), pk_un (by decide), pk_un (by decide), pk_us, pk_un (by decide), pk_un (by decide), pk_un (by decide), pk_us]
  · rw [pk_un k2, pk_un k3, pk_un k5, pk_un k6, h2 k k6 k5 k3 k2, pk_un k2, pk_un k3, pk_un k5, pk_un k6]
