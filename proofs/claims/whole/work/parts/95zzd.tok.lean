/-! tokens: the model -/
def bnk (c : Nat) : Bool := decide (c = 32 ∨ c = 10)
def sml (c : Nat) : Bool := decide (97 ≤ c ∧ c ≤ 122)
def dgt (c : Nat) : Bool := decide (48 ≤ c ∧ c ≤ 57)
def sgn (c : Nat) : Bool := decide (c = 59 ∨ (60 ≤ c ∧ c ≤ 62) ∨ c = 40 ∨ c = 41)
def endF (f : Nat → Bool) (n : Nat) : Nat → Nat → Nat
  | 0, p => p
  | k + 1, p => if p < n ∧ f p = true then endF f n k (p + 1) else p
def ends (f : Nat → Bool) (n p : Nat) : Nat := endF f n (n - p) p
theorem ends_s {f : Nat → Bool} {n p : Nat} (h : p < n) (hf : f p = true) : ends f n p = ends f n (p + 1) := by
  unfold ends
  rw [show n - p = (n - (p + 1)) + 1 by omega]
  show (if p < n ∧ f p = true then endF f n (n - (p + 1)) (p + 1) else p) = _
  rw [if_pos ⟨h, hf⟩]
theorem ends_e {f : Nat → Bool} {n p : Nat} (h : ¬ (p < n ∧ f p = true)) : ends f n p = p := by
  unfold ends
  cases e : n - p with
  | zero => rfl
  | succ k =>
    show (if p < n ∧ f p = true then endF f n k (p + 1) else p) = p
    rw [if_neg h]
theorem ends_p {f : Nat → Bool} {n : Nat} : ∀ (k p : Nat), n - p ≤ k → p ≤ n → p ≤ ends f n p ∧ ends f n p ≤ n ∧ (∀ i, p ≤ i → i < ends f n p → f i = true) ∧ ¬ (ends f n p < n ∧ f (ends f n p) = true) := by
  intro k
  induction k with
  | zero =>
    intro p hk hp
    have h : ¬ (p < n ∧ f p = true) := fun h => by omega
    rw [ends_e h]
    exact ⟨Nat.le_refl _, hp, fun i h1 h2 => by omega, h⟩
  | succ k ih =>
    intro p hk hp
    by_cases h : p < n ∧ f p = true
    · rw [ends_s h.1 h.2]
      obtain ⟨h1, h2, h3, h4⟩ := ih (p + 1) (by omega) (by omega)
      refine ⟨by omega, h2, fun i h5 h6 => ?_, h4⟩
      by_cases e : i = p
      · rw [e]; exact h.2
      · exact h3 i (by omega) h6
    · rw [ends_e h]
      exact ⟨Nat.le_refl _, hp, fun i h1 h2 => by omega, h⟩
def tA (B : Nat → Nat) (n p : Nat) : Nat := ends (fun i => bnk (B i)) n p
def tE (B : Nat → Nat) (n p : Nat) : Nat := ends (fun i => sml (B i) || dgt (B i)) n (tA B n p)
def alf (f : Nat → Bool) (B : Nat → Nat) (a e : Nat) : Bool := decide (∀ i, i < e → a ≤ i → f (B i) = true)
def wd (B : Nat → Nat) (a k : Nat) : List Nat := (List.range k).map fun i => B (a + i) - 96
def nmv (B : Nat → Nat) (a : Nat) : Nat → Nat
  | 0 => 0
  | k + 1 => nmv B a k * 10 + (B (a + k) - 48)
def tR (B : Nat → Nat) (a e : Nat) : Nat := if alf sml B a e = true ∧ e ≤ a + 7 then 1 else if alf dgt B a e = true ∧ e ≤ a + 3 then 2 else 5
def tK (B : Nat → Nat) (n lim p : Nat) : Nat := if lim < n ∧ lim ≤ tA B n p then 5 else if n ≤ tA B n p then 4 else if tE B n p = tA B n p then (if sgn (B (tA B n p)) = true then 3 else 5) else tR B (tA B n p) (tE B n p)
def tSt (B : Nat → Nat) (n lim p : Nat) : Nat := if lim < n ∧ lim ≤ tA B n p then lim else tA B n p
def tN (B : Nat → Nat) (n lim p : Nat) : Nat := if lim < n ∧ lim ≤ tA B n p then tA B n p else if n ≤ tA B n p then tA B n p else if tE B n p = tA B n p then tA B n p + 1 else tE B n p
def tVl (B : Nat → Nat) (n p : Nat) : Nat := if tE B n p = tA B n p then B (tA B n p) else nmv B (tA B n p) (tE B n p - tA B n p)
def tW (B : Nat → Nat) (n p : Nat) : List Nat := wd B (tA B n p) (tE B n p - tA B n p)
def kx (w : List Nat) : Int32 := if kwl.idxOf w < 20 then nI (kwl.idxOf w) else -1
theorem alf_t {f : Nat → Bool} {B : Nat → Nat} {a e : Nat} : alf f B a e = true ↔ ∀ i, i < e → a ≤ i → f (B i) = true := by
  unfold alf
  rw [decide_eq_true_eq]
theorem alf_s {f : Nat → Bool} {B : Nat → Nat} {a q : Nat} (h : a ≤ q) : alf f B a (q + 1) = true ↔ alf f B a q = true ∧ f (B q) = true := by
  rw [alf_t, alf_t]
  constructor
  · intro h1
    exact ⟨fun i h2 h3 => h1 i (by omega) h3, h1 q (Nat.lt_succ_self _) h⟩
  · rintro ⟨h1, h2⟩ i h3 h4
    by_cases e : i = q
    · rw [e]; exact h2
    · exact h1 i (by omega) h4
theorem alf_0 {f : Nat → Bool} {B : Nat → Nat} {a : Nat} : alf f B a a = true := alf_t.2 fun i h1 h2 => by omega
theorem wd_s (B : Nat → Nat) (a k : Nat) : wd B a (k + 1) = wd B a k ++ [B (a + k) - 96] := by
  unfold wd
  rw [List.range_succ, List.map_append]
  rfl
/-! words as numbers -/
def v27 (w : List Nat) : Nat := w.foldl (fun a d => a * 27 + d) 0
def v8 (w : List Nat) : Nat := w.foldl (fun a d => a * 256 + (d + 96)) 0
theorem v27_s (w : List Nat) (d : Nat) : v27 (w ++ [d]) = v27 w * 27 + d := by
  unfold v27
  rw [List.foldl_append]
  rfl
theorem v8_s (w : List Nat) (d : Nat) : v8 (w ++ [d]) = v8 w * 256 + (d + 96) := by
  unfold v8
  rw [List.foldl_append]
  rfl
theorem e27_s (w : List Nat) (d : Nat) : e27 (w ++ [d]) = e27 w * 27 + Int64.ofNat d := by
  unfold e27
  rw [List.foldl_append]
  rfl
theorem e8_s (w : List Nat) (d : Nat) : e8 (w ++ [d]) = e8 w <<< 8 ||| Int64.ofNat (d + 96) := by
  unfold e8
  rw [List.foldl_append]
  rfl
theorem rev_ind {P : List Nat → Prop} (h0 : P []) (hs : ∀ w d, P w → P (w ++ [d])) : ∀ (n : Nat) (w : List Nat), w.length = n → P w
  | 0, w, h => by
    rw [List.eq_nil_of_length_eq_zero h]
    exact h0
  | n + 1, w, h => by
    have e : w = w.dropLast ++ [w.getLast (fun e => by rw [e] at h; cases h)] := (List.dropLast_concat_getLast _).symm
    rw [e]
    exact hs _ _ (rev_ind h0 hs n _ (by rw [List.length_dropLast, h]; rfl))
theorem e27_v (w : List Nat) : e27 w = Int64.ofNat (v27 w) := by
  refine rev_ind (P := fun w => e27 w = Int64.ofNat (v27 w)) rfl (fun w d h => ?_) w.length w rfl
  rw [e27_s, v27_s, h]
  rw [Int64.ofNat_add, Int64.ofNat_mul]
  rfl
theorem v27_lt (w : List Nat) : (∀ d, d ∈ w → d ≤ 26) → v27 w < 27 ^ w.length := by
  refine rev_ind (P := fun w => (∀ d, d ∈ w → d ≤ 26) → v27 w < 27 ^ w.length) (fun _ => by decide) (fun w d h h2 => ?_) w.length w rfl
  have h3 := h fun x hx => h2 x (List.mem_append_left _ hx)
  have h4 := h2 d (List.mem_append_right _ List.mem_cons_self)
  rw [v27_s, List.length_append]
  show v27 w * 27 + d < 27 ^ (w.length + 1)
  rw [Nat.pow_succ]
  omega
theorem v8_lt (w : List Nat) : (∀ d, d ∈ w → d ≤ 26) → v8 w < 256 ^ w.length := by
  refine rev_ind (P := fun w => (∀ d, d ∈ w → d ≤ 26) → v8 w < 256 ^ w.length) (fun _ => by decide) (fun w d h h2 => ?_) w.length w rfl
  have h3 := h fun x hx => h2 x (List.mem_append_left _ hx)
  have h4 := h2 d (List.mem_append_right _ List.mem_cons_self)
  rw [v8_s, List.length_append]
  show v8 w * 256 + (d + 96) < 256 ^ (w.length + 1)
  rw [Nat.pow_succ]
  omega
theorem i64_ofNat_inj {x y : Nat} (hx : x < 2 ^ 63) (hy : y < 2 ^ 63) (h : Int64.ofNat x = Int64.ofNat y) : x = y := by
  have h2 := congrArg Int64.toInt h
  rw [Int64.toInt_ofNat_of_lt hx, Int64.toInt_ofNat_of_lt hy] at h2
  omega
theorem v27_inj : ∀ (n : Nat) (w w' : List Nat), w.length ≤ n → (∀ d, d ∈ w → 1 ≤ d ∧ d ≤ 26) → (∀ d, d ∈ w' → 1 ≤ d ∧ d ≤ 26) → v27 w = v27 w' → w = w' := by
  intro n
  induction n with
  | zero =>
    intro w w' hl h1 h2 he
    have : w = [] := List.eq_nil_of_length_eq_zero (by omega)
    subst this
    by_cases e : w' = []
    · rw [e]
    · have e2 : w' = w'.dropLast ++ [w'.getLast e] := (List.dropLast_concat_getLast _).symm
      rw [e2, v27_s] at he
      have := h2 _ (List.getLast_mem e)
      have h0 : v27 [] = 0 := rfl
      omega
  | succ n ih =>
    intro w w' hl h1 h2 he
    by_cases e : w = []
    · by_cases e' : w' = []
      · rw [e, e']
      · have e2 : w' = w'.dropLast ++ [w'.getLast e'] := (List.dropLast_concat_getLast _).symm
        rw [e2, e, v27_s] at he
        have := h2 _ (List.getLast_mem e')
        have h0 : v27 [] = 0 := rfl
        omega
    · have e1 : w = w.dropLast ++ [w.getLast e] := (List.dropLast_concat_getLast _).symm
      by_cases e' : w' = []
      · rw [e1, e', v27_s] at he
        have := h1 _ (List.getLast_mem e)
        have h0 : v27 [] = 0 := rfl
        omega
      · have e2 : w' = w'.dropLast ++ [w'.getLast e'] := (List.dropLast_concat_getLast _).symm
        have hx := h1 _ (List.getLast_mem e)
        have hy := h2 _ (List.getLast_mem e')
        rw [e1, e2, v27_s, v27_s] at he
        have hd : w.getLast e = w'.getLast e' := by omega
        have hv : v27 w.dropLast = v27 w'.dropLast := by omega
        have := ih w.dropLast w'.dropLast (by rw [List.length_dropLast]; omega) (fun d hd => h1 d ((List.dropLast_sublist _).subset hd)) (fun d hd => h2 d ((List.dropLast_sublist _).subset hd)) hv
        rw [e1, e2, this, hd]
theorem e27_inj {w w' : List Nat} (h : wordok w) (h' : wordok w') (e : e27 w = e27 w') : w = w' := by
  have b : ∀ w, wordok w → v27 w < 2 ^ 63 := fun w h => by
    have h1 := v27_lt w fun d hd => (h.2.2 d hd).2
    have h2 : 27 ^ w.length ≤ 27 ^ 7 := Nat.pow_le_pow_right (by decide) h.2.1
    have h3 : (27 : Nat) ^ 7 = 10460353203 := by decide
    omega
  rw [e27_v, e27_v] at e
  exact v27_inj w.length w w' (Nat.le_refl _) h.2.2 h'.2.2 (i64_ofNat_inj (b w h) (b w' h') e)
