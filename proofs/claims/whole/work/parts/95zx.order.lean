/-! orders of carts: the model -/
def mxn (f : Nat → Nat) : Nat → Nat
  | 0 => 0
  | n + 1 => max (mxn f n) (f n)
theorem mxn_le {f : Nat → Nat} {B : Nat} : ∀ n, mxn f n ≤ B ↔ ∀ k, k < n → f k ≤ B
  | 0 => ⟨fun _ k h => absurd h (Nat.not_lt_zero k), fun _ => Nat.zero_le _⟩
  | n + 1 => by
    show max (mxn f n) (f n) ≤ B ↔ _
    rw [Nat.max_le, mxn_le n]
    constructor
    · rintro ⟨h1, h2⟩ k hk
      by_cases e : k = n
      · subst e; exact h2
      · exact h1 k (by omega)
    · intro h
      exact ⟨fun k hk => h k (by omega), h n (by omega)⟩
theorem mxn_ext {f g : Nat → Nat} : ∀ n, (∀ k, k < n → f k = g k) → mxn f n = mxn g n
  | 0, _ => rfl
  | n + 1, h => by
    show max (mxn f n) (f n) = max (mxn g n) (g n)
    rw [mxn_ext n (fun k hk => h k (by omega)), h n (by omega)]
def rn (rc : Nat → Nat → Bool) (q : Nat) (p : List Nat) : Nat := p.foldl (fun x c => if rc c q = true then 0 else x + 1) 0
theorem rn_s (rc : Nat → Nat → Bool) (q c : Nat) (p : List Nat) : rn rc q (p ++ [c]) = if rc c q = true then 0 else rn rc q p + 1 := by
  unfold rn
  rw [List.foldl_append]
  rfl
theorem foldl_rn_le (rc : Nat → Nat → Bool) (q : Nat) : ∀ (p : List Nat) (a : Nat), p.foldl (fun x c => if rc c q = true then 0 else x + 1) a ≤ a + p.length
  | [], a => Nat.le_refl _
  | c :: p, a => by
    have h := foldl_rn_le rc q p (if rc c q = true then 0 else a + 1)
    show p.foldl _ (if rc c q = true then 0 else a + 1) ≤ a + (p.length + 1)
    by_cases e : rc c q = true
    · rw [if_pos e] at h ⊢
      omega
    · rw [if_neg e] at h ⊢
      omega
theorem rn_le (rc : Nat → Nat → Bool) (q : Nat) (p : List Nat) : rn rc q p ≤ p.length := by
  have := foldl_rn_le rc q p 0
  unfold rn
  omega
theorem foldl_rn_lt (rc : Nat → Nat → Bool) (q c : Nat) (hc : rc c q = true) : ∀ (p : List Nat) (a : Nat), c ∈ p → p.foldl (fun x c => if rc c q = true then 0 else x + 1) a < p.length
  | [], a, h => absurd h List.not_mem_nil
  | d :: p, a, h => by
    show p.foldl _ (if rc d q = true then 0 else a + 1) < p.length + 1
    rcases List.mem_cons.1 h with e | e
    · subst e
      rw [if_pos hc]
      have := foldl_rn_le rc q p 0
      omega
    · have := foldl_rn_lt rc q c hc p (if rc d q = true then 0 else a + 1) e
      omega
def wq (rc : Nat → Nat → Bool) (ms : Nat → Bool) (p : List Nat) : Nat := mxn (fun q => if ms q = true then rn rc q p else 0) 9
def Wt (rc : Nat → Nat → Bool) (ms : Nat → Bool) (p : List Nat) : Nat := mxn (fun k => wq rc ms (p.take k)) (p.length + 1)
theorem Wt_le {rc : Nat → Nat → Bool} {ms : Nat → Bool} {p : List Nat} {B : Nat} : Wt rc ms p ≤ B ↔ ∀ k q, k ≤ p.length → q < 9 → ms q = true → rn rc q (p.take k) ≤ B := by
  unfold Wt wq
  rw [mxn_le]
  constructor
  · intro h k q hk hq hm
    have := (mxn_le 9).1 (h k (by omega)) q hq
    rw [if_pos hm] at this
    exact this
  · intro h k hk
    refine (mxn_le 9).2 fun q hq => ?_
    by_cases hm : ms q = true
    · rw [if_pos hm]
      exact h k q (by omega) hq hm
    · rw [if_neg hm]
      exact Nat.zero_le _
theorem Wt_s (rc : Nat → Nat → Bool) (ms : Nat → Bool) (p : List Nat) (c : Nat) : Wt rc ms (p ++ [c]) = max (Wt rc ms p) (wq rc ms (p ++ [c])) := by
  unfold Wt
  rw [List.length_append]
  show max (mxn (fun k => wq rc ms ((p ++ [c]).take k)) (p.length + 1)) (wq rc ms ((p ++ [c]).take (p.length + 1))) = _
  have e1 : (p ++ [c]).take (p.length + 1) = p ++ [c] := List.take_of_length_le (by rw [List.length_append]; exact Nat.le_refl _)
  rw [e1]
  refine congrArg (fun x => max x (wq rc ms (p ++ [c]))) (mxn_ext _ fun k hk => ?_)
  rw [List.take_append_of_le_length (by omega)]
theorem Wt_0 (rc : Nat → Nat → Bool) (ms : Nat → Bool) : Wt rc ms [] = wq rc ms [] := by
  show max 0 (wq rc ms ([].take 0)) = _
  rw [Nat.zero_max]
  rfl
theorem wq_0 (rc : Nat → Nat → Bool) (ms : Nat → Bool) : wq rc ms [] = 0 := Nat.le_zero.1 ((mxn_le 9).2 fun q _ => by
  show (if ms q = true then rn rc q [] else 0) ≤ 0
  split <;> exact Nat.le_refl 0)
theorem Wt_mono (rc : Nat → Nat → Bool) (ms : Nat → Bool) (p s : List Nat) : Wt rc ms p ≤ Wt rc ms (p ++ s) := by
  refine Wt_le.2 fun k q hk hq hm => ?_
  have := (Wt_le (rc := rc) (ms := ms) (p := p ++ s) (B := Wt rc ms (p ++ s))).1 (Nat.le_refl _) k q (by rw [List.length_append]; omega) hq hm
  rw [List.take_append_of_le_length hk] at this
  exact this
/-- the better of what is known and p -/
def stO (w : List Nat → Nat) (b : Nat × List Nat) (p : List Nat) : Nat × List Nat := if w p < b.1 then (w p, p) else b
theorem stO_keep {w : List Nat → Nat} {b : Nat × List Nat} : ∀ L : List (List Nat), (∀ p, p ∈ L → b.1 ≤ w p) → L.foldl (stO w) b = b
  | [], _ => rfl
  | p :: L, h => by
    have h1 : stO w b p = b := by
      unfold stO
      rw [if_neg (by have := h p List.mem_cons_self; omega)]
    show L.foldl (stO w) (stO w b p) = b
    rw [h1]
    exact stO_keep L fun x hx => h x (List.mem_cons_of_mem _ hx)
/-- all orders, the lesser first -/
def blk (f : List Nat → List (List Nat)) : List Nat → List Nat → List (List Nat)
  | _, [] => []
  | l, c :: r => (f (l ++ r)).map (fun s => c :: s) ++ blk f (l ++ [c]) r
def PL : Nat → List Nat → List (List Nat)
  | 0, _ => [[]]
  | n + 1, A => blk (PL n) [] A
/-- the order behind p -/
def NX (p p' : List Nat) : Prop := ∃ pre c u d v, p = pre ++ c :: (u ++ d :: v) ∧ p' = pre ++ d :: (u ++ c :: v).reverse ∧ (u ++ d :: v).Pairwise (fun a b => b < a) ∧ c < d ∧ ∀ x, x ∈ v → x < c
theorem NX_cons {p p' : List Nat} (a : Nat) (h : NX p p') : NX (a :: p) (a :: p') := by
  obtain ⟨pre, c, u, d, v, h1, h2, h3⟩ := h
  exact ⟨a :: pre, c, u, d, v, by rw [h1]; rfl, by rw [h2]; rfl, h3⟩
/-- a list that goes from a to z -/
def Gon : List Nat → List Nat → List (List Nat) → Prop
  | _, _, [] => False
  | a, z, x :: L => x = a ∧ ((L = [] ∧ a = z) ∨ ∃ b, NX a b ∧ Gon b z L)
theorem Gon.app {z a' z' : List Nat} {L' : List (List Nat)} (hn : NX z a') (h' : Gon a' z' L') : ∀ (L : List (List Nat)) (a : List Nat), Gon a z L → Gon a z' (L ++ L')
  | [], _, h => h.elim
  | x :: L, a, ⟨h1, h2⟩ => by
    refine ⟨h1, .inr ?_⟩
    rcases h2 with ⟨rfl, rfl⟩ | ⟨b, hb, hg⟩
    · exact ⟨a', hn, h'⟩
    · exact ⟨b, hb, Gon.app hn h' L b hg⟩
theorem Gon.map {z : List Nat} (c : Nat) : ∀ (L : List (List Nat)) (a : List Nat), Gon a z L → Gon (c :: a) (c :: z) (L.map (fun s => c :: s))
  | [], _, h => h.elim
  | x :: L, a, ⟨h1, h2⟩ => by
    refine ⟨by rw [h1], ?_⟩
    rcases h2 with ⟨rfl, rfl⟩ | ⟨b, hb, hg⟩
    · exact .inl ⟨rfl, rfl⟩
    · exact .inr ⟨c :: b, NX_cons c hb, Gon.map c L b hg⟩
theorem Gon.one (a : List Nat) : Gon a a [a] := ⟨rfl, .inl ⟨rfl, rfl⟩⟩
theorem asc_rev {A : List Nat} (h : A.Pairwise (· < ·)) : A.reverse.Pairwise (fun a b => b < a) := List.pairwise_reverse.2 h
theorem blk_go {f : List Nat → List (List Nat)} {n : Nat} (hf : ∀ B : List Nat, B.length = n → B.Pairwise (· < ·) → Gon B B.reverse (f B)) : ∀ (r l : List Nat) (c : Nat), (l ++ c :: r).length = n + 1 → (l ++ c :: r).Pairwise (· < ·) → Gon (c :: (l ++ r)) (l ++ c :: r).reverse (blk f l (c :: r))
  | [], l, c, hl, hp => by
    have hl2 : (l ++ []).length = n := by
      rw [List.length_append] at hl ⊢
      have hl : l.length + 1 = n + 1 := hl
      show l.length + 0 = n
      omega
    have hp2 : (l ++ []).Pairwise (· < ·) := by
      rw [List.append_nil]
      exact (List.pairwise_append.1 hp).1
    have h := Gon.map c _ _ (hf (l ++ []) hl2 hp2)
    show Gon _ _ ((f (l ++ [])).map (fun s => c :: s) ++ [])
    rw [show (f (l ++ [])).map (fun s => c :: s) ++ [] = (f (l ++ [])).map (fun s => c :: s) from List.append_nil _]
    have : (l ++ [c]).reverse = c :: (l ++ []).reverse := by simp
    rw [this]
    exact h
  | e :: r, l, c, hl, hp => by
    obtain ⟨p1, p2, p3⟩ := List.pairwise_append.1 hp
    obtain ⟨p4, p5⟩ := List.pairwise_cons.1 p2
    obtain ⟨p6, p7⟩ := List.pairwise_cons.1 p5
    have hl2 : (l ++ e :: r).length = n := by
      simp only [List.length_append, List.length_cons] at hl ⊢
      omega
    have hp2 : (l ++ e :: r).Pairwise (· < ·) := List.pairwise_append.2 ⟨p1, p5, fun a ha b hb => p3 a ha b (List.mem_cons_of_mem _ hb)⟩
    have h := Gon.map c _ _ (hf (l ++ e :: r) hl2 hp2)
    have hl3 : (l ++ [c] ++ e :: r).length = n + 1 := by
      simp only [List.length_append, List.length_cons] at hl ⊢
      simp
      omega
    have hp3 : (l ++ [c] ++ e :: r).Pairwise (· < ·) := by
      rw [List.append_assoc]
      exact hp
    have ih := blk_go hf r (l ++ [c]) e hl3 hp3
    have e1 : l ++ [c] ++ e :: r = l ++ c :: e :: r := by simp
    rw [e1] at ih
    show Gon _ _ ((f (l ++ e :: r)).map (fun s => c :: s) ++ blk f (l ++ [c]) (e :: r))
    refine Gon.app ⟨[], c, r.reverse, e, l.reverse, ?_, ?_, ?_, p4 e List.mem_cons_self, fun x hx => ?_⟩ ih _ _ h
    · simp
    · simp
    · have : r.reverse ++ e :: l.reverse = (l ++ e :: r).reverse := by simp
      rw [this]
      exact asc_rev hp2
    · exact p3 x (List.mem_reverse.1 hx) c List.mem_cons_self
theorem PL_go : ∀ (n : Nat) (A : List Nat), A.length = n → A.Pairwise (· < ·) → Gon A A.reverse (PL n A)
  | 0, A, h, _ => by
    have : A = [] := List.eq_nil_of_length_eq_zero h
    subst this
    exact Gon.one []
  | n + 1, [], h, _ => by cases h
  | n + 1, c :: r, h, hp => blk_go (PL_go n) r [] c h hp
theorem PL_len : ∀ (n : Nat) (A p : List Nat), A.length = n → p ∈ PL n A → p.length = n
  | 0, A, p, _, h => by
    have : p = [] := List.mem_singleton.1 h
    rw [this]
    rfl
  | n + 1, A, p, hA, h => by
    have key : ∀ (r l : List Nat), (l ++ r).length = n + 1 → p ∈ blk (PL n) l r → p.length = n + 1 := by
      intro r
      induction r with
      | nil => intro l _ h; exact absurd h List.not_mem_nil
      | cons c r ih =>
        intro l hl h
        rcases List.mem_append.1 h with h | h
        · obtain ⟨s, hs, rfl⟩ := List.mem_map.1 h
          have : (l ++ r).length = n := by
            simp only [List.length_append, List.length_cons] at hl ⊢
            omega
          rw [List.length_cons, PL_len n _ s this hs]
        · refine ih (l ++ [c]) ?_ h
          simp only [List.length_append, List.length_cons, List.length_nil] at hl ⊢
          omega
    exact key A [] hA h
