/-! drains, and the end of a minute, in the reference -/
def sDre (S : Nat → Int32) (e : Nat → Nat) : Nat → Int32 := fun k => if 714 ≤ k ∧ k < 814 then nI ((S k).toNatClampNeg - e (k - 714)) else S k
theorem sDre_o {S : Nat → Int32} {e : Nat → Nat} {k : Nat} (h : k < 714 ∨ 814 ≤ k) : sDre S e k = S k := if_neg (by omega)
theorem sDre_p {S : Nat → Int32} {e : Nat → Nat} {a : Nat} (h : a < 100) : sDre S e (714 + a) = nI ((S (714 + a)).toNatClampNeg - e a) := by
  unfold sDre
  rw [if_pos (by omega), Nat.add_sub_cancel_left]
theorem sDre_0 {S : Nat → Int32} {b : Nat} (hb : b < 2 ^ 31) (h : ∀ a, a < 100 → inB (S (714 + a)) b) : sDre S (fun _ => 0) = S := by
  funext k
  by_cases hk : 714 ≤ k ∧ k < 814
  · obtain ⟨a, rfl⟩ : ∃ a, k = 714 + a := ⟨k - 714, by omega⟩
    rw [sDre_p (by omega)]
    obtain ⟨p, hp, e⟩ := h a (by omega)
    rw [e, nI_clamp (by omega)]
    rfl
  · rw [sDre_o (by omega)]
theorem sDre_ext {S : Nat → Int32} {e e' : Nat → Nat} (h : ∀ a, a < 100 → e a = e' a) : sDre S e = sDre S e' := by
  funext k
  unfold sDre
  by_cases hk : 714 ≤ k ∧ k < 814
  · rw [if_pos hk, if_pos hk, h _ (by omega)]
  · rw [if_neg hk, if_neg hk]
theorem drains_m {F a : Nat} {S : Nat → Int32} {e : Nat → Nat} {μ : aw_M} (ha : a < 100) : f_X11_drains F 203 (nI a) (aset μ 205 (sDre S e)) = some (aset μ 205 (sDre S (fun x => e x + (if x = a then 1 else 0)))) := by
  have e714 : (714 : Int32) + nI a = nI (714 + a) := nI_add 714 a
  have hlt : (S (714 + a)).toNatClampNeg - e a < 2 ^ 31 := by
    have : (S (714 + a)).toNatClampNeg < 2 ^ 31 := by
      have h1 := Int32.toInt_lt (S (714 + a))
      show (S (714 + a)).toInt.toNat < 2 ^ 31
      omega
    omega
  have hu : ∀ v, v = nI ((S (714 + a)).toNatClampNeg - (e a + 1)) → upd (sDre S e) (714 + a) v = sDre S (fun x => e x + (if x = a then 1 else 0)) := fun v hv => by
    funext k
    by_cases e1 : k = 714 + a
    · subst e1
      rw [pk_us, sDre_p ha, if_pos rfl]
      exact hv
    · rw [pk_un e1]
      unfold sDre
      by_cases hk : 714 ≤ k ∧ k < 814
      · have e2 : (if k - 714 = a then 1 else 0) = 0 := if_neg (by omega)
        rw [if_pos hk, if_pos hk]
        show _ = nI ((S k).toNatClampNeg - (e (k - 714) + (if k - 714 = a then 1 else 0)))
        rw [e2, Nat.add_zero]
      · rw [if_neg hk, if_neg hk]
  unfold f_X11_drains
  rw [e714, pI_in_t (by omega) (by decide), pg_t, pg_t, rf203.2.1, nI_clamp (by omega), rA_s, sDre_p ha]
  by_cases k0 : (S (714 + a)).toNatClampNeg - e a = 0
  · rw [k0, if_pos (show nI 0 ≤ 0 by decide), pg_t, plet, wI_wA, hu]
    have : (S (714 + a)).toNatClampNeg - (e a + 1) = 0 := by omega
    rw [this]
    rfl
  · rw [if_neg (nI_nle (by omega) hlt), pg_t, plet, wI_wA, hu]
    rw [← Nat.sub_sub]
    exact nI_sub (b := 1) (by omega)
def dEv (T : Nat → Nat → Nat) (c x : Nat) : Nat := if T 10 c = 0 then 0 else (if x = c then 1 else 0) + cnt (fun k => if side T c (bperm k) = some x then 1 else 0) 4
theorem drainAll_m {F : Nat} {T P : Nat → Nat → Nat} {S : Nat → Int32} {μ : aw_M} (hF : 200 ≤ F) (ok : sOK T P S) : aw_loop (fun k s => f_X11_minute_303 F 203 k s.1 s.2) F (0, aset μ 205 (sDre S (fun _ => 0))) = f_X11_minute_368 F 203 (aset μ 205 (sDre S (fun x => cnt (fun c => dEv T c x) 100))) := by
  have hw := ok.1
  have hin : ∀ j, j < 1155 → aw_in (nI j) 1155 = true := fun j hj => pI_in_t hj (by decide)
  have hcl : ∀ j, j < 1155 → (nI j).toNatClampNeg = j := fun j hj => nI_clamp (by omega)
  refine lp_u (fun i => (nI i, aset μ 205 (sDre S (fun x => cnt (fun c => dEv T c x) i)))) 100 rfl ?_ ?_ (by omega)
  · intro c hc k
    have tm' : ∀ e, qTM T ((aset μ 205 (sDre S e)).1 205) := fun e => by rw [rA_s]; exact qTM_ext hw (fun k hk => sDre_o (by omega)) ok.2.2.1
    have t10 : S (227 + c) = nI (T 10 c) := (ok.2.2.1.2.2.2.2.2.2 c hc).2.1
    have h10 := ((hw.2.2.2.2.1 10 (by decide) (by decide)).1 c).1
    show f_X11_minute_303 F 203 k (nI c) (aset μ 205 (sDre S (fun x => cnt (fun c => dEv T c x) c))) = k (nI (c + 1), aset μ 205 (sDre S (fun x => (fun x => cnt (fun c => dEv T c x) c) x + dEv T c x)))
    generalize (fun x => cnt (fun c => dEv T c x) c) = e0
    unfold f_X11_minute_303 f_X11_minute_362
    rw [if_neg (show ¬ (100 : Int32) ≤ nI c from nI_ge (b := 100) hc (by decide)), show (227 : Int32) + nI c = nI (227 + c) from nI_add 227 c, hin _ (by omega), pg_t, hcl _ (by omega), rf203.2.1, rA_s, sDre_o (by omega), t10, nI_1]
    by_cases k0 : T 10 c = 0
    · rw [if_pos (show nI (T 10 c) = 0 by rw [k0]; rfl)]
      have : sDre S (fun x => e0 x + dEv T c x) = sDre S e0 := sDre_ext fun a ha => by
        show e0 a + dEv T c a = e0 a
        unfold dEv
        rw [if_pos k0, Nat.add_zero]
      rw [this]
    · rw [if_neg (nI_ne0 (by omega) (by omega)), drains_m hc, Option.bind_some]
      refine lp_u (fun j => (nI c, nI j, aset μ 205 (sDre S (fun x => e0 x + (if x = c then 1 else 0) + cnt (fun k => if side T c (bperm k) = some x then 1 else 0) j)))) 4 rfl ?_ ?_ (by omega)
      · intro j hj k'
        have ea : (fun x => e0 x + (if x = c then 1 else 0) + cnt (fun k => if side T c (bperm k) = some x then 1 else 0) (j + 1)) = fun x => (fun x => e0 x + (if x = c then 1 else 0) + cnt (fun k => if side T c (bperm k) = some x then 1 else 0) j) x + (if side T c (bperm j) = some x then 1 else 0) := by
          funext x
          exact (Nat.add_assoc _ _ _).symm
        show f_X11_minute_332 F 203 k' k (nI c) (nI j) (aset μ 205 (sDre S (fun x => e0 x + (if x = c then 1 else 0) + cnt (fun k => if side T c (bperm k) = some x then 1 else 0) j))) = k' (nI c, nI (j + 1), aset μ 205 (sDre S (fun x => e0 x + (if x = c then 1 else 0) + cnt (fun k => if side T c (bperm k) = some x then 1 else 0) (j + 1))))
        rw [ea]
        generalize (fun x => e0 x + (if x = c then 1 else 0) + cnt (fun k => if side T c (bperm k) = some x then 1 else 0) j) = e1
        unfold f_X11_minute_332 f_X11_minute_356
        rw [if_neg (show ¬ (4 : Int32) ≤ nI j from nI_ge (b := 4) hj (by decide)), besides_eq0 hw (tm' e1) hc hj, Option.bind_some, nI_1]
        cases hs : side T c (bperm j) with
        | none =>
          rw [if_pos (show oI none < 0 by decide)]
          have : sDre S (fun x => e1 x + (if (none : Option Nat) = some x then 1 else 0)) = sDre S e1 := sDre_ext fun a ha => by
            show e1 a + (if (none : Option Nat) = some a then 1 else 0) = e1 a
            rw [if_neg (fun h => by cases h), Nat.add_zero]
          rw [this]
        | some b =>
          have hb := side_lt0 hw hc hs
          have eo : oI (some b) = nI b := rfl
          rw [eo, if_neg (nI_pos (by omega)), besides_eq0 hw (tm' e1) hc hj, Option.bind_some, hs, eo, drains_m hb, Option.bind_some]
          have : sDre S (fun x => e1 x + (if some b = some x then 1 else 0)) = sDre S (fun x => e1 x + (if x = b then 1 else 0)) := sDre_ext fun a ha => by
            show e1 a + (if some b = some a then 1 else 0) = e1 a + (if a = b then 1 else 0)
            by_cases e : a = b
            · rw [if_pos e, if_pos (by rw [e])]
            · rw [if_neg e, if_neg (fun h => e (Option.some.inj h).symm)]
          rw [this]
      · intro k'
        show f_X11_minute_332 F 203 k' k (nI c) (nI 4) (aset μ 205 (sDre S (fun x => e0 x + (if x = c then 1 else 0) + cnt (fun k => if side T c (bperm k) = some x then 1 else 0) 4))) = _
        unfold f_X11_minute_332 f_X11_minute_362
        rw [if_pos (show (4 : Int32) ≤ nI 4 by decide), nI_1]
        have : sDre S (fun x => e0 x + dEv T c x) = sDre S (fun x => e0 x + (if x = c then 1 else 0) + cnt (fun k => if side T c (bperm k) = some x then 1 else 0) 4) := sDre_ext fun a ha => by
          show e0 a + dEv T c a = _
          unfold dEv
          rw [if_neg k0, Nat.add_assoc]
        rw [this]
  · intro k
    show f_X11_minute_303 F 203 k (nI 100) (aset μ 205 (sDre S (fun x => cnt (fun c => dEv T c x) 100))) = _
    unfold f_X11_minute_303
    rw [if_pos (show (100 : Int32) ≤ nI 100 by decide)]
/-! how often a cell is drained: as often as drains lie on it and beside it -/
theorem cnt_0 {f : Nat → Nat} : ∀ n, (∀ k, k < n → f k = 0) → cnt f n = 0
  | 0, _ => rfl
  | n + 1, h => by
    show cnt f n + f n = 0
    rw [cnt_0 n (fun k hk => h k (by omega)), h n (by omega)]
theorem cnt_1 {f g : Nat → Nat} {b : Nat} (h : ∀ k, f k = if k = b then g k else 0) : ∀ n, cnt f n = if b < n then g b else 0
  | 0 => by rw [if_neg (Nat.not_lt_zero _)]; rfl
  | n + 1 => by
    show cnt f n + f n = _
    rw [cnt_1 h n, h n]
    by_cases e : n = b
    · subst e
      rw [if_neg (by omega), if_pos rfl, if_pos (by omega)]
      omega
    · rw [if_neg e]
      by_cases e2 : b < n
      · rw [if_pos e2, if_pos (by omega)]; omega
      · rw [if_neg e2, if_neg (by omega)]
theorem side_ok {T : Nat → Nat → Nat} {a k b : Nat} (hw : qT0 T) (h : side T a k = some b) : cellok T b := by
  have := hw.1
  unfold side cellok at h
  unfold cellok
  repeat' split at h
  all_goals first | (cases h; omega) | cases h
def sinv (k : Nat) : Nat := if k = 1 then 2 else if k = 2 then 1 else if k = 3 then 4 else if k = 4 then 3 else 0
theorem side_sym {T : Nat → Nat → Nat} {a c k : Nat} (hw : qT0 T) (hk : k < 5) (hc : cellok T c) (ha : cellok T a) : side T c k = some a ↔ side T a (sinv k) = some c := by
  have := hw.1
  unfold cellok at hc ha
  have hk' : k = 0 ∨ k = 1 ∨ k = 2 ∨ k = 3 ∨ k = 4 := by omega
  rcases hk' with rfl | rfl | rfl | rfl | rfl
  · show (if cellok T c then some c else none) = some a ↔ (if cellok T a then some a else none) = some c
    rw [if_pos hc, if_pos ha]
    exact ⟨fun h => by cases h; rfl, fun h => by cases h; rfl⟩
  · show (if c % 10 + 1 < T 0 0 ∧ c / 10 < T 0 1 then some (c + 1) else none) = some a ↔ (if 1 ≤ a % 10 ∧ a % 10 - 1 < T 0 0 ∧ a / 10 < T 0 1 then some (a - 1) else none) = some c
    constructor
    · intro h
      split at h
      · cases h
        rw [if_pos (by omega)]
        congr 1
      · cases h
    · intro h
      split at h
      · cases h
        rw [if_pos (by omega)]
        congr 1
        omega
      · cases h
  · show (if 1 ≤ c % 10 ∧ c % 10 - 1 < T 0 0 ∧ c / 10 < T 0 1 then some (c - 1) else none) = some a ↔ (if a % 10 + 1 < T 0 0 ∧ a / 10 < T 0 1 then some (a + 1) else none) = some c
    constructor
    · intro h
      split at h
      · cases h
        rw [if_pos (by omega)]
        congr 1
        omega
      · cases h
    · intro h
      split at h
      · cases h
        rw [if_pos (by omega)]
        congr 1
      · cases h
  · show (if c % 10 < T 0 0 ∧ c / 10 + 1 < T 0 1 then some (c + 10) else none) = some a ↔ (if a % 10 < T 0 0 ∧ 1 ≤ a / 10 ∧ a / 10 - 1 < T 0 1 then some (a - 10) else none) = some c
    constructor
    · intro h
      split at h
      · cases h
        rw [if_pos (by omega)]
        congr 1
      · cases h
    · intro h
      split at h
      · cases h
        rw [if_pos (by omega)]
        congr 1
        omega
      · cases h
  · show (if c % 10 < T 0 0 ∧ 1 ≤ c / 10 ∧ c / 10 - 1 < T 0 1 then some (c - 10) else none) = some a ↔ (if a % 10 < T 0 0 ∧ a / 10 + 1 < T 0 1 then some (a + 10) else none) = some c
    constructor
    · intro h
      split at h
      · cases h
        rw [if_pos (by omega)]
        congr 1
        omega
      · cases h
    · intro h
      split at h
      · cases h
        rw [if_pos (by omega)]
        congr 1
      · cases h
def d10 (T : Nat → Nat → Nat) (o : Option Nat) : Nat := match o with
  | none => 0
  | some b => T 10 b
theorem cnt_side {T : Nat → Nat → Nat} {a k : Nat} (hw : qT0 T) (hk : k < 5) (ha : cellok T a) (ha1 : a < 100) : cnt (fun c => if T 10 c = 0 then 0 else if side T c k = some a then 1 else 0) 100 = d10 T (side T a (sinv k)) := by
  have h10 := fun c => (hw.2.2.2.2.1 10 (by decide) (by decide)).1 c
  have hs : ∀ c, (if T 10 c = 0 then 0 else if side T c k = some a then 1 else 0) = (if side T a (sinv k) = some c then T 10 c else 0) := fun c => by
    by_cases k0 : T 10 c = 0
    · rw [if_pos k0, k0]; split <;> rfl
    · have h1 : T 10 c = 1 := by have := (h10 c).1; omega
      have hiff := side_sym hw hk ((h10 c).2 h1) ha
      rw [if_neg k0]
      by_cases e : side T c k = some a
      · rw [if_pos e, if_pos (hiff.1 e), h1]
      · rw [if_neg e, if_neg (fun h => e (hiff.2 h))]
  cases ho : side T a (sinv k) with
  | none =>
    refine cnt_0 100 fun c _ => ?_
    rw [hs, ho, if_neg (fun h => by cases h)]
  | some b =>
    have hb := side_lt0 hw ha1 ho
    rw [cnt_1 (g := fun c => T 10 c) (b := b) (fun c => ?_) 100, if_pos hb]
    · rfl
    · rw [hs, ho]
      by_cases e : c = b
      · rw [if_pos e, if_pos (by rw [e])]
      · rw [if_neg e, if_neg (fun h => e (Option.some.inj h).symm)]
theorem dEv_sum {T : Nat → Nat → Nat} {a : Nat} (hw : qT0 T) (ha : a < 100) : cnt (fun c => dEv T c a) 100 = drn T a := by
  have h10 := fun c => (hw.2.2.2.2.1 10 (by decide) (by decide)).1 c
  have key : ∀ c, dEv T c a = (if T 10 c = 0 then 0 else if side T c 0 = some a then 1 else 0) + ((if T 10 c = 0 then 0 else if side T c 4 = some a then 1 else 0) + ((if T 10 c = 0 then 0 else if side T c 1 = some a then 1 else 0) + ((if T 10 c = 0 then 0 else if side T c 3 = some a then 1 else 0) + (if T 10 c = 0 then 0 else if side T c 2 = some a then 1 else 0)))) := fun c => by
    unfold dEv
    by_cases k0 : T 10 c = 0
    · simp only [if_pos k0]
    · have h1 : T 10 c = 1 := by have := (h10 c).1; omega
      have hok := (h10 c).2 h1
      simp only [if_neg k0]
      have e4 : cnt (fun k => if side T c (bperm k) = some a then 1 else 0) 4 = 0 + (if side T c 4 = some a then 1 else 0) + (if side T c 1 = some a then 1 else 0) + (if side T c 3 = some a then 1 else 0) + (if side T c 2 = some a then 1 else 0) := rfl
      have e0 : (if side T c 0 = some a then 1 else 0) = if a = c then 1 else 0 := by
        have : side T c 0 = some c := by
          show (if cellok T c then some c else none) = some c
          rw [if_pos hok]
        rw [this]
        by_cases e : a = c
        · rw [if_pos e, if_pos (by rw [e])]
        · rw [if_neg e, if_neg (fun h => e (Option.some.inj h).symm)]
      rw [e4, e0]
      omega
  have hsum : cnt (fun c => dEv T c a) 100 = cnt (fun c => if T 10 c = 0 then 0 else if side T c 0 = some a then 1 else 0) 100 + (cnt (fun c => if T 10 c = 0 then 0 else if side T c 4 = some a then 1 else 0) 100 + (cnt (fun c => if T 10 c = 0 then 0 else if side T c 1 = some a then 1 else 0) 100 + (cnt (fun c => if T 10 c = 0 then 0 else if side T c 3 = some a then 1 else 0) 100 + cnt (fun c => if T 10 c = 0 then 0 else if side T c 2 = some a then 1 else 0) 100))) := by
    rw [← cnt_add, ← cnt_add, ← cnt_add, ← cnt_add]
    exact cnt_ext 100 fun c _ => key c
  unfold drn
  by_cases hok : cellok T a
  · rw [if_pos hok, hsum, cnt_side hw (by decide) hok ha, cnt_side hw (by decide) hok ha, cnt_side hw (by decide) hok ha, cnt_side hw (by decide) hok ha, cnt_side hw (by decide) hok ha]
    have e5 : nbr T 10 a = 0 + d10 T (side T a 0) + d10 T (side T a 1) + d10 T (side T a 2) + d10 T (side T a 3) + d10 T (side T a 4) := rfl
    rw [e5, show sinv 0 = 0 from rfl, show sinv 1 = 2 from rfl, show sinv 2 = 1 from rfl, show sinv 3 = 4 from rfl, show sinv 4 = 3 from rfl]
    omega
  · rw [if_neg hok]
    refine cnt_0 100 fun c _ => ?_
    rw [key]
    have hz : ∀ k, (if side T c k = some a then 1 else 0) = 0 := fun k => if_neg fun h => hok (side_ok hw h)
    simp only [hz]
    by_cases k0 : T 10 c = 0
    · simp only [if_pos k0]
    · simp only [if_neg k0]
