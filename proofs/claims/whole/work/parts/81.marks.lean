/-! the marks of a minute -/
theorem dst_comm (a b : Nat) : dst a b = dst b a := by unfold dst adiff; omega
theorem cnt_le {f : Nat → Nat} (h : ∀ k, f k ≤ 1) : ∀ n, cnt f n ≤ n
  | 0 => Nat.le_refl 0
  | n + 1 => by
    have := cnt_le h n
    have := h n
    show cnt f n + f n ≤ n + 1
    omega
theorem jsee_le (T : Nat → Nat → Nat) (a : Nat) : jsee T a ≤ 100 := cnt_le (fun k => by show (if _ then 1 else 0) ≤ 1; split <;> omega) 100
theorem judges_m {F a : Nat} {T : Nat → Nat → Nat} {μ : aw_M} (hF : 200 ≤ F) (hw : qT0 T) (tm : qTM T (μ.1 205)) (ha : a < 100) : f_X11_judges F 203 (nI a) μ = some (nI (jsee T a), μ) := by
  unfold f_X11_judges
  refine lp_u (fun i => (nI a, nI (cnt (fun c => if T 11 c = 1 ∧ dst a c ≤ 4 then 1 else 0) i), nI i, μ)) 100 rfl ?_ ?_ (by omega)
  · intro i hi k
    show f_X11_judges_4 F 203 k (nI a) (nI (cnt (fun c => if T 11 c = 1 ∧ dst a c ≤ 4 then 1 else 0) i)) (nI i) μ = k (nI a, nI (cnt (fun c => if T 11 c = 1 ∧ dst a c ≤ 4 then 1 else 0) i + (if T 11 i = 1 ∧ dst a i ≤ 4 then 1 else 0)), nI (i + 1), μ)
    generalize hN : cnt (fun c => if T 11 c = 1 ∧ dst a c ≤ 4 then 1 else 0) i = N
    have t11 := (tm.2.2.2.2.2.2 i hi).2.2
    have h11 := ((hw.2.2.2.2.1 11 (by decide) (by decide)).1 i).1
    have hd := dst_le ha hi
    have e4 : (4 : Int32) = nI 4 := rfl
    have e1 : (1 : Int32) = nI 1 := rfl
    have ez : ∀ x : Int32, x + 0 = x := fun x => by grind
    unfold f_X11_judges_4 f_X11_judges_38 f_X11_judges_39
    rw [if_neg (show ¬ (100 : Int32) ≤ nI i from nI_ge (b := 100) hi (by decide)), show (327 : Int32) + nI i = nI (327 + i) from nI_add 327 i, pI_in_t (by omega) (by decide), pg_t, rf203.2.1, nI_clamp (by omega), t11, nI_1]
    by_cases k1 : T 11 i = 1
    · rw [if_pos (show nI (T 11 i) = 1 by rw [k1]; decide), apart_eq (by omega) (by omega), Option.bind_some, dst_comm i a, e4]
      by_cases k2 : dst a i ≤ 4
      · rw [if_neg (nI_nlt (by omega) (by omega)), if_pos ⟨k1, k2⟩, plet, show aw_b true = 1 from rfl, nI_1]
      · rw [if_pos (nI_lt (by omega) (by omega)), if_neg (fun h => k2 h.2), plet, show aw_b false = 0 from rfl, ez]
        rfl
    · rw [if_neg (show ¬ nI (T 11 i) = 1 by rw [e1, nI_eq (by omega) (by decide)]; exact k1), if_neg (fun h => k1 h.1), plet, show aw_b false = 0 from rfl, ez]
      rfl
  · intro k
    show f_X11_judges_4 F 203 k (nI a) (nI (jsee T a)) (nI 100) μ = _
    unfold f_X11_judges_4
    rw [if_pos (show (100 : Int32) ≤ nI 100 by decide)]
def sJf (S : Nat → Int32) (c : Int32) (j : Nat) : Nat := if 3 ≤ S (920 + 6 * j + 2) ∧ S (920 + 6 * j + 1) = c then 1 else 0
def sJn (n : Nat) (S : Nat → Int32) (i : Nat) : Nat := cnt (sJf S (S (920 + 6 * i + 1))) n - 1
def sQof (S : Nat → Int32) (i : Nat) : Nat := (S (920 + 6 * i)).toNatClampNeg
def sVal (T : Nat → Nat → Nat) (n i : Nat) (S : Nat → Int32) : Int32 := (S 7 * S (920 + 6 * i + 3) + (if S (920 + 6 * i + 2) = 3 then 2 * S 8 else 0) + S 9 * nI (sJn n S i) - (if S (920 + 6 * i + 3) < 7 then 0 else S 10)) * nI (jsee T (T 1 (sQof S i)))
def sMark (T : Nat → Nat → Nat) (n i : Nat) (S : Nat → Int32) : Nat → Int32 := if 3 ≤ S (920 + 6 * i + 2) then upd (upd (upd S (920 + 6 * i + 4) (nI (sJn n S i))) (920 + 6 * i + 5) (sVal T n i S)) (467 + sQof S i) (S (467 + sQof S i) + sVal T n i S) else S
def sMks (T : Nat → Nat → Nat) (n : Nat) : Nat → (Nat → Int32) → Nat → Int32
  | 0, S => S
  | i + 1, S => sMark T n i (sMks T n i S)
theorem sQof_lt {T : Nat → Nat → Nat} {n i : Nat} {S : Nat → Int32} (hw : qT0 T) (ht : TL T n S) (hi : i < n) : sQof S i < T 0 2 ∧ S (920 + 6 * i) = nI (sQof S i) := by
  have := hw.1
  obtain ⟨q, c, h1, h2, h3, -⟩ := ht i hi
  unfold sQof
  rw [h3, nI_clamp (by omega)]
  exact ⟨h1, rfl⟩
theorem sMks_k {T P : Nat → Nat → Nat} {d m n b : Nat} {S : Nat → Int32} (ok : sOK T P S) (hn : n ≤ 9) (hs : SW T d m n b S) (ht : TL T n S) : ∀ i, i ≤ n → SW T d m n b (sMks T n i S) ∧ TL T n (sMks T n i S) ∧ (∀ k, k < 467 ∨ 974 ≤ k ∨ (485 ≤ k ∧ k < 920) → sMks T n i S k = S k)
  | 0, _ => ⟨hs, ht, fun k _ => rfl⟩
  | i + 1, hi => by
    obtain ⟨h2, h3, h4⟩ := sMks_k ok hn hs ht i (by omega)
    have hw := ok.1
    have h1 := hw.1
    show SW T d m n b (sMark T n i (sMks T n i S)) ∧ TL T n (sMark T n i (sMks T n i S)) ∧ (∀ k, k < 467 ∨ 974 ≤ k ∨ (485 ≤ k ∧ k < 920) → sMark T n i (sMks T n i S) k = S k)
    generalize sMks T n i S = X at h2 h3 h4 ⊢
    obtain ⟨hq, hq2⟩ := sQof_lt hw h3 (show i < n by omega)
    unfold sMark
    split
    · refine ⟨SW_uo hw (by omega) (SW_uo hw (by omega) (SW_uo hw (by omega) h2)), fun k hk => ?_, fun k hk => ?_⟩
      · obtain ⟨q, c, g1, g2, g3, g4, g5, g6⟩ := h3 k hk
        exact ⟨q, c, g1, g2, by rw [pk_un (by omega), pk_un (by omega), pk_un (by omega)]; exact g3, by rw [pk_un (by omega), pk_un (by omega), pk_un (by omega)]; exact g4, by rw [pk_un (by omega), pk_un (by omega), pk_un (by omega)]; exact g5, by rw [pk_un (by omega), pk_un (by omega), pk_un (by omega)]; exact g6⟩
      · rw [pk_un (by omega), pk_un (by omega), pk_un (by omega)]; exact h4 k hk
    · exact ⟨h2, h3, h4⟩
theorem cnt_ext {f g : Nat → Nat} : ∀ n, (∀ k, k < n → f k = g k) → cnt f n = cnt g n
  | 0, _ => rfl
  | n + 1, h => by
    show cnt f n + f n = cnt g n + g n
    rw [cnt_ext n (fun k hk => h k (by omega)), h n (by omega)]
theorem cnt_but {f g : Nat → Nat} {i : Nat} (h1 : ∀ j, j ≠ i → g j = f j) (h2 : g i = 0) : ∀ n, cnt f n = cnt g n + (if i < n then f i else 0)
  | 0 => by
    rw [if_neg (Nat.not_lt_zero _)]
    rfl
  | n + 1 => by
    show cnt f n + f n = cnt g n + g n + (if i < n + 1 then f i else 0)
    rw [cnt_but h1 h2 n]
    by_cases e : i = n
    · subst e
      rw [if_neg (by omega), if_pos (by omega), h2]
    · rw [h1 n (by omega)]
      by_cases e2 : i < n
      · rw [if_pos e2, if_pos (by omega)]; omega
      · rw [if_neg e2, if_neg (by omega)]; omega
theorem sJf_le (S : Nat → Int32) (c : Int32) (j : Nat) : sJf S c j ≤ 1 := by unfold sJf; split <;> omega
theorem marked_m {F d m n b : Nat} {T P : Nat → Nat → Nat} {S : Nat → Int32} {μ : aw_M} (hF : 200 ≤ F) (ok : sOK T P S) (hn : n ≤ 9) (hs : SW T d m n b S) (ht : TL T n S) : f_X11_marked F 203 (aset μ 205 S) = some (aset μ 205 (sMks T n n S)) := by
  have hw := ok.1
  have hw1 := hw.1
  have i919 : aw_in 919 1155 = true := by decide
  have c919 : (919 : Int32).toNatClampNeg = 919 := by decide
  have i7 : aw_in 7 1155 = true := by decide
  have c7 : (7 : Int32).toNatClampNeg = 7 := by decide
  have i8 : aw_in 8 1155 = true := by decide
  have c8 : (8 : Int32).toNatClampNeg = 8 := by decide
  have i9 : aw_in 9 1155 = true := by decide
  have c9 : (9 : Int32).toNatClampNeg = 9 := by decide
  have i10 : aw_in 10 1155 = true := by decide
  have c10 : (10 : Int32).toNatClampNeg = 10 := by decide
  unfold f_X11_marked
  refine lp_u (fun i => (nI i, aset μ 205 (sMks T n i S))) n rfl ?_ ?_ (by omega)
  · intro i hi k
    obtain ⟨h2, h3, h4⟩ := sMks_k ok hn hs ht i (by omega)
    have ok' : sOK T P (sMks T n i S) := ok.ext fun k hk => h4 k (by omega)
    show f_X11_marked_2 F 203 k (nI i) (aset μ 205 (sMks T n i S)) = k (nI (i + 1), aset μ 205 (sMark T n i (sMks T n i S)))
    generalize sMks T n i S = X at h2 h3 ok' ⊢
    obtain ⟨hq, hq2⟩ := sQof_lt hw h3 hi
    have e6 : ∀ j, (920 : Int32) + 6 * nI j = nI (920 + 6 * j) := fun j => by simp (disch := omega) only [pI_lit, nI_add, nI_clamp, nI_leI, nI_ltI, nI_eq, pk_mul]
    have a1 : ∀ j, nI (920 + 6 * j) + 1 = nI (920 + 6 * j + 1) := fun j => nI_add _ 1
    have a2 : ∀ j, nI (920 + 6 * j) + 2 = nI (920 + 6 * j + 2) := fun j => nI_add _ 2
    have a3 : ∀ j, nI (920 + 6 * j) + 3 = nI (920 + 6 * j + 3) := fun j => nI_add _ 3
    have a4 : ∀ j, nI (920 + 6 * j) + 4 = nI (920 + 6 * j + 4) := fun j => nI_add _ 4
    have a5 : ∀ j, nI (920 + 6 * j) + 5 = nI (920 + 6 * j + 5) := fun j => nI_add _ 5
    have hin : ∀ j, j < 1155 → aw_in (nI j) 1155 = true := fun j hj => pI_in_t hj (by decide)
    have hcl : ∀ j, j < 1155 → (nI j).toNatClampNeg = j := fun j hj => nI_clamp (by omega)
    unfold f_X11_marked_2 f_X11_marked_260
    rw [i919, pg_t, c919, rf203.2.1, rA_s, h2.1.2.2, if_neg (nI_ge hi (by omega)), plet, e6, a2, hin _ (by omega), pg_t, hcl _ (by omega), nI_1]
    unfold sMark
    by_cases k1 : 3 ≤ X (920 + 6 * i + 2)
    · rw [if_pos k1, if_pos k1]
      refine lp_u (fun j => (nI i, nI (920 + 6 * i), nI (cnt (sJf X (X (920 + 6 * i + 1))) j) - 1, nI j, aset μ 205 X)) n (by rfl) ?_ ?_ (by omega)
      · intro j hj k'
        show f_X11_marked_43 F 203 k' k (nI i) (nI (920 + 6 * i)) (nI (cnt (sJf X (X (920 + 6 * i + 1))) j) - 1) (nI j) (aset μ 205 X) = k' (nI i, nI (920 + 6 * i), nI (cnt (sJf X (X (920 + 6 * i + 1))) j + sJf X (X (920 + 6 * i + 1)) j) - 1, nI (j + 1), aset μ 205 X)
        generalize cnt (sJf X (X (920 + 6 * i + 1))) j = N
        unfold f_X11_marked_43 f_X11_marked_108 f_X11_marked_109
        rw [i919, pg_t, c919, rf203.2.1, rA_s, h2.1.2.2, if_neg (nI_ge hj (by omega)), e6, a2, a1, a1, hin _ (by omega), pg_t, hcl _ (by omega), hin _ (by omega), pg_t, hin _ (by omega), pg_t, hcl _ (by omega), hcl _ (by omega), nI_1, plet, plet]
        unfold sJf
        have et : nI N - 1 + aw_b true = nI (N + 1) - 1 := by
          rw [← nI_1]
          have : aw_b true = 1 := rfl
          rw [this]
          grind
        have ef : nI N - 1 + aw_b false = nI (N + 0) - 1 := by
          have : aw_b false = 0 := rfl
          rw [this, Nat.add_zero]
          grind
        by_cases k2 : X (920 + 6 * j + 2) < 3
        · rw [if_pos k2, if_neg (show ¬ (3 ≤ X (920 + 6 * j + 2) ∧ X (920 + 6 * j + 1) = X (920 + 6 * i + 1)) from fun h => by have := h.1; grind), ef]
        · rw [if_neg k2]
          have k2' : 3 ≤ X (920 + 6 * j + 2) := by grind
          by_cases k3 : X (920 + 6 * j + 1) = X (920 + 6 * i + 1)
          · rw [if_pos k3, if_pos ⟨k2', k3⟩, et]
          · rw [if_neg k3, if_neg (fun h => k3 h.2), ef]
      · intro k'
        have hjs := ok.cell (ok.1.2.1 _ hq).1
        have tm' : ∀ Y : Nat → Int32, (∀ k, k < 427 → Y k = X k) → qTM T ((aset μ 205 Y).1 205) := fun Y hY => by rw [rA_s]; exact qTM_ext hw hY ok'.2.2.1
        have ts := (ok'.2.2.1.2.2.2.1 _ hq).1
        show f_X11_marked_43 F 203 k' k (nI i) (nI (920 + 6 * i)) (nI (cnt (sJf X (X (920 + 6 * i + 1))) n) - 1) (nI n) (aset μ 205 X) = _
        have hc1 : 1 ≤ cnt (sJf X (X (920 + 6 * i + 1))) n := by
          have h0 : (fun j => if j = i then 0 else sJf X (X (920 + 6 * i + 1)) j) i = 0 := if_pos rfl
          have := cnt_but (f := sJf X (X (920 + 6 * i + 1))) (g := fun j => if j = i then 0 else sJf X (X (920 + 6 * i + 1)) j) (i := i) (fun j hj => if_neg hj) h0 n
          rw [if_pos hi] at this
          have h1 : sJf X (X (920 + 6 * i + 1)) i = 1 := if_pos ⟨k1, rfl⟩
          omega
        have ej : nI (cnt (sJf X (X (920 + 6 * i + 1))) n) - 1 = nI (sJn n X i) := nI_sub (b := 1) hc1
        have e467 : (467 : Int32) + nI (sQof X i) = nI (467 + sQof X i) := nI_add 467 _
        have e11 : (11 : Int32) + nI (sQof X i) = nI (11 + sQof X i) := nI_add 11 _
        rw [ej]
        have key : ∀ z0 z1 : Int32, (z1 - z0) * nI (jsee T (T 1 (sQof X i))) = sVal T n i X → f_X11_marked_193 F 203 k (nI i) (nI (920 + 6 * i)) (nI (sJn n X i)) z0 z1 (aset μ 205 X) = k (nI (i + 1), aset μ 205 (upd (upd (upd X (920 + 6 * i + 4) (nI (sJn n X i))) (920 + 6 * i + 5) (sVal T n i X)) (467 + sQof X i) (X (467 + sQof X i) + sVal T n i X))) := fun z0 z1 hz => by
          unfold f_X11_marked_193 f_X11_marked_260
          rw [plet, a4, a5, hin _ (by omega), pg_t, plet, rf203.2.1, hcl _ (by omega), wI_wA, hin _ (by omega), pg_t, hcl _ (by omega), rA_s, pk_un (by omega), hq2, e11, hin _ (by omega), pg_t, hcl _ (by omega), pk_un (by omega), ts, judges_m hF hw (tm' _ fun k hk => pk_un (by omega)) hjs, Option.bind_some, hin _ (by omega), pg_t, hcl _ (by omega), hz, plet, wI_wA, rA_s]
          simp (disch := omega) only [pg_t, pk_un, pk_us, hq2, e467, hin, hcl, plet, wI_wA, nI_1]
        unfold f_X11_marked_43 f_X11_marked_117 f_X11_marked_158
        rw [i919, pg_t, c919, rf203.2.1, rA_s, h2.1.2.2, if_pos (nI_le (Nat.le_refl _) (by omega)), i7, pg_t, a3, a2, hin _ (by omega), pg_t, hin _ (by omega), pg_t, hcl _ (by omega), hcl _ (by omega), c7, c8, i8, pg_t, i9, pg_t, pg_t, c9, i10, pg_t, c10, pg_t, pg_t, pg_t]
        unfold sVal at key ⊢
        by_cases k3 : X (920 + 6 * i + 2) = 3
        · rw [if_pos k3]
          rw [if_pos k3] at key ⊢
          by_cases k4 : X (920 + 6 * i + 3) < 7
          · rw [if_pos k4]
            rw [if_pos k4] at key ⊢
            exact key _ _ rfl
          · rw [if_neg k4]
            rw [if_neg k4] at key ⊢
            exact key _ _ rfl
        · rw [if_neg k3]
          rw [if_neg k3] at key ⊢
          by_cases k4 : X (920 + 6 * i + 3) < 7
          · rw [if_pos k4]
            rw [if_pos k4] at key ⊢
            exact key _ _ rfl
          · rw [if_neg k4]
            rw [if_neg k4] at key ⊢
            exact key _ _ rfl
    · rw [if_neg k1, if_neg k1]
  · intro k
    obtain ⟨h2, h3, h4⟩ := sMks_k ok hn hs ht n (Nat.le_refl _)
    show f_X11_marked_2 F 203 k (nI n) (aset μ 205 (sMks T n n S)) = _
    unfold f_X11_marked_2
    rw [i919, pg_t, c919, rf203.2.1, rA_s, h2.1.2.2, if_pos (nI_le (Nat.le_refl _) (by omega))]
theorem isHitOn_x {F f j : Nat} {c : Int32} {μ : aw_M} (hf : f = 39 ∨ f = 76) (hj : j < 9) : f_X0_isHitOn F f (nI j) c μ = some (decide (3 ≤ μ.1 (f + 11) (6 * j + 2) ∧ μ.1 (f + 11) (6 * j + 1) = c), μ) := by
  have r := (rfF hf).2.2.2.2.2.2.2.2.2.2.2.2.2
  have e1 : nI j * 6 + 1 = nI (6 * j + 1) := by
    have : nI j * 6 + 1 = 6 * nI j + 1 := by grind
    rw [this]
    simp (disch := omega) only [pI_lit, nI_add, nI_clamp, nI_leI, nI_ltI, nI_eq, pk_mul]
  have e2 : nI j * 6 + 2 = nI (6 * j + 2) := by
    have : nI j * 6 + 2 = 6 * nI j + 2 := by grind
    rw [this]
    simp (disch := omega) only [pI_lit, nI_add, nI_clamp, nI_leI, nI_ltI, nI_eq, pk_mul]
  unfold f_X0_isHitOn
  rw [e1, e2, pI_in_t (by omega) (by decide), pg_t, r, nI_clamp (by omega), pI_in_t (by omega) (by decide), pg_t, nI_clamp (by omega)]
  by_cases k1 : μ.1 (f + 11) (6 * j + 1) = c
  · rw [if_pos k1]
    by_cases k2 : μ.1 (f + 11) (6 * j + 2) < 3
    · rw [if_pos k2, decide_eq_false (fun h => by have := h.1; grind)]
    · rw [if_neg k2, decide_eq_true ⟨by grind, k1⟩]
  · rw [if_neg k1, decide_eq_false (fun h => k1 h.2)]
theorem marksFor_x {F : Nat} {h j : Int32} {z : Bool} {μ : aw_M} : f_X8_marksFor F 5 h (aw_b z) j μ = some (μ.1 18 0 * h + (if z = true then μ.1 18 1 * 2 else 0) + μ.1 18 2 * j - (if h < 7 then 0 else μ.1 18 3), μ) := by
  have s17 : aw_rf 5 17 = 18 := by simp only [rf0, rf1, rf4, rf5, rf19, rf23, rf28, rf39, rf53, rf67, rf71, rf76, rf88, rf97, rf101, rf109, rf110, rf124, rf128, rf133, rf144, rf156, rf157, rf171, rf175, rf180, rf191, rf51]
  have i0 : aw_in 0 4 = true := by decide
  have i1 : aw_in 1 4 = true := by decide
  have i2 : aw_in 2 4 = true := by decide
  have i3 : aw_in 3 4 = true := by decide
  have c0 : (0 : Int32).toNatClampNeg = 0 := by decide
  have c1 : (1 : Int32).toNatClampNeg = 1 := by decide
  have c2 : (2 : Int32).toNatClampNeg = 2 := by decide
  have c3 : (3 : Int32).toNatClampNeg = 3 := by decide
  unfold f_X8_marksFor f_X8_marksFor_16 f_X8_marksFor_34
  simp only [s17, i0, i1, i2, i3, c0, c1, c2, c3, pg_t]
  cases z with
  | true =>
    rw [if_neg (show ¬ aw_b true = 0 by decide), if_pos rfl]
    by_cases k : h < 7
    · rw [if_pos k, if_pos k]
    · rw [if_neg k, if_neg k]
  | false =>
    rw [if_pos (show aw_b false = 0 by decide), if_neg Bool.false_ne_true]
    by_cases k : h < 7
    · rw [if_pos k, if_pos k]
    · rw [if_neg k, if_neg k]
theorem markThrow_x {F f i d m n b : Nat} {C P : Nat → Nat → Nat} {S : Nat → Int32} {μ : aw_M} (hF : 200 ≤ F) (hf : f = 39 ∨ f = 76) (hwf : qTWF C) (ok : sOK C P S) (ev : env C P μ) (hx : XS C f μ S) (hn : n ≤ 9) (hs : SW C d m n b S) (ht : TL C n S) (hi : i < n) : T (f_X0_markThrow F f (nI i) μ) fun μ' => XS C f μ' (sMark C n i S) ∧ AgK (kNF f) μ μ' := by
  obtain ⟨r0, r1, r2, r8, r9, r10, r11, r12, r13, r14, r15, r16, r17, r19⟩ := rfF hf
  have hw := ok.1
  have hnq := hwf.1.2.2.1
  have s1 : aw_rf 28 1 = 30 := by simp only [rf0, rf1, rf4, rf5, rf19, rf23, rf28, rf39, rf53, rf67, rf71, rf76, rf88, rf97, rf101, rf109, rf110, rf124, rf128, rf133, rf144, rf156, rf157, rf171, rf175, rf180, rf191, rf51]
  have e18 : μ.1 f 18 = nI n := hx.1.2.2.2.2.2.trans hs.1.2.2
  have td : ∀ k, k < n → ∀ j, j < 6 → μ.1 (f + 11) (6 * k + j) = S (920 + 6 * k + j) := hx.2.2.2.2.2.2 n hn hs.1.2.2
  have e6 : nI i * 6 = nI (6 * i) := by
    have : nI i * 6 = 6 * nI i := by grind
    rw [this]
    simp (disch := omega) only [pI_lit, nI_add, nI_clamp, nI_leI, nI_ltI, nI_eq, pk_mul]
  have a1 : nI (6 * i) + 1 = nI (6 * i + 1) := nI_add _ 1
  have a2 : nI (6 * i) + 2 = nI (6 * i + 2) := nI_add _ 2
  have a3 : nI (6 * i) + 3 = nI (6 * i + 3) := nI_add _ 3
  have a4 : nI (6 * i) + 4 = nI (6 * i + 4) := nI_add _ 4
  have a5 : nI (6 * i) + 5 = nI (6 * i + 5) := nI_add _ 5
  have hin : ∀ j, j < 54 → aw_in (nI j) 54 = true := fun j hj => pI_in_t hj (by decide)
  have hcl : ∀ j, j < 54 → (nI j).toNatClampNeg = j := fun j hj => nI_clamp (by omega)
  obtain ⟨hq, hq2⟩ := sQof_lt hw ht hi
  unfold f_X0_markThrow
  rw [plet, e6, a1, hin _ (by omega), pg_t, plet, r19, hcl _ (by omega), td i hi 1 (by omega), isHitOn_x hf (by omega), Option.bind_some, td i hi 1 (by omega), td i hi 2 (by omega)]
  unfold sMark
  by_cases k1 : 3 ≤ S (920 + 6 * i + 2)
  · rw [decide_eq_true (show 3 ≤ S (920 + 6 * i + 2) ∧ S (920 + 6 * i + 1) = S (920 + 6 * i + 1) from ⟨k1, rfl⟩), if_pos rfl, if_pos k1]
    have hcnt : cnt (sJf S (S (920 + 6 * i + 1))) n = cnt (fun j => if j = i then 0 else sJf S (S (920 + 6 * i + 1)) j) n + 1 := by
      have := cnt_but (f := sJf S (S (920 + 6 * i + 1))) (g := fun j => if j = i then 0 else sJf S (S (920 + 6 * i + 1)) j) (i := i) (fun j hj => if_neg hj) (if_pos rfl) n
      rw [if_pos hi] at this
      have h1 : sJf S (S (920 + 6 * i + 1)) i = 1 := if_pos ⟨k1, rfl⟩
      omega
    refine T_lp (fun j s => s = (nI i, nI (6 * i), S (920 + 6 * i + 1), nI (cnt (fun j => if j = i then 0 else sJf S (S (920 + 6 * i + 1)) j) j), nI j, μ)) n (by omega) rfl ?_ ?_
    · rintro j hj _ rfl k hk
      show T (f_X0_markThrow_30 F f k (nI i) (nI (6 * i)) (S (920 + 6 * i + 1)) (nI (cnt (fun j => if j = i then 0 else sJf S (S (920 + 6 * i + 1)) j) j)) (nI j) μ) _
      have hk := hk _ rfl
      have hk : T (k (nI i, nI (6 * i), S (920 + 6 * i + 1), nI (cnt (fun j => if j = i then 0 else sJf S (S (920 + 6 * i + 1)) j) j + (if j = i then 0 else sJf S (S (920 + 6 * i + 1)) j)), nI (j + 1), μ)) _ := hk
      generalize cnt (fun j => if j = i then 0 else sJf S (S (920 + 6 * i + 1)) j) j = N at hk ⊢
      unfold f_X0_markThrow_30 f_X0_markThrow_58
      rw [e18, if_neg (nI_ge hj (by omega)), nI_1]
      by_cases e : j = i
      · rw [if_pos (by rw [e]), ]
        rw [if_pos e, Nat.add_zero] at hk
        exact hk
      · rw [if_neg (fun h => e ((nI_eq (by omega) (by omega)).1 h)), isHitOn_x hf (by omega), Option.bind_some, td j hj 1 (by omega), td j hj 2 (by omega)]
        rw [if_neg e] at hk
        unfold sJf at hk
        by_cases k3 : 3 ≤ S (920 + 6 * j + 2) ∧ S (920 + 6 * j + 1) = S (920 + 6 * i + 1)
        · rw [decide_eq_true k3, if_pos rfl, nI_1]
          rw [if_pos k3] at hk
          exact hk
        · rw [decide_eq_false k3, if_neg Bool.false_ne_true]
          rw [if_neg k3, Nat.add_zero] at hk
          exact hk
    · rintro _ rfl k
      show T (f_X0_markThrow_30 F f k (nI i) (nI (6 * i)) (S (920 + 6 * i + 1)) (nI (cnt (fun j => if j = i then 0 else sJf S (S (920 + 6 * i + 1)) j) n)) (nI n) μ) _
      have ej : cnt (fun j => if j = i then 0 else sJf S (S (920 + 6 * i + 1)) j) n = sJn n S i := by
        unfold sJn
        omega
      rw [ej]
      have hjs := ok.cell (ok.1.2.1 _ hq).1
      have hin9 : aw_in (nI (sQof S i)) 9 = true := pI_in_t (by omega) (by decide)
      have hin18 : aw_in (nI (sQof S i)) 18 = true := pI_in_t (by omega) (by decide)
      have hcq : (nI (sQof S i)).toNatClampNeg = sQof S i := nI_clamp (by omega)
      have hpl : pl C (sQof S i) = C 1 (sQof S i) := by unfold pl; rw [if_pos (by omega)]
      have es : μ.1 30 (sQof S i) = nI (jsee C (C 1 (sQof S i))) := by
        have := (ev.2.2.1 (sQof S i) (by omega) (by rw [Nat.mod_eq_of_lt (by omega)]; exact hq)).2
        rw [hpl] at this
        exact this
      have tl : ∀ i, i < 4 → μ.1 18 i = S (7 + i) := fun i hi => (ev.1.2.2.2.2.2.2 i hi).trans (ok.2.2.1.2.2.1 i hi).symm
      have t0 : μ.1 (f + 11) (6 * i) = nI (sQof S i) := (td i hi 0 (by omega)).trans hq2
      have t2 := td i hi 2 (by omega)
      have t3 := td i hi 3 (by omega)
      have hx1 := hx.w (a := f + 11) (i := 6 * i + 4) (k := 920 + 6 * i + 4) (v := nI (sJn n S i)) hw (.t (by omega) (by omega))
      have key : ∀ z : Bool, (z = true ↔ S (920 + 6 * i + 2) = 3) → T (f_X0_markThrow_128 F f (nI (6 * i)) (nI (sJn n S i)) (nI (sQof S i)) z (S (920 + 6 * i + 3)) (nI (jsee C (C 1 (sQof S i)))) (nI (6 * i + 5)) (aw_wI μ (f + 11) (6 * i + 4) (nI (sJn n S i)))) fun μ' => XS C f μ' (upd (upd (upd S (920 + 6 * i + 4) (nI (sJn n S i))) (920 + 6 * i + 5) (sVal C n i S)) (467 + sQof S i) (S (467 + sQof S i) + sVal C n i S)) ∧ AgK (kNF f) μ μ' := fun z hz => by
        unfold f_X0_markThrow_128
        rw [r0, marksFor_x, Option.bind_some, rI_a (by omega), tl 0 (by omega), tl 1 (by omega), tl 2 (by omega), tl 3 (by omega), hin _ (by omega), pg_t, plet, r19, hcl _ (by omega)]
        have ev : nI (jsee C (C 1 (sQof S i))) * (S (7 + 0) * S (920 + 6 * i + 3) + (if z = true then S (7 + 1) * 2 else 0) + S (7 + 2) * nI (sJn n S i) - (if S (920 + 6 * i + 3) < 7 then 0 else S (7 + 3))) = sVal C n i S := by
          unfold sVal
          cases z with
          | true =>
            rw [if_pos rfl, if_pos (hz.1 rfl)]
            show nI (jsee C (C 1 (sQof S i))) * (S 7 * S (920 + 6 * i + 3) + S 8 * 2 + S 9 * nI (sJn n S i) - (if S (920 + 6 * i + 3) < 7 then 0 else S 10)) = _
            generalize (if S (920 + 6 * i + 3) < 7 then 0 else S 10) = H
            grind
          | false =>
            rw [if_neg Bool.false_ne_true, if_neg (fun h => Bool.false_ne_true (hz.2 h))]
            show nI (jsee C (C 1 (sQof S i))) * (S 7 * S (920 + 6 * i + 3) + 0 + S 9 * nI (sJn n S i) - (if S (920 + 6 * i + 3) < 7 then 0 else S 10)) = _
            generalize (if S (920 + 6 * i + 3) < 7 then 0 else S 10) = H
            grind
        show T (aw_g (aw_in (nI (sQof S i)) 9) (aw_g (aw_in (nI (6 * i) + 5) 54) (aw_g (aw_in (nI (sQof S i)) 9) (aw_let (aw_wI (aw_wI (aw_wI μ (f + 11) (6 * i + 4) (nI (sJn n S i))) (f + 11) (6 * i + 5) (nI (jsee C (C 1 (sQof S i))) * (S (7 + 0) * S (920 + 6 * i + 3) + (if z = true then S (7 + 1) * 2 else 0) + S (7 + 2) * nI (sJn n S i) - (if S (920 + 6 * i + 3) < 7 then 0 else S (7 + 3))))) (aw_rf f 10) (nI (sQof S i)).toNatClampNeg _) fun μ35 => some μ35)))) _
        rw [ev, hin9, pg_t, a5, hin _ (by omega), pg_t, pg_t, plet, r10, hcq, hcl _ (by omega), rI_s, T_some]
        have hx2 := hx1.w (a := f + 11) (i := 6 * i + 5) (k := 920 + 6 * i + 5) (v := sVal C n i S) hw (.t (by omega) (by omega))
        have e3 : (aw_wI (aw_wI μ (f + 11) (6 * i + 4) (nI (sJn n S i))) (f + 11) (6 * i + 5) (sVal C n i S)).1 (f + 3) (sQof S i) = S (467 + sQof S i) := by
          rw [(hx2.2.2.1 _ hq).2.1, pk_un (by omega), pk_un (by omega)]
        rw [e3]
        exact ⟨hx2.w hw (.m (by omega) rfl), (((AgK.rf μ).wI (kNF_f (by omega) (by omega))).wI (kNF_f (by omega) (by omega))).wI (kNF_f (by omega) (by omega))⟩
      unfold f_X0_markThrow_30 f_X0_markThrow_64
      rw [e18, if_pos (nI_le (Nat.le_refl _) (by omega)), hin _ (by omega), pg_t, plet, r19, hcl _ (by omega), t0, a4, hin _ (by omega), pg_t, plet, hcl _ (by omega), hin18, pg_t, a3, a2, hin _ (by omega), pg_t, hin _ (by omega), pg_t, hcl _ (by omega), hcl _ (by omega), r2, s1, hcq, rI_k (by omega), rI_k (by omega), rI_a (by omega), es, t2, t3, a5]
      by_cases k3 : S (920 + 6 * i + 2) = 3
      · rw [if_pos k3]
        exact key true ⟨fun _ => k3, fun _ => rfl⟩
      · rw [if_neg k3]
        exact key false ⟨fun h => absurd h Bool.false_ne_true, fun h => absurd h k3⟩
  · rw [decide_eq_false (fun h => k1 h.1), if_neg Bool.false_ne_true, if_neg k1, T_some]
    exact ⟨hx, AgK.rf μ⟩
