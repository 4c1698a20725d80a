/-- an array filled from its start -/
def fil (g : Nat → Int32) (n : Nat) (v : Int32) (k : Nat) : Int32 := if k < n then v else g k
theorem fil_eq {F a n : Nat} {v : Int32} {μ : aw_M} (hF : 2000 ≤ F) (hn : (aw_sh a).2 = n) (hn2 : n < 2000) : f_J7_fill_53178 F a v μ = some (aset μ a (fil (μ.1 a) n v)) := by
  unfold f_J7_fill_53178
  rw [plet, hn]
  have e0 : aset μ a (fil (μ.1 a) 0 v) = μ := by
    unfold aset
    have : fil (μ.1 a) 0 v = μ.1 a := by
      funext k
      unfold fil
      rw [if_neg (Nat.not_lt_zero k)]
    rw [this]
    have : va_up μ.1 a (μ.1 a) = μ.1 := by
      funext b
      by_cases h : b = a
      · subst h; rw [va_up_self]
      · rw [va_up_ne _ _ h]
    rw [this]
  have h := lp_up (f := fun k s => f_J7_fill_53178_5 F a k s.1 s.2.1 s.2.2.1 s.2.2.2) (fun i => (v, nI i, nI n, aset μ a (fil (μ.1 a) i v))) n (some (aset μ a (fil (μ.1 a) n v))) (fun i hi k => by
    show f_J7_fill_53178_5 F a k v (nI i) (nI n) (aset μ a (fil (μ.1 a) i v)) = k (v, nI (i + 1), nI n, aset μ a (fil (μ.1 a) (i + 1) v))
    unfold f_J7_fill_53178_5
    rw [if_neg (nI_ge hi (by omega)), hn, pI_in_t hi (by omega), pg_t, plet, nI_clamp (by omega), nI_1, wI_wA]
    have : upd (fil (μ.1 a) i v) i v = fil (μ.1 a) (i + 1) v := by
      funext k
      by_cases e : k = i
      · subst e
        rw [pk_us]
        unfold fil
        rw [if_pos (Nat.lt_succ_self k)]
      · rw [pk_un e]
        unfold fil
        by_cases e2 : k < i
        · rw [if_pos e2, if_pos (by omega)]
        · rw [if_neg e2, if_neg (by omega)]
    rw [this]) (fun k => by
    show f_J7_fill_53178_5 F a k v (nI n) (nI n) _ = _
    unfold f_J7_fill_53178_5
    rw [if_pos (nI_le (Nat.le_refl _) (by omega))]) (F := F) (by omega)
  show aw_loop _ F (v, nI 0, nI n, μ) = _
  have h2 : aw_loop (fun k s => f_J7_fill_53178_5 F a k s.1 s.2.1 s.2.2.1 s.2.2.2) F (v, nI 0, nI n, aset μ a (fil (μ.1 a) 0 v)) = some (aset μ a (fil (μ.1 a) n v)) := h
  rw [e0] at h2
  exact h2
