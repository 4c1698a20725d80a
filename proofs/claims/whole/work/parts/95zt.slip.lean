theorem n99 {d : Nat} (h : d < 100) : nI 99 - nI d = nI (99 - d) ∧ nI (99 - d) + -1 = nI 99 - nI (d + 1) := by
  have e := nI_sub (a := 99) (b := d) (by omega)
  refine ⟨e, ?_⟩
  have e2 : nI (d + 1) = nI d + 1 := (nI_add d 1).symm
  rw [← e, e2]
  generalize nI 99 = x
  generalize nI d = y
  grind
theorem findSand_x {F : Nat} {C G : Nat → Nat → Nat} {μ : aw_M} (hF : 2000 ≤ F) (x : slX C G μ) : T (f_X9_findSand F 101 5 39 μ) fun r => AgK kSl μ r.2 ∧ r.1 = nI (cl10 (fS (fun a => nmS C G a (C 0 2)) 100 (mk (wetS C G) (C 0 2)))) ∧ r.2.1 101 8 = r.1 ∧ (fS (fun a => nmS C G a (C 0 2)) 100 (mk (wetS C G) (C 0 2)) < 100 → r.2.2 101 9 = Int64.ofNat (pkN (lS (fun a => nmS C G a (C 0 2)) 100 (mk (wetS C G) (C 0 2))))) := by
  have n9 := x.1.1.2.2.1
  have rr : aw_rf 101 10 = 106 ∧ aw_rf 101 11 = 107 ∧ aw_rf 101 12 = 108 := by simp only [rf0, rf1, rf4, rf5, rf19, rf23, rf28, rf39, rf53, rf67, rf71, rf76, rf88, rf97, rf101, rf109, rf110, rf124, rf128, rf133, rf144, rf156, rf157, rf171, rf175, rf180, rf191, rf51, and_self]
  unfold f_X9_findSand
  refine T_call (findWet_x hF x) ?_
  rintro ⟨r1, μ1⟩ ⟨rfl, ag1, d1⟩
  dsimp only at ag1 d1 ⊢
  generalize hM : mk (wetS C G) (C 0 2) = M
  have hM5 : M < 512 := by rw [← hM]; exact mk_512 _ n9
  generalize hD : (fun a => nmS C G a (C 0 2)) = D
  have hDa : ∀ a, D a = nmS C G a (C 0 2) := fun a => by rw [← hD]
  have hD5 : ∀ a, D a < 512 := fun a => by rw [hDa]; exact mk_512 _ n9
  have d1 : ∀ a, a < 100 → μ1.1 106 a = nI (D a) := fun a ha => by rw [d1 a ha, hDa]
  rw [rr.2.1, fil_wr (n := 512) hF (by decide) (by decide), Option.bind_some, show aw_in 0 512 = true by decide, pg_t, plet, pg_t, plet, rr.2.2, show (0 : Int32).toNatClampNeg = 0 by decide]
  have ag2 : AgK kSl μ (aw_wL (aw_wI (aset μ1 107 (wr (μ1.1 107) 0 512 (fun _ => 10))) 107 0 0) 108 0 0) := ((ag1.wA (fun k hk => by rw [kSl_f (by omega)] at hk; cases hk)).wI (kSl_f (by omega))).wL (kSl_f (by omega))
  have e106 : (aw_wL (aw_wI (aset μ1 107 (wr (μ1.1 107) 0 512 (fun _ => 10))) 107 0 0) 108 0 0).1 106 = μ1.1 106 := by
    rw [rL_1, rI_a (by decide), rA_a (by decide)]
  have lv0 : ∀ m, m ≤ M → DPs D 0 m (aw_wL (aw_wI (aset μ1 107 (wr (μ1.1 107) 0 512 (fun _ => 10))) 107 0 0) 108 0 0) := fun m hm => by
    unfold DPs
    rw [rL_1]
    by_cases e : m = 0
    · subst e
      rw [rI_s, rL_s]
      exact ⟨rfl, fun _ => rfl⟩
    · rw [rI_k e, rA_s, wr0 (by omega)]
      have : fS D 0 m = 100 := if_neg e
      rw [this]
      exact ⟨rfl, fun h => absurd h (Nat.lt_irrefl _)⟩
  generalize aw_wL (aw_wI (aset μ1 107 (wr (μ1.1 107) 0 512 (fun _ => 10))) 107 0 0) 108 0 0 = μ2 at ag2 e106 lv0 ⊢
  refine T_lp (fun d s => ∃ μ', s = (nI M, nI 99 - nI d, μ') ∧ AgK kSl μ μ' ∧ μ'.1 106 = μ1.1 106 ∧ ∀ m, m ≤ M → DPs D d m μ') 100 (by omega) ⟨μ2, rfl, ag2, e106, lv0⟩ ?_ ?_
  · rintro d hd _ ⟨μ', rfl, ag', e', lv⟩ k hk
    obtain ⟨n1, n2⟩ := n99 hd
    show T (f_X9_findSand_34 F 101 5 39 k (nI M) (nI 99 - nI d) μ') _
    unfold f_X9_findSand_34 f_X9_findSand_56
    have e6 : μ'.1 106 (99 - d) = nI (D (99 - d)) := by rw [e']; exact d1 _ (by omega)
    rw [n1, if_neg (nI_pos (by omega)), pI_in_t (by omega) (by decide), pg_t, rr.1, nI_clamp (by omega), e6, n2]
    by_cases h0 : D (99 - d) = 0
    · rw [if_pos (by rw [h0]; rfl)]
      refine hk _ ⟨μ', rfl, ag', e', fun m hm => ?_⟩
      have et : tkS D d m = false := decide_eq_false fun h => h.1 h0
      have := lv m hm
      unfold DPs at this ⊢
      rw [fS_s, lS_s, et, if_neg Bool.false_ne_true, if_neg Bool.false_ne_true]
      exact this
    · rw [if_neg (show ¬ nI (D (99 - d)) = 0 from fun h => h0 ((nI_eq (b := 0) (by have := hD5 (99 - d); omega) (by decide)).1 h))]
      refine T_call (layOn_x (by omega) hM5 hd e6 h0 lv) ?_
      rintro μ3 ⟨a3, l3⟩
      refine hk _ ⟨μ3, rfl, ag'.tr (a3.sub fun a k h => decide_eq_true (by have := of_decide_eq_true h; omega)), by rw [a3.a (a := 106) fun k => decide_eq_true (by omega)]; exact e', l3⟩
  · rintro _ ⟨μ', rfl, ag', e', lv⟩ k
    obtain ⟨c1, c2⟩ := lv M (Nat.le_refl _)
    show T (f_X9_findSand_34 F 101 5 39 k (nI M) (nI 99 - nI 100) μ') _
    unfold f_X9_findSand_34 f_X9_findSand_62
    rw [if_pos (show nI 99 - nI 100 < 0 by decide), pI_in_t hM5 (by decide), pg_t, rr.2.1, nI_clamp (by omega), c1, plet, pg_t, rr.2.2, rI_2, plet, T_some]
    refine ⟨(ag'.wI (decide_eq_false (by omega))).wL (decide_eq_false (by omega)), ?_, rfl, fun h => ?_⟩
    · rw [rL_1, rI_s]
    · rw [rL_s]
      exact c2 h
