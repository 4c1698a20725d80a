/-! minutes as the class lets them go by -/
theorem cnt_mono {f g : Nat → Nat} : ∀ n, (∀ k, k < n → f k ≤ g k) → cnt f n ≤ cnt g n
  | 0, _ => Nat.le_refl 0
  | n + 1, h => by
    have h1 := cnt_mono (f := f) (g := g) n (fun k hk => h k (by omega))
    have h2 := h n (by omega)
    show cnt f n + f n ≤ cnt g n + g n
    omega
theorem cnt_swap (f : Nat → Nat → Nat) (n : Nat) : ∀ m, cnt (fun a => cnt (fun c => f a c) n) m = cnt (fun c => cnt (fun a => f a c) m) n
  | 0 => by
    show 0 = _
    exact (cnt_0 n fun k _ => rfl).symm
  | m + 1 => by
    show cnt (fun a => cnt (fun c => f a c) n) m + cnt (fun c => f m c) n = cnt (fun c => cnt (fun a => f a c) m + f m c) n
    rw [cnt_swap f n m, cnt_add]
theorem cnt_mul (f : Nat → Nat) (w : Nat) : ∀ n, cnt (fun k => w * f k) n = w * cnt f n
  | 0 => rfl
  | n + 1 => by
    show cnt (fun k => w * f k) n + w * f n = w * (cnt f n + f n)
    rw [cnt_mul f w n, Nat.mul_add]
theorem filter_len (p : Nat → Bool) : ∀ n, ((List.range n).filter p).length = cnt (fun k => bN (p k)) n
  | 0 => rfl
  | n + 1 => by
    rw [List.range_succ, List.filter_append, List.length_append, filter_len p n]
    show _ = cnt (fun k => bN (p k)) n + bN (p n)
    congr 1
    cases h : p n with
    | true => simp [h, bN]
    | false => simp [h, bN]
theorem one_le {o : Option Nat} (n : Nat) : cnt (fun a => if o = some a then 1 else 0) n ≤ 1 := by
  cases o with
  | none => rw [cnt_0 n fun k _ => if_neg fun h => by cases h]; omega
  | some b =>
    rw [cnt_1 (g := fun _ => 1) (b := b) (fun k => ?_) n]
    · split <;> omega
    · by_cases e : k = b
      · rw [if_pos e, if_pos (by rw [e])]
      · rw [if_neg e, if_neg (fun h => e (Option.some.inj h).symm)]
theorem drl_len {T : Nat → Nat → Nat} (hw : qT0 T) : (drl T).length ≤ 60 := by
  have h10 := hw.2.2.2.2.1 10 (by decide) (by decide)
  have h1 : (drl T).length = cnt (fun k => bN (decide (0 < drn T k))) 100 := filter_len _ 100
  have h2 : cnt (fun k => bN (decide (0 < drn T k))) 100 ≤ cnt (fun a => cnt (fun c => dEv T c a) 100) 100 := cnt_mono 100 fun k hk => by
    rw [dEv_sum hw hk]
    cases h : decide (0 < drn T k) with
    | true => have := of_decide_eq_true h; show 1 ≤ _; omega
    | false => exact Nat.zero_le _
  have h3 : ∀ c, cnt (fun a => dEv T c a) 100 ≤ 5 * T 10 c := fun c => by
    unfold dEv
    have := (h10.1 c).1
    by_cases k0 : T 10 c = 0
    · rw [cnt_0 100 fun k _ => if_pos k0]; omega
    · have e : (fun a => if T 10 c = 0 then 0 else (if a = c then 1 else 0) + cnt (fun k => if side T c (bperm k) = some a then 1 else 0) 4) = fun a => (if a = c then 1 else 0) + cnt (fun k => if side T c (bperm k) = some a then 1 else 0) 4 := by
        funext a
        rw [if_neg k0]
      rw [e, cnt_add, cnt_swap]
      have g1 : cnt (fun a => if a = c then 1 else 0) 100 ≤ 1 := by
        rw [cnt_1 (g := fun _ => 1) (b := c) (fun k => rfl) 100]
        split <;> omega
      have g2 : cnt (fun k => cnt (fun a => if side T c (bperm k) = some a then 1 else 0) 100) 4 ≤ 4 := cnt_le (fun k => one_le 100) 4
      omega
  have h4 := cnt_mono (f := fun c => cnt (fun a => dEv T c a) 100) (g := fun c => 5 * T 10 c) 100 fun c _ => h3 c
  rw [cnt_mul] at h4
  rw [cnt_swap] at h2
  omega
theorem count_filter (p : Nat → Bool) (x : Nat) : ∀ n, ((List.range n).filter p).count x = if x < n ∧ p x = true then 1 else 0
  | 0 => by rw [if_neg (fun h => Nat.not_lt_zero _ h.1)]; rfl
  | n + 1 => by
    rw [List.range_succ, List.filter_append, List.count_append, count_filter p x n]
    by_cases e : x = n
    · subst e
      rw [if_neg (fun h => Nat.lt_irrefl _ h.1)]
      cases h : p x with
      | true => rw [if_pos ⟨Nat.lt_succ_self _, rfl⟩]; simp [h]
      | false => rw [if_neg (fun h => Bool.false_ne_true h.2)]; simp [h]
    · have h0 : ([n].filter p).count x = 0 := by
        cases h : p n with
        | true =>
          have : [n].filter p = [n] := by simp [h]
          rw [this, List.count_eq_zero]
          intro h2
          exact e (List.mem_singleton.1 h2)
        | false => simp [h]
      rw [h0, Nat.add_zero]
      by_cases k : x < n ∧ p x = true
      · rw [if_pos k, if_pos ⟨by omega, k.2⟩]
      · rw [if_neg k, if_neg (fun h => k ⟨by omega, h.2⟩)]
theorem pos_part3 {a b : Nat} (ha : a < 2 ^ 30) (hb : b < 2 ^ 30) : (if 0 < nI a - nI b then nI a - nI b else 0) = nI (a - b) := by
  by_cases h : b < a
  · rw [nI_sub (by omega), if_pos (by rw [← nI_0]; exact nI_lt (by omega) (by omega))]
  · have e : a - b = 0 := by omega
    rw [e]
    by_cases e2 : a = b
    · subst e2
      rw [nI_sub (Nat.le_refl _), Nat.sub_self, if_neg (by decide)]
      rfl
    · have : nI a - nI b < 0 := pk_sneg hb (by omega)
      rw [if_neg (by grind)]
      rfl
theorem drainFor_x {F f k b : Nat} {C P : Nat → Nat → Nat} {S : Nat → Int32} {μ : aw_M} (hF : 100 ≤ F) (hf : f = 39 ∨ f = 76) (ok : sOK C P S) (ev : env C P μ) (hx : XS C f μ S) (hk : k ≤ 240) (hb : b < 100000) (hp : ∀ a, a < 100 → inB (S (714 + a)) b) : T (f_X0_drainFor F f (nI k) μ) fun μ' => XS C f μ' (sDre S (fun a => k * drn C a)) ∧ AgK (kNF f) μ μ' := by
  obtain ⟨r0, r1, r2, r8, r9, r10, r11, r12, r13, r14, r15, r16, r17, r19⟩ := rfF hf
  have s5 : aw_rf 28 5 = 33 := by simp only [rf0, rf1, rf4, rf5, rf19, rf23, rf28, rf39, rf53, rf67, rf71, rf76, rf88, rf97, rf101, rf109, rf110, rf124, rf128, rf133, rf144, rf156, rf157, rf171, rf175, rf180, rf191, rf51]
  have s6 : aw_rf 28 6 = 34 := by simp only [rf0, rf1, rf4, rf5, rf19, rf23, rf28, rf39, rf53, rf67, rf71, rf76, rf88, rf97, rf101, rf109, rf110, rf124, rf128, rf133, rf144, rf156, rf157, rf171, rf175, rf180, rf191, rf51]
  have hl := drl_len ok.1
  have hdn : ∀ a, a < 100 → drn C a ≤ 500 := fun a ha => by
    rw [← dEv_sum ok.1 ha]
    have := cnt_mono (f := fun c => dEv C c a) (g := fun c => 5 * 1) 100 fun c _ => by
      unfold dEv
      split
      · omega
      · have g2 : cnt (fun k => if side C c (bperm k) = some a then 1 else 0) 4 ≤ 4 := cnt_le (fun k => by show (if _ then 1 else 0) ≤ 1; split <;> omega) 4
        split <;> omega
    rw [cnt_mul] at this
    have h1 : cnt (fun _ => 1) 100 = 100 := by decide
    omega
  have hmem : ∀ i, i < (drl C).length → (drl C).getD i 0 < 100 := fun i hi => by
    rw [List.getD_eq_getElem?_getD, List.getElem?_eq_getElem hi]
    have h1 : (drl C)[i] ∈ drl C := List.getElem_mem hi
    exact List.mem_range.1 (List.mem_filter.1 h1).1
  have hfin : sDre S (fun a => ((drl C).take (drl C).length).count a * (k * drn C a)) = sDre S (fun a => k * drn C a) := sDre_ext fun a ha => by
    show ((drl C).take (drl C).length).count a * (k * drn C a) = k * drn C a
    have : (drl C).count a = if a < 100 ∧ decide (0 < drn C a) = true then 1 else 0 := count_filter _ a 100
    rw [List.take_length, this]
    by_cases h : 0 < drn C a
    · rw [if_pos ⟨ha, decide_eq_true h⟩, Nat.one_mul]
    · have : drn C a = 0 := by omega
      rw [this, Nat.mul_zero, Nat.mul_zero]
  rw [← hfin]
  have h0 : sDre S (fun a => ((drl C).take 0).count a * (k * drn C a)) = S := by
    have : (fun a => ((drl C).take 0).count a * (k * drn C a)) = fun _ => 0 := by
      funext a
      rw [List.take_zero, List.count_nil, Nat.zero_mul]
    rw [this, sDre_0 (b := b) (by omega) hp]
  unfold f_X0_drainFor
  refine T_lp (fun i s => ∃ μ', s = (nI k, nI i, μ') ∧ XS C f μ' (sDre S (fun a => ((drl C).take i).count a * (k * drn C a))) ∧ AgK (kNF f) μ μ') (drl C).length (by omega) ⟨μ, rfl, by rw [h0]; exact hx, AgK.rf μ⟩ ?_ ?_
  · rintro i hi _ ⟨μ', rfl, hx', ag⟩ g hg
    have ev' := ev.ag hf ag
    have hm := hmem i hi
    have e28 : μ'.1 28 4 = nI (drl C).length := ev'.2.2.2.2.1.1
    have e33 : μ'.1 33 i = nI ((drl C).getD i 0) := ev'.2.2.2.2.1.2.1 i hi
    have e34 : μ'.1 34 ((drl C).getD i 0) = nI (drn C ((drl C).getD i 0)) := ev'.2.2.2.2.1.2.2 _ hm
    have et : (drl C).take (i + 1) = (drl C).take i ++ [(drl C).getD i 0] := by
      rw [List.take_succ, List.getD_eq_getElem?_getD, List.getElem?_eq_getElem (by omega)]
      rfl
    have hg : ∀ μ2, XS C f μ2 (sDre S (fun a => ((drl C).take (i + 1)).count a * (k * drn C a))) → AgK (kNF f) μ μ2 → T (g (nI k, nI (i + 1), μ2)) _ := fun μ2 g1 g2 => hg _ ⟨μ2, rfl, g1, g2⟩
    generalize hat : (drl C).getD i 0 = a at hm e33 e34 et
    have p1 : μ'.1 (f + 9) a = nI ((S (714 + a)).toNatClampNeg - ((drl C).take i).count a * (k * drn C a)) := by
      rw [(hx'.2.2.2.2.2.1 a hm).1, sDre_p hm]
    obtain ⟨p, hp1, hp2⟩ := hp a hm
    have hd := hdn a hm
    have hkd : k * drn C a ≤ 240 * 500 := Nat.mul_le_mul hk hd
    rw [hp2, nI_clamp (by omega)] at p1
    show T (f_X0_drainFor_2 F f g (nI k) (nI i) μ') _
    unfold f_X0_drainFor_2
    rw [r2, e28, if_neg (nI_ge hi (by omega)), pI_in_t (by omega) (by decide), pg_t, plet, s5, nI_clamp (by omega), e33, pI_in_t hm (by decide), pg_t, pg_t, pg_t, plet, r16, s6, nI_clamp (by omega), p1, e34, pk_mul, pos_part3 (by omega) (by omega), nI_1]
    refine hg _ ?_ (ag.wI (kNF_f (by omega) (by omega)))
    have hx2 := hx'.w (a := f + 9) (i := a) (k := 714 + a) (v := nI (p - ((drl C).take i).count a * (k * drn C a) - k * drn C a)) ok.1 (.p hm rfl)
    have e : upd (sDre S (fun a => ((drl C).take i).count a * (k * drn C a))) (714 + a) (nI (p - ((drl C).take i).count a * (k * drn C a) - k * drn C a)) = sDre S (fun a => ((drl C).take (i + 1)).count a * (k * drn C a)) := by
      rw [et]
      funext j
      by_cases e1 : j = 714 + a
      · subst e1
        rw [pk_us, sDre_p hm, hp2, nI_clamp (by omega), List.count_append, List.count_singleton_self, Nat.add_mul, Nat.one_mul, Nat.sub_sub]
      · rw [pk_un e1]
        unfold sDre
        by_cases hj : 714 ≤ j ∧ j < 814
        · rw [if_pos hj, if_pos hj]
          have : ((drl C).take i ++ [a]).count (j - 714) = ((drl C).take i).count (j - 714) := by
            rw [List.count_append]
            have : [a].count (j - 714) = 0 := by
              rw [List.count_eq_zero]
              intro h
              have := List.mem_singleton.1 h
              omega
            rw [this]
            rfl
          show _ = nI ((S j).toNatClampNeg - ((drl C).take i ++ [a]).count (j - 714) * (k * drn C (j - 714)))
          rw [this]
        · rw [if_neg hj, if_neg hj]
    rw [← e]
    exact hx2
  · rintro _ ⟨μ', rfl, hx', ag⟩ g
    have ev' := ev.ag hf ag
    have e28 : μ'.1 28 4 = nI (drl C).length := ev'.2.2.2.2.1.1
    show T (f_X0_drainFor_2 F f g (nI k) (nI (drl C).length) μ') _
    unfold f_X0_drainFor_2
    rw [r2, e28, if_pos (nI_le (Nat.le_refl _) (by omega)), T_some]
    exact ⟨hx', ag⟩
theorem play_x {F f m d n b : Nat} {C P : Nat → Nat → Nat} {S : Nat → Int32} {μ : aw_M} (hF : 200 ≤ F) (hf : f = 39 ∨ f = 76) (hwf : qTWF C) (ok : sOK C P S) (ev : env C P μ) (hx : XS C f μ S) (hs : SW C d m 0 b S) (hm : m < 240) (hv : vis C m ≠ []) : T (f_X0_playMinute F f (nI (nbz C m)) μ) fun μ' => XS C f μ' (sPlay C P false m S) ∧ AgK (kNF f) μ μ' := by
  have hnq := hwf.1.2.2.1
  obtain ⟨n, h1, h2, h3, h4⟩ := sQs_k (su := false) ok hs (C 0 2) (Nat.le_refl _)
  have e : cl (sQs C P false m (C 0 2) S 919) 9 = n := by rw [h2.1.2.2, cl_nI (by omega) (by decide)]
  refine quarters_x (by omega) hf hwf ok ev hx hs hm hv fun μ1 hx1 ag1 => ?_
  unfold sPlay
  rw [e]
  generalize sQs C P false m (C 0 2) S = X at h2 h3 h4 hx1
  have ok1 : sOK C P X := ok.ext fun k hk => h4 k (by omega)
  unfold f_X0_playMinute_45
  refine T_lp (fun i s => ∃ μ', s = (nI (nbz C m), nI i, μ') ∧ XS C f μ' (sMks C n i X) ∧ AgK (kNF f) μ μ') n (by omega) ⟨μ1, rfl, hx1, ag1⟩ ?_ ?_
  · rintro i hi _ ⟨μ', rfl, hx', ag⟩ g hg
    obtain ⟨p1, p2, p3⟩ := sMks_k ok1 (by omega) h2 h3 i (by omega)
    have ok2 : sOK C P (sMks C n i X) := ok1.ext fun k hk => p3 k (by omega)
    show T (f_X0_playMinute_47 F f g (nI (nbz C m)) (nI i) μ') _
    have e18 : μ'.1 f 18 = nI n := hx'.1.2.2.2.2.2.trans p1.1.2.2
    unfold f_X0_playMinute_47
    rw [e18, if_neg (nI_ge hi (by omega)), nI_1]
    exact T_call (markThrow_x (by omega) hf hwf ok2 (ev.ag hf ag) hx' (by omega) p1 p2 hi) fun μ2 h => hg _ ⟨μ2, rfl, h.1, ag.tr h.2⟩
  · rintro _ ⟨μ', rfl, hx', ag⟩ g
    obtain ⟨p1, p2, p3⟩ := sMks_k ok1 (by omega) h2 h3 n (Nat.le_refl _)
    have ok2 : sOK C P (sMks C n n X) := ok1.ext fun k hk => p3 k (by omega)
    show T (f_X0_playMinute_47 F f g (nI (nbz C m)) (nI n) μ') _
    have e18 : μ'.1 f 18 = nI n := hx'.1.2.2.2.2.2.trans p1.1.2.2
    unfold f_X0_playMinute_47
    rw [e18, if_pos (nI_le (Nat.le_refl _) (by omega))]
    exact T_mono (carts_x (by omega) hf hwf ok2 (ev.ag hf ag) hx' p1 hm hv) fun μ2 h => ⟨h.1, ag.tr h.2⟩
/-- the class's day begun anew -/
theorem startDay_x {F f : Nat} {C P : Nat → Nat → Nat} {S : Nat → Int32} {μ : aw_M} (hF : 2000 ≤ F) (hf : f = 39 ∨ f = 76) (ok : sOK C P S) (ev : env C P μ) (hx : XS C f μ S) : T (f_X0_startDay F f μ) fun μ' => XS C f μ' (sDay0 (wr (upd S 456 0) 714 100 (fun _ => 0))) ∧ AgK (kNF f) μ μ' := by
  obtain ⟨r0, r1, r2, r8, r9, r10, r11, r12, r13, r14, r15, r16, r17, r19⟩ := rfF hf
  have hw := ok.1.1
  have tm := ok.2.2.1
  have s12 : aw_rf 5 12 = 13 := by simp only [rf0, rf1, rf4, rf5, rf19, rf23, rf28, rf39, rf53, rf67, rf71, rf76, rf88, rf97, rf101, rf109, rf110, rf124, rf128, rf133, rf144, rf156, rf157, rf171, rf175, rf180, rf191, rf51]
  have h6 : (aw_sh (f + 6)).2 = 180 := by rcases hf with rfl | rfl <;> decide
  have h9 : (aw_sh (f + 9)).2 = 100 := by rcases hf with rfl | rfl <;> decide
  have h7 : (aw_sh (f + 7)).2 = 20 := by rcases hf with rfl | rfl <;> decide
  unfold f_X0_startDay
  rw [plet, r13, fil_wr hF h6 (by decide), Option.bind_some, r16, fil_wr hF h9 (by decide), Option.bind_some, r0, r14, s12, copyRow_eq (n := 20) (by decide) h7 (by decide), Option.bind_some, T_some]
  obtain ⟨z1, z2, z3⟩ := sDay0_f (S := wr (upd S 456 0) 714 100 (fun _ => 0))
  have rd : ∀ a j, a ≠ f + 6 → a ≠ f + 7 → a ≠ f + 9 → (a ≠ f ∨ j ≠ 4) → (aset (aset (aset (aw_wI μ f 4 0) (f + 6) (wr ((aw_wI μ f 4 0).1 (f + 6)) 0 180 fun _ => 0)) (f + 9) (wr ((aset (aw_wI μ f 4 0) (f + 6) (wr ((aw_wI μ f 4 0).1 (f + 6)) 0 180 fun _ => 0)).1 (f + 9)) 0 100 fun _ => 0)) (f + 7) (wr ((aset (aset (aw_wI μ f 4 0) (f + 6) (wr ((aw_wI μ f 4 0).1 (f + 6)) 0 180 fun _ => 0)) (f + 9) (wr ((aset (aw_wI μ f 4 0) (f + 6) (wr ((aw_wI μ f 4 0).1 (f + 6)) 0 180 fun _ => 0)).1 (f + 9)) 0 100 fun _ => 0)).1 (f + 7)) 0 20 ((aset (aset (aw_wI μ f 4 0) (f + 6) (wr ((aw_wI μ f 4 0).1 (f + 6)) 0 180 fun _ => 0)) (f + 9) (wr ((aset (aw_wI μ f 4 0) (f + 6) (wr ((aw_wI μ f 4 0).1 (f + 6)) 0 180 fun _ => 0)).1 (f + 9)) 0 100 fun _ => 0)).1 13))).1 a j = μ.1 a j := fun a j h1 h2 h3 h4 => by
    rw [rA_a h2, rA_a h3, rA_a h1]
    by_cases h5 : a = f
    · subst h5
      exact rI_k (by omega)
    · rw [rI_a h5]
  refine ⟨?_, ?_⟩
  · obtain ⟨⟨x1, x2, x3, x4, x5, x6⟩, ⟨x7, x8, x9⟩, x10, x11, x12, x13, x14⟩ := hx
    have zz : ∀ k, (k < 494 ∨ 694 ≤ k) → (k < 714 ∨ 814 ≤ k) → k ≠ 456 → sDay0 (wr (upd S 456 0) 714 100 (fun _ => 0)) k = S k := fun k g1 g2 g3 => by rw [z1 k g1, wr_out (by omega), pk_un g3]
    refine ⟨⟨?_, ?_, ?_, ?_, ?_, ?_⟩, ⟨?_, ?_, ?_⟩, fun q hq => ⟨?_, ?_, ?_, ?_⟩, fun q c hq hc => ?_, fun c hc => ⟨?_, ?_⟩, fun a' ha => ⟨?_, ?_⟩, fun n hn e k' hk j hj => ?_⟩
    · rw [rd _ _ (by omega) (by omega) (by omega) (by omega), zz _ (by omega) (by omega) (by omega)]; exact x1
    · rw [rA_a (by omega), rA_a (by omega), rA_a (by omega), rI_s, z1 _ (by omega), wr_out (by omega), pk_us]
    · rw [rd _ _ (by omega) (by omega) (by omega) (by omega), zz _ (by omega) (by omega) (by omega)]; exact x3
    · rw [rd _ _ (by omega) (by omega) (by omega) (by omega), zz _ (by omega) (by omega) (by omega)]; exact x4
    · rw [rd _ _ (by omega) (by omega) (by omega) (by omega), zz _ (by omega) (by omega) (by omega)]; exact x5
    · rw [rd _ _ (by omega) (by omega) (by omega) (by omega), zz _ (by omega) (by omega) (by omega)]; exact x6
    · rw [rd _ _ (by omega) (by omega) (by omega) (by omega), zz _ (by omega) (by omega) (by omega)]; exact x7
    · rw [rd _ _ (by omega) (by omega) (by omega) (by omega), zz _ (by omega) (by omega) (by omega)]; exact x8
    · rw [rd _ _ (by omega) (by omega) (by omega) (by omega), zz _ (by omega) (by omega) (by omega)]; exact x9
    · rw [rd _ _ (by omega) (by omega) (by omega) (by omega), zz _ (by omega) (by omega) (by omega)]; exact (x10 q hq).1
    · rw [rd _ _ (by omega) (by omega) (by omega) (by omega), zz _ (by omega) (by omega) (by omega)]; exact (x10 q hq).2.1
    · rw [rd _ _ (by omega) (by omega) (by omega) (by omega), zz _ (by omega) (by omega) (by omega)]; exact (x10 q hq).2.2.1
    · rw [rd _ _ (by omega) (by omega) (by omega) (by omega), zz _ (by omega) (by omega) (by omega)]; exact (x10 q hq).2.2.2
    · rw [rA_a (by omega), rA_a (by omega), rA_s, wr0 (by omega), Nat.add_assoc, z2 _ (by omega)]
    · rw [rA_s, wr0 (by omega), rA_a (by omega), rA_a (by omega), rI_a (by omega), z3 _ (by omega), wr_out (by omega), pk_un (by omega), (tm.2.2.2.2.2.1 c hc).2.2.1]
      exact (ev.1.2.2.2.1 c hc).2.2.1
    · rw [rd _ _ (by omega) (by omega) (by omega) (by omega), zz _ (by omega) (by omega) (by omega)]; exact (x12 c hc).2
    · rw [rA_a (by omega), rA_s, wr0 ha, z1 _ (by omega), wr_at ha]
    · rw [rd _ _ (by omega) (by omega) (by omega) (by omega), zz _ (by omega) (by omega) (by omega)]; exact (x13 a' ha).2
    · rw [zz _ (by omega) (by omega) (by omega)] at e
      rw [rd _ _ (by omega) (by omega) (by omega) (by omega), zz _ (by omega) (by omega) (by omega)]; exact x14 n hn e k' hk j hj
  · refine ((((AgK.rf μ).wI (kNF_f (by omega) (by omega))).wA ?_).wA ?_).wA ?_
    · intro k h; rw [kNF_f (by omega) (by omega)] at h; cases h
    · intro k h; rw [kNF_f (by omega) (by omega)] at h; cases h
    · intro k h; rw [kNF_f (by omega) (by omega)] at h; cases h
/-- steps minutes at once, behind what was played -/
theorem tick_x {F f d m n b k : Nat} {C P : Nat → Nat → Nat} {S : Nat → Int32} {μ μ0 : aw_M} {x1 : Int32} {g : Nat} {Q : Int32 × aw_M → Prop} {k2 : Int32 × Int32 × aw_M → Option (Int32 × aw_M)} (hF : 2000 ≤ F) (hf : f = 39 ∨ f = 76) (ok : sOK C P S) (ev : env C P μ) (hx : XS C f μ S) (hs : SW C d m n b S) (ag : AgK (kNF f) μ0 μ) (hb : b < 100000) (hd : d < 3) (hm : m + max k 1 ≤ 240) (hQ : ∀ μ', XS C f μ' (sTick d (m + max k 1 - 1) (sDre S (fun a => max k 1 * drn C a))) → AgK (kNF f) μ0 μ' → T (k2 (x1, nI (g + max k 1), μ')) Q) : T (f_X0_pass_55 F f k2 x1 (nI g) (nI k) μ) Q := by
  have e1 : (if nI k < 1 then (1 : Int32) else nI k) = nI (max k 1) := by
    by_cases h : k = 0
    · subst h; rw [if_pos (by decide)]; rfl
    · rw [if_neg (show ¬ nI k < 1 from nI_nlt (b := 1) (by omega) (by omega))]
      congr 1
      omega
  unfold f_X0_pass_55
  rw [plet, e1]
  have h0 : 1 ≤ max k 1 := Nat.le_max_right k 1
  generalize max k 1 = k at hm hQ h0
  refine T_call (drainFor_x (by omega) hf ok ev hx (by omega) hb (fun a ha => (hs.2.2.2 a ha).1)) fun μ1 h1 => ?_
  have hs1 := SW_dre (e := fun a => k * drn C a) ok.1 (by omega) hs
  have ok1 : sOK C P (sDre S (fun a => k * drn C a)) := ok.ext fun j hj => sDre_o (by omega)
  generalize sDre S (fun a => k * drn C a) = Z at h1 hs1 hQ ok1
  have e4 : μ1.1 f 4 = nI m := h1.1.1.2.1.trans hs1.1.2.1
  have e3 : μ1.1 f 3 = nI d := h1.1.1.1.trans hs1.1.1
  have hx2 := h1.1.w (a := f) (i := 4) (k := 456) (v := nI (m + k)) ok.1 .m4
  have ag2 : AgK (kNF f) μ0 (aw_wI μ1 f 4 (nI (m + k))) := (ag.tr h1.2).wI (kNF_f (by omega) (by omega))
  have em : m + k - 1 + 1 = m + k := by omega
  rw [plet, plet, nI_add, e4, nI_add, rI_s]
  unfold sTick at hQ
  rw [em] at hQ
  unfold f_X0_pass_98
  by_cases k1 : m + k < 240
  · rw [if_pos (show nI (m + k) < 240 from nI_lt (b := 240) k1 (by decide))]
    rw [if_pos k1] at hQ
    exact hQ _ hx2 ag2
  · rw [if_neg (show ¬ nI (m + k) < 240 from nI_nlt (b := 240) (by omega) (by omega))]
    rw [if_neg k1] at hQ
    unfold f_X0_endDay
    have hx3 := hx2.w (a := f) (i := 3) (k := 455) (v := nI (d + 1)) ok.1 .m3
    have ag3 : AgK (kNF f) μ0 (aw_wI (aw_wI μ1 f 4 (nI (m + k))) f 3 (nI (d + 1))) := ag2.wI (kNF_f (by omega) (by omega))
    rw [plet, rI_s, rI_k (show 3 ≠ 4 by decide), e3, nI_1]
    by_cases k3 : d + 1 = 3
    · rw [if_pos (show (3 : Int32) ≤ nI (d + 1) by rw [k3]; decide), Option.bind_some]
      rw [if_pos k3] at hQ
      exact hQ _ hx3 ag3
    · rw [if_neg (show ¬ (3 : Int32) ≤ nI (d + 1) from nI_ge (b := 3) (by omega) (by decide))]
      rw [if_neg k3] at hQ
      rw [T_bind]
      have ok3 : sOK C P (upd (upd Z 456 (nI (m + k))) 455 (nI (d + 1))) := ok1.ext fun j hj => by rw [pk_un (by omega), pk_un (by omega)]
      exact T_call (startDay_x hF hf ok3 ((ev.ag hf h1.2).ag hf (((AgK.rf μ1).wI (kNF_f (by omega) (by omega))).wI (kNF_f (by omega) (by omega)))) hx3) fun μ4 h4 => T_some.2 (hQ _ h4.1 (ag3.tr h4.2))
