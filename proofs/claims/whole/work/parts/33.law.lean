def f_L_law_1475 (F : Nat) (xs : Nat → Int32) (Ln : Nat) (k23 : Int32 × aw_M × Nat → Option (Unit)) (x4 : Int32) (μ : aw_M) (kc : Nat) : Option (Unit) :=
  k23 ((x4 + 6), μ, kc)
theorem c_L_law_1475 (l : Launch) (hfl : l.stackTraces = false) (F : Nat) (xs : Nat → Int32) (Ln b : Nat) (k23 : Int32 × aw_M × Nat → Option (Unit)) (hk23 : ∀ s : Int32 × aw_M × Nat, XW l (k_L_law, 231, 69430, 1000) lw_Tg (lw_Px b Ln xs) 23 [some (.ref 1000), some (.ref 0), some (.ref 203), some (.ref 230), some (.int s.1), none, none] [] s.2.1  s.2.2 (k23 s)) (x4 : Int32) (μ : aw_M) (kc : Nat) : XW l (k_L_law, 231, 69430, 1000) lw_Tg (lw_Px b Ln xs) 1475 [some (.ref 1000), some (.ref 0), some (.ref 203), some (.ref 230), some (.int x4), none, none] [] μ  kc (f_L_law_1475 F xs Ln k23 x4 μ kc) := by
  unfold f_L_law_1475
  refine xw_iinc (n := 1478) (x4 + 6) [some (.ref 1000), some (.ref 0), some (.ref 203), some (.ref 230), some (.int (x4 + 6)), none, none] dL_law_1475 rfl rfl (by rfl) rfl (Nat.le_of_ble_eq_true rfl) rfl ?_
  refine xw_goto 23 dL_law_1478 (by decide) ?_
  exact xw_weak (hk23 ((x4 + 6), μ, kc)) (aw_ss (aw_ss (aw_ss (aw_ss (aw_ss (aw_sn (aw_sn aw_s0)))))))
def f_L_law_418 (F : Nat) (xs : Nat → Int32) (Ln : Nat) (k23 : Int32 × aw_M × Nat → Option (Unit)) (x4 : Int32) (μ : aw_M) (kc : Nat) : Option (Unit) :=
  f_L_law_1475 F xs Ln k23 x4 μ kc
theorem c_L_law_418 (l : Launch) (hfl : l.stackTraces = false) (F : Nat) (xs : Nat → Int32) (Ln b : Nat) (k23 : Int32 × aw_M × Nat → Option (Unit)) (hk23 : ∀ s : Int32 × aw_M × Nat, XW l (k_L_law, 231, 69430, 1000) lw_Tg (lw_Px b Ln xs) 23 [some (.ref 1000), some (.ref 0), some (.ref 203), some (.ref 230), some (.int s.1), none, none] [] s.2.1  s.2.2 (k23 s)) (x4 : Int32) (μ : aw_M) (kc : Nat) : XW l (k_L_law, 231, 69430, 1000) lw_Tg (lw_Px b Ln xs) 418 [some (.ref 1000), some (.ref 0), some (.ref 203), some (.ref 230), some (.int x4), none, none] [] μ  kc (f_L_law_418 F xs Ln k23 x4 μ kc) := by
  unfold f_L_law_418
  refine xw_goto 1475 dL_law_418 (by decide) ?_
  exact xw_weak (c_L_law_1475 l hfl F xs Ln b k23 hk23 x4 μ kc) (aw_ss (aw_ss (aw_ss (aw_ss (aw_ss (aw_sn (aw_sn aw_s0)))))))
def f_L_law_486 (F : Nat) (xs : Nat → Int32) (Ln : Nat) (k23 : Int32 × aw_M × Nat → Option (Unit)) (x4 : Int32) (μ : aw_M) (kc : Nat) : Option (Unit) :=
  f_L_law_1475 F xs Ln k23 x4 μ kc
theorem c_L_law_486 (l : Launch) (hfl : l.stackTraces = false) (F : Nat) (xs : Nat → Int32) (Ln b : Nat) (k23 : Int32 × aw_M × Nat → Option (Unit)) (hk23 : ∀ s : Int32 × aw_M × Nat, XW l (k_L_law, 231, 69430, 1000) lw_Tg (lw_Px b Ln xs) 23 [some (.ref 1000), some (.ref 0), some (.ref 203), some (.ref 230), some (.int s.1), none, none] [] s.2.1  s.2.2 (k23 s)) (x4 : Int32) (μ : aw_M) (kc : Nat) : XW l (k_L_law, 231, 69430, 1000) lw_Tg (lw_Px b Ln xs) 486 [some (.ref 1000), some (.ref 0), some (.ref 203), some (.ref 230), some (.int x4), none, none] [] μ  kc (f_L_law_486 F xs Ln k23 x4 μ kc) := by
  unfold f_L_law_486
  refine xw_goto 1475 dL_law_486 (by decide) ?_
  exact xw_weak (c_L_law_1475 l hfl F xs Ln b k23 hk23 x4 μ kc) (aw_ss (aw_ss (aw_ss (aw_ss (aw_ss (aw_sn (aw_sn aw_s0)))))))
def f_L_law_554 (F : Nat) (xs : Nat → Int32) (Ln : Nat) (k23 : Int32 × aw_M × Nat → Option (Unit)) (x4 : Int32) (μ : aw_M) (kc : Nat) : Option (Unit) :=
  f_L_law_1475 F xs Ln k23 x4 μ kc
theorem c_L_law_554 (l : Launch) (hfl : l.stackTraces = false) (F : Nat) (xs : Nat → Int32) (Ln b : Nat) (k23 : Int32 × aw_M × Nat → Option (Unit)) (hk23 : ∀ s : Int32 × aw_M × Nat, XW l (k_L_law, 231, 69430, 1000) lw_Tg (lw_Px b Ln xs) 23 [some (.ref 1000), some (.ref 0), some (.ref 203), some (.ref 230), some (.int s.1), none, none] [] s.2.1  s.2.2 (k23 s)) (x4 : Int32) (μ : aw_M) (kc : Nat) : XW l (k_L_law, 231, 69430, 1000) lw_Tg (lw_Px b Ln xs) 554 [some (.ref 1000), some (.ref 0), some (.ref 203), some (.ref 230), some (.int x4), none, none] [] μ  kc (f_L_law_554 F xs Ln k23 x4 μ kc) := by
  unfold f_L_law_554
  refine xw_goto 1475 dL_law_554 (by decide) ?_
  exact xw_weak (c_L_law_1475 l hfl F xs Ln b k23 hk23 x4 μ kc) (aw_ss (aw_ss (aw_ss (aw_ss (aw_ss (aw_sn (aw_sn aw_s0)))))))
def f_L_law_23 (F : Nat) (xs : Nat → Int32) (Ln : Nat) (k23 : Int32 × aw_M × Nat → Option (Unit)) (x4 : Int32) (μ : aw_M) (kc : Nat) : Option (Unit) :=
  (if ((Int32.ofNat Ln) - 6) < x4 then
  some ()
  else
  aw_g (aw_in x4 Ln) ((aw_sel ((((xs x4.toNatClampNeg) &&& 63) : Int32).toInt - 0) [(aw_g (aw_in (x4 + 1) Ln) (aw_g (aw_in (x4 + 2) Ln) (aw_g (aw_in (x4 + 3) Ln) (aw_g (aw_in (x4 + 4) Ln) (aw_g (aw_in (x4 + 5) Ln) ((f_X10_feed F 0 (xs (x4 + 1).toNatClampNeg) (xs (x4 + 2).toNatClampNeg) (xs (x4 + 3).toNatClampNeg) (xs (x4 + 4).toNatClampNeg) (xs (x4 + 5).toNatClampNeg) μ).bind fun r167 =>
  aw_g (aw_in (x4 + 1) Ln) (aw_g (aw_in (x4 + 2) Ln) (aw_g (aw_in (x4 + 3) Ln) (aw_g (aw_in (x4 + 4) Ln) (aw_g (aw_in (x4 + 5) Ln) ((f_X11_feed F 203 (xs (x4 + 1).toNatClampNeg) (xs (x4 + 2).toNatClampNeg) (xs (x4 + 3).toNatClampNeg) (xs (x4 + 4).toNatClampNeg) (xs (x4 + 5).toNatClampNeg) r167.2).bind fun r168 =>
  (if r167.1 = r168.1 then
  f_L_law_1475 F xs Ln k23 x4 r168.2 kc
  else
  none)))))))))))), (aw_g (aw_in (x4 + 1) Ln) ((f_X10_end F 0 (xs (x4 + 1).toNatClampNeg) μ).bind fun r169 =>
  aw_g (aw_in (x4 + 1) Ln) ((f_X11_end F 203 (xs (x4 + 1).toNatClampNeg) r169.2).bind fun r170 =>
  (if (aw_b r169.1) = (aw_b r170.1) then
  f_L_law_1475 F xs Ln k23 x4 r170.2 kc
  else
  none)))), ((f_X10_town F 0 μ).bind fun r171 =>
  (f_X11_town F 203 r171.2).bind fun r172 =>
  (if r171.1 = r172.1 then
  f_L_law_1475 F xs Ln k23 x4 r172.2 kc
  else
  none)), ((f_X10_plans F 0 μ).bind fun r173 =>
  (f_X11_plans F 203 r173.2).bind fun r174 =>
  (if r173.1 = r174.1 then
  f_L_law_1475 F xs Ln k23 x4 r174.2 kc
  else
  none)), ((f_X10_fault F 0 μ).bind fun r175 =>
  (f_X11_fault F 203 r175.2).bind fun r176 =>
  (if r175.1 = r176.1 then
  f_L_law_1475 F xs Ln k23 x4 r176.2 kc
  else
  none)), (aw_g (aw_in (x4 + 1) Ln) (aw_g (aw_in (x4 + 2) Ln) (aw_g (decide (kc < 1000)) ((ax_w (f_X10_quarter F 0 (xs (x4 + 1).toNatClampNeg) (xs (x4 + 2).toNatClampNeg) μ) 230).bind fun r177 =>
  aw_g (aw_in (x4 + 1) Ln) (aw_g (aw_in (x4 + 2) Ln) ((f_X11_quarter F 203 (xs (x4 + 1).toNatClampNeg) (xs (x4 + 2).toNatClampNeg) r177.2).bind fun r178 =>
  (f_X11_thrown F 203 r178.2).bind fun r179 =>
  (if r179.1 = r177.1 then
  (if r177.1 = 0 then
  aw_g (aw_in 0 1) ((if (lg_cmp (r179.2.2 230 (0 : Int32).toNatClampNeg) (r178.1 : Int32).toInt64) = 0 then
  f_L_law_418 F xs Ln k23 x4 r179.2 (kc + 1)
  else
  none))
  else
  f_L_law_418 F xs Ln k23 x4 r179.2 (kc + 1))
  else
  none))))))), (aw_g (aw_in (x4 + 1) Ln) (aw_g (aw_in (x4 + 2) Ln) (aw_g (decide (kc < 1000)) ((ax_w (f_X10_cart F 0 (xs (x4 + 1).toNatClampNeg) (xs (x4 + 2).toNatClampNeg) μ) 230).bind fun r180 =>
  aw_g (aw_in (x4 + 1) Ln) (aw_g (aw_in (x4 + 2) Ln) ((f_X11_cart F 203 (xs (x4 + 1).toNatClampNeg) (xs (x4 + 2).toNatClampNeg) r180.2).bind fun r181 =>
  (f_X11_thrown F 203 r181.2).bind fun r182 =>
  (if r182.1 = r180.1 then
  (if r180.1 = 0 then
  aw_g (aw_in 0 1) ((if (lg_cmp (r182.2.2 230 (0 : Int32).toNatClampNeg) (r181.1 : Int32).toInt64) = 0 then
  f_L_law_486 F xs Ln k23 x4 r182.2 (kc + 1)
  else
  none))
  else
  f_L_law_486 F xs Ln k23 x4 r182.2 (kc + 1))
  else
  none))))))), (aw_g (aw_in (x4 + 1) Ln) (aw_g (aw_in (x4 + 2) Ln) (aw_g (decide (kc < 1000)) ((ax_w (f_X10_cell F 0 (xs (x4 + 1).toNatClampNeg) (xs (x4 + 2).toNatClampNeg) μ) 230).bind fun r183 =>
  aw_g (aw_in (x4 + 1) Ln) (aw_g (aw_in (x4 + 2) Ln) ((f_X11_cell F 203 (xs (x4 + 1).toNatClampNeg) (xs (x4 + 2).toNatClampNeg) r183.2).bind fun r184 =>
  (f_X11_thrown F 203 r184.2).bind fun r185 =>
  (if r185.1 = r183.1 then
  (if r183.1 = 0 then
  aw_g (aw_in 0 1) ((if (lg_cmp (r185.2.2 230 (0 : Int32).toNatClampNeg) (r184.1 : Int32).toInt64) = 0 then
  f_L_law_554 F xs Ln k23 x4 r185.2 (kc + 1)
  else
  none))
  else
  f_L_law_554 F xs Ln k23 x4 r185.2 (kc + 1))
  else
  none))))))), (aw_g (aw_in (x4 + 1) Ln) ((f_X10_begin F 0 (xs (x4 + 1).toNatClampNeg) μ).bind fun r186 =>
  aw_g (aw_in (x4 + 1) Ln) ((f_X11_begin F 203 (xs (x4 + 1).toNatClampNeg) r186).bind fun r187 =>
  f_L_law_1475 F xs Ln k23 x4 r187 kc))), (aw_g (aw_in (x4 + 1) Ln) ((f_X10_on F 0 (xs (x4 + 1).toNatClampNeg) μ).bind fun r188 =>
  aw_g (aw_in (x4 + 1) Ln) ((f_X11_on F 203 (xs (x4 + 1).toNatClampNeg) r188.2).bind fun r189 =>
  (if r188.1 = r189.1 then
  f_L_law_1475 F xs Ln k23 x4 r189.2 kc
  else
  none)))), (aw_g (aw_in (x4 + 1) Ln) ((f_X10_now F 0 (xs (x4 + 1).toNatClampNeg) μ).bind fun r190 =>
  aw_g (aw_in (x4 + 1) Ln) ((f_X11_now F 203 (xs (x4 + 1).toNatClampNeg) r190.2).bind fun r191 =>
  (if r190.1 = r191.1 then
  f_L_law_1475 F xs Ln k23 x4 r191.2 kc
  else
  none)))), (aw_g (aw_in (x4 + 1) Ln) (aw_g (aw_in (x4 + 2) Ln) ((f_X10_thrown F 0 (xs (x4 + 1).toNatClampNeg) (xs (x4 + 2).toNatClampNeg) μ).bind fun r192 =>
  aw_g (aw_in (x4 + 1) Ln) (aw_g (aw_in (x4 + 2) Ln) ((f_X11_thrown_ F 203 (xs (x4 + 1).toNatClampNeg) (xs (x4 + 2).toNatClampNeg) r192.2).bind fun r193 =>
  (if r192.1 = r193.1 then
  f_L_law_1475 F xs Ln k23 x4 r193.2 kc
  else
  none)))))), (aw_g (aw_in (x4 + 1) Ln) ((f_X10_sand F 0 (xs (x4 + 1).toNatClampNeg) μ).bind fun r194 =>
  aw_g (aw_in (x4 + 1) Ln) ((f_X11_sand F 203 (xs (x4 + 1).toNatClampNeg) r194.2).bind fun r195 =>
  (if (aw_b r194.1) = (aw_b r195.1) then
  f_L_law_1475 F xs Ln k23 x4 r195.2 kc
  else
  none)))), (aw_g (aw_in (x4 + 1) Ln) (aw_g (aw_in (x4 + 2) Ln) ((f_X10_aims F 0 (xs (x4 + 1).toNatClampNeg) (xs (x4 + 2).toNatClampNeg) μ).bind fun r196 =>
  aw_g (aw_in (x4 + 1) Ln) (aw_g (aw_in (x4 + 2) Ln) ((f_X11_aims F 203 (xs (x4 + 1).toNatClampNeg) (xs (x4 + 2).toNatClampNeg) r196.2).bind fun r197 =>
  (if r196.1 = r197.1 then
  f_L_law_1475 F xs Ln k23 x4 r197.2 kc
  else
  none)))))), (aw_g (aw_in (x4 + 1) Ln) ((f_X10_sure F 0 (xs (x4 + 1).toNatClampNeg) μ).bind fun r198 =>
  aw_g (aw_in (x4 + 1) Ln) ((f_X11_sure F 203 (xs (x4 + 1).toNatClampNeg) r198.2).bind fun r199 =>
  (if r198.1 = r199.1 then
  f_L_law_1475 F xs Ln k23 x4 r199.2 kc
  else
  none)))), (aw_g (aw_in (x4 + 1) Ln) (aw_g (aw_in (x4 + 2) Ln) (aw_g (aw_in (x4 + 3) Ln) ((f_X10_grid F 0 (xs (x4 + 1).toNatClampNeg) (xs (x4 + 2).toNatClampNeg) (xs (x4 + 3).toNatClampNeg) μ).bind fun r200 =>
  aw_g (aw_in (x4 + 1) Ln) (aw_g (aw_in (x4 + 2) Ln) (aw_g (aw_in (x4 + 3) Ln) ((f_X11_grid F 203 (xs (x4 + 1).toNatClampNeg) (xs (x4 + 2).toNatClampNeg) (xs (x4 + 3).toNatClampNeg) r200.2).bind fun r201 =>
  (if r200.1 = r201.1 then
  f_L_law_1475 F xs Ln k23 x4 r201.2 kc
  else
  none)))))))), (aw_g (aw_in (x4 + 1) Ln) ((f_X10_best F 0 (xs (x4 + 1).toNatClampNeg) μ).bind fun r202 =>
  aw_g (aw_in (x4 + 1) Ln) ((f_X11_best F 203 (xs (x4 + 1).toNatClampNeg) r202.2).bind fun r203 =>
  (if r202.1 = r203.1 then
  f_L_law_1475 F xs Ln k23 x4 r203.2 kc
  else
  none)))), (aw_g (aw_in (x4 + 1) Ln) ((f_X10_days F 0 (xs (x4 + 1).toNatClampNeg) μ).bind fun r204 =>
  aw_g (aw_in (x4 + 1) Ln) ((f_X11_days F 203 (xs (x4 + 1).toNatClampNeg) r204.2).bind fun r205 =>
  (if r204.1 = r205.1 then
  f_L_law_1475 F xs Ln k23 x4 r205.2 kc
  else
  none)))), (aw_g (aw_in (x4 + 1) Ln) ((f_X10_rows F 0 (xs (x4 + 1).toNatClampNeg) μ).bind fun r206 =>
  aw_g (aw_in (x4 + 1) Ln) ((f_X11_rows F 203 (xs (x4 + 1).toNatClampNeg) r206.2).bind fun r207 =>
  (if r206.1 = r207.1 then
  f_L_law_1475 F xs Ln k23 x4 r207.2 kc
  else
  none)))), (aw_g (aw_in (x4 + 1) Ln) (aw_g (aw_in (x4 + 2) Ln) ((f_X10_stand F 0 (xs (x4 + 1).toNatClampNeg) (xs (x4 + 2).toNatClampNeg) μ).bind fun r208 =>
  aw_g (aw_in (x4 + 1) Ln) (aw_g (aw_in (x4 + 2) Ln) ((f_X11_stand F 203 (xs (x4 + 1).toNatClampNeg) (xs (x4 + 2).toNatClampNeg) r208.2).bind fun r209 =>
  (if r208.1 = r209.1 then
  f_L_law_1475 F xs Ln k23 x4 r209.2 kc
  else
  none)))))), (aw_g (aw_in (x4 + 1) Ln) ((f_X10_rests F 0 (xs (x4 + 1).toNatClampNeg) μ).bind fun r210 =>
  aw_g (aw_in (x4 + 1) Ln) ((f_X11_rests F 203 (xs (x4 + 1).toNatClampNeg) r210.2).bind fun r211 =>
  (if r210.1 = r211.1 then
  f_L_law_1475 F xs Ln k23 x4 r211.2 kc
  else
  none)))), (aw_g (aw_in (x4 + 1) Ln) (aw_g (aw_in (x4 + 2) Ln) ((f_X10_join F 0 (xs (x4 + 1).toNatClampNeg) (xs (x4 + 2).toNatClampNeg) μ).bind fun r212 =>
  aw_g (aw_in (x4 + 1) Ln) (aw_g (aw_in (x4 + 2) Ln) ((f_X11_join F 203 (xs (x4 + 1).toNatClampNeg) (xs (x4 + 2).toNatClampNeg) r212.2).bind fun r213 =>
  (if r212.1 = r213.1 then
  f_L_law_1475 F xs Ln k23 x4 r213.2 kc
  else
  none)))))), ((f_X10_look F 0 μ).bind fun r214 =>
  (f_X11_look F 203 r214.2).bind fun r215 =>
  (if r214.1 = r215.1 then
  f_L_law_1475 F xs Ln k23 x4 r215.2 kc
  else
  none)), (aw_g (aw_in (x4 + 1) Ln) ((f_X10_held F 0 (xs (x4 + 1).toNatClampNeg) μ).bind fun r216 =>
  aw_g (aw_in (x4 + 1) Ln) ((f_X11_held F 203 (xs (x4 + 1).toNatClampNeg) r216.2).bind fun r217 =>
  (if r216.1 = r217.1 then
  f_L_law_1475 F xs Ln k23 x4 r217.2 kc
  else
  none)))), (aw_g (aw_in (x4 + 1) Ln) (aw_g (aw_in (x4 + 2) Ln) ((f_X10_walk F 0 (xs (x4 + 1).toNatClampNeg) (xs (x4 + 2).toNatClampNeg) μ).bind fun r218 =>
  aw_g (aw_in (x4 + 1) Ln) (aw_g (aw_in (x4 + 2) Ln) ((f_X11_walk F 203 (xs (x4 + 1).toNatClampNeg) (xs (x4 + 2).toNatClampNeg) r218.2).bind fun r219 =>
  (if r218.1 = r219.1 then
  f_L_law_1475 F xs Ln k23 x4 r219.2 kc
  else
  none)))))), (aw_g (aw_in (x4 + 1) Ln) (aw_g (aw_in (x4 + 2) Ln) (aw_g (aw_in (x4 + 3) Ln) (aw_g (aw_in (x4 + 4) Ln) ((f_X10_alike F 0 (xs (x4 + 1).toNatClampNeg) (xs (x4 + 2).toNatClampNeg) (xs (x4 + 3).toNatClampNeg) (xs (x4 + 4).toNatClampNeg) μ).bind fun r220 =>
  aw_g (aw_in (x4 + 1) Ln) (aw_g (aw_in (x4 + 2) Ln) (aw_g (aw_in (x4 + 3) Ln) (aw_g (aw_in (x4 + 4) Ln) ((f_X11_alike F 203 (xs (x4 + 1).toNatClampNeg) (xs (x4 + 2).toNatClampNeg) (xs (x4 + 3).toNatClampNeg) (xs (x4 + 4).toNatClampNeg) r220.2).bind fun r221 =>
  (if r220.1 = r221.1 then
  f_L_law_1475 F xs Ln k23 x4 r221.2 kc
  else
  none)))))))))), ((f_X10_order F 0 μ).bind fun r222 =>
  (f_X11_order F 203 r222.2).bind fun r223 =>
  (if r222.1 = r223.1 then
  f_L_law_1475 F xs Ln k23 x4 r223.2 kc
  else
  none)), (aw_g (aw_in (x4 + 1) Ln) ((f_X10_comes F 0 (xs (x4 + 1).toNatClampNeg) μ).bind fun r224 =>
  aw_g (aw_in (x4 + 1) Ln) ((f_X11_comes F 203 (xs (x4 + 1).toNatClampNeg) r224.2).bind fun r225 =>
  (if r224.1 = r225.1 then
  f_L_law_1475 F xs Ln k23 x4 r225.2 kc
  else
  none)))), ((f_X10_slippery F 0 μ).bind fun r226 =>
  (f_X11_slippery F 203 r226.2).bind fun r227 =>
  (if r226.1 = r227.1 then
  f_L_law_1475 F xs Ln k23 x4 r227.2 kc
  else
  none)), (aw_g (aw_in (x4 + 1) Ln) ((f_X10_dry F 0 (xs (x4 + 1).toNatClampNeg) μ).bind fun r228 =>
  aw_g (aw_in (x4 + 1) Ln) ((f_X11_dry F 203 (xs (x4 + 1).toNatClampNeg) r228.2).bind fun r229 =>
  (if r228.1 = r229.1 then
  f_L_law_1475 F xs Ln k23 x4 r229.2 kc
  else
  none)))), ((f_X10_table F 0 μ).bind fun r230 =>
  (f_X11_table F 203 r230.2).bind fun r231 =>
  (if r230.1 = r231.1 then
  f_L_law_1475 F xs Ln k23 x4 r231.2 kc
  else
  none)), (aw_g (aw_in (x4 + 1) Ln) (aw_g (aw_in (x4 + 2) Ln) (aw_g (aw_in (x4 + 3) Ln) ((f_X10_against F 0 (xs (x4 + 1).toNatClampNeg) (xs (x4 + 2).toNatClampNeg) (xs (x4 + 3).toNatClampNeg) μ).bind fun r232 =>
  aw_g (aw_in (x4 + 1) Ln) (aw_g (aw_in (x4 + 2) Ln) (aw_g (aw_in (x4 + 3) Ln) ((f_X11_against F 203 (xs (x4 + 1).toNatClampNeg) (xs (x4 + 2).toNatClampNeg) (xs (x4 + 3).toNatClampNeg) r232.2).bind fun r233 =>
  (if r232.1 = r233.1 then
  f_L_law_1475 F xs Ln k23 x4 r233.2 kc
  else
  none)))))))), (aw_g (aw_in (x4 + 1) Ln) ((f_X10_reply F 0 (xs (x4 + 1).toNatClampNeg) μ).bind fun r234 =>
  aw_g (aw_in (x4 + 1) Ln) ((f_X11_reply F 203 (xs (x4 + 1).toNatClampNeg) r234.2).bind fun r235 =>
  (if r234.1 = r235.1 then
  f_L_law_1475 F xs Ln k23 x4 r235.2 kc
  else
  none)))), (aw_g (aw_in (x4 + 1) Ln) (aw_g (aw_in (x4 + 2) Ln) ((f_X10_who F 0 (xs (x4 + 1).toNatClampNeg) (xs (x4 + 2).toNatClampNeg) μ).bind fun r236 =>
  aw_g (aw_in (x4 + 1) Ln) (aw_g (aw_in (x4 + 2) Ln) ((f_X11_who F 203 (xs (x4 + 1).toNatClampNeg) (xs (x4 + 2).toNatClampNeg) r236.2).bind fun r237 =>
  (if r236.1 = r237.1 then
  f_L_law_1475 F xs Ln k23 x4 r237.2 kc
  else
  none)))))), (aw_g (aw_in (x4 + 1) Ln) (aw_g (aw_in (x4 + 2) Ln) (aw_g (aw_in (x4 + 3) Ln) ((f_X10_odds F 0 (xs (x4 + 1).toNatClampNeg) (xs (x4 + 2).toNatClampNeg) (xs (x4 + 3).toNatClampNeg) μ).bind fun r238 =>
  aw_g (aw_in (x4 + 1) Ln) (aw_g (aw_in (x4 + 2) Ln) (aw_g (aw_in (x4 + 3) Ln) ((f_X11_odds F 203 (xs (x4 + 1).toNatClampNeg) (xs (x4 + 2).toNatClampNeg) (xs (x4 + 3).toNatClampNeg) r238.2).bind fun r239 =>
  (if r238.1 = r239.1 then
  f_L_law_1475 F xs Ln k23 x4 r239.2 kc
  else
  none)))))))), ((f_X10_sentence F 0 μ).bind fun r240 =>
  (f_X11_sentence F 203 r240.2).bind fun r241 =>
  (if r240.1 = r241.1 then
  f_L_law_1475 F xs Ln k23 x4 r241.2 kc
  else
  none)), (aw_g (aw_in (x4 + 1) Ln) ((f_X10_said F 0 (xs (x4 + 1).toNatClampNeg) μ).bind fun r242 =>
  aw_g (aw_in (x4 + 1) Ln) ((f_X11_said F 203 (xs (x4 + 1).toNatClampNeg) r242.2).bind fun r243 =>
  (if r242.1 = r243.1 then
  f_L_law_1475 F xs Ln k23 x4 r243.2 kc
  else
  none)))), (aw_g (aw_in (x4 + 1) Ln) ((f_X10_image F 0 (xs (x4 + 1).toNatClampNeg) μ).bind fun r244 =>
  aw_g (aw_in (x4 + 1) Ln) ((f_X11_image F 203 (xs (x4 + 1).toNatClampNeg) r244.2).bind fun r245 =>
  (if (aw_b r244.1) = (aw_b r245.1) then
  f_L_law_1475 F xs Ln k23 x4 r245.2 kc
  else
  none)))), (aw_g (aw_in (x4 + 1) Ln) ((f_X10_restore F 0 (xs (x4 + 1).toNatClampNeg) μ).bind fun r246 =>
  aw_g (aw_in (x4 + 1) Ln) ((f_X11_restore F 203 (xs (x4 + 1).toNatClampNeg) r246.2).bind fun r247 =>
  (if (aw_b r246.1) = (aw_b r247.1) then
  f_L_law_1475 F xs Ln k23 x4 r247.2 kc
  else
  none)))), (aw_g (aw_in (x4 + 1) Ln) ((f_X10_count F 0 (xs (x4 + 1).toNatClampNeg) μ).bind fun r248 =>
  aw_g (aw_in (x4 + 1) Ln) ((f_X11_count F 203 (xs (x4 + 1).toNatClampNeg) r248.2).bind fun r249 =>
  (if r248.1 = r249.1 then
  f_L_law_1475 F xs Ln k23 x4 r249.2 kc
  else
  none))))] (f_L_law_1475 F xs Ln k23 x4 μ kc))))
theorem c_L_law_23 (l : Launch) (hfl : l.stackTraces = false) (F : Nat) (xs : Nat → Int32) (Ln b : Nat) : ∀ (N : Nat) (s : Int32 × aw_M × Nat), XW l (k_L_law, 231, 69430, 1000) lw_Tg (lw_Px b Ln xs) 23 [some (.ref 1000), some (.ref 0), some (.ref 203), some (.ref 230), some (.int s.1), none, none] [] s.2.1  s.2.2 (aw_loop (fun k s => f_L_law_23 F xs Ln k s.1 s.2.1 s.2.2) N s) := by
  refine xw_loop_okN (f := fun k s => f_L_law_23 F xs Ln k s.1 s.2.1 s.2.2) (Ls := fun s => [some (.ref 1000), some (.ref 0), some (.ref 203), some (.ref 230), some (.int s.1), none, none]) (ms := fun s => s.2.1) (kcs := fun s => s.2.2) ?_
  intro k23 hk23 s
  obtain ⟨x4, μ, kc⟩ := s
  show XW l (k_L_law, 231, 69430, 1000) lw_Tg (lw_Px b Ln xs) 23 [some (.ref 1000), some (.ref 0), some (.ref 203), some (.ref 230), some (.int x4), none, none] [] μ  kc (f_L_law_23 F xs Ln k23 x4 μ kc)
  unfold f_L_law_23
  refine xw_iload (n := 25) dL_law_23 rfl rfl ?_
  refine xw_aload_n (n := 26) dL_law_25 rfl rfl ?_
  refine xw_slen (n := 27) dL_law_26 rfl ?_
  refine xw_bipush (n := 29) 6 dL_law_27 rfl (by decide) ?_
  refine xw_isub (n := 30) dL_law_29 rfl ?_
  refine xw_icmp_gt (n := 33) 1481 dL_law_30 (by decide) rfl ?_ ?_
  · refine xw_iconst (n := 1482) 1 dL_law_1481 rfl (by decide) ?_
    exact xw_law1 dL_law_1482
  · refine xw_aload_n (n := 34) dL_law_33 rfl rfl ?_
    refine xw_iload (n := 36) dL_law_34 rfl rfl ?_
    refine xw_sld (n := 37) dL_law_36 rfl ?_
    refine xw_bipush (n := 39) 63 dL_law_37 rfl (by decide) ?_
    refine xw_iand (n := 40) dL_law_39 rfl ?_
    refine xw_tsw [216, 289, 314, 327, 340, 353, 421, 489, 557, 580, 605, 630, 667, 692, 729, 754, 803, 828, 853, 878, 915, 940, 977, 990, 1015, 1052, 1113, 1126, 1151, 1164, 1189, 1202, 1251, 1276, 1313, 1362, 1375, 1400, 1425, 1450] 1475 dL_law_40 (by decide) (by decide) (by decide) ⟨?_, ?_, ?_, ?_, ?_, ?_, ?_, ?_, ?_, ?_, ?_, ?_, ?_, ?_, ?_, ?_, ?_, ?_, ?_, ?_, ?_, ?_, ?_, ?_, ?_, ?_, ?_, ?_, ?_, ?_, ?_, ?_, ?_, ?_, ?_, ?_, ?_, ?_, ?_, ?_, trivial⟩ ?_
    · refine xw_aload_n (n := 217) dL_law_216 rfl rfl ?_
      refine xw_aload_n (n := 218) dL_law_217 rfl rfl ?_
      refine xw_iload (n := 220) dL_law_218 rfl rfl ?_
      refine xw_iconst (n := 221) 1 dL_law_220 rfl (by decide) ?_
      refine xw_iadd (n := 222) dL_law_221 rfl ?_
      refine xw_sld (n := 223) dL_law_222 rfl ?_
      refine xw_aload_n (n := 224) dL_law_223 rfl rfl ?_
      refine xw_iload (n := 226) dL_law_224 rfl rfl ?_
      refine xw_iconst (n := 227) 2 dL_law_226 rfl (by decide) ?_
      refine xw_iadd (n := 228) dL_law_227 rfl ?_
      refine xw_sld (n := 229) dL_law_228 rfl ?_
      refine xw_aload_n (n := 230) dL_law_229 rfl rfl ?_
      refine xw_iload (n := 232) dL_law_230 rfl rfl ?_
      refine xw_iconst (n := 233) 3 dL_law_232 rfl (by decide) ?_
      refine xw_iadd (n := 234) dL_law_233 rfl ?_
      refine xw_sld (n := 235) dL_law_234 rfl ?_
      refine xw_aload_n (n := 236) dL_law_235 rfl rfl ?_
      refine xw_iload (n := 238) dL_law_236 rfl rfl ?_
      refine xw_iconst (n := 239) 4 dL_law_238 rfl (by decide) ?_
      refine xw_iadd (n := 240) dL_law_239 rfl ?_
      refine xw_sld (n := 241) dL_law_240 rfl ?_
      refine xw_aload_n (n := 242) dL_law_241 rfl rfl ?_
      refine xw_iload (n := 244) dL_law_242 rfl rfl ?_
      refine xw_iconst (n := 245) 5 dL_law_244 rfl (by decide) ?_
      refine xw_iadd (n := 246) dL_law_245 rfl ?_
      refine xw_sld (n := 247) dL_law_246 rfl ?_
      refine xw_callVi (n := 250) (as := [.int (xs (x4 + 1).toNatClampNeg), .int (xs (x4 + 2).toNatClampNeg), .int (xs (x4 + 3).toNatClampNeg), .int (xs (x4 + 4).toNatClampNeg), .int (xs (x4 + 5).toNatClampNeg)]) (st := []) (RX10, TX10, 12) 10 dL_law_247 rfl rfl (m_X10_feed l F 0 rfl (xs (x4 + 1).toNatClampNeg) (xs (x4 + 2).toNatClampNeg) (xs (x4 + 3).toNatClampNeg) (xs (x4 + 4).toNatClampNeg) (xs (x4 + 5).toNatClampNeg) μ) rfl (by decide) rfl rfl cw_RL_25 ⟨Nat.le_of_ble_eq_true rfl, Nat.le_of_ble_eq_true rfl⟩ (fun _ => Nat.le_of_ble_eq_true rfl) (fun r167 => ?_)
      refine xw_aload_n (n := 251) dL_law_250 rfl rfl ?_
      refine xw_aload_n (n := 252) dL_law_251 rfl rfl ?_
      refine xw_iload (n := 254) dL_law_252 rfl rfl ?_
      refine xw_iconst (n := 255) 1 dL_law_254 rfl (by decide) ?_
      refine xw_iadd (n := 256) dL_law_255 rfl ?_
      refine xw_sld (n := 257) dL_law_256 rfl ?_
      refine xw_aload_n (n := 258) dL_law_257 rfl rfl ?_
      refine xw_iload (n := 260) dL_law_258 rfl rfl ?_
      refine xw_iconst (n := 261) 2 dL_law_260 rfl (by decide) ?_
      refine xw_iadd (n := 262) dL_law_261 rfl ?_
      refine xw_sld (n := 263) dL_law_262 rfl ?_
      refine xw_aload_n (n := 264) dL_law_263 rfl rfl ?_
      refine xw_iload (n := 266) dL_law_264 rfl rfl ?_
      refine xw_iconst (n := 267) 3 dL_law_266 rfl (by decide) ?_
      refine xw_iadd (n := 268) dL_law_267 rfl ?_
      refine xw_sld (n := 269) dL_law_268 rfl ?_
      refine xw_aload_n (n := 270) dL_law_269 rfl rfl ?_
      refine xw_iload (n := 272) dL_law_270 rfl rfl ?_
      refine xw_iconst (n := 273) 4 dL_law_272 rfl (by decide) ?_
      refine xw_iadd (n := 274) dL_law_273 rfl ?_
      refine xw_sld (n := 275) dL_law_274 rfl ?_
      refine xw_aload_n (n := 276) dL_law_275 rfl rfl ?_
      refine xw_iload (n := 278) dL_law_276 rfl rfl ?_
      refine xw_iconst (n := 279) 5 dL_law_278 rfl (by decide) ?_
      refine xw_iadd (n := 280) dL_law_279 rfl ?_
      refine xw_sld (n := 281) dL_law_280 rfl ?_
      refine xw_callVi (n := 284) (as := [.int (xs (x4 + 1).toNatClampNeg), .int (xs (x4 + 2).toNatClampNeg), .int (xs (x4 + 3).toNatClampNeg), .int (xs (x4 + 4).toNatClampNeg), .int (xs (x4 + 5).toNatClampNeg)]) (st := [.int r167.1]) (RX11, TX11, 52) 11 dL_law_281 rfl rfl (m_X11_feed l F 203 rfl (xs (x4 + 1).toNatClampNeg) (xs (x4 + 2).toNatClampNeg) (xs (x4 + 3).toNatClampNeg) (xs (x4 + 4).toNatClampNeg) (xs (x4 + 5).toNatClampNeg) r167.2) rfl (by decide) rfl rfl cw_RL_29 ⟨Nat.le_of_ble_eq_true rfl, Nat.le_of_ble_eq_true rfl⟩ (fun _ => Nat.le_of_ble_eq_true rfl) (fun r168 => ?_)
      refine xw_icmp_eq (n := 287) 1475 dL_law_284 (by decide) rfl ?_ ?_
      · exact xw_weak (c_L_law_1475 l hfl F xs Ln b k23 hk23 x4 r168.2 kc) (aw_ss (aw_ss (aw_ss (aw_ss (aw_ss (aw_sn (aw_sn aw_s0)))))))
      · refine xw_iconst (n := 288) 0 dL_law_287 rfl (by decide) ?_
        exact xw_none
    · refine xw_aload_n (n := 290) dL_law_289 rfl rfl ?_
      refine xw_aload_n (n := 291) dL_law_290 rfl rfl ?_
      refine xw_iload (n := 293) dL_law_291 rfl rfl ?_
      refine xw_iconst (n := 294) 1 dL_law_293 rfl (by decide) ?_
      refine xw_iadd (n := 295) dL_law_294 rfl ?_
      refine xw_sld (n := 296) dL_law_295 rfl ?_
      refine xw_callVz (n := 299) (as := [.int (xs (x4 + 1).toNatClampNeg)]) (st := []) (RX10, TX10, 12) 10 dL_law_296 rfl rfl (m_X10_end l F 0 rfl (xs (x4 + 1).toNatClampNeg) μ) rfl (by decide) rfl rfl cw_RL_30 ⟨Nat.le_of_ble_eq_true rfl, Nat.le_of_ble_eq_true rfl⟩ (fun _ => Nat.le_of_ble_eq_true rfl) (fun r169 => ?_)
      refine xw_aload_n (n := 300) dL_law_299 rfl rfl ?_
      refine xw_aload_n (n := 301) dL_law_300 rfl rfl ?_
      refine xw_iload (n := 303) dL_law_301 rfl rfl ?_
      refine xw_iconst (n := 304) 1 dL_law_303 rfl (by decide) ?_
      refine xw_iadd (n := 305) dL_law_304 rfl ?_
      refine xw_sld (n := 306) dL_law_305 rfl ?_
      refine xw_callVz (n := 309) (as := [.int (xs (x4 + 1).toNatClampNeg)]) (st := [.int (aw_b r169.1)]) (RX11, TX11, 52) 11 dL_law_306 rfl rfl (m_X11_end l F 203 rfl (xs (x4 + 1).toNatClampNeg) r169.2) rfl (by decide) rfl rfl cw_RL_34 ⟨Nat.le_of_ble_eq_true rfl, Nat.le_of_ble_eq_true rfl⟩ (fun _ => Nat.le_of_ble_eq_true rfl) (fun r170 => ?_)
      refine xw_icmp_eq (n := 312) 1475 dL_law_309 (by decide) rfl ?_ ?_
      · exact xw_weak (c_L_law_1475 l hfl F xs Ln b k23 hk23 x4 r170.2 kc) (aw_ss (aw_ss (aw_ss (aw_ss (aw_ss (aw_sn (aw_sn aw_s0)))))))
      · refine xw_iconst (n := 313) 0 dL_law_312 rfl (by decide) ?_
        exact xw_none
    · refine xw_aload_n (n := 315) dL_law_314 rfl rfl ?_
      refine xw_callVi (n := 318) (as := []) (st := []) (RX10, TX10, 12) 10 dL_law_315 rfl rfl (m_X10_town l F 0 rfl μ) rfl (by decide) rfl rfl cw_RL_35 ⟨Nat.le_of_ble_eq_true rfl, Nat.le_of_ble_eq_true rfl⟩ (fun _ => Nat.le_of_ble_eq_true rfl) (fun r171 => ?_)
      refine xw_aload_n (n := 319) dL_law_318 rfl rfl ?_
      refine xw_callVi (n := 322) (as := []) (st := [.int r171.1]) (RX11, TX11, 52) 11 dL_law_319 rfl rfl (m_X11_town l F 203 rfl r171.2) rfl (by decide) rfl rfl cw_RL_39 ⟨Nat.le_of_ble_eq_true rfl, Nat.le_of_ble_eq_true rfl⟩ (fun _ => Nat.le_of_ble_eq_true rfl) (fun r172 => ?_)
      refine xw_icmp_eq (n := 325) 1475 dL_law_322 (by decide) rfl ?_ ?_
      · exact xw_weak (c_L_law_1475 l hfl F xs Ln b k23 hk23 x4 r172.2 kc) (aw_ss (aw_ss (aw_ss (aw_ss (aw_ss (aw_sn (aw_sn aw_s0)))))))
      · refine xw_iconst (n := 326) 0 dL_law_325 rfl (by decide) ?_
        exact xw_none
    · refine xw_aload_n (n := 328) dL_law_327 rfl rfl ?_
      refine xw_callVi (n := 331) (as := []) (st := []) (RX10, TX10, 12) 10 dL_law_328 rfl rfl (m_X10_plans l F 0 rfl μ) rfl (by decide) rfl rfl cw_RL_40 ⟨Nat.le_of_ble_eq_true rfl, Nat.le_of_ble_eq_true rfl⟩ (fun _ => Nat.le_of_ble_eq_true rfl) (fun r173 => ?_)
      refine xw_aload_n (n := 332) dL_law_331 rfl rfl ?_
      refine xw_callVi (n := 335) (as := []) (st := [.int r173.1]) (RX11, TX11, 52) 11 dL_law_332 rfl rfl (m_X11_plans l F 203 rfl r173.2) rfl (by decide) rfl rfl cw_RL_43 ⟨Nat.le_of_ble_eq_true rfl, Nat.le_of_ble_eq_true rfl⟩ (fun _ => Nat.le_of_ble_eq_true rfl) (fun r174 => ?_)
      refine xw_icmp_eq (n := 338) 1475 dL_law_335 (by decide) rfl ?_ ?_
      · exact xw_weak (c_L_law_1475 l hfl F xs Ln b k23 hk23 x4 r174.2 kc) (aw_ss (aw_ss (aw_ss (aw_ss (aw_ss (aw_sn (aw_sn aw_s0)))))))
      · refine xw_iconst (n := 339) 0 dL_law_338 rfl (by decide) ?_
        exact xw_none
    · refine xw_aload_n (n := 341) dL_law_340 rfl rfl ?_
      refine xw_callVi (n := 344) (as := []) (st := []) (RX10, TX10, 12) 10 dL_law_341 rfl rfl (m_X10_fault l F 0 rfl μ) rfl (by decide) rfl rfl cw_RL_44 ⟨Nat.le_of_ble_eq_true rfl, Nat.le_of_ble_eq_true rfl⟩ (fun _ => Nat.le_of_ble_eq_true rfl) (fun r175 => ?_)
      refine xw_aload_n (n := 345) dL_law_344 rfl rfl ?_
      refine xw_callVi (n := 348) (as := []) (st := [.int r175.1]) (RX11, TX11, 52) 11 dL_law_345 rfl rfl (m_X11_fault l F 203 rfl r175.2) rfl (by decide) rfl rfl cw_RL_47 ⟨Nat.le_of_ble_eq_true rfl, Nat.le_of_ble_eq_true rfl⟩ (fun _ => Nat.le_of_ble_eq_true rfl) (fun r176 => ?_)
      refine xw_icmp_eq (n := 351) 1475 dL_law_348 (by decide) rfl ?_ ?_
      · exact xw_weak (c_L_law_1475 l hfl F xs Ln b k23 hk23 x4 r176.2 kc) (aw_ss (aw_ss (aw_ss (aw_ss (aw_ss (aw_sn (aw_sn aw_s0)))))))
      · refine xw_iconst (n := 352) 0 dL_law_351 rfl (by decide) ?_
        exact xw_none
    · refine xw_aload_n (n := 354) dL_law_353 rfl rfl ?_
      refine xw_aload_n (n := 355) dL_law_354 rfl rfl ?_
      refine xw_iload (n := 357) dL_law_355 rfl rfl ?_
      refine xw_iconst (n := 358) 1 dL_law_357 rfl (by decide) ?_
      refine xw_iadd (n := 359) dL_law_358 rfl ?_
      refine xw_sld (n := 360) dL_law_359 rfl ?_
      refine xw_aload_n (n := 361) dL_law_360 rfl rfl ?_
      refine xw_iload (n := 363) dL_law_361 rfl rfl ?_
      refine xw_iconst (n := 364) 2 dL_law_363 rfl (by decide) ?_
      refine xw_iadd (n := 365) dL_law_364 rfl ?_
      refine xw_sld (n := 366) dL_law_365 rfl ?_
      refine xw_aload_n (n := 367) dL_law_366 rfl rfl ?_
      refine xw_callL (n := 370) (st := []) dL_law_367 rfl (m_L_quarter l hfl F 0 230 rfl rfl (xs (x4 + 1).toNatClampNeg) (xs (x4 + 2).toNatClampNeg) μ) tb_1348 tb_0 tb_1346 tb_1347 ⟨by decide, by decide⟩ (show (parseMethodDescriptor yL_quarter.desc).map (fun d => d.parameters.length) = some 4 by decide +kernel) ⟨Nat.le_of_ble_eq_true rfl, Nat.le_of_ble_eq_true rfl⟩ (fun _ => Nat.le_of_ble_eq_true rfl) rfl (fun r177 => ?_)
      refine xw_istore (n := 372) [some (.ref 1000), some (.ref 0), some (.ref 203), some (.ref 230), some (.int x4), some (.int r177.1), none] dL_law_370 rfl rfl (Nat.le_of_ble_eq_true rfl) (Nat.le_of_ble_eq_true rfl) rfl ?_
      refine xw_aload_n (n := 373) dL_law_372 rfl rfl ?_
      refine xw_aload_n (n := 374) dL_law_373 rfl rfl ?_
      refine xw_iload (n := 376) dL_law_374 rfl rfl ?_
      refine xw_iconst (n := 377) 1 dL_law_376 rfl (by decide) ?_
      refine xw_iadd (n := 378) dL_law_377 rfl ?_
      refine xw_sld (n := 379) dL_law_378 rfl ?_
      refine xw_aload_n (n := 380) dL_law_379 rfl rfl ?_
      refine xw_iload (n := 382) dL_law_380 rfl rfl ?_
      refine xw_iconst (n := 383) 2 dL_law_382 rfl (by decide) ?_
      refine xw_iadd (n := 384) dL_law_383 rfl ?_
      refine xw_sld (n := 385) dL_law_384 rfl ?_
      refine xw_callVi (n := 388) (as := [.int (xs (x4 + 1).toNatClampNeg), .int (xs (x4 + 2).toNatClampNeg)]) (st := []) (RX11, TX11, 52) 11 dL_law_385 rfl rfl (m_X11_quarter l F 203 rfl (xs (x4 + 1).toNatClampNeg) (xs (x4 + 2).toNatClampNeg) r177.2) rfl (by decide) rfl rfl cw_RL_53 ⟨Nat.le_of_ble_eq_true rfl, Nat.le_of_ble_eq_true rfl⟩ (fun _ => Nat.le_of_ble_eq_true rfl) (fun r178 => ?_)
      refine xw_istore (n := 390) [some (.ref 1000), some (.ref 0), some (.ref 203), some (.ref 230), some (.int x4), some (.int r177.1), some (.int r178.1)] dL_law_388 rfl rfl (Nat.le_of_ble_eq_true rfl) (Nat.le_of_ble_eq_true rfl) rfl ?_
      refine xw_aload_n (n := 391) dL_law_390 rfl rfl ?_
      refine xw_callVi (n := 394) (as := []) (st := []) (RX11, TX11, 52) 11 dL_law_391 rfl rfl (m_X11_thrown l F 203 rfl r178.2) rfl (by decide) rfl rfl cw_RL_54 ⟨Nat.le_of_ble_eq_true rfl, Nat.le_of_ble_eq_true rfl⟩ (fun _ => Nat.le_of_ble_eq_true rfl) (fun r179 => ?_)
      refine xw_iload (n := 396) dL_law_394 rfl rfl ?_
      refine xw_icmp_eq (n := 399) 401 dL_law_396 (by decide) rfl ?_ ?_
      · refine xw_iload (n := 403) dL_law_401 rfl rfl ?_
        refine xw_if_ne (n := 406) 418 dL_law_403 (by decide) rfl ?_ ?_
        · exact xw_weak (c_L_law_418 l hfl F xs Ln b k23 hk23 x4 r179.2 (kc + 1)) (aw_ss (aw_ss (aw_ss (aw_ss (aw_ss (aw_sn (aw_sn aw_s0)))))))
        · refine xw_aload_n (n := 407) dL_law_406 rfl rfl ?_
          refine xw_iconst (n := 408) 0 dL_law_407 rfl (by decide) ?_
          refine xw_laload (n := 409) 1 dL_law_408 rfl rfl ?_
          refine xw_iload (n := 411) dL_law_409 rfl rfl ?_
          refine xw_i2l (n := 412) dL_law_411 rfl ?_
          refine xw_lcmp (n := 413) dL_law_412 rfl ?_
          refine xw_if_eq (n := 416) 418 dL_law_413 (by decide) rfl ?_ ?_
          · exact xw_weak (c_L_law_418 l hfl F xs Ln b k23 hk23 x4 r179.2 (kc + 1)) (aw_ss (aw_ss (aw_ss (aw_ss (aw_ss (aw_sn (aw_sn aw_s0)))))))
          · refine xw_iconst (n := 417) 0 dL_law_416 rfl (by decide) ?_
            exact xw_none
      · refine xw_iconst (n := 400) 0 dL_law_399 rfl (by decide) ?_
        exact xw_none
    · refine xw_aload_n (n := 422) dL_law_421 rfl rfl ?_
      refine xw_aload_n (n := 423) dL_law_422 rfl rfl ?_
      refine xw_iload (n := 425) dL_law_423 rfl rfl ?_
      refine xw_iconst (n := 426) 1 dL_law_425 rfl (by decide) ?_
      refine xw_iadd (n := 427) dL_law_426 rfl ?_
      refine xw_sld (n := 428) dL_law_427 rfl ?_
      refine xw_aload_n (n := 429) dL_law_428 rfl rfl ?_
      refine xw_iload (n := 431) dL_law_429 rfl rfl ?_
      refine xw_iconst (n := 432) 2 dL_law_431 rfl (by decide) ?_
      refine xw_iadd (n := 433) dL_law_432 rfl ?_
      refine xw_sld (n := 434) dL_law_433 rfl ?_
      refine xw_aload_n (n := 435) dL_law_434 rfl rfl ?_
      refine xw_callL (n := 438) (st := []) dL_law_435 rfl (m_L_cart l hfl F 0 230 rfl rfl (xs (x4 + 1).toNatClampNeg) (xs (x4 + 2).toNatClampNeg) μ) tb_1425 tb_0 tb_1423 tb_1424 ⟨by decide, by decide⟩ (show (parseMethodDescriptor yL_cart.desc).map (fun d => d.parameters.length) = some 4 by decide +kernel) ⟨Nat.le_of_ble_eq_true rfl, Nat.le_of_ble_eq_true rfl⟩ (fun _ => Nat.le_of_ble_eq_true rfl) rfl (fun r180 => ?_)
      refine xw_istore (n := 440) [some (.ref 1000), some (.ref 0), some (.ref 203), some (.ref 230), some (.int x4), some (.int r180.1), none] dL_law_438 rfl rfl (Nat.le_of_ble_eq_true rfl) (Nat.le_of_ble_eq_true rfl) rfl ?_
      refine xw_aload_n (n := 441) dL_law_440 rfl rfl ?_
      refine xw_aload_n (n := 442) dL_law_441 rfl rfl ?_
      refine xw_iload (n := 444) dL_law_442 rfl rfl ?_
      refine xw_iconst (n := 445) 1 dL_law_444 rfl (by decide) ?_
      refine xw_iadd (n := 446) dL_law_445 rfl ?_
      refine xw_sld (n := 447) dL_law_446 rfl ?_
      refine xw_aload_n (n := 448) dL_law_447 rfl rfl ?_
      refine xw_iload (n := 450) dL_law_448 rfl rfl ?_
      refine xw_iconst (n := 451) 2 dL_law_450 rfl (by decide) ?_
      refine xw_iadd (n := 452) dL_law_451 rfl ?_
      refine xw_sld (n := 453) dL_law_452 rfl ?_
      refine xw_callVi (n := 456) (as := [.int (xs (x4 + 1).toNatClampNeg), .int (xs (x4 + 2).toNatClampNeg)]) (st := []) (RX11, TX11, 52) 11 dL_law_453 rfl rfl (m_X11_cart l F 203 rfl (xs (x4 + 1).toNatClampNeg) (xs (x4 + 2).toNatClampNeg) r180.2) rfl (by decide) rfl rfl cw_RL_59 ⟨Nat.le_of_ble_eq_true rfl, Nat.le_of_ble_eq_true rfl⟩ (fun _ => Nat.le_of_ble_eq_true rfl) (fun r181 => ?_)
      refine xw_istore (n := 458) [some (.ref 1000), some (.ref 0), some (.ref 203), some (.ref 230), some (.int x4), some (.int r180.1), some (.int r181.1)] dL_law_456 rfl rfl (Nat.le_of_ble_eq_true rfl) (Nat.le_of_ble_eq_true rfl) rfl ?_
      refine xw_aload_n (n := 459) dL_law_458 rfl rfl ?_
      refine xw_callVi (n := 462) (as := []) (st := []) (RX11, TX11, 52) 11 dL_law_459 rfl rfl (m_X11_thrown l F 203 rfl r181.2) rfl (by decide) rfl rfl cw_RL_54 ⟨Nat.le_of_ble_eq_true rfl, Nat.le_of_ble_eq_true rfl⟩ (fun _ => Nat.le_of_ble_eq_true rfl) (fun r182 => ?_)
      refine xw_iload (n := 464) dL_law_462 rfl rfl ?_
      refine xw_icmp_eq (n := 467) 469 dL_law_464 (by decide) rfl ?_ ?_
      · refine xw_iload (n := 471) dL_law_469 rfl rfl ?_
        refine xw_if_ne (n := 474) 486 dL_law_471 (by decide) rfl ?_ ?_
        · exact xw_weak (c_L_law_486 l hfl F xs Ln b k23 hk23 x4 r182.2 (kc + 1)) (aw_ss (aw_ss (aw_ss (aw_ss (aw_ss (aw_sn (aw_sn aw_s0)))))))
        · refine xw_aload_n (n := 475) dL_law_474 rfl rfl ?_
          refine xw_iconst (n := 476) 0 dL_law_475 rfl (by decide) ?_
          refine xw_laload (n := 477) 1 dL_law_476 rfl rfl ?_
          refine xw_iload (n := 479) dL_law_477 rfl rfl ?_
          refine xw_i2l (n := 480) dL_law_479 rfl ?_
          refine xw_lcmp (n := 481) dL_law_480 rfl ?_
          refine xw_if_eq (n := 484) 486 dL_law_481 (by decide) rfl ?_ ?_
          · exact xw_weak (c_L_law_486 l hfl F xs Ln b k23 hk23 x4 r182.2 (kc + 1)) (aw_ss (aw_ss (aw_ss (aw_ss (aw_ss (aw_sn (aw_sn aw_s0)))))))
          · refine xw_iconst (n := 485) 0 dL_law_484 rfl (by decide) ?_
            exact xw_none
      · refine xw_iconst (n := 468) 0 dL_law_467 rfl (by decide) ?_
        exact xw_none
    · refine xw_aload_n (n := 490) dL_law_489 rfl rfl ?_
      refine xw_aload_n (n := 491) dL_law_490 rfl rfl ?_
      refine xw_iload (n := 493) dL_law_491 rfl rfl ?_
      refine xw_iconst (n := 494) 1 dL_law_493 rfl (by decide) ?_
      refine xw_iadd (n := 495) dL_law_494 rfl ?_
      refine xw_sld (n := 496) dL_law_495 rfl ?_
      refine xw_aload_n (n := 497) dL_law_496 rfl rfl ?_
      refine xw_iload (n := 499) dL_law_497 rfl rfl ?_
      refine xw_iconst (n := 500) 2 dL_law_499 rfl (by decide) ?_
      refine xw_iadd (n := 501) dL_law_500 rfl ?_
      refine xw_sld (n := 502) dL_law_501 rfl ?_
      refine xw_aload_n (n := 503) dL_law_502 rfl rfl ?_
      refine xw_callL (n := 506) (st := []) dL_law_503 rfl (m_L_cell l hfl F 0 230 rfl rfl (xs (x4 + 1).toNatClampNeg) (xs (x4 + 2).toNatClampNeg) μ) tb_1433 tb_0 tb_1431 tb_1432 ⟨by decide, by decide⟩ (show (parseMethodDescriptor yL_cell.desc).map (fun d => d.parameters.length) = some 4 by decide +kernel) ⟨Nat.le_of_ble_eq_true rfl, Nat.le_of_ble_eq_true rfl⟩ (fun _ => Nat.le_of_ble_eq_true rfl) rfl (fun r183 => ?_)
      refine xw_istore (n := 508) [some (.ref 1000), some (.ref 0), some (.ref 203), some (.ref 230), some (.int x4), some (.int r183.1), none] dL_law_506 rfl rfl (Nat.le_of_ble_eq_true rfl) (Nat.le_of_ble_eq_true rfl) rfl ?_
      refine xw_aload_n (n := 509) dL_law_508 rfl rfl ?_
      refine xw_aload_n (n := 510) dL_law_509 rfl rfl ?_
      refine xw_iload (n := 512) dL_law_510 rfl rfl ?_
      refine xw_iconst (n := 513) 1 dL_law_512 rfl (by decide) ?_
      refine xw_iadd (n := 514) dL_law_513 rfl ?_
      refine xw_sld (n := 515) dL_law_514 rfl ?_
      refine xw_aload_n (n := 516) dL_law_515 rfl rfl ?_
      refine xw_iload (n := 518) dL_law_516 rfl rfl ?_
      refine xw_iconst (n := 519) 2 dL_law_518 rfl (by decide) ?_
      refine xw_iadd (n := 520) dL_law_519 rfl ?_
      refine xw_sld (n := 521) dL_law_520 rfl ?_
      refine xw_callVi (n := 524) (as := [.int (xs (x4 + 1).toNatClampNeg), .int (xs (x4 + 2).toNatClampNeg)]) (st := []) (RX11, TX11, 52) 11 dL_law_521 rfl rfl (m_X11_cell l F 203 rfl (xs (x4 + 1).toNatClampNeg) (xs (x4 + 2).toNatClampNeg) r183.2) rfl (by decide) rfl rfl cw_RL_62 ⟨Nat.le_of_ble_eq_true rfl, Nat.le_of_ble_eq_true rfl⟩ (fun _ => Nat.le_of_ble_eq_true rfl) (fun r184 => ?_)
      refine xw_istore (n := 526) [some (.ref 1000), some (.ref 0), some (.ref 203), some (.ref 230), some (.int x4), some (.int r183.1), some (.int r184.1)] dL_law_524 rfl rfl (Nat.le_of_ble_eq_true rfl) (Nat.le_of_ble_eq_true rfl) rfl ?_
      refine xw_aload_n (n := 527) dL_law_526 rfl rfl ?_
      refine xw_callVi (n := 530) (as := []) (st := []) (RX11, TX11, 52) 11 dL_law_527 rfl rfl (m_X11_thrown l F 203 rfl r184.2) rfl (by decide) rfl rfl cw_RL_54 ⟨Nat.le_of_ble_eq_true rfl, Nat.le_of_ble_eq_true rfl⟩ (fun _ => Nat.le_of_ble_eq_true rfl) (fun r185 => ?_)
      refine xw_iload (n := 532) dL_law_530 rfl rfl ?_
      refine xw_icmp_eq (n := 535) 537 dL_law_532 (by decide) rfl ?_ ?_
      · refine xw_iload (n := 539) dL_law_537 rfl rfl ?_
        refine xw_if_ne (n := 542) 554 dL_law_539 (by decide) rfl ?_ ?_
        · exact xw_weak (c_L_law_554 l hfl F xs Ln b k23 hk23 x4 r185.2 (kc + 1)) (aw_ss (aw_ss (aw_ss (aw_ss (aw_ss (aw_sn (aw_sn aw_s0)))))))
        · refine xw_aload_n (n := 543) dL_law_542 rfl rfl ?_
          refine xw_iconst (n := 544) 0 dL_law_543 rfl (by decide) ?_
          refine xw_laload (n := 545) 1 dL_law_544 rfl rfl ?_
          refine xw_iload (n := 547) dL_law_545 rfl rfl ?_
          refine xw_i2l (n := 548) dL_law_547 rfl ?_
          refine xw_lcmp (n := 549) dL_law_548 rfl ?_
          refine xw_if_eq (n := 552) 554 dL_law_549 (by decide) rfl ?_ ?_
          · exact xw_weak (c_L_law_554 l hfl F xs Ln b k23 hk23 x4 r185.2 (kc + 1)) (aw_ss (aw_ss (aw_ss (aw_ss (aw_ss (aw_sn (aw_sn aw_s0)))))))
          · refine xw_iconst (n := 553) 0 dL_law_552 rfl (by decide) ?_
            exact xw_none
      · refine xw_iconst (n := 536) 0 dL_law_535 rfl (by decide) ?_
        exact xw_none
    · refine xw_aload_n (n := 558) dL_law_557 rfl rfl ?_
      refine xw_aload_n (n := 559) dL_law_558 rfl rfl ?_
      refine xw_iload (n := 561) dL_law_559 rfl rfl ?_
      refine xw_iconst (n := 562) 1 dL_law_561 rfl (by decide) ?_
      refine xw_iadd (n := 563) dL_law_562 rfl ?_
      refine xw_sld (n := 564) dL_law_563 rfl ?_
      refine xw_callVv (n := 567) (as := [.int (xs (x4 + 1).toNatClampNeg)]) (st := []) (RX10, TX10, 12) 10 dL_law_564 rfl rfl (m_X10_begin l F 0 rfl (xs (x4 + 1).toNatClampNeg) μ) rfl (by decide) rfl rfl cw_RL_63 ⟨Nat.le_of_ble_eq_true rfl, Nat.le_of_ble_eq_true rfl⟩ (fun _ => Nat.le_of_ble_eq_true rfl) (fun r186 => ?_)
      refine xw_aload_n (n := 568) dL_law_567 rfl rfl ?_
      refine xw_aload_n (n := 569) dL_law_568 rfl rfl ?_
      refine xw_iload (n := 571) dL_law_569 rfl rfl ?_
      refine xw_iconst (n := 572) 1 dL_law_571 rfl (by decide) ?_
      refine xw_iadd (n := 573) dL_law_572 rfl ?_
      refine xw_sld (n := 574) dL_law_573 rfl ?_
      refine xw_callVv (n := 577) (as := [.int (xs (x4 + 1).toNatClampNeg)]) (st := []) (RX11, TX11, 52) 11 dL_law_574 rfl rfl (m_X11_begin l F 203 rfl (xs (x4 + 1).toNatClampNeg) r186) rfl (by decide) rfl rfl cw_RL_67 ⟨Nat.le_of_ble_eq_true rfl, Nat.le_of_ble_eq_true rfl⟩ (fun _ => Nat.le_of_ble_eq_true rfl) (fun r187 => ?_)
      refine xw_goto 1475 dL_law_577 (by decide) ?_
      exact xw_weak (c_L_law_1475 l hfl F xs Ln b k23 hk23 x4 r187 kc) (aw_ss (aw_ss (aw_ss (aw_ss (aw_ss (aw_sn (aw_sn aw_s0)))))))
    · refine xw_aload_n (n := 581) dL_law_580 rfl rfl ?_
      refine xw_aload_n (n := 582) dL_law_581 rfl rfl ?_
      refine xw_iload (n := 584) dL_law_582 rfl rfl ?_
      refine xw_iconst (n := 585) 1 dL_law_584 rfl (by decide) ?_
      refine xw_iadd (n := 586) dL_law_585 rfl ?_
      refine xw_sld (n := 587) dL_law_586 rfl ?_
      refine xw_callVi (n := 590) (as := [.int (xs (x4 + 1).toNatClampNeg)]) (st := []) (RX10, TX10, 12) 10 dL_law_587 rfl rfl (m_X10_on l F 0 rfl (xs (x4 + 1).toNatClampNeg) μ) rfl (by decide) rfl rfl cw_RL_68 ⟨Nat.le_of_ble_eq_true rfl, Nat.le_of_ble_eq_true rfl⟩ (fun _ => Nat.le_of_ble_eq_true rfl) (fun r188 => ?_)
      refine xw_aload_n (n := 591) dL_law_590 rfl rfl ?_
      refine xw_aload_n (n := 592) dL_law_591 rfl rfl ?_
      refine xw_iload (n := 594) dL_law_592 rfl rfl ?_
      refine xw_iconst (n := 595) 1 dL_law_594 rfl (by decide) ?_
      refine xw_iadd (n := 596) dL_law_595 rfl ?_
      refine xw_sld (n := 597) dL_law_596 rfl ?_
      refine xw_callVi (n := 600) (as := [.int (xs (x4 + 1).toNatClampNeg)]) (st := [.int r188.1]) (RX11, TX11, 52) 11 dL_law_597 rfl rfl (m_X11_on l F 203 rfl (xs (x4 + 1).toNatClampNeg) r188.2) rfl (by decide) rfl rfl cw_RL_72 ⟨Nat.le_of_ble_eq_true rfl, Nat.le_of_ble_eq_true rfl⟩ (fun _ => Nat.le_of_ble_eq_true rfl) (fun r189 => ?_)
      refine xw_icmp_eq (n := 603) 1475 dL_law_600 (by decide) rfl ?_ ?_
      · exact xw_weak (c_L_law_1475 l hfl F xs Ln b k23 hk23 x4 r189.2 kc) (aw_ss (aw_ss (aw_ss (aw_ss (aw_ss (aw_sn (aw_sn aw_s0)))))))
      · refine xw_iconst (n := 604) 0 dL_law_603 rfl (by decide) ?_
        exact xw_none
    · refine xw_aload_n (n := 606) dL_law_605 rfl rfl ?_
      refine xw_aload_n (n := 607) dL_law_606 rfl rfl ?_
      refine xw_iload (n := 609) dL_law_607 rfl rfl ?_
      refine xw_iconst (n := 610) 1 dL_law_609 rfl (by decide) ?_
      refine xw_iadd (n := 611) dL_law_610 rfl ?_
      refine xw_sld (n := 612) dL_law_611 rfl ?_
      refine xw_callVi (n := 615) (as := [.int (xs (x4 + 1).toNatClampNeg)]) (st := []) (RX10, TX10, 12) 10 dL_law_612 rfl rfl (m_X10_now l F 0 rfl (xs (x4 + 1).toNatClampNeg) μ) rfl (by decide) rfl rfl cw_RL_73 ⟨Nat.le_of_ble_eq_true rfl, Nat.le_of_ble_eq_true rfl⟩ (fun _ => Nat.le_of_ble_eq_true rfl) (fun r190 => ?_)
      refine xw_aload_n (n := 616) dL_law_615 rfl rfl ?_
      refine xw_aload_n (n := 617) dL_law_616 rfl rfl ?_
      refine xw_iload (n := 619) dL_law_617 rfl rfl ?_
      refine xw_iconst (n := 620) 1 dL_law_619 rfl (by decide) ?_
      refine xw_iadd (n := 621) dL_law_620 rfl ?_
      refine xw_sld (n := 622) dL_law_621 rfl ?_
      refine xw_callVi (n := 625) (as := [.int (xs (x4 + 1).toNatClampNeg)]) (st := [.int r190.1]) (RX11, TX11, 52) 11 dL_law_622 rfl rfl (m_X11_now l F 203 rfl (xs (x4 + 1).toNatClampNeg) r190.2) rfl (by decide) rfl rfl cw_RL_76 ⟨Nat.le_of_ble_eq_true rfl, Nat.le_of_ble_eq_true rfl⟩ (fun _ => Nat.le_of_ble_eq_true rfl) (fun r191 => ?_)
      refine xw_icmp_eq (n := 628) 1475 dL_law_625 (by decide) rfl ?_ ?_
      · exact xw_weak (c_L_law_1475 l hfl F xs Ln b k23 hk23 x4 r191.2 kc) (aw_ss (aw_ss (aw_ss (aw_ss (aw_ss (aw_sn (aw_sn aw_s0)))))))
      · refine xw_iconst (n := 629) 0 dL_law_628 rfl (by decide) ?_
        exact xw_none
    · refine xw_aload_n (n := 631) dL_law_630 rfl rfl ?_
      refine xw_aload_n (n := 632) dL_law_631 rfl rfl ?_
      refine xw_iload (n := 634) dL_law_632 rfl rfl ?_
      refine xw_iconst (n := 635) 1 dL_law_634 rfl (by decide) ?_
      refine xw_iadd (n := 636) dL_law_635 rfl ?_
      refine xw_sld (n := 637) dL_law_636 rfl ?_
      refine xw_aload_n (n := 638) dL_law_637 rfl rfl ?_
      refine xw_iload (n := 640) dL_law_638 rfl rfl ?_
      refine xw_iconst (n := 641) 2 dL_law_640 rfl (by decide) ?_
      refine xw_iadd (n := 642) dL_law_641 rfl ?_
      refine xw_sld (n := 643) dL_law_642 rfl ?_
      refine xw_callVi (n := 646) (as := [.int (xs (x4 + 1).toNatClampNeg), .int (xs (x4 + 2).toNatClampNeg)]) (st := []) (RX10, TX10, 12) 10 dL_law_643 rfl rfl (m_X10_thrown l F 0 rfl (xs (x4 + 1).toNatClampNeg) (xs (x4 + 2).toNatClampNeg) μ) rfl (by decide) rfl rfl cw_RL_77 ⟨Nat.le_of_ble_eq_true rfl, Nat.le_of_ble_eq_true rfl⟩ (fun _ => Nat.le_of_ble_eq_true rfl) (fun r192 => ?_)
      refine xw_aload_n (n := 647) dL_law_646 rfl rfl ?_
      refine xw_aload_n (n := 648) dL_law_647 rfl rfl ?_
      refine xw_iload (n := 650) dL_law_648 rfl rfl ?_
      refine xw_iconst (n := 651) 1 dL_law_650 rfl (by decide) ?_
      refine xw_iadd (n := 652) dL_law_651 rfl ?_
      refine xw_sld (n := 653) dL_law_652 rfl ?_
      refine xw_aload_n (n := 654) dL_law_653 rfl rfl ?_
      refine xw_iload (n := 656) dL_law_654 rfl rfl ?_
      refine xw_iconst (n := 657) 2 dL_law_656 rfl (by decide) ?_
      refine xw_iadd (n := 658) dL_law_657 rfl ?_
      refine xw_sld (n := 659) dL_law_658 rfl ?_
      refine xw_callVi (n := 662) (as := [.int (xs (x4 + 1).toNatClampNeg), .int (xs (x4 + 2).toNatClampNeg)]) (st := [.int r192.1]) (RX11, TX11, 52) 11 dL_law_659 rfl rfl (m_X11_thrown_ l F 203 rfl (xs (x4 + 1).toNatClampNeg) (xs (x4 + 2).toNatClampNeg) r192.2) rfl (by decide) rfl rfl cw_RL_79 ⟨Nat.le_of_ble_eq_true rfl, Nat.le_of_ble_eq_true rfl⟩ (fun _ => Nat.le_of_ble_eq_true rfl) (fun r193 => ?_)
      refine xw_icmp_eq (n := 665) 1475 dL_law_662 (by decide) rfl ?_ ?_
      · exact xw_weak (c_L_law_1475 l hfl F xs Ln b k23 hk23 x4 r193.2 kc) (aw_ss (aw_ss (aw_ss (aw_ss (aw_ss (aw_sn (aw_sn aw_s0)))))))
      · refine xw_iconst (n := 666) 0 dL_law_665 rfl (by decide) ?_
        exact xw_none
    · refine xw_aload_n (n := 668) dL_law_667 rfl rfl ?_
      refine xw_aload_n (n := 669) dL_law_668 rfl rfl ?_
      refine xw_iload (n := 671) dL_law_669 rfl rfl ?_
      refine xw_iconst (n := 672) 1 dL_law_671 rfl (by decide) ?_
      refine xw_iadd (n := 673) dL_law_672 rfl ?_
      refine xw_sld (n := 674) dL_law_673 rfl ?_
      refine xw_callVz (n := 677) (as := [.int (xs (x4 + 1).toNatClampNeg)]) (st := []) (RX10, TX10, 12) 10 dL_law_674 rfl rfl (m_X10_sand l F 0 rfl (xs (x4 + 1).toNatClampNeg) μ) rfl (by decide) rfl rfl cw_RL_80 ⟨Nat.le_of_ble_eq_true rfl, Nat.le_of_ble_eq_true rfl⟩ (fun _ => Nat.le_of_ble_eq_true rfl) (fun r194 => ?_)
      refine xw_aload_n (n := 678) dL_law_677 rfl rfl ?_
      refine xw_aload_n (n := 679) dL_law_678 rfl rfl ?_
      refine xw_iload (n := 681) dL_law_679 rfl rfl ?_
      refine xw_iconst (n := 682) 1 dL_law_681 rfl (by decide) ?_
      refine xw_iadd (n := 683) dL_law_682 rfl ?_
      refine xw_sld (n := 684) dL_law_683 rfl ?_
      refine xw_callVz (n := 687) (as := [.int (xs (x4 + 1).toNatClampNeg)]) (st := [.int (aw_b r194.1)]) (RX11, TX11, 52) 11 dL_law_684 rfl rfl (m_X11_sand l F 203 rfl (xs (x4 + 1).toNatClampNeg) r194.2) rfl (by decide) rfl rfl cw_RL_83 ⟨Nat.le_of_ble_eq_true rfl, Nat.le_of_ble_eq_true rfl⟩ (fun _ => Nat.le_of_ble_eq_true rfl) (fun r195 => ?_)
      refine xw_icmp_eq (n := 690) 1475 dL_law_687 (by decide) rfl ?_ ?_
      · exact xw_weak (c_L_law_1475 l hfl F xs Ln b k23 hk23 x4 r195.2 kc) (aw_ss (aw_ss (aw_ss (aw_ss (aw_ss (aw_sn (aw_sn aw_s0)))))))
      · refine xw_iconst (n := 691) 0 dL_law_690 rfl (by decide) ?_
        exact xw_none
    · refine xw_aload_n (n := 693) dL_law_692 rfl rfl ?_
      refine xw_aload_n (n := 694) dL_law_693 rfl rfl ?_
      refine xw_iload (n := 696) dL_law_694 rfl rfl ?_
      refine xw_iconst (n := 697) 1 dL_law_696 rfl (by decide) ?_
      refine xw_iadd (n := 698) dL_law_697 rfl ?_
      refine xw_sld (n := 699) dL_law_698 rfl ?_
      refine xw_aload_n (n := 700) dL_law_699 rfl rfl ?_
      refine xw_iload (n := 702) dL_law_700 rfl rfl ?_
      refine xw_iconst (n := 703) 2 dL_law_702 rfl (by decide) ?_
      refine xw_iadd (n := 704) dL_law_703 rfl ?_
      refine xw_sld (n := 705) dL_law_704 rfl ?_
      refine xw_callVi (n := 708) (as := [.int (xs (x4 + 1).toNatClampNeg), .int (xs (x4 + 2).toNatClampNeg)]) (st := []) (RX10, TX10, 12) 10 dL_law_705 rfl rfl (m_X10_aims l F 0 rfl (xs (x4 + 1).toNatClampNeg) (xs (x4 + 2).toNatClampNeg) μ) rfl (by decide) rfl rfl cw_RL_84 ⟨Nat.le_of_ble_eq_true rfl, Nat.le_of_ble_eq_true rfl⟩ (fun _ => Nat.le_of_ble_eq_true rfl) (fun r196 => ?_)
      refine xw_aload_n (n := 709) dL_law_708 rfl rfl ?_
      refine xw_aload_n (n := 710) dL_law_709 rfl rfl ?_
      refine xw_iload (n := 712) dL_law_710 rfl rfl ?_
      refine xw_iconst (n := 713) 1 dL_law_712 rfl (by decide) ?_
      refine xw_iadd (n := 714) dL_law_713 rfl ?_
      refine xw_sld (n := 715) dL_law_714 rfl ?_
      refine xw_aload_n (n := 716) dL_law_715 rfl rfl ?_
      refine xw_iload (n := 718) dL_law_716 rfl rfl ?_
      refine xw_iconst (n := 719) 2 dL_law_718 rfl (by decide) ?_
      refine xw_iadd (n := 720) dL_law_719 rfl ?_
      refine xw_sld (n := 721) dL_law_720 rfl ?_
      refine xw_callVi (n := 724) (as := [.int (xs (x4 + 1).toNatClampNeg), .int (xs (x4 + 2).toNatClampNeg)]) (st := [.int r196.1]) (RX11, TX11, 52) 11 dL_law_721 rfl rfl (m_X11_aims l F 203 rfl (xs (x4 + 1).toNatClampNeg) (xs (x4 + 2).toNatClampNeg) r196.2) rfl (by decide) rfl rfl cw_RL_87 ⟨Nat.le_of_ble_eq_true rfl, Nat.le_of_ble_eq_true rfl⟩ (fun _ => Nat.le_of_ble_eq_true rfl) (fun r197 => ?_)
      refine xw_icmp_eq (n := 727) 1475 dL_law_724 (by decide) rfl ?_ ?_
      · exact xw_weak (c_L_law_1475 l hfl F xs Ln b k23 hk23 x4 r197.2 kc) (aw_ss (aw_ss (aw_ss (aw_ss (aw_ss (aw_sn (aw_sn aw_s0)))))))
      · refine xw_iconst (n := 728) 0 dL_law_727 rfl (by decide) ?_
        exact xw_none
    · refine xw_aload_n (n := 730) dL_law_729 rfl rfl ?_
      refine xw_aload_n (n := 731) dL_law_730 rfl rfl ?_
      refine xw_iload (n := 733) dL_law_731 rfl rfl ?_
      refine xw_iconst (n := 734) 1 dL_law_733 rfl (by decide) ?_
      refine xw_iadd (n := 735) dL_law_734 rfl ?_
      refine xw_sld (n := 736) dL_law_735 rfl ?_
      refine xw_callVi (n := 739) (as := [.int (xs (x4 + 1).toNatClampNeg)]) (st := []) (RX10, TX10, 12) 10 dL_law_736 rfl rfl (m_X10_sure l F 0 rfl (xs (x4 + 1).toNatClampNeg) μ) rfl (by decide) rfl rfl cw_RL_88 ⟨Nat.le_of_ble_eq_true rfl, Nat.le_of_ble_eq_true rfl⟩ (fun _ => Nat.le_of_ble_eq_true rfl) (fun r198 => ?_)
      refine xw_aload_n (n := 740) dL_law_739 rfl rfl ?_
      refine xw_aload_n (n := 741) dL_law_740 rfl rfl ?_
      refine xw_iload (n := 743) dL_law_741 rfl rfl ?_
      refine xw_iconst (n := 744) 1 dL_law_743 rfl (by decide) ?_
      refine xw_iadd (n := 745) dL_law_744 rfl ?_
      refine xw_sld (n := 746) dL_law_745 rfl ?_
      refine xw_callVi (n := 749) (as := [.int (xs (x4 + 1).toNatClampNeg)]) (st := [.int r198.1]) (RX11, TX11, 52) 11 dL_law_746 rfl rfl (m_X11_sure l F 203 rfl (xs (x4 + 1).toNatClampNeg) r198.2) rfl (by decide) rfl rfl cw_RL_91 ⟨Nat.le_of_ble_eq_true rfl, Nat.le_of_ble_eq_true rfl⟩ (fun _ => Nat.le_of_ble_eq_true rfl) (fun r199 => ?_)
      refine xw_icmp_eq (n := 752) 1475 dL_law_749 (by decide) rfl ?_ ?_
      · exact xw_weak (c_L_law_1475 l hfl F xs Ln b k23 hk23 x4 r199.2 kc) (aw_ss (aw_ss (aw_ss (aw_ss (aw_ss (aw_sn (aw_sn aw_s0)))))))
      · refine xw_iconst (n := 753) 0 dL_law_752 rfl (by decide) ?_
        exact xw_none
    · refine xw_aload_n (n := 755) dL_law_754 rfl rfl ?_
      refine xw_aload_n (n := 756) dL_law_755 rfl rfl ?_
      refine xw_iload (n := 758) dL_law_756 rfl rfl ?_
      refine xw_iconst (n := 759) 1 dL_law_758 rfl (by decide) ?_
      refine xw_iadd (n := 760) dL_law_759 rfl ?_
      refine xw_sld (n := 761) dL_law_760 rfl ?_
      refine xw_aload_n (n := 762) dL_law_761 rfl rfl ?_
      refine xw_iload (n := 764) dL_law_762 rfl rfl ?_
      refine xw_iconst (n := 765) 2 dL_law_764 rfl (by decide) ?_
      refine xw_iadd (n := 766) dL_law_765 rfl ?_
      refine xw_sld (n := 767) dL_law_766 rfl ?_
      refine xw_aload_n (n := 768) dL_law_767 rfl rfl ?_
      refine xw_iload (n := 770) dL_law_768 rfl rfl ?_
      refine xw_iconst (n := 771) 3 dL_law_770 rfl (by decide) ?_
      refine xw_iadd (n := 772) dL_law_771 rfl ?_
      refine xw_sld (n := 773) dL_law_772 rfl ?_
      refine xw_callVi (n := 776) (as := [.int (xs (x4 + 1).toNatClampNeg), .int (xs (x4 + 2).toNatClampNeg), .int (xs (x4 + 3).toNatClampNeg)]) (st := []) (RX10, TX10, 12) 10 dL_law_773 rfl rfl (m_X10_grid l F 0 rfl (xs (x4 + 1).toNatClampNeg) (xs (x4 + 2).toNatClampNeg) (xs (x4 + 3).toNatClampNeg) μ) rfl (by decide) rfl rfl cw_RL_92 ⟨Nat.le_of_ble_eq_true rfl, Nat.le_of_ble_eq_true rfl⟩ (fun _ => Nat.le_of_ble_eq_true rfl) (fun r200 => ?_)
      refine xw_aload_n (n := 777) dL_law_776 rfl rfl ?_
      refine xw_aload_n (n := 778) dL_law_777 rfl rfl ?_
      refine xw_iload (n := 780) dL_law_778 rfl rfl ?_
      refine xw_iconst (n := 781) 1 dL_law_780 rfl (by decide) ?_
      refine xw_iadd (n := 782) dL_law_781 rfl ?_
      refine xw_sld (n := 783) dL_law_782 rfl ?_
      refine xw_aload_n (n := 784) dL_law_783 rfl rfl ?_
      refine xw_iload (n := 786) dL_law_784 rfl rfl ?_
      refine xw_iconst (n := 787) 2 dL_law_786 rfl (by decide) ?_
      refine xw_iadd (n := 788) dL_law_787 rfl ?_
      refine xw_sld (n := 789) dL_law_788 rfl ?_
      refine xw_aload_n (n := 790) dL_law_789 rfl rfl ?_
      refine xw_iload (n := 792) dL_law_790 rfl rfl ?_
      refine xw_iconst (n := 793) 3 dL_law_792 rfl (by decide) ?_
      refine xw_iadd (n := 794) dL_law_793 rfl ?_
      refine xw_sld (n := 795) dL_law_794 rfl ?_
      refine xw_callVi (n := 798) (as := [.int (xs (x4 + 1).toNatClampNeg), .int (xs (x4 + 2).toNatClampNeg), .int (xs (x4 + 3).toNatClampNeg)]) (st := [.int r200.1]) (RX11, TX11, 52) 11 dL_law_795 rfl rfl (m_X11_grid l F 203 rfl (xs (x4 + 1).toNatClampNeg) (xs (x4 + 2).toNatClampNeg) (xs (x4 + 3).toNatClampNeg) r200.2) rfl (by decide) rfl rfl cw_RL_96 ⟨Nat.le_of_ble_eq_true rfl, Nat.le_of_ble_eq_true rfl⟩ (fun _ => Nat.le_of_ble_eq_true rfl) (fun r201 => ?_)
      refine xw_icmp_eq (n := 801) 1475 dL_law_798 (by decide) rfl ?_ ?_
      · exact xw_weak (c_L_law_1475 l hfl F xs Ln b k23 hk23 x4 r201.2 kc) (aw_ss (aw_ss (aw_ss (aw_ss (aw_ss (aw_sn (aw_sn aw_s0)))))))
      · refine xw_iconst (n := 802) 0 dL_law_801 rfl (by decide) ?_
        exact xw_none
    · refine xw_aload_n (n := 804) dL_law_803 rfl rfl ?_
      refine xw_aload_n (n := 805) dL_law_804 rfl rfl ?_
      refine xw_iload (n := 807) dL_law_805 rfl rfl ?_
      refine xw_iconst (n := 808) 1 dL_law_807 rfl (by decide) ?_
      refine xw_iadd (n := 809) dL_law_808 rfl ?_
      refine xw_sld (n := 810) dL_law_809 rfl ?_
      refine xw_callVi (n := 813) (as := [.int (xs (x4 + 1).toNatClampNeg)]) (st := []) (RX10, TX10, 12) 10 dL_law_810 rfl rfl (m_X10_best l F 0 rfl (xs (x4 + 1).toNatClampNeg) μ) rfl (by decide) rfl rfl cw_RL_97 ⟨Nat.le_of_ble_eq_true rfl, Nat.le_of_ble_eq_true rfl⟩ (fun _ => Nat.le_of_ble_eq_true rfl) (fun r202 => ?_)
      refine xw_aload_n (n := 814) dL_law_813 rfl rfl ?_
      refine xw_aload_n (n := 815) dL_law_814 rfl rfl ?_
      refine xw_iload (n := 817) dL_law_815 rfl rfl ?_
      refine xw_iconst (n := 818) 1 dL_law_817 rfl (by decide) ?_
      refine xw_iadd (n := 819) dL_law_818 rfl ?_
      refine xw_sld (n := 820) dL_law_819 rfl ?_
      refine xw_callVi (n := 823) (as := [.int (xs (x4 + 1).toNatClampNeg)]) (st := [.int r202.1]) (RX11, TX11, 52) 11 dL_law_820 rfl rfl (m_X11_best l F 203 rfl (xs (x4 + 1).toNatClampNeg) r202.2) rfl (by decide) rfl rfl cw_RL_100 ⟨Nat.le_of_ble_eq_true rfl, Nat.le_of_ble_eq_true rfl⟩ (fun _ => Nat.le_of_ble_eq_true rfl) (fun r203 => ?_)
      refine xw_icmp_eq (n := 826) 1475 dL_law_823 (by decide) rfl ?_ ?_
      · exact xw_weak (c_L_law_1475 l hfl F xs Ln b k23 hk23 x4 r203.2 kc) (aw_ss (aw_ss (aw_ss (aw_ss (aw_ss (aw_sn (aw_sn aw_s0)))))))
      · refine xw_iconst (n := 827) 0 dL_law_826 rfl (by decide) ?_
        exact xw_none
    · refine xw_aload_n (n := 829) dL_law_828 rfl rfl ?_
      refine xw_aload_n (n := 830) dL_law_829 rfl rfl ?_
      refine xw_iload (n := 832) dL_law_830 rfl rfl ?_
      refine xw_iconst (n := 833) 1 dL_law_832 rfl (by decide) ?_
      refine xw_iadd (n := 834) dL_law_833 rfl ?_
      refine xw_sld (n := 835) dL_law_834 rfl ?_
      refine xw_callVi (n := 838) (as := [.int (xs (x4 + 1).toNatClampNeg)]) (st := []) (RX10, TX10, 12) 10 dL_law_835 rfl rfl (m_X10_days l F 0 rfl (xs (x4 + 1).toNatClampNeg) μ) rfl (by decide) rfl rfl cw_RL_101 ⟨Nat.le_of_ble_eq_true rfl, Nat.le_of_ble_eq_true rfl⟩ (fun _ => Nat.le_of_ble_eq_true rfl) (fun r204 => ?_)
      refine xw_aload_n (n := 839) dL_law_838 rfl rfl ?_
      refine xw_aload_n (n := 840) dL_law_839 rfl rfl ?_
      refine xw_iload (n := 842) dL_law_840 rfl rfl ?_
      refine xw_iconst (n := 843) 1 dL_law_842 rfl (by decide) ?_
      refine xw_iadd (n := 844) dL_law_843 rfl ?_
      refine xw_sld (n := 845) dL_law_844 rfl ?_
      refine xw_callVi (n := 848) (as := [.int (xs (x4 + 1).toNatClampNeg)]) (st := [.int r204.1]) (RX11, TX11, 52) 11 dL_law_845 rfl rfl (m_X11_days l F 203 rfl (xs (x4 + 1).toNatClampNeg) r204.2) rfl (by decide) rfl rfl cw_RL_104 ⟨Nat.le_of_ble_eq_true rfl, Nat.le_of_ble_eq_true rfl⟩ (fun _ => Nat.le_of_ble_eq_true rfl) (fun r205 => ?_)
      refine xw_icmp_eq (n := 851) 1475 dL_law_848 (by decide) rfl ?_ ?_
      · exact xw_weak (c_L_law_1475 l hfl F xs Ln b k23 hk23 x4 r205.2 kc) (aw_ss (aw_ss (aw_ss (aw_ss (aw_ss (aw_sn (aw_sn aw_s0)))))))
      · refine xw_iconst (n := 852) 0 dL_law_851 rfl (by decide) ?_
        exact xw_none
    · refine xw_aload_n (n := 854) dL_law_853 rfl rfl ?_
      refine xw_aload_n (n := 855) dL_law_854 rfl rfl ?_
      refine xw_iload (n := 857) dL_law_855 rfl rfl ?_
      refine xw_iconst (n := 858) 1 dL_law_857 rfl (by decide) ?_
      refine xw_iadd (n := 859) dL_law_858 rfl ?_
      refine xw_sld (n := 860) dL_law_859 rfl ?_
      refine xw_callVi (n := 863) (as := [.int (xs (x4 + 1).toNatClampNeg)]) (st := []) (RX10, TX10, 12) 10 dL_law_860 rfl rfl (m_X10_rows l F 0 rfl (xs (x4 + 1).toNatClampNeg) μ) rfl (by decide) rfl rfl cw_RL_105 ⟨Nat.le_of_ble_eq_true rfl, Nat.le_of_ble_eq_true rfl⟩ (fun _ => Nat.le_of_ble_eq_true rfl) (fun r206 => ?_)
      refine xw_aload_n (n := 864) dL_law_863 rfl rfl ?_
      refine xw_aload_n (n := 865) dL_law_864 rfl rfl ?_
      refine xw_iload (n := 867) dL_law_865 rfl rfl ?_
      refine xw_iconst (n := 868) 1 dL_law_867 rfl (by decide) ?_
      refine xw_iadd (n := 869) dL_law_868 rfl ?_
      refine xw_sld (n := 870) dL_law_869 rfl ?_
      refine xw_callVi (n := 873) (as := [.int (xs (x4 + 1).toNatClampNeg)]) (st := [.int r206.1]) (RX11, TX11, 52) 11 dL_law_870 rfl rfl (m_X11_rows l F 203 rfl (xs (x4 + 1).toNatClampNeg) r206.2) rfl (by decide) rfl rfl cw_RL_108 ⟨Nat.le_of_ble_eq_true rfl, Nat.le_of_ble_eq_true rfl⟩ (fun _ => Nat.le_of_ble_eq_true rfl) (fun r207 => ?_)
      refine xw_icmp_eq (n := 876) 1475 dL_law_873 (by decide) rfl ?_ ?_
      · exact xw_weak (c_L_law_1475 l hfl F xs Ln b k23 hk23 x4 r207.2 kc) (aw_ss (aw_ss (aw_ss (aw_ss (aw_ss (aw_sn (aw_sn aw_s0)))))))
      · refine xw_iconst (n := 877) 0 dL_law_876 rfl (by decide) ?_
        exact xw_none
    · refine xw_aload_n (n := 879) dL_law_878 rfl rfl ?_
      refine xw_aload_n (n := 880) dL_law_879 rfl rfl ?_
      refine xw_iload (n := 882) dL_law_880 rfl rfl ?_
      refine xw_iconst (n := 883) 1 dL_law_882 rfl (by decide) ?_
      refine xw_iadd (n := 884) dL_law_883 rfl ?_
      refine xw_sld (n := 885) dL_law_884 rfl ?_
      refine xw_aload_n (n := 886) dL_law_885 rfl rfl ?_
      refine xw_iload (n := 888) dL_law_886 rfl rfl ?_
      refine xw_iconst (n := 889) 2 dL_law_888 rfl (by decide) ?_
      refine xw_iadd (n := 890) dL_law_889 rfl ?_
      refine xw_sld (n := 891) dL_law_890 rfl ?_
      refine xw_callVi (n := 894) (as := [.int (xs (x4 + 1).toNatClampNeg), .int (xs (x4 + 2).toNatClampNeg)]) (st := []) (RX10, TX10, 12) 10 dL_law_891 rfl rfl (m_X10_stand l F 0 rfl (xs (x4 + 1).toNatClampNeg) (xs (x4 + 2).toNatClampNeg) μ) rfl (by decide) rfl rfl cw_RL_109 ⟨Nat.le_of_ble_eq_true rfl, Nat.le_of_ble_eq_true rfl⟩ (fun _ => Nat.le_of_ble_eq_true rfl) (fun r208 => ?_)
      refine xw_aload_n (n := 895) dL_law_894 rfl rfl ?_
      refine xw_aload_n (n := 896) dL_law_895 rfl rfl ?_
      refine xw_iload (n := 898) dL_law_896 rfl rfl ?_
      refine xw_iconst (n := 899) 1 dL_law_898 rfl (by decide) ?_
      refine xw_iadd (n := 900) dL_law_899 rfl ?_
      refine xw_sld (n := 901) dL_law_900 rfl ?_
      refine xw_aload_n (n := 902) dL_law_901 rfl rfl ?_
      refine xw_iload (n := 904) dL_law_902 rfl rfl ?_
      refine xw_iconst (n := 905) 2 dL_law_904 rfl (by decide) ?_
      refine xw_iadd (n := 906) dL_law_905 rfl ?_
      refine xw_sld (n := 907) dL_law_906 rfl ?_
      refine xw_callVi (n := 910) (as := [.int (xs (x4 + 1).toNatClampNeg), .int (xs (x4 + 2).toNatClampNeg)]) (st := [.int r208.1]) (RX11, TX11, 52) 11 dL_law_907 rfl rfl (m_X11_stand l F 203 rfl (xs (x4 + 1).toNatClampNeg) (xs (x4 + 2).toNatClampNeg) r208.2) rfl (by decide) rfl rfl cw_RL_112 ⟨Nat.le_of_ble_eq_true rfl, Nat.le_of_ble_eq_true rfl⟩ (fun _ => Nat.le_of_ble_eq_true rfl) (fun r209 => ?_)
      refine xw_icmp_eq (n := 913) 1475 dL_law_910 (by decide) rfl ?_ ?_
      · exact xw_weak (c_L_law_1475 l hfl F xs Ln b k23 hk23 x4 r209.2 kc) (aw_ss (aw_ss (aw_ss (aw_ss (aw_ss (aw_sn (aw_sn aw_s0)))))))
      · refine xw_iconst (n := 914) 0 dL_law_913 rfl (by decide) ?_
        exact xw_none
    · refine xw_aload_n (n := 916) dL_law_915 rfl rfl ?_
      refine xw_aload_n (n := 917) dL_law_916 rfl rfl ?_
      refine xw_iload (n := 919) dL_law_917 rfl rfl ?_
      refine xw_iconst (n := 920) 1 dL_law_919 rfl (by decide) ?_
      refine xw_iadd (n := 921) dL_law_920 rfl ?_
      refine xw_sld (n := 922) dL_law_921 rfl ?_
      refine xw_callVi (n := 925) (as := [.int (xs (x4 + 1).toNatClampNeg)]) (st := []) (RX10, TX10, 12) 10 dL_law_922 rfl rfl (m_X10_rests l F 0 rfl (xs (x4 + 1).toNatClampNeg) μ) rfl (by decide) rfl rfl cw_RL_113 ⟨Nat.le_of_ble_eq_true rfl, Nat.le_of_ble_eq_true rfl⟩ (fun _ => Nat.le_of_ble_eq_true rfl) (fun r210 => ?_)
      refine xw_aload_n (n := 926) dL_law_925 rfl rfl ?_
      refine xw_aload_n (n := 927) dL_law_926 rfl rfl ?_
      refine xw_iload (n := 929) dL_law_927 rfl rfl ?_
      refine xw_iconst (n := 930) 1 dL_law_929 rfl (by decide) ?_
      refine xw_iadd (n := 931) dL_law_930 rfl ?_
      refine xw_sld (n := 932) dL_law_931 rfl ?_
      refine xw_callVi (n := 935) (as := [.int (xs (x4 + 1).toNatClampNeg)]) (st := [.int r210.1]) (RX11, TX11, 52) 11 dL_law_932 rfl rfl (m_X11_rests l F 203 rfl (xs (x4 + 1).toNatClampNeg) r210.2) rfl (by decide) rfl rfl cw_RL_116 ⟨Nat.le_of_ble_eq_true rfl, Nat.le_of_ble_eq_true rfl⟩ (fun _ => Nat.le_of_ble_eq_true rfl) (fun r211 => ?_)
      refine xw_icmp_eq (n := 938) 1475 dL_law_935 (by decide) rfl ?_ ?_
      · exact xw_weak (c_L_law_1475 l hfl F xs Ln b k23 hk23 x4 r211.2 kc) (aw_ss (aw_ss (aw_ss (aw_ss (aw_ss (aw_sn (aw_sn aw_s0)))))))
      · refine xw_iconst (n := 939) 0 dL_law_938 rfl (by decide) ?_
        exact xw_none
    · refine xw_aload_n (n := 941) dL_law_940 rfl rfl ?_
      refine xw_aload_n (n := 942) dL_law_941 rfl rfl ?_
      refine xw_iload (n := 944) dL_law_942 rfl rfl ?_
      refine xw_iconst (n := 945) 1 dL_law_944 rfl (by decide) ?_
      refine xw_iadd (n := 946) dL_law_945 rfl ?_
      refine xw_sld (n := 947) dL_law_946 rfl ?_
      refine xw_aload_n (n := 948) dL_law_947 rfl rfl ?_
      refine xw_iload (n := 950) dL_law_948 rfl rfl ?_
      refine xw_iconst (n := 951) 2 dL_law_950 rfl (by decide) ?_
      refine xw_iadd (n := 952) dL_law_951 rfl ?_
      refine xw_sld (n := 953) dL_law_952 rfl ?_
      refine xw_callVi (n := 956) (as := [.int (xs (x4 + 1).toNatClampNeg), .int (xs (x4 + 2).toNatClampNeg)]) (st := []) (RX10, TX10, 12) 10 dL_law_953 rfl rfl (m_X10_join l F 0 rfl (xs (x4 + 1).toNatClampNeg) (xs (x4 + 2).toNatClampNeg) μ) rfl (by decide) rfl rfl cw_RL_117 ⟨Nat.le_of_ble_eq_true rfl, Nat.le_of_ble_eq_true rfl⟩ (fun _ => Nat.le_of_ble_eq_true rfl) (fun r212 => ?_)
      refine xw_aload_n (n := 957) dL_law_956 rfl rfl ?_
      refine xw_aload_n (n := 958) dL_law_957 rfl rfl ?_
      refine xw_iload (n := 960) dL_law_958 rfl rfl ?_
      refine xw_iconst (n := 961) 1 dL_law_960 rfl (by decide) ?_
      refine xw_iadd (n := 962) dL_law_961 rfl ?_
      refine xw_sld (n := 963) dL_law_962 rfl ?_
      refine xw_aload_n (n := 964) dL_law_963 rfl rfl ?_
      refine xw_iload (n := 966) dL_law_964 rfl rfl ?_
      refine xw_iconst (n := 967) 2 dL_law_966 rfl (by decide) ?_
      refine xw_iadd (n := 968) dL_law_967 rfl ?_
      refine xw_sld (n := 969) dL_law_968 rfl ?_
      refine xw_callVi (n := 972) (as := [.int (xs (x4 + 1).toNatClampNeg), .int (xs (x4 + 2).toNatClampNeg)]) (st := [.int r212.1]) (RX11, TX11, 52) 11 dL_law_969 rfl rfl (m_X11_join l F 203 rfl (xs (x4 + 1).toNatClampNeg) (xs (x4 + 2).toNatClampNeg) r212.2) rfl (by decide) rfl rfl cw_RL_120 ⟨Nat.le_of_ble_eq_true rfl, Nat.le_of_ble_eq_true rfl⟩ (fun _ => Nat.le_of_ble_eq_true rfl) (fun r213 => ?_)
      refine xw_icmp_eq (n := 975) 1475 dL_law_972 (by decide) rfl ?_ ?_
      · exact xw_weak (c_L_law_1475 l hfl F xs Ln b k23 hk23 x4 r213.2 kc) (aw_ss (aw_ss (aw_ss (aw_ss (aw_ss (aw_sn (aw_sn aw_s0)))))))
      · refine xw_iconst (n := 976) 0 dL_law_975 rfl (by decide) ?_
        exact xw_none
    · refine xw_aload_n (n := 978) dL_law_977 rfl rfl ?_
      refine xw_callVi (n := 981) (as := []) (st := []) (RX10, TX10, 12) 10 dL_law_978 rfl rfl (m_X10_look l F 0 rfl μ) rfl (by decide) rfl rfl cw_RL_121 ⟨Nat.le_of_ble_eq_true rfl, Nat.le_of_ble_eq_true rfl⟩ (fun _ => Nat.le_of_ble_eq_true rfl) (fun r214 => ?_)
      refine xw_aload_n (n := 982) dL_law_981 rfl rfl ?_
      refine xw_callVi (n := 985) (as := []) (st := [.int r214.1]) (RX11, TX11, 52) 11 dL_law_982 rfl rfl (m_X11_look l F 203 rfl r214.2) rfl (by decide) rfl rfl cw_RL_124 ⟨Nat.le_of_ble_eq_true rfl, Nat.le_of_ble_eq_true rfl⟩ (fun _ => Nat.le_of_ble_eq_true rfl) (fun r215 => ?_)
      refine xw_icmp_eq (n := 988) 1475 dL_law_985 (by decide) rfl ?_ ?_
      · exact xw_weak (c_L_law_1475 l hfl F xs Ln b k23 hk23 x4 r215.2 kc) (aw_ss (aw_ss (aw_ss (aw_ss (aw_ss (aw_sn (aw_sn aw_s0)))))))
      · refine xw_iconst (n := 989) 0 dL_law_988 rfl (by decide) ?_
        exact xw_none
    · refine xw_aload_n (n := 991) dL_law_990 rfl rfl ?_
      refine xw_aload_n (n := 992) dL_law_991 rfl rfl ?_
      refine xw_iload (n := 994) dL_law_992 rfl rfl ?_
      refine xw_iconst (n := 995) 1 dL_law_994 rfl (by decide) ?_
      refine xw_iadd (n := 996) dL_law_995 rfl ?_
      refine xw_sld (n := 997) dL_law_996 rfl ?_
      refine xw_callVi (n := 1000) (as := [.int (xs (x4 + 1).toNatClampNeg)]) (st := []) (RX10, TX10, 12) 10 dL_law_997 rfl rfl (m_X10_held l F 0 rfl (xs (x4 + 1).toNatClampNeg) μ) rfl (by decide) rfl rfl cw_RL_125 ⟨Nat.le_of_ble_eq_true rfl, Nat.le_of_ble_eq_true rfl⟩ (fun _ => Nat.le_of_ble_eq_true rfl) (fun r216 => ?_)
      refine xw_aload_n (n := 1001) dL_law_1000 rfl rfl ?_
      refine xw_aload_n (n := 1002) dL_law_1001 rfl rfl ?_
      refine xw_iload (n := 1004) dL_law_1002 rfl rfl ?_
      refine xw_iconst (n := 1005) 1 dL_law_1004 rfl (by decide) ?_
      refine xw_iadd (n := 1006) dL_law_1005 rfl ?_
      refine xw_sld (n := 1007) dL_law_1006 rfl ?_
      refine xw_callVi (n := 1010) (as := [.int (xs (x4 + 1).toNatClampNeg)]) (st := [.int r216.1]) (RX11, TX11, 52) 11 dL_law_1007 rfl rfl (m_X11_held l F 203 rfl (xs (x4 + 1).toNatClampNeg) r216.2) rfl (by decide) rfl rfl cw_RL_128 ⟨Nat.le_of_ble_eq_true rfl, Nat.le_of_ble_eq_true rfl⟩ (fun _ => Nat.le_of_ble_eq_true rfl) (fun r217 => ?_)
      refine xw_icmp_eq (n := 1013) 1475 dL_law_1010 (by decide) rfl ?_ ?_
      · exact xw_weak (c_L_law_1475 l hfl F xs Ln b k23 hk23 x4 r217.2 kc) (aw_ss (aw_ss (aw_ss (aw_ss (aw_ss (aw_sn (aw_sn aw_s0)))))))
      · refine xw_iconst (n := 1014) 0 dL_law_1013 rfl (by decide) ?_
        exact xw_none
    · refine xw_aload_n (n := 1016) dL_law_1015 rfl rfl ?_
      refine xw_aload_n (n := 1017) dL_law_1016 rfl rfl ?_
      refine xw_iload (n := 1019) dL_law_1017 rfl rfl ?_
      refine xw_iconst (n := 1020) 1 dL_law_1019 rfl (by decide) ?_
      refine xw_iadd (n := 1021) dL_law_1020 rfl ?_
      refine xw_sld (n := 1022) dL_law_1021 rfl ?_
      refine xw_aload_n (n := 1023) dL_law_1022 rfl rfl ?_
      refine xw_iload (n := 1025) dL_law_1023 rfl rfl ?_
      refine xw_iconst (n := 1026) 2 dL_law_1025 rfl (by decide) ?_
      refine xw_iadd (n := 1027) dL_law_1026 rfl ?_
      refine xw_sld (n := 1028) dL_law_1027 rfl ?_
      refine xw_callVi (n := 1031) (as := [.int (xs (x4 + 1).toNatClampNeg), .int (xs (x4 + 2).toNatClampNeg)]) (st := []) (RX10, TX10, 12) 10 dL_law_1028 rfl rfl (m_X10_walk l F 0 rfl (xs (x4 + 1).toNatClampNeg) (xs (x4 + 2).toNatClampNeg) μ) rfl (by decide) rfl rfl cw_RL_129 ⟨Nat.le_of_ble_eq_true rfl, Nat.le_of_ble_eq_true rfl⟩ (fun _ => Nat.le_of_ble_eq_true rfl) (fun r218 => ?_)
      refine xw_aload_n (n := 1032) dL_law_1031 rfl rfl ?_
      refine xw_aload_n (n := 1033) dL_law_1032 rfl rfl ?_
      refine xw_iload (n := 1035) dL_law_1033 rfl rfl ?_
      refine xw_iconst (n := 1036) 1 dL_law_1035 rfl (by decide) ?_
      refine xw_iadd (n := 1037) dL_law_1036 rfl ?_
      refine xw_sld (n := 1038) dL_law_1037 rfl ?_
      refine xw_aload_n (n := 1039) dL_law_1038 rfl rfl ?_
      refine xw_iload (n := 1041) dL_law_1039 rfl rfl ?_
      refine xw_iconst (n := 1042) 2 dL_law_1041 rfl (by decide) ?_
      refine xw_iadd (n := 1043) dL_law_1042 rfl ?_
      refine xw_sld (n := 1044) dL_law_1043 rfl ?_
      refine xw_callVi (n := 1047) (as := [.int (xs (x4 + 1).toNatClampNeg), .int (xs (x4 + 2).toNatClampNeg)]) (st := [.int r218.1]) (RX11, TX11, 52) 11 dL_law_1044 rfl rfl (m_X11_walk l F 203 rfl (xs (x4 + 1).toNatClampNeg) (xs (x4 + 2).toNatClampNeg) r218.2) rfl (by decide) rfl rfl cw_RL_132 ⟨Nat.le_of_ble_eq_true rfl, Nat.le_of_ble_eq_true rfl⟩ (fun _ => Nat.le_of_ble_eq_true rfl) (fun r219 => ?_)
      refine xw_icmp_eq (n := 1050) 1475 dL_law_1047 (by decide) rfl ?_ ?_
      · exact xw_weak (c_L_law_1475 l hfl F xs Ln b k23 hk23 x4 r219.2 kc) (aw_ss (aw_ss (aw_ss (aw_ss (aw_ss (aw_sn (aw_sn aw_s0)))))))
      · refine xw_iconst (n := 1051) 0 dL_law_1050 rfl (by decide) ?_
        exact xw_none
    · refine xw_aload_n (n := 1053) dL_law_1052 rfl rfl ?_
      refine xw_aload_n (n := 1054) dL_law_1053 rfl rfl ?_
      refine xw_iload (n := 1056) dL_law_1054 rfl rfl ?_
      refine xw_iconst (n := 1057) 1 dL_law_1056 rfl (by decide) ?_
      refine xw_iadd (n := 1058) dL_law_1057 rfl ?_
      refine xw_sld (n := 1059) dL_law_1058 rfl ?_
      refine xw_aload_n (n := 1060) dL_law_1059 rfl rfl ?_
      refine xw_iload (n := 1062) dL_law_1060 rfl rfl ?_
      refine xw_iconst (n := 1063) 2 dL_law_1062 rfl (by decide) ?_
      refine xw_iadd (n := 1064) dL_law_1063 rfl ?_
      refine xw_sld (n := 1065) dL_law_1064 rfl ?_
      refine xw_aload_n (n := 1066) dL_law_1065 rfl rfl ?_
      refine xw_iload (n := 1068) dL_law_1066 rfl rfl ?_
      refine xw_iconst (n := 1069) 3 dL_law_1068 rfl (by decide) ?_
      refine xw_iadd (n := 1070) dL_law_1069 rfl ?_
      refine xw_sld (n := 1071) dL_law_1070 rfl ?_
      refine xw_aload_n (n := 1072) dL_law_1071 rfl rfl ?_
      refine xw_iload (n := 1074) dL_law_1072 rfl rfl ?_
      refine xw_iconst (n := 1075) 4 dL_law_1074 rfl (by decide) ?_
      refine xw_iadd (n := 1076) dL_law_1075 rfl ?_
      refine xw_sld (n := 1077) dL_law_1076 rfl ?_
      refine xw_callVi (n := 1080) (as := [.int (xs (x4 + 1).toNatClampNeg), .int (xs (x4 + 2).toNatClampNeg), .int (xs (x4 + 3).toNatClampNeg), .int (xs (x4 + 4).toNatClampNeg)]) (st := []) (RX10, TX10, 12) 10 dL_law_1077 rfl rfl (m_X10_alike l F 0 rfl (xs (x4 + 1).toNatClampNeg) (xs (x4 + 2).toNatClampNeg) (xs (x4 + 3).toNatClampNeg) (xs (x4 + 4).toNatClampNeg) μ) rfl (by decide) rfl rfl cw_RL_133 ⟨Nat.le_of_ble_eq_true rfl, Nat.le_of_ble_eq_true rfl⟩ (fun _ => Nat.le_of_ble_eq_true rfl) (fun r220 => ?_)
      refine xw_aload_n (n := 1081) dL_law_1080 rfl rfl ?_
      refine xw_aload_n (n := 1082) dL_law_1081 rfl rfl ?_
      refine xw_iload (n := 1084) dL_law_1082 rfl rfl ?_
      refine xw_iconst (n := 1085) 1 dL_law_1084 rfl (by decide) ?_
      refine xw_iadd (n := 1086) dL_law_1085 rfl ?_
      refine xw_sld (n := 1087) dL_law_1086 rfl ?_
      refine xw_aload_n (n := 1088) dL_law_1087 rfl rfl ?_
      refine xw_iload (n := 1090) dL_law_1088 rfl rfl ?_
      refine xw_iconst (n := 1091) 2 dL_law_1090 rfl (by decide) ?_
      refine xw_iadd (n := 1092) dL_law_1091 rfl ?_
      refine xw_sld (n := 1093) dL_law_1092 rfl ?_
      refine xw_aload_n (n := 1094) dL_law_1093 rfl rfl ?_
      refine xw_iload (n := 1096) dL_law_1094 rfl rfl ?_
      refine xw_iconst (n := 1097) 3 dL_law_1096 rfl (by decide) ?_
      refine xw_iadd (n := 1098) dL_law_1097 rfl ?_
      refine xw_sld (n := 1099) dL_law_1098 rfl ?_
      refine xw_aload_n (n := 1100) dL_law_1099 rfl rfl ?_
      refine xw_iload (n := 1102) dL_law_1100 rfl rfl ?_
      refine xw_iconst (n := 1103) 4 dL_law_1102 rfl (by decide) ?_
      refine xw_iadd (n := 1104) dL_law_1103 rfl ?_
      refine xw_sld (n := 1105) dL_law_1104 rfl ?_
      refine xw_callVi (n := 1108) (as := [.int (xs (x4 + 1).toNatClampNeg), .int (xs (x4 + 2).toNatClampNeg), .int (xs (x4 + 3).toNatClampNeg), .int (xs (x4 + 4).toNatClampNeg)]) (st := [.int r220.1]) (RX11, TX11, 52) 11 dL_law_1105 rfl rfl (m_X11_alike l F 203 rfl (xs (x4 + 1).toNatClampNeg) (xs (x4 + 2).toNatClampNeg) (xs (x4 + 3).toNatClampNeg) (xs (x4 + 4).toNatClampNeg) r220.2) rfl (by decide) rfl rfl cw_RL_137 ⟨Nat.le_of_ble_eq_true rfl, Nat.le_of_ble_eq_true rfl⟩ (fun _ => Nat.le_of_ble_eq_true rfl) (fun r221 => ?_)
      refine xw_icmp_eq (n := 1111) 1475 dL_law_1108 (by decide) rfl ?_ ?_
      · exact xw_weak (c_L_law_1475 l hfl F xs Ln b k23 hk23 x4 r221.2 kc) (aw_ss (aw_ss (aw_ss (aw_ss (aw_ss (aw_sn (aw_sn aw_s0)))))))
      · refine xw_iconst (n := 1112) 0 dL_law_1111 rfl (by decide) ?_
        exact xw_none
    · refine xw_aload_n (n := 1114) dL_law_1113 rfl rfl ?_
      refine xw_callVi (n := 1117) (as := []) (st := []) (RX10, TX10, 12) 10 dL_law_1114 rfl rfl (m_X10_order l F 0 rfl μ) rfl (by decide) rfl rfl cw_RL_138 ⟨Nat.le_of_ble_eq_true rfl, Nat.le_of_ble_eq_true rfl⟩ (fun _ => Nat.le_of_ble_eq_true rfl) (fun r222 => ?_)
      refine xw_aload_n (n := 1118) dL_law_1117 rfl rfl ?_
      refine xw_callVi (n := 1121) (as := []) (st := [.int r222.1]) (RX11, TX11, 52) 11 dL_law_1118 rfl rfl (m_X11_order l F 203 rfl r222.2) rfl (by decide) rfl rfl cw_RL_141 ⟨Nat.le_of_ble_eq_true rfl, Nat.le_of_ble_eq_true rfl⟩ (fun _ => Nat.le_of_ble_eq_true rfl) (fun r223 => ?_)
      refine xw_icmp_eq (n := 1124) 1475 dL_law_1121 (by decide) rfl ?_ ?_
      · exact xw_weak (c_L_law_1475 l hfl F xs Ln b k23 hk23 x4 r223.2 kc) (aw_ss (aw_ss (aw_ss (aw_ss (aw_ss (aw_sn (aw_sn aw_s0)))))))
      · refine xw_iconst (n := 1125) 0 dL_law_1124 rfl (by decide) ?_
        exact xw_none
    · refine xw_aload_n (n := 1127) dL_law_1126 rfl rfl ?_
      refine xw_aload_n (n := 1128) dL_law_1127 rfl rfl ?_
      refine xw_iload (n := 1130) dL_law_1128 rfl rfl ?_
      refine xw_iconst (n := 1131) 1 dL_law_1130 rfl (by decide) ?_
      refine xw_iadd (n := 1132) dL_law_1131 rfl ?_
      refine xw_sld (n := 1133) dL_law_1132 rfl ?_
      refine xw_callVi (n := 1136) (as := [.int (xs (x4 + 1).toNatClampNeg)]) (st := []) (RX10, TX10, 12) 10 dL_law_1133 rfl rfl (m_X10_comes l F 0 rfl (xs (x4 + 1).toNatClampNeg) μ) rfl (by decide) rfl rfl cw_RL_142 ⟨Nat.le_of_ble_eq_true rfl, Nat.le_of_ble_eq_true rfl⟩ (fun _ => Nat.le_of_ble_eq_true rfl) (fun r224 => ?_)
      refine xw_aload_n (n := 1137) dL_law_1136 rfl rfl ?_
      refine xw_aload_n (n := 1138) dL_law_1137 rfl rfl ?_
      refine xw_iload (n := 1140) dL_law_1138 rfl rfl ?_
      refine xw_iconst (n := 1141) 1 dL_law_1140 rfl (by decide) ?_
      refine xw_iadd (n := 1142) dL_law_1141 rfl ?_
      refine xw_sld (n := 1143) dL_law_1142 rfl ?_
      refine xw_callVi (n := 1146) (as := [.int (xs (x4 + 1).toNatClampNeg)]) (st := [.int r224.1]) (RX11, TX11, 52) 11 dL_law_1143 rfl rfl (m_X11_comes l F 203 rfl (xs (x4 + 1).toNatClampNeg) r224.2) rfl (by decide) rfl rfl cw_RL_145 ⟨Nat.le_of_ble_eq_true rfl, Nat.le_of_ble_eq_true rfl⟩ (fun _ => Nat.le_of_ble_eq_true rfl) (fun r225 => ?_)
      refine xw_icmp_eq (n := 1149) 1475 dL_law_1146 (by decide) rfl ?_ ?_
      · exact xw_weak (c_L_law_1475 l hfl F xs Ln b k23 hk23 x4 r225.2 kc) (aw_ss (aw_ss (aw_ss (aw_ss (aw_ss (aw_sn (aw_sn aw_s0)))))))
      · refine xw_iconst (n := 1150) 0 dL_law_1149 rfl (by decide) ?_
        exact xw_none
    · refine xw_aload_n (n := 1152) dL_law_1151 rfl rfl ?_
      refine xw_callVi (n := 1155) (as := []) (st := []) (RX10, TX10, 12) 10 dL_law_1152 rfl rfl (m_X10_slippery l F 0 rfl μ) rfl (by decide) rfl rfl cw_RL_146 ⟨Nat.le_of_ble_eq_true rfl, Nat.le_of_ble_eq_true rfl⟩ (fun _ => Nat.le_of_ble_eq_true rfl) (fun r226 => ?_)
      refine xw_aload_n (n := 1156) dL_law_1155 rfl rfl ?_
      refine xw_callVi (n := 1159) (as := []) (st := [.int r226.1]) (RX11, TX11, 52) 11 dL_law_1156 rfl rfl (m_X11_slippery l F 203 rfl r226.2) rfl (by decide) rfl rfl cw_RL_149 ⟨Nat.le_of_ble_eq_true rfl, Nat.le_of_ble_eq_true rfl⟩ (fun _ => Nat.le_of_ble_eq_true rfl) (fun r227 => ?_)
      refine xw_icmp_eq (n := 1162) 1475 dL_law_1159 (by decide) rfl ?_ ?_
      · exact xw_weak (c_L_law_1475 l hfl F xs Ln b k23 hk23 x4 r227.2 kc) (aw_ss (aw_ss (aw_ss (aw_ss (aw_ss (aw_sn (aw_sn aw_s0)))))))
      · refine xw_iconst (n := 1163) 0 dL_law_1162 rfl (by decide) ?_
        exact xw_none
    · refine xw_aload_n (n := 1165) dL_law_1164 rfl rfl ?_
      refine xw_aload_n (n := 1166) dL_law_1165 rfl rfl ?_
      refine xw_iload (n := 1168) dL_law_1166 rfl rfl ?_
      refine xw_iconst (n := 1169) 1 dL_law_1168 rfl (by decide) ?_
      refine xw_iadd (n := 1170) dL_law_1169 rfl ?_
      refine xw_sld (n := 1171) dL_law_1170 rfl ?_
      refine xw_callVi (n := 1174) (as := [.int (xs (x4 + 1).toNatClampNeg)]) (st := []) (RX10, TX10, 12) 10 dL_law_1171 rfl rfl (m_X10_dry l F 0 rfl (xs (x4 + 1).toNatClampNeg) μ) rfl (by decide) rfl rfl cw_RL_150 ⟨Nat.le_of_ble_eq_true rfl, Nat.le_of_ble_eq_true rfl⟩ (fun _ => Nat.le_of_ble_eq_true rfl) (fun r228 => ?_)
      refine xw_aload_n (n := 1175) dL_law_1174 rfl rfl ?_
      refine xw_aload_n (n := 1176) dL_law_1175 rfl rfl ?_
      refine xw_iload (n := 1178) dL_law_1176 rfl rfl ?_
      refine xw_iconst (n := 1179) 1 dL_law_1178 rfl (by decide) ?_
      refine xw_iadd (n := 1180) dL_law_1179 rfl ?_
      refine xw_sld (n := 1181) dL_law_1180 rfl ?_
      refine xw_callVi (n := 1184) (as := [.int (xs (x4 + 1).toNatClampNeg)]) (st := [.int r228.1]) (RX11, TX11, 52) 11 dL_law_1181 rfl rfl (m_X11_dry l F 203 rfl (xs (x4 + 1).toNatClampNeg) r228.2) rfl (by decide) rfl rfl cw_RL_153 ⟨Nat.le_of_ble_eq_true rfl, Nat.le_of_ble_eq_true rfl⟩ (fun _ => Nat.le_of_ble_eq_true rfl) (fun r229 => ?_)
      refine xw_icmp_eq (n := 1187) 1475 dL_law_1184 (by decide) rfl ?_ ?_
      · exact xw_weak (c_L_law_1475 l hfl F xs Ln b k23 hk23 x4 r229.2 kc) (aw_ss (aw_ss (aw_ss (aw_ss (aw_ss (aw_sn (aw_sn aw_s0)))))))
      · refine xw_iconst (n := 1188) 0 dL_law_1187 rfl (by decide) ?_
        exact xw_none
    · refine xw_aload_n (n := 1190) dL_law_1189 rfl rfl ?_
      refine xw_callVi (n := 1193) (as := []) (st := []) (RX10, TX10, 12) 10 dL_law_1190 rfl rfl (m_X10_table l F 0 rfl μ) rfl (by decide) rfl rfl cw_RL_154 ⟨Nat.le_of_ble_eq_true rfl, Nat.le_of_ble_eq_true rfl⟩ (fun _ => Nat.le_of_ble_eq_true rfl) (fun r230 => ?_)
      refine xw_aload_n (n := 1194) dL_law_1193 rfl rfl ?_
      refine xw_callVi (n := 1197) (as := []) (st := [.int r230.1]) (RX11, TX11, 52) 11 dL_law_1194 rfl rfl (m_X11_table l F 203 rfl r230.2) rfl (by decide) rfl rfl cw_RL_157 ⟨Nat.le_of_ble_eq_true rfl, Nat.le_of_ble_eq_true rfl⟩ (fun _ => Nat.le_of_ble_eq_true rfl) (fun r231 => ?_)
      refine xw_icmp_eq (n := 1200) 1475 dL_law_1197 (by decide) rfl ?_ ?_
      · exact xw_weak (c_L_law_1475 l hfl F xs Ln b k23 hk23 x4 r231.2 kc) (aw_ss (aw_ss (aw_ss (aw_ss (aw_ss (aw_sn (aw_sn aw_s0)))))))
      · refine xw_iconst (n := 1201) 0 dL_law_1200 rfl (by decide) ?_
        exact xw_none
    · refine xw_aload_n (n := 1203) dL_law_1202 rfl rfl ?_
      refine xw_aload_n (n := 1204) dL_law_1203 rfl rfl ?_
      refine xw_iload (n := 1206) dL_law_1204 rfl rfl ?_
      refine xw_iconst (n := 1207) 1 dL_law_1206 rfl (by decide) ?_
      refine xw_iadd (n := 1208) dL_law_1207 rfl ?_
      refine xw_sld (n := 1209) dL_law_1208 rfl ?_
      refine xw_aload_n (n := 1210) dL_law_1209 rfl rfl ?_
      refine xw_iload (n := 1212) dL_law_1210 rfl rfl ?_
      refine xw_iconst (n := 1213) 2 dL_law_1212 rfl (by decide) ?_
      refine xw_iadd (n := 1214) dL_law_1213 rfl ?_
      refine xw_sld (n := 1215) dL_law_1214 rfl ?_
      refine xw_aload_n (n := 1216) dL_law_1215 rfl rfl ?_
      refine xw_iload (n := 1218) dL_law_1216 rfl rfl ?_
      refine xw_iconst (n := 1219) 3 dL_law_1218 rfl (by decide) ?_
      refine xw_iadd (n := 1220) dL_law_1219 rfl ?_
      refine xw_sld (n := 1221) dL_law_1220 rfl ?_
      refine xw_callVi (n := 1224) (as := [.int (xs (x4 + 1).toNatClampNeg), .int (xs (x4 + 2).toNatClampNeg), .int (xs (x4 + 3).toNatClampNeg)]) (st := []) (RX10, TX10, 12) 10 dL_law_1221 rfl rfl (m_X10_against l F 0 rfl (xs (x4 + 1).toNatClampNeg) (xs (x4 + 2).toNatClampNeg) (xs (x4 + 3).toNatClampNeg) μ) rfl (by decide) rfl rfl cw_RL_158 ⟨Nat.le_of_ble_eq_true rfl, Nat.le_of_ble_eq_true rfl⟩ (fun _ => Nat.le_of_ble_eq_true rfl) (fun r232 => ?_)
      refine xw_aload_n (n := 1225) dL_law_1224 rfl rfl ?_
      refine xw_aload_n (n := 1226) dL_law_1225 rfl rfl ?_
      refine xw_iload (n := 1228) dL_law_1226 rfl rfl ?_
      refine xw_iconst (n := 1229) 1 dL_law_1228 rfl (by decide) ?_
      refine xw_iadd (n := 1230) dL_law_1229 rfl ?_
      refine xw_sld (n := 1231) dL_law_1230 rfl ?_
      refine xw_aload_n (n := 1232) dL_law_1231 rfl rfl ?_
      refine xw_iload (n := 1234) dL_law_1232 rfl rfl ?_
      refine xw_iconst (n := 1235) 2 dL_law_1234 rfl (by decide) ?_
      refine xw_iadd (n := 1236) dL_law_1235 rfl ?_
      refine xw_sld (n := 1237) dL_law_1236 rfl ?_
      refine xw_aload_n (n := 1238) dL_law_1237 rfl rfl ?_
      refine xw_iload (n := 1240) dL_law_1238 rfl rfl ?_
      refine xw_iconst (n := 1241) 3 dL_law_1240 rfl (by decide) ?_
      refine xw_iadd (n := 1242) dL_law_1241 rfl ?_
      refine xw_sld (n := 1243) dL_law_1242 rfl ?_
      refine xw_callVi (n := 1246) (as := [.int (xs (x4 + 1).toNatClampNeg), .int (xs (x4 + 2).toNatClampNeg), .int (xs (x4 + 3).toNatClampNeg)]) (st := [.int r232.1]) (RX11, TX11, 52) 11 dL_law_1243 rfl rfl (m_X11_against l F 203 rfl (xs (x4 + 1).toNatClampNeg) (xs (x4 + 2).toNatClampNeg) (xs (x4 + 3).toNatClampNeg) r232.2) rfl (by decide) rfl rfl cw_RL_161 ⟨Nat.le_of_ble_eq_true rfl, Nat.le_of_ble_eq_true rfl⟩ (fun _ => Nat.le_of_ble_eq_true rfl) (fun r233 => ?_)
      refine xw_icmp_eq (n := 1249) 1475 dL_law_1246 (by decide) rfl ?_ ?_
      · exact xw_weak (c_L_law_1475 l hfl F xs Ln b k23 hk23 x4 r233.2 kc) (aw_ss (aw_ss (aw_ss (aw_ss (aw_ss (aw_sn (aw_sn aw_s0)))))))
      · refine xw_iconst (n := 1250) 0 dL_law_1249 rfl (by decide) ?_
        exact xw_none
    · refine xw_aload_n (n := 1252) dL_law_1251 rfl rfl ?_
      refine xw_aload_n (n := 1253) dL_law_1252 rfl rfl ?_
      refine xw_iload (n := 1255) dL_law_1253 rfl rfl ?_
      refine xw_iconst (n := 1256) 1 dL_law_1255 rfl (by decide) ?_
      refine xw_iadd (n := 1257) dL_law_1256 rfl ?_
      refine xw_sld (n := 1258) dL_law_1257 rfl ?_
      refine xw_callVi (n := 1261) (as := [.int (xs (x4 + 1).toNatClampNeg)]) (st := []) (RX10, TX10, 12) 10 dL_law_1258 rfl rfl (m_X10_reply l F 0 rfl (xs (x4 + 1).toNatClampNeg) μ) rfl (by decide) rfl rfl cw_RL_162 ⟨Nat.le_of_ble_eq_true rfl, Nat.le_of_ble_eq_true rfl⟩ (fun _ => Nat.le_of_ble_eq_true rfl) (fun r234 => ?_)
      refine xw_aload_n (n := 1262) dL_law_1261 rfl rfl ?_
      refine xw_aload_n (n := 1263) dL_law_1262 rfl rfl ?_
      refine xw_iload (n := 1265) dL_law_1263 rfl rfl ?_
      refine xw_iconst (n := 1266) 1 dL_law_1265 rfl (by decide) ?_
      refine xw_iadd (n := 1267) dL_law_1266 rfl ?_
      refine xw_sld (n := 1268) dL_law_1267 rfl ?_
      refine xw_callVi (n := 1271) (as := [.int (xs (x4 + 1).toNatClampNeg)]) (st := [.int r234.1]) (RX11, TX11, 52) 11 dL_law_1268 rfl rfl (m_X11_reply l F 203 rfl (xs (x4 + 1).toNatClampNeg) r234.2) rfl (by decide) rfl rfl cw_RL_165 ⟨Nat.le_of_ble_eq_true rfl, Nat.le_of_ble_eq_true rfl⟩ (fun _ => Nat.le_of_ble_eq_true rfl) (fun r235 => ?_)
      refine xw_icmp_eq (n := 1274) 1475 dL_law_1271 (by decide) rfl ?_ ?_
      · exact xw_weak (c_L_law_1475 l hfl F xs Ln b k23 hk23 x4 r235.2 kc) (aw_ss (aw_ss (aw_ss (aw_ss (aw_ss (aw_sn (aw_sn aw_s0)))))))
      · refine xw_iconst (n := 1275) 0 dL_law_1274 rfl (by decide) ?_
        exact xw_none
    · refine xw_aload_n (n := 1277) dL_law_1276 rfl rfl ?_
      refine xw_aload_n (n := 1278) dL_law_1277 rfl rfl ?_
      refine xw_iload (n := 1280) dL_law_1278 rfl rfl ?_
      refine xw_iconst (n := 1281) 1 dL_law_1280 rfl (by decide) ?_
      refine xw_iadd (n := 1282) dL_law_1281 rfl ?_
      refine xw_sld (n := 1283) dL_law_1282 rfl ?_
      refine xw_aload_n (n := 1284) dL_law_1283 rfl rfl ?_
      refine xw_iload (n := 1286) dL_law_1284 rfl rfl ?_
      refine xw_iconst (n := 1287) 2 dL_law_1286 rfl (by decide) ?_
      refine xw_iadd (n := 1288) dL_law_1287 rfl ?_
      refine xw_sld (n := 1289) dL_law_1288 rfl ?_
      refine xw_callVi (n := 1292) (as := [.int (xs (x4 + 1).toNatClampNeg), .int (xs (x4 + 2).toNatClampNeg)]) (st := []) (RX10, TX10, 12) 10 dL_law_1289 rfl rfl (m_X10_who l F 0 rfl (xs (x4 + 1).toNatClampNeg) (xs (x4 + 2).toNatClampNeg) μ) rfl (by decide) rfl rfl cw_RL_166 ⟨Nat.le_of_ble_eq_true rfl, Nat.le_of_ble_eq_true rfl⟩ (fun _ => Nat.le_of_ble_eq_true rfl) (fun r236 => ?_)
      refine xw_aload_n (n := 1293) dL_law_1292 rfl rfl ?_
      refine xw_aload_n (n := 1294) dL_law_1293 rfl rfl ?_
      refine xw_iload (n := 1296) dL_law_1294 rfl rfl ?_
      refine xw_iconst (n := 1297) 1 dL_law_1296 rfl (by decide) ?_
      refine xw_iadd (n := 1298) dL_law_1297 rfl ?_
      refine xw_sld (n := 1299) dL_law_1298 rfl ?_
      refine xw_aload_n (n := 1300) dL_law_1299 rfl rfl ?_
      refine xw_iload (n := 1302) dL_law_1300 rfl rfl ?_
      refine xw_iconst (n := 1303) 2 dL_law_1302 rfl (by decide) ?_
      refine xw_iadd (n := 1304) dL_law_1303 rfl ?_
      refine xw_sld (n := 1305) dL_law_1304 rfl ?_
      refine xw_callVi (n := 1308) (as := [.int (xs (x4 + 1).toNatClampNeg), .int (xs (x4 + 2).toNatClampNeg)]) (st := [.int r236.1]) (RX11, TX11, 52) 11 dL_law_1305 rfl rfl (m_X11_who l F 203 rfl (xs (x4 + 1).toNatClampNeg) (xs (x4 + 2).toNatClampNeg) r236.2) rfl (by decide) rfl rfl cw_RL_169 ⟨Nat.le_of_ble_eq_true rfl, Nat.le_of_ble_eq_true rfl⟩ (fun _ => Nat.le_of_ble_eq_true rfl) (fun r237 => ?_)
      refine xw_icmp_eq (n := 1311) 1475 dL_law_1308 (by decide) rfl ?_ ?_
      · exact xw_weak (c_L_law_1475 l hfl F xs Ln b k23 hk23 x4 r237.2 kc) (aw_ss (aw_ss (aw_ss (aw_ss (aw_ss (aw_sn (aw_sn aw_s0)))))))
      · refine xw_iconst (n := 1312) 0 dL_law_1311 rfl (by decide) ?_
        exact xw_none
    · refine xw_aload_n (n := 1314) dL_law_1313 rfl rfl ?_
      refine xw_aload_n (n := 1315) dL_law_1314 rfl rfl ?_
      refine xw_iload (n := 1317) dL_law_1315 rfl rfl ?_
      refine xw_iconst (n := 1318) 1 dL_law_1317 rfl (by decide) ?_
      refine xw_iadd (n := 1319) dL_law_1318 rfl ?_
      refine xw_sld (n := 1320) dL_law_1319 rfl ?_
      refine xw_aload_n (n := 1321) dL_law_1320 rfl rfl ?_
      refine xw_iload (n := 1323) dL_law_1321 rfl rfl ?_
      refine xw_iconst (n := 1324) 2 dL_law_1323 rfl (by decide) ?_
      refine xw_iadd (n := 1325) dL_law_1324 rfl ?_
      refine xw_sld (n := 1326) dL_law_1325 rfl ?_
      refine xw_aload_n (n := 1327) dL_law_1326 rfl rfl ?_
      refine xw_iload (n := 1329) dL_law_1327 rfl rfl ?_
      refine xw_iconst (n := 1330) 3 dL_law_1329 rfl (by decide) ?_
      refine xw_iadd (n := 1331) dL_law_1330 rfl ?_
      refine xw_sld (n := 1332) dL_law_1331 rfl ?_
      refine xw_callVi (n := 1335) (as := [.int (xs (x4 + 1).toNatClampNeg), .int (xs (x4 + 2).toNatClampNeg), .int (xs (x4 + 3).toNatClampNeg)]) (st := []) (RX10, TX10, 12) 10 dL_law_1332 rfl rfl (m_X10_odds l F 0 rfl (xs (x4 + 1).toNatClampNeg) (xs (x4 + 2).toNatClampNeg) (xs (x4 + 3).toNatClampNeg) μ) rfl (by decide) rfl rfl cw_RL_170 ⟨Nat.le_of_ble_eq_true rfl, Nat.le_of_ble_eq_true rfl⟩ (fun _ => Nat.le_of_ble_eq_true rfl) (fun r238 => ?_)
      refine xw_aload_n (n := 1336) dL_law_1335 rfl rfl ?_
      refine xw_aload_n (n := 1337) dL_law_1336 rfl rfl ?_
      refine xw_iload (n := 1339) dL_law_1337 rfl rfl ?_
      refine xw_iconst (n := 1340) 1 dL_law_1339 rfl (by decide) ?_
      refine xw_iadd (n := 1341) dL_law_1340 rfl ?_
      refine xw_sld (n := 1342) dL_law_1341 rfl ?_
      refine xw_aload_n (n := 1343) dL_law_1342 rfl rfl ?_
      refine xw_iload (n := 1345) dL_law_1343 rfl rfl ?_
      refine xw_iconst (n := 1346) 2 dL_law_1345 rfl (by decide) ?_
      refine xw_iadd (n := 1347) dL_law_1346 rfl ?_
      refine xw_sld (n := 1348) dL_law_1347 rfl ?_
      refine xw_aload_n (n := 1349) dL_law_1348 rfl rfl ?_
      refine xw_iload (n := 1351) dL_law_1349 rfl rfl ?_
      refine xw_iconst (n := 1352) 3 dL_law_1351 rfl (by decide) ?_
      refine xw_iadd (n := 1353) dL_law_1352 rfl ?_
      refine xw_sld (n := 1354) dL_law_1353 rfl ?_
      refine xw_callVi (n := 1357) (as := [.int (xs (x4 + 1).toNatClampNeg), .int (xs (x4 + 2).toNatClampNeg), .int (xs (x4 + 3).toNatClampNeg)]) (st := [.int r238.1]) (RX11, TX11, 52) 11 dL_law_1354 rfl rfl (m_X11_odds l F 203 rfl (xs (x4 + 1).toNatClampNeg) (xs (x4 + 2).toNatClampNeg) (xs (x4 + 3).toNatClampNeg) r238.2) rfl (by decide) rfl rfl cw_RL_173 ⟨Nat.le_of_ble_eq_true rfl, Nat.le_of_ble_eq_true rfl⟩ (fun _ => Nat.le_of_ble_eq_true rfl) (fun r239 => ?_)
      refine xw_icmp_eq (n := 1360) 1475 dL_law_1357 (by decide) rfl ?_ ?_
      · exact xw_weak (c_L_law_1475 l hfl F xs Ln b k23 hk23 x4 r239.2 kc) (aw_ss (aw_ss (aw_ss (aw_ss (aw_ss (aw_sn (aw_sn aw_s0)))))))
      · refine xw_iconst (n := 1361) 0 dL_law_1360 rfl (by decide) ?_
        exact xw_none
    · refine xw_aload_n (n := 1363) dL_law_1362 rfl rfl ?_
      refine xw_callVi (n := 1366) (as := []) (st := []) (RX10, TX10, 12) 10 dL_law_1363 rfl rfl (m_X10_sentence l F 0 rfl μ) rfl (by decide) rfl rfl cw_RL_174 ⟨Nat.le_of_ble_eq_true rfl, Nat.le_of_ble_eq_true rfl⟩ (fun _ => Nat.le_of_ble_eq_true rfl) (fun r240 => ?_)
      refine xw_aload_n (n := 1367) dL_law_1366 rfl rfl ?_
      refine xw_callVi (n := 1370) (as := []) (st := [.int r240.1]) (RX11, TX11, 52) 11 dL_law_1367 rfl rfl (m_X11_sentence l F 203 rfl r240.2) rfl (by decide) rfl rfl cw_RL_177 ⟨Nat.le_of_ble_eq_true rfl, Nat.le_of_ble_eq_true rfl⟩ (fun _ => Nat.le_of_ble_eq_true rfl) (fun r241 => ?_)
      refine xw_icmp_eq (n := 1373) 1475 dL_law_1370 (by decide) rfl ?_ ?_
      · exact xw_weak (c_L_law_1475 l hfl F xs Ln b k23 hk23 x4 r241.2 kc) (aw_ss (aw_ss (aw_ss (aw_ss (aw_ss (aw_sn (aw_sn aw_s0)))))))
      · refine xw_iconst (n := 1374) 0 dL_law_1373 rfl (by decide) ?_
        exact xw_none
    · refine xw_aload_n (n := 1376) dL_law_1375 rfl rfl ?_
      refine xw_aload_n (n := 1377) dL_law_1376 rfl rfl ?_
      refine xw_iload (n := 1379) dL_law_1377 rfl rfl ?_
      refine xw_iconst (n := 1380) 1 dL_law_1379 rfl (by decide) ?_
      refine xw_iadd (n := 1381) dL_law_1380 rfl ?_
      refine xw_sld (n := 1382) dL_law_1381 rfl ?_
      refine xw_callVi (n := 1385) (as := [.int (xs (x4 + 1).toNatClampNeg)]) (st := []) (RX10, TX10, 12) 10 dL_law_1382 rfl rfl (m_X10_said l F 0 rfl (xs (x4 + 1).toNatClampNeg) μ) rfl (by decide) rfl rfl cw_RL_178 ⟨Nat.le_of_ble_eq_true rfl, Nat.le_of_ble_eq_true rfl⟩ (fun _ => Nat.le_of_ble_eq_true rfl) (fun r242 => ?_)
      refine xw_aload_n (n := 1386) dL_law_1385 rfl rfl ?_
      refine xw_aload_n (n := 1387) dL_law_1386 rfl rfl ?_
      refine xw_iload (n := 1389) dL_law_1387 rfl rfl ?_
      refine xw_iconst (n := 1390) 1 dL_law_1389 rfl (by decide) ?_
      refine xw_iadd (n := 1391) dL_law_1390 rfl ?_
      refine xw_sld (n := 1392) dL_law_1391 rfl ?_
      refine xw_callVi (n := 1395) (as := [.int (xs (x4 + 1).toNatClampNeg)]) (st := [.int r242.1]) (RX11, TX11, 52) 11 dL_law_1392 rfl rfl (m_X11_said l F 203 rfl (xs (x4 + 1).toNatClampNeg) r242.2) rfl (by decide) rfl rfl cw_RL_181 ⟨Nat.le_of_ble_eq_true rfl, Nat.le_of_ble_eq_true rfl⟩ (fun _ => Nat.le_of_ble_eq_true rfl) (fun r243 => ?_)
      refine xw_icmp_eq (n := 1398) 1475 dL_law_1395 (by decide) rfl ?_ ?_
      · exact xw_weak (c_L_law_1475 l hfl F xs Ln b k23 hk23 x4 r243.2 kc) (aw_ss (aw_ss (aw_ss (aw_ss (aw_ss (aw_sn (aw_sn aw_s0)))))))
      · refine xw_iconst (n := 1399) 0 dL_law_1398 rfl (by decide) ?_
        exact xw_none
    · refine xw_aload_n (n := 1401) dL_law_1400 rfl rfl ?_
      refine xw_aload_n (n := 1402) dL_law_1401 rfl rfl ?_
      refine xw_iload (n := 1404) dL_law_1402 rfl rfl ?_
      refine xw_iconst (n := 1405) 1 dL_law_1404 rfl (by decide) ?_
      refine xw_iadd (n := 1406) dL_law_1405 rfl ?_
      refine xw_sld (n := 1407) dL_law_1406 rfl ?_
      refine xw_callVz (n := 1410) (as := [.int (xs (x4 + 1).toNatClampNeg)]) (st := []) (RX10, TX10, 12) 10 dL_law_1407 rfl rfl (m_X10_image l F 0 rfl (xs (x4 + 1).toNatClampNeg) μ) rfl (by decide) rfl rfl cw_RL_182 ⟨Nat.le_of_ble_eq_true rfl, Nat.le_of_ble_eq_true rfl⟩ (fun _ => Nat.le_of_ble_eq_true rfl) (fun r244 => ?_)
      refine xw_aload_n (n := 1411) dL_law_1410 rfl rfl ?_
      refine xw_aload_n (n := 1412) dL_law_1411 rfl rfl ?_
      refine xw_iload (n := 1414) dL_law_1412 rfl rfl ?_
      refine xw_iconst (n := 1415) 1 dL_law_1414 rfl (by decide) ?_
      refine xw_iadd (n := 1416) dL_law_1415 rfl ?_
      refine xw_sld (n := 1417) dL_law_1416 rfl ?_
      refine xw_callVz (n := 1420) (as := [.int (xs (x4 + 1).toNatClampNeg)]) (st := [.int (aw_b r244.1)]) (RX11, TX11, 52) 11 dL_law_1417 rfl rfl (m_X11_image l F 203 rfl (xs (x4 + 1).toNatClampNeg) r244.2) rfl (by decide) rfl rfl cw_RL_185 ⟨Nat.le_of_ble_eq_true rfl, Nat.le_of_ble_eq_true rfl⟩ (fun _ => Nat.le_of_ble_eq_true rfl) (fun r245 => ?_)
      refine xw_icmp_eq (n := 1423) 1475 dL_law_1420 (by decide) rfl ?_ ?_
      · exact xw_weak (c_L_law_1475 l hfl F xs Ln b k23 hk23 x4 r245.2 kc) (aw_ss (aw_ss (aw_ss (aw_ss (aw_ss (aw_sn (aw_sn aw_s0)))))))
      · refine xw_iconst (n := 1424) 0 dL_law_1423 rfl (by decide) ?_
        exact xw_none
    · refine xw_aload_n (n := 1426) dL_law_1425 rfl rfl ?_
      refine xw_aload_n (n := 1427) dL_law_1426 rfl rfl ?_
      refine xw_iload (n := 1429) dL_law_1427 rfl rfl ?_
      refine xw_iconst (n := 1430) 1 dL_law_1429 rfl (by decide) ?_
      refine xw_iadd (n := 1431) dL_law_1430 rfl ?_
      refine xw_sld (n := 1432) dL_law_1431 rfl ?_
      refine xw_callVz (n := 1435) (as := [.int (xs (x4 + 1).toNatClampNeg)]) (st := []) (RX10, TX10, 12) 10 dL_law_1432 rfl rfl (m_X10_restore l F 0 rfl (xs (x4 + 1).toNatClampNeg) μ) rfl (by decide) rfl rfl cw_RL_186 ⟨Nat.le_of_ble_eq_true rfl, Nat.le_of_ble_eq_true rfl⟩ (fun _ => Nat.le_of_ble_eq_true rfl) (fun r246 => ?_)
      refine xw_aload_n (n := 1436) dL_law_1435 rfl rfl ?_
      refine xw_aload_n (n := 1437) dL_law_1436 rfl rfl ?_
      refine xw_iload (n := 1439) dL_law_1437 rfl rfl ?_
      refine xw_iconst (n := 1440) 1 dL_law_1439 rfl (by decide) ?_
      refine xw_iadd (n := 1441) dL_law_1440 rfl ?_
      refine xw_sld (n := 1442) dL_law_1441 rfl ?_
      refine xw_callVz (n := 1445) (as := [.int (xs (x4 + 1).toNatClampNeg)]) (st := [.int (aw_b r246.1)]) (RX11, TX11, 52) 11 dL_law_1442 rfl rfl (m_X11_restore l F 203 rfl (xs (x4 + 1).toNatClampNeg) r246.2) rfl (by decide) rfl rfl cw_RL_189 ⟨Nat.le_of_ble_eq_true rfl, Nat.le_of_ble_eq_true rfl⟩ (fun _ => Nat.le_of_ble_eq_true rfl) (fun r247 => ?_)
      refine xw_icmp_eq (n := 1448) 1475 dL_law_1445 (by decide) rfl ?_ ?_
      · exact xw_weak (c_L_law_1475 l hfl F xs Ln b k23 hk23 x4 r247.2 kc) (aw_ss (aw_ss (aw_ss (aw_ss (aw_ss (aw_sn (aw_sn aw_s0)))))))
      · refine xw_iconst (n := 1449) 0 dL_law_1448 rfl (by decide) ?_
        exact xw_none
    · refine xw_aload_n (n := 1451) dL_law_1450 rfl rfl ?_
      refine xw_aload_n (n := 1452) dL_law_1451 rfl rfl ?_
      refine xw_iload (n := 1454) dL_law_1452 rfl rfl ?_
      refine xw_iconst (n := 1455) 1 dL_law_1454 rfl (by decide) ?_
      refine xw_iadd (n := 1456) dL_law_1455 rfl ?_
      refine xw_sld (n := 1457) dL_law_1456 rfl ?_
      refine xw_callVi (n := 1460) (as := [.int (xs (x4 + 1).toNatClampNeg)]) (st := []) (RX10, TX10, 12) 10 dL_law_1457 rfl rfl (m_X10_count l F 0 rfl (xs (x4 + 1).toNatClampNeg) μ) rfl (by decide) rfl rfl cw_RL_190 ⟨Nat.le_of_ble_eq_true rfl, Nat.le_of_ble_eq_true rfl⟩ (fun _ => Nat.le_of_ble_eq_true rfl) (fun r248 => ?_)
      refine xw_aload_n (n := 1461) dL_law_1460 rfl rfl ?_
      refine xw_aload_n (n := 1462) dL_law_1461 rfl rfl ?_
      refine xw_iload (n := 1464) dL_law_1462 rfl rfl ?_
      refine xw_iconst (n := 1465) 1 dL_law_1464 rfl (by decide) ?_
      refine xw_iadd (n := 1466) dL_law_1465 rfl ?_
      refine xw_sld (n := 1467) dL_law_1466 rfl ?_
      refine xw_callVi (n := 1470) (as := [.int (xs (x4 + 1).toNatClampNeg)]) (st := [.int r248.1]) (RX11, TX11, 52) 11 dL_law_1467 rfl rfl (m_X11_count l F 203 rfl (xs (x4 + 1).toNatClampNeg) r248.2) rfl (by decide) rfl rfl cw_RL_193 ⟨Nat.le_of_ble_eq_true rfl, Nat.le_of_ble_eq_true rfl⟩ (fun _ => Nat.le_of_ble_eq_true rfl) (fun r249 => ?_)
      refine xw_icmp_eq (n := 1473) 1475 dL_law_1470 (by decide) rfl ?_ ?_
      · exact xw_weak (c_L_law_1475 l hfl F xs Ln b k23 hk23 x4 r249.2 kc) (aw_ss (aw_ss (aw_ss (aw_ss (aw_ss (aw_sn (aw_sn aw_s0)))))))
      · refine xw_iconst (n := 1474) 0 dL_law_1473 rfl (by decide) ?_
        exact xw_none
    · exact xw_weak (c_L_law_1475 l hfl F xs Ln b k23 hk23 x4 μ kc) (aw_ss (aw_ss (aw_ss (aw_ss (aw_ss (aw_sn (aw_sn aw_s0)))))))
def f_L_law (F : Nat) (xs : Nat → Int32) (Ln : Nat) (μ : aw_M) (kc : Nat) : Option Unit :=
  aw_loop (fun k s => f_L_law_23 F xs Ln k s.1 s.2.1 s.2.2) F (0, μ, kc)
theorem m_L_law (l : Launch) (hfl : l.stackTraces = false) (F : Nat) (xs : Nat → Int32) (Ln b : Nat) (μ : aw_M) (kc : Nat) : XW l (k_L_law, 231, 69430, 1000) lw_Tg (lw_Px b Ln xs) 20 [some (.ref 1000), some (.ref 0), some (.ref 203), some (.ref 230), none, none, none] [] μ  kc (f_L_law F xs Ln μ kc) := by
  unfold f_L_law
  refine xw_iconst (n := 21) 0 dL_law_20 rfl (by decide) ?_
  refine xw_istore (n := 23) [some (.ref 1000), some (.ref 0), some (.ref 203), some (.ref 230), some (.int 0), none, none] dL_law_21 rfl rfl (Nat.le_of_ble_eq_true rfl) (Nat.le_of_ble_eq_true rfl) rfl ?_
  exact xw_weak (c_L_law_23 l hfl F xs Ln b F (0, μ, kc)) (aw_ss (aw_ss (aw_ss (aw_ss (aw_ss (aw_sn (aw_sn aw_s0)))))))
