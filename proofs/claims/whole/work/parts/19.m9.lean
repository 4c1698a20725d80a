abbrev k_X11_minute : aw_K := (RX11, cX11_minute, 5, none, 5, 218)
def f_X11_minute_454 (F : Nat) (t : Nat) (μ : aw_M) : Option (aw_M) :=
  (f_X11_newDay F t μ).bind fun r50 =>
  some r50
theorem c_X11_minute_454 (l : Launch) (F : Nat) (t : Nat) (ht : (aw_sh t).1 = 16) (μ : aw_M) : AW l k_X11_minute aw_gv 454 [some (.ref t), none, none, none, none] [] μ (f_X11_minute_454 F t μ) := by
  unfold f_X11_minute_454
  refine aw_aload_n (n := 455) dX11_minute_454 rfl rfl ?_
  refine aw_callVv (n := 458) (as := []) (st := []) (RX11, TX11, 52) 11 dX11_minute_455 rfl rfl (m_X11_newDay l F t ht μ) ht (by decide) rfl rfl cw_RX11_275 ⟨Nat.le_of_ble_eq_true rfl, Nat.le_of_ble_eq_true rfl⟩ (fun _ => Nat.le_of_ble_eq_true rfl) (fun r50 => ?_)
  exact aw_vreturn dX11_minute_458 rfl rfl
def f_X11_minute_431 (F : Nat) (t : Nat) (k431 : Int32 × aw_M → Option (aw_M)) (x2 : Int32) (μ : aw_M) : Option (aw_M) :=
  (if 100 ≤ x2 then
  f_X11_minute_454 F t μ
  else
  aw_g (aw_in (714 + x2) 1155) (aw_let (aw_wI μ (aw_rf t 6) (714 + x2).toNatClampNeg 0) fun μ51 =>
  k431 ((x2 + 1), μ51)))
theorem c_X11_minute_431 (l : Launch) (F : Nat) (t : Nat) (ht : (aw_sh t).1 = 16) : ∀ (N : Nat) (s : Int32 × aw_M), AW l k_X11_minute aw_gv 431 [some (.ref t), none, some (.int s.1), none, none] [] s.2 (aw_loop (fun k s => f_X11_minute_431 F t k s.1 s.2) N s) := by
  refine aw_loop_ok (f := fun k s => f_X11_minute_431 F t k s.1 s.2) (Ls := fun s => [some (.ref t), none, some (.int s.1), none, none]) (ms := fun s => s.2) ?_
  intro k431 hk431 s
  obtain ⟨x2, μ⟩ := s
  show AW l k_X11_minute aw_gv 431 [some (.ref t), none, some (.int x2), none, none] [] μ (f_X11_minute_431 F t k431 x2 μ)
  unfold f_X11_minute_431
  refine aw_iload_n (n := 432) dX11_minute_431 rfl rfl ?_
  refine aw_bipush (n := 434) 100 dX11_minute_432 rfl (by decide) ?_
  refine aw_icmp_ge (n := 437) 454 dX11_minute_434 (by decide) rfl ?_ ?_
  · exact aw_weak (c_X11_minute_454 l F t ht μ) (aw_ss (aw_sn (aw_sn (aw_sn (aw_sn aw_s0)))))
  · refine aw_aload_n (n := 438) dX11_minute_437 rfl rfl ?_
    refine aw_getR (n := 441) (RX11, TX11, 52) 11 6 dX11_minute_438 rfl ht (by decide) fd_RX11_33 ?_
    refine aw_sipush (n := 444) 714 dX11_minute_441 rfl (by decide) ?_
    refine aw_iload_n (n := 445) dX11_minute_444 rfl rfl ?_
    refine aw_iadd (n := 446) dX11_minute_445 rfl ?_
    refine aw_iconst (n := 447) 0 dX11_minute_446 rfl (by decide) ?_
    refine aw_iastore (n := 448) 1155 dX11_minute_447 rfl (sf_11_6 ht) (fun μ51 => ?_)
    refine aw_iinc (n := 451) (x2 + 1) [some (.ref t), none, some (.int (x2 + 1)), none, none] dX11_minute_448 rfl rfl (by rfl) rfl (Nat.le_of_ble_eq_true rfl) rfl ?_
    refine aw_goto 431 dX11_minute_451 (by decide) ?_
    exact aw_weak (hk431 ((x2 + 1), μ51)) (aw_ss (aw_sn (aw_ss (aw_sn (aw_sn aw_s0)))))
def f_X11_minute_368 (F : Nat) (t : Nat) (μ : aw_M) : Option (aw_M) :=
  aw_g (aw_in 456 1155) (aw_g (aw_in 456 1155) (aw_let (aw_wI μ (aw_rf t 6) (456 : Int32).toNatClampNeg ((μ.1 (aw_rf t 6) (456 : Int32).toNatClampNeg) + 1)) fun μ47 =>
  aw_g (aw_in 456 1155) ((if 240 ≤ (μ47.1 (aw_rf t 6) (456 : Int32).toNatClampNeg) then
  aw_g (aw_in 455 1155) (aw_g (aw_in 455 1155) (aw_let (aw_wI μ47 (aw_rf t 6) (455 : Int32).toNatClampNeg ((μ47.1 (aw_rf t 6) (455 : Int32).toNatClampNeg) + 1)) fun μ48 =>
  aw_g (aw_in 455 1155) ((if (μ48.1 (aw_rf t 6) (455 : Int32).toNatClampNeg) = 3 then
  some μ48
  else
  aw_g (aw_in 456 1155) (aw_let (aw_wI μ48 (aw_rf t 6) (456 : Int32).toNatClampNeg 0) fun μ49 =>
  aw_loop (fun k s => f_X11_minute_431 F t k s.1 s.2) F (0, μ49))))))
  else
  some μ47))))
theorem c_X11_minute_368 (l : Launch) (F : Nat) (t : Nat) (ht : (aw_sh t).1 = 16) (μ : aw_M) : AW l k_X11_minute aw_gv 368 [some (.ref t), none, none, none, none] [] μ (f_X11_minute_368 F t μ) := by
  unfold f_X11_minute_368
  refine aw_aload_n (n := 369) dX11_minute_368 rfl rfl ?_
  refine aw_getR (n := 372) (RX11, TX11, 52) 11 6 dX11_minute_369 rfl ht (by decide) fd_RX11_33 ?_
  refine aw_sipush (n := 375) 456 dX11_minute_372 rfl (by decide) ?_
  refine aw_dup2 (n := 376) dX11_minute_375 rfl (fun _ => rfl) (fun _ => rfl) ?_
  refine aw_iaload (n := 377) 1155 dX11_minute_376 rfl (sf_11_6 ht) ?_
  refine aw_iconst (n := 378) 1 dX11_minute_377 rfl (by decide) ?_
  refine aw_iadd (n := 379) dX11_minute_378 rfl ?_
  refine aw_iastore (n := 380) 1155 dX11_minute_379 rfl (sf_11_6 ht) (fun μ47 => ?_)
  refine aw_aload_n (n := 381) dX11_minute_380 rfl rfl ?_
  refine aw_getR (n := 384) (RX11, TX11, 52) 11 6 dX11_minute_381 rfl ht (by decide) fd_RX11_33 ?_
  refine aw_sipush (n := 387) 456 dX11_minute_384 rfl (by decide) ?_
  refine aw_iaload (n := 388) 1155 dX11_minute_387 rfl (sf_11_6 ht) ?_
  refine aw_sipush (n := 391) 240 dX11_minute_388 rfl (by decide) ?_
  refine aw_icmp_ge (n := 394) 395 dX11_minute_391 (by decide) rfl ?_ ?_
  · refine aw_aload_n (n := 396) dX11_minute_395 rfl rfl ?_
    refine aw_getR (n := 399) (RX11, TX11, 52) 11 6 dX11_minute_396 rfl ht (by decide) fd_RX11_33 ?_
    refine aw_sipush (n := 402) 455 dX11_minute_399 rfl (by decide) ?_
    refine aw_dup2 (n := 403) dX11_minute_402 rfl (fun _ => rfl) (fun _ => rfl) ?_
    refine aw_iaload (n := 404) 1155 dX11_minute_403 rfl (sf_11_6 ht) ?_
    refine aw_iconst (n := 405) 1 dX11_minute_404 rfl (by decide) ?_
    refine aw_iadd (n := 406) dX11_minute_405 rfl ?_
    refine aw_iastore (n := 407) 1155 dX11_minute_406 rfl (sf_11_6 ht) (fun μ48 => ?_)
    refine aw_aload_n (n := 408) dX11_minute_407 rfl rfl ?_
    refine aw_getR (n := 411) (RX11, TX11, 52) 11 6 dX11_minute_408 rfl ht (by decide) fd_RX11_33 ?_
    refine aw_sipush (n := 414) 455 dX11_minute_411 rfl (by decide) ?_
    refine aw_iaload (n := 415) 1155 dX11_minute_414 rfl (sf_11_6 ht) ?_
    refine aw_iconst (n := 416) 3 dX11_minute_415 rfl (by decide) ?_
    refine aw_icmp_ne (n := 419) 420 dX11_minute_416 (by decide) rfl ?_ ?_
    · refine aw_aload_n (n := 421) dX11_minute_420 rfl rfl ?_
      refine aw_getR (n := 424) (RX11, TX11, 52) 11 6 dX11_minute_421 rfl ht (by decide) fd_RX11_33 ?_
      refine aw_sipush (n := 427) 456 dX11_minute_424 rfl (by decide) ?_
      refine aw_iconst (n := 428) 0 dX11_minute_427 rfl (by decide) ?_
      refine aw_iastore (n := 429) 1155 dX11_minute_428 rfl (sf_11_6 ht) (fun μ49 => ?_)
      refine aw_iconst (n := 430) 0 dX11_minute_429 rfl (by decide) ?_
      refine aw_istore_n (n := 431) [some (.ref t), none, some (.int 0), none, none] dX11_minute_430 rfl rfl (Nat.le_of_ble_eq_true rfl) (Nat.le_of_ble_eq_true rfl) rfl ?_
      exact aw_weak (c_X11_minute_431 l F t ht F (0, μ49)) (aw_ss (aw_sn (aw_ss (aw_sn (aw_sn aw_s0)))))
    · exact aw_vreturn dX11_minute_419 rfl rfl
  · exact aw_vreturn dX11_minute_394 rfl rfl
def f_X11_minute_362 (F : Nat) (t : Nat) (k303 : Int32 × aw_M → Option (aw_M)) (x2 : Int32) (μ : aw_M) : Option (aw_M) :=
  k303 ((x2 + 1), μ)
theorem c_X11_minute_362 (l : Launch) (F : Nat) (t : Nat) (ht : (aw_sh t).1 = 16) (k303 : Int32 × aw_M → Option (aw_M)) (hk303 : ∀ s : Int32 × aw_M, AW l k_X11_minute aw_gv 303 [some (.ref t), none, some (.int s.1), none, none] [] s.2 (k303 s)) (x2 : Int32) (μ : aw_M) : AW l k_X11_minute aw_gv 362 [some (.ref t), none, some (.int x2), none, none] [] μ (f_X11_minute_362 F t k303 x2 μ) := by
  unfold f_X11_minute_362
  refine aw_iinc (n := 365) (x2 + 1) [some (.ref t), none, some (.int (x2 + 1)), none, none] dX11_minute_362 rfl rfl (by rfl) rfl (Nat.le_of_ble_eq_true rfl) rfl ?_
  refine aw_goto 303 dX11_minute_365 (by decide) ?_
  exact aw_weak (hk303 ((x2 + 1), μ)) (aw_ss (aw_sn (aw_ss (aw_sn (aw_sn aw_s0)))))
def f_X11_minute_356 (F : Nat) (t : Nat) (k303 : Int32 × aw_M → Option (aw_M)) (k332 : Int32 × Int32 × aw_M → Option (aw_M)) (x2 : Int32) (x3 : Int32) (μ : aw_M) : Option (aw_M) :=
  k332 (x2, (x3 + 1), μ)
theorem c_X11_minute_356 (l : Launch) (F : Nat) (t : Nat) (ht : (aw_sh t).1 = 16) (k303 : Int32 × aw_M → Option (aw_M)) (hk303 : ∀ s : Int32 × aw_M, AW l k_X11_minute aw_gv 303 [some (.ref t), none, some (.int s.1), none, none] [] s.2 (k303 s)) (k332 : Int32 × Int32 × aw_M → Option (aw_M)) (hk332 : ∀ s : Int32 × Int32 × aw_M, AW l k_X11_minute aw_gv 332 [some (.ref t), none, some (.int s.1), some (.int s.2.1), none] [] s.2.2 (k332 s)) (x2 : Int32) (x3 : Int32) (μ : aw_M) : AW l k_X11_minute aw_gv 356 [some (.ref t), none, some (.int x2), some (.int x3), none] [] μ (f_X11_minute_356 F t k303 k332 x2 x3 μ) := by
  unfold f_X11_minute_356
  refine aw_iinc (n := 359) (x3 + 1) [some (.ref t), none, some (.int x2), some (.int (x3 + 1)), none] dX11_minute_356 rfl rfl (by rfl) rfl (Nat.le_of_ble_eq_true rfl) rfl ?_
  refine aw_goto 332 dX11_minute_359 (by decide) ?_
  exact aw_weak (hk332 (x2, (x3 + 1), μ)) (aw_ss (aw_sn (aw_ss (aw_ss (aw_sn aw_s0)))))
def f_X11_minute_332 (F : Nat) (t : Nat) (k332 : Int32 × Int32 × aw_M → Option (aw_M)) (k303 : Int32 × aw_M → Option (aw_M)) (x2 : Int32) (x3 : Int32) (μ : aw_M) : Option (aw_M) :=
  (if 4 ≤ x3 then
  f_X11_minute_362 F t k303 x2 μ
  else
  (f_X11_besides F t x2 x3 μ).bind fun r53 =>
  (if r53.1 < 0 then
  f_X11_minute_356 F t k303 k332 x2 x3 r53.2
  else
  (f_X11_besides F t x2 x3 r53.2).bind fun r54 =>
  (f_X11_drains F t r54.1 r54.2).bind fun r55 =>
  f_X11_minute_356 F t k303 k332 x2 x3 r55))
theorem c_X11_minute_332 (l : Launch) (F : Nat) (t : Nat) (ht : (aw_sh t).1 = 16) (k303 : Int32 × aw_M → Option (aw_M)) (hk303 : ∀ s : Int32 × aw_M, AW l k_X11_minute aw_gv 303 [some (.ref t), none, some (.int s.1), none, none] [] s.2 (k303 s)) : ∀ (N : Nat) (s : Int32 × Int32 × aw_M), AW l k_X11_minute aw_gv 332 [some (.ref t), none, some (.int s.1), some (.int s.2.1), none] [] s.2.2 (aw_loop (fun k s => f_X11_minute_332 F t k k303 s.1 s.2.1 s.2.2) N s) := by
  refine aw_loop_ok (f := fun k s => f_X11_minute_332 F t k k303 s.1 s.2.1 s.2.2) (Ls := fun s => [some (.ref t), none, some (.int s.1), some (.int s.2.1), none]) (ms := fun s => s.2.2) ?_
  intro k332 hk332 s
  obtain ⟨x2, x3, μ⟩ := s
  show AW l k_X11_minute aw_gv 332 [some (.ref t), none, some (.int x2), some (.int x3), none] [] μ (f_X11_minute_332 F t k332 k303 x2 x3 μ)
  unfold f_X11_minute_332
  refine aw_iload_n (n := 333) dX11_minute_332 rfl rfl ?_
  refine aw_iconst (n := 334) 4 dX11_minute_333 rfl (by decide) ?_
  refine aw_icmp_ge (n := 337) 362 dX11_minute_334 (by decide) rfl ?_ ?_
  · exact aw_weak (c_X11_minute_362 l F t ht k303 hk303 x2 μ) (aw_ss (aw_sn (aw_ss (aw_sn (aw_sn aw_s0)))))
  · refine aw_aload_n (n := 338) dX11_minute_337 rfl rfl ?_
    refine aw_iload_n (n := 339) dX11_minute_338 rfl rfl ?_
    refine aw_iload_n (n := 340) dX11_minute_339 rfl rfl ?_
    refine aw_callVi (n := 343) (as := [.int x2, .int x3]) (st := []) (RX11, TX11, 52) 11 dX11_minute_340 rfl rfl (m_X11_besides l F t ht x2 x3 μ) ht (by decide) rfl rfl cw_RX11_281 ⟨Nat.le_of_ble_eq_true rfl, Nat.le_of_ble_eq_true rfl⟩ (fun _ => Nat.le_of_ble_eq_true rfl) (fun r53 => ?_)
    refine aw_if_lt (n := 346) 356 dX11_minute_343 (by decide) rfl ?_ ?_
    · exact aw_weak (c_X11_minute_356 l F t ht k303 hk303 k332 hk332 x2 x3 r53.2) (aw_ss (aw_sn (aw_ss (aw_ss (aw_sn aw_s0)))))
    · refine aw_aload_n (n := 347) dX11_minute_346 rfl rfl ?_
      refine aw_aload_n (n := 348) dX11_minute_347 rfl rfl ?_
      refine aw_iload_n (n := 349) dX11_minute_348 rfl rfl ?_
      refine aw_iload_n (n := 350) dX11_minute_349 rfl rfl ?_
      refine aw_callVi (n := 353) (as := [.int x2, .int x3]) (st := [.ref t]) (RX11, TX11, 52) 11 dX11_minute_350 rfl rfl (m_X11_besides l F t ht x2 x3 r53.2) ht (by decide) rfl rfl cw_RX11_281 ⟨Nat.le_of_ble_eq_true rfl, Nat.le_of_ble_eq_true rfl⟩ (fun _ => Nat.le_of_ble_eq_true rfl) (fun r54 => ?_)
      refine aw_callVv (n := 356) (as := [.int r54.1]) (st := []) (RX11, TX11, 52) 11 dX11_minute_353 rfl rfl (m_X11_drains l F t ht r54.1 r54.2) ht (by decide) rfl rfl cw_RX11_310 ⟨Nat.le_of_ble_eq_true rfl, Nat.le_of_ble_eq_true rfl⟩ (fun _ => Nat.le_of_ble_eq_true rfl) (fun r55 => ?_)
      exact aw_weak (c_X11_minute_356 l F t ht k303 hk303 k332 hk332 x2 x3 r55) (aw_ss (aw_sn (aw_ss (aw_ss (aw_sn aw_s0)))))
def f_X11_minute_303 (F : Nat) (t : Nat) (k303 : Int32 × aw_M → Option (aw_M)) (x2 : Int32) (μ : aw_M) : Option (aw_M) :=
  (if 100 ≤ x2 then
  f_X11_minute_368 F t μ
  else
  aw_g (aw_in (227 + x2) 1155) ((if (μ.1 (aw_rf t 6) (227 + x2).toNatClampNeg) = 0 then
  f_X11_minute_362 F t k303 x2 μ
  else
  (f_X11_drains F t x2 μ).bind fun r52 =>
  aw_loop (fun k s => f_X11_minute_332 F t k k303 s.1 s.2.1 s.2.2) F (x2, 0, r52))))
theorem c_X11_minute_303 (l : Launch) (F : Nat) (t : Nat) (ht : (aw_sh t).1 = 16) : ∀ (N : Nat) (s : Int32 × aw_M), AW l k_X11_minute aw_gv 303 [some (.ref t), none, some (.int s.1), none, none] [] s.2 (aw_loop (fun k s => f_X11_minute_303 F t k s.1 s.2) N s) := by
  refine aw_loop_ok (f := fun k s => f_X11_minute_303 F t k s.1 s.2) (Ls := fun s => [some (.ref t), none, some (.int s.1), none, none]) (ms := fun s => s.2) ?_
  intro k303 hk303 s
  obtain ⟨x2, μ⟩ := s
  show AW l k_X11_minute aw_gv 303 [some (.ref t), none, some (.int x2), none, none] [] μ (f_X11_minute_303 F t k303 x2 μ)
  unfold f_X11_minute_303
  refine aw_iload_n (n := 304) dX11_minute_303 rfl rfl ?_
  refine aw_bipush (n := 306) 100 dX11_minute_304 rfl (by decide) ?_
  refine aw_icmp_ge (n := 309) 368 dX11_minute_306 (by decide) rfl ?_ ?_
  · exact aw_weak (c_X11_minute_368 l F t ht μ) (aw_ss (aw_sn (aw_sn (aw_sn (aw_sn aw_s0)))))
  · refine aw_aload_n (n := 310) dX11_minute_309 rfl rfl ?_
    refine aw_getR (n := 313) (RX11, TX11, 52) 11 6 dX11_minute_310 rfl ht (by decide) fd_RX11_33 ?_
    refine aw_sipush (n := 316) 227 dX11_minute_313 rfl (by decide) ?_
    refine aw_iload_n (n := 317) dX11_minute_316 rfl rfl ?_
    refine aw_iadd (n := 318) dX11_minute_317 rfl ?_
    refine aw_iaload (n := 319) 1155 dX11_minute_318 rfl (sf_11_6 ht) ?_
    refine aw_if_ne (n := 322) 325 dX11_minute_319 (by decide) rfl ?_ ?_
    · refine aw_aload_n (n := 326) dX11_minute_325 rfl rfl ?_
      refine aw_iload_n (n := 327) dX11_minute_326 rfl rfl ?_
      refine aw_callVv (n := 330) (as := [.int x2]) (st := []) (RX11, TX11, 52) 11 dX11_minute_327 rfl rfl (m_X11_drains l F t ht x2 μ) ht (by decide) rfl rfl cw_RX11_310 ⟨Nat.le_of_ble_eq_true rfl, Nat.le_of_ble_eq_true rfl⟩ (fun _ => Nat.le_of_ble_eq_true rfl) (fun r52 => ?_)
      refine aw_iconst (n := 331) 0 dX11_minute_330 rfl (by decide) ?_
      refine aw_istore_n (n := 332) [some (.ref t), none, some (.int x2), some (.int 0), none] dX11_minute_331 rfl rfl (Nat.le_of_ble_eq_true rfl) (Nat.le_of_ble_eq_true rfl) rfl ?_
      exact aw_weak (c_X11_minute_332 l F t ht k303 hk303 F (x2, 0, r52)) (aw_ss (aw_sn (aw_ss (aw_ss (aw_sn aw_s0)))))
    · refine aw_goto 362 dX11_minute_322 (by decide) ?_
      exact aw_weak (c_X11_minute_362 l F t ht k303 hk303 x2 μ) (aw_ss (aw_sn (aw_ss (aw_sn (aw_sn aw_s0)))))
def f_X11_minute_301 (F : Nat) (t : Nat) (μ : aw_M) : Option (aw_M) :=
  aw_loop (fun k s => f_X11_minute_303 F t k s.1 s.2) F (0, μ)
theorem c_X11_minute_301 (l : Launch) (F : Nat) (t : Nat) (ht : (aw_sh t).1 = 16) (μ : aw_M) : AW l k_X11_minute aw_gv 301 [some (.ref t), none, none, none, none] [] μ (f_X11_minute_301 F t μ) := by
  unfold f_X11_minute_301
  refine aw_iconst (n := 302) 0 dX11_minute_301 rfl (by decide) ?_
  refine aw_istore_n (n := 303) [some (.ref t), none, some (.int 0), none, none] dX11_minute_302 rfl rfl (Nat.le_of_ble_eq_true rfl) (Nat.le_of_ble_eq_true rfl) rfl ?_
  exact aw_weak (c_X11_minute_303 l F t ht F (0, μ)) (aw_ss (aw_sn (aw_ss (aw_sn (aw_sn aw_s0)))))
def f_X11_minute_295 (F : Nat) (t : Nat) (k58 : Int32 × aw_M → Option (aw_M)) (x2 : Int32) (μ : aw_M) : Option (aw_M) :=
  k58 ((x2 + 1), μ)
theorem c_X11_minute_295 (l : Launch) (F : Nat) (t : Nat) (ht : (aw_sh t).1 = 16) (k58 : Int32 × aw_M → Option (aw_M)) (hk58 : ∀ s : Int32 × aw_M, AW l k_X11_minute aw_gv 58 [some (.ref t), none, some (.int s.1), none, none] [] s.2 (k58 s)) (x2 : Int32) (μ : aw_M) : AW l k_X11_minute aw_gv 295 [some (.ref t), none, some (.int x2), none, none] [] μ (f_X11_minute_295 F t k58 x2 μ) := by
  unfold f_X11_minute_295
  refine aw_iinc (n := 298) (x2 + 1) [some (.ref t), none, some (.int (x2 + 1)), none, none] dX11_minute_295 rfl rfl (by rfl) rfl (Nat.le_of_ble_eq_true rfl) rfl ?_
  refine aw_goto 58 dX11_minute_298 (by decide) ?_
  exact aw_weak (hk58 ((x2 + 1), μ)) (aw_ss (aw_sn (aw_ss (aw_sn (aw_sn aw_s0)))))
def f_X11_minute_202 (F : Nat) (t : Nat) (k58 : Int32 × aw_M → Option (aw_M)) (x2 : Int32) (x3 : Int32) (μ : aw_M) : Option (aw_M) :=
  (if 0 ≤ x3 then
  aw_g (aw_in (674 + x2) 1155) (aw_g (aw_in (674 + x2) 1155) (aw_let (aw_wI μ (aw_rf t 6) (674 + x2).toNatClampNeg ((μ.1 (aw_rf t 6) (674 + x2).toNatClampNeg) - 1)) fun μ57 =>
  aw_g (aw_in 915 1155) (aw_g (aw_in 915 1155) (aw_let (aw_wI μ57 (aw_rf t 6) (915 : Int32).toNatClampNeg ((μ57.1 (aw_rf t 6) (915 : Int32).toNatClampNeg) + 1)) fun μ58 =>
  aw_g (aw_in (11 + x3) 1155) (aw_g (aw_in (714 + (μ58.1 (aw_rf t 6) (11 + x3).toNatClampNeg)) 1155) (aw_g (aw_in (714 + (μ58.1 (aw_rf t 6) (11 + x3).toNatClampNeg)) 1155) (aw_let (aw_wI μ58 (aw_rf t 6) (714 + (μ58.1 (aw_rf t 6) (11 + x3).toNatClampNeg)).toNatClampNeg ((μ58.1 (aw_rf t 6) (714 + (μ58.1 (aw_rf t 6) (11 + x3).toNatClampNeg)).toNatClampNeg) + 2)) fun μ59 =>
  aw_g (aw_in (476 + x3) 1155) (aw_g (aw_in (11 + x3) 1155) (aw_g (aw_in (67 + x2) 1155) ((f_X11_apart F (μ59.1 (aw_rf t 6) (11 + x3).toNatClampNeg) (μ59.1 (aw_rf t 6) (67 + x2).toNatClampNeg) μ59).bind fun r60 =>
  aw_g (aw_in (476 + x3) 1155) (aw_let (aw_wI r60.2 (aw_rf t 6) (476 + x3).toNatClampNeg ((μ59.1 (aw_rf t 6) (476 + x3).toNatClampNeg) + (3 - (r60.1 / 2)))) fun μ61 =>
  f_X11_minute_295 F t k58 x2 μ61)))))))))))
  else
  f_X11_minute_295 F t k58 x2 μ)
theorem c_X11_minute_202 (l : Launch) (F : Nat) (t : Nat) (ht : (aw_sh t).1 = 16) (k58 : Int32 × aw_M → Option (aw_M)) (hk58 : ∀ s : Int32 × aw_M, AW l k_X11_minute aw_gv 58 [some (.ref t), none, some (.int s.1), none, none] [] s.2 (k58 s)) (x2 : Int32) (x3 : Int32) (μ : aw_M) : AW l k_X11_minute aw_gv 202 [some (.ref t), none, some (.int x2), some (.int x3), none] [] μ (f_X11_minute_202 F t k58 x2 x3 μ) := by
  unfold f_X11_minute_202
  refine aw_iload_n (n := 203) dX11_minute_202 rfl rfl ?_
  refine aw_if_ge (n := 206) 209 dX11_minute_203 (by decide) rfl ?_ ?_
  · refine aw_aload_n (n := 210) dX11_minute_209 rfl rfl ?_
    refine aw_getR (n := 213) (RX11, TX11, 52) 11 6 dX11_minute_210 rfl ht (by decide) fd_RX11_33 ?_
    refine aw_sipush (n := 216) 674 dX11_minute_213 rfl (by decide) ?_
    refine aw_iload_n (n := 217) dX11_minute_216 rfl rfl ?_
    refine aw_iadd (n := 218) dX11_minute_217 rfl ?_
    refine aw_dup2 (n := 219) dX11_minute_218 rfl (fun _ => rfl) (fun _ => rfl) ?_
    refine aw_iaload (n := 220) 1155 dX11_minute_219 rfl (sf_11_6 ht) ?_
    refine aw_iconst (n := 221) 1 dX11_minute_220 rfl (by decide) ?_
    refine aw_isub (n := 222) dX11_minute_221 rfl ?_
    refine aw_iastore (n := 223) 1155 dX11_minute_222 rfl (sf_11_6 ht) (fun μ57 => ?_)
    refine aw_aload_n (n := 224) dX11_minute_223 rfl rfl ?_
    refine aw_getR (n := 227) (RX11, TX11, 52) 11 6 dX11_minute_224 rfl ht (by decide) fd_RX11_33 ?_
    refine aw_sipush (n := 230) 915 dX11_minute_227 rfl (by decide) ?_
    refine aw_dup2 (n := 231) dX11_minute_230 rfl (fun _ => rfl) (fun _ => rfl) ?_
    refine aw_iaload (n := 232) 1155 dX11_minute_231 rfl (sf_11_6 ht) ?_
    refine aw_iconst (n := 233) 1 dX11_minute_232 rfl (by decide) ?_
    refine aw_iadd (n := 234) dX11_minute_233 rfl ?_
    refine aw_iastore (n := 235) 1155 dX11_minute_234 rfl (sf_11_6 ht) (fun μ58 => ?_)
    refine aw_aload_n (n := 236) dX11_minute_235 rfl rfl ?_
    refine aw_getR (n := 239) (RX11, TX11, 52) 11 6 dX11_minute_236 rfl ht (by decide) fd_RX11_33 ?_
    refine aw_sipush (n := 242) 714 dX11_minute_239 rfl (by decide) ?_
    refine aw_aload_n (n := 243) dX11_minute_242 rfl rfl ?_
    refine aw_getR (n := 246) (RX11, TX11, 52) 11 6 dX11_minute_243 rfl ht (by decide) fd_RX11_33 ?_
    refine aw_bipush (n := 248) 11 dX11_minute_246 rfl (by decide) ?_
    refine aw_iload_n (n := 249) dX11_minute_248 rfl rfl ?_
    refine aw_iadd (n := 250) dX11_minute_249 rfl ?_
    refine aw_iaload (n := 251) 1155 dX11_minute_250 rfl (sf_11_6 ht) ?_
    refine aw_iadd (n := 252) dX11_minute_251 rfl ?_
    refine aw_dup2 (n := 253) dX11_minute_252 rfl (fun _ => rfl) (fun _ => rfl) ?_
    refine aw_iaload (n := 254) 1155 dX11_minute_253 rfl (sf_11_6 ht) ?_
    refine aw_iconst (n := 255) 2 dX11_minute_254 rfl (by decide) ?_
    refine aw_iadd (n := 256) dX11_minute_255 rfl ?_
    refine aw_iastore (n := 257) 1155 dX11_minute_256 rfl (sf_11_6 ht) (fun μ59 => ?_)
    refine aw_aload_n (n := 258) dX11_minute_257 rfl rfl ?_
    refine aw_getR (n := 261) (RX11, TX11, 52) 11 6 dX11_minute_258 rfl ht (by decide) fd_RX11_33 ?_
    refine aw_sipush (n := 264) 476 dX11_minute_261 rfl (by decide) ?_
    refine aw_iload_n (n := 265) dX11_minute_264 rfl rfl ?_
    refine aw_iadd (n := 266) dX11_minute_265 rfl ?_
    refine aw_dup2 (n := 267) dX11_minute_266 rfl (fun _ => rfl) (fun _ => rfl) ?_
    refine aw_iaload (n := 268) 1155 dX11_minute_267 rfl (sf_11_6 ht) ?_
    refine aw_iconst (n := 269) 3 dX11_minute_268 rfl (by decide) ?_
    refine aw_aload_n (n := 270) dX11_minute_269 rfl rfl ?_
    refine aw_getR (n := 273) (RX11, TX11, 52) 11 6 dX11_minute_270 rfl ht (by decide) fd_RX11_33 ?_
    refine aw_bipush (n := 275) 11 dX11_minute_273 rfl (by decide) ?_
    refine aw_iload_n (n := 276) dX11_minute_275 rfl rfl ?_
    refine aw_iadd (n := 277) dX11_minute_276 rfl ?_
    refine aw_iaload (n := 278) 1155 dX11_minute_277 rfl (sf_11_6 ht) ?_
    refine aw_aload_n (n := 279) dX11_minute_278 rfl rfl ?_
    refine aw_getR (n := 282) (RX11, TX11, 52) 11 6 dX11_minute_279 rfl ht (by decide) fd_RX11_33 ?_
    refine aw_bipush (n := 284) 67 dX11_minute_282 rfl (by decide) ?_
    refine aw_iload_n (n := 285) dX11_minute_284 rfl rfl ?_
    refine aw_iadd (n := 286) dX11_minute_285 rfl ?_
    refine aw_iaload (n := 287) 1155 dX11_minute_286 rfl (sf_11_6 ht) ?_
    refine aw_callSi (n := 290) (as := [.int (μ59.1 (aw_rf t 6) (11 + x3).toNatClampNeg), .int (μ59.1 (aw_rf t 6) (67 + x2).toNatClampNeg)]) (st := [.int 3, .int (μ59.1 (aw_rf t 6) (476 + x3).toNatClampNeg), .int (476 + x3), .ref (aw_rf t 6)]) dX11_minute_287 rfl rfl (m_X11_apart l F (μ59.1 (aw_rf t 6) (11 + x3).toNatClampNeg) (μ59.1 (aw_rf t 6) (67 + x2).toNatClampNeg) μ59) cw_RX11_278 ⟨Nat.le_of_ble_eq_true rfl, Nat.le_of_ble_eq_true rfl⟩ (fun _ => Nat.le_of_ble_eq_true rfl) (fun r60 => ?_)
    refine aw_iconst (n := 291) 2 dX11_minute_290 rfl (by decide) ?_
    refine aw_idivK (n := 292) dX11_minute_291 rfl (by decide) ?_
    refine aw_isub (n := 293) dX11_minute_292 rfl ?_
    refine aw_iadd (n := 294) dX11_minute_293 rfl ?_
    refine aw_iastore (n := 295) 1155 dX11_minute_294 rfl (sf_11_6 ht) (fun μ61 => ?_)
    exact aw_weak (c_X11_minute_295 l F t ht k58 hk58 x2 μ61) (aw_ss (aw_sn (aw_ss (aw_sn (aw_sn aw_s0)))))
  · refine aw_goto 295 dX11_minute_206 (by decide) ?_
    exact aw_weak (c_X11_minute_295 l F t ht k58 hk58 x2 μ) (aw_ss (aw_sn (aw_ss (aw_sn (aw_sn aw_s0)))))
def f_X11_minute_196 (F : Nat) (t : Nat) (k58 : Int32 × aw_M → Option (aw_M)) (k105 : Int32 × Int32 × Int32 × aw_M → Option (aw_M)) (x2 : Int32) (x3 : Int32) (x4 : Int32) (μ : aw_M) : Option (aw_M) :=
  k105 (x2, x3, (x4 + 1), μ)
theorem c_X11_minute_196 (l : Launch) (F : Nat) (t : Nat) (ht : (aw_sh t).1 = 16) (k58 : Int32 × aw_M → Option (aw_M)) (hk58 : ∀ s : Int32 × aw_M, AW l k_X11_minute aw_gv 58 [some (.ref t), none, some (.int s.1), none, none] [] s.2 (k58 s)) (k105 : Int32 × Int32 × Int32 × aw_M → Option (aw_M)) (hk105 : ∀ s : Int32 × Int32 × Int32 × aw_M, AW l k_X11_minute aw_gv 105 [some (.ref t), none, some (.int s.1), some (.int s.2.1), some (.int s.2.2.1)] [] s.2.2.2 (k105 s)) (x2 : Int32) (x3 : Int32) (x4 : Int32) (μ : aw_M) : AW l k_X11_minute aw_gv 196 [some (.ref t), none, some (.int x2), some (.int x3), some (.int x4)] [] μ (f_X11_minute_196 F t k58 k105 x2 x3 x4 μ) := by
  unfold f_X11_minute_196
  refine aw_iinc (n := 199) (x4 + 1) [some (.ref t), none, some (.int x2), some (.int x3), some (.int (x4 + 1))] dX11_minute_196 rfl rfl (by rfl) rfl (Nat.le_of_ble_eq_true rfl) rfl ?_
  refine aw_goto 105 dX11_minute_199 (by decide) ?_
  exact aw_weak (hk105 (x2, x3, (x4 + 1), μ)) (aw_ss (aw_sn (aw_ss (aw_ss (aw_ss aw_s0)))))
def f_X11_minute_193 (F : Nat) (t : Nat) (k58 : Int32 × aw_M → Option (aw_M)) (k105 : Int32 × Int32 × Int32 × aw_M → Option (aw_M)) (x2 : Int32) (x4 : Int32) (μ : aw_M) : Option (aw_M) :=
  f_X11_minute_196 F t k58 k105 x2 x4 x4 μ
theorem c_X11_minute_193 (l : Launch) (F : Nat) (t : Nat) (ht : (aw_sh t).1 = 16) (k58 : Int32 × aw_M → Option (aw_M)) (hk58 : ∀ s : Int32 × aw_M, AW l k_X11_minute aw_gv 58 [some (.ref t), none, some (.int s.1), none, none] [] s.2 (k58 s)) (k105 : Int32 × Int32 × Int32 × aw_M → Option (aw_M)) (hk105 : ∀ s : Int32 × Int32 × Int32 × aw_M, AW l k_X11_minute aw_gv 105 [some (.ref t), none, some (.int s.1), some (.int s.2.1), some (.int s.2.2.1)] [] s.2.2.2 (k105 s)) (x2 : Int32) (x4 : Int32) (μ : aw_M) : AW l k_X11_minute aw_gv 193 [some (.ref t), none, some (.int x2), none, some (.int x4)] [] μ (f_X11_minute_193 F t k58 k105 x2 x4 μ) := by
  unfold f_X11_minute_193
  refine aw_iload (n := 195) dX11_minute_193 rfl rfl ?_
  refine aw_istore_n (n := 196) [some (.ref t), none, some (.int x2), some (.int x4), some (.int x4)] dX11_minute_195 rfl rfl (Nat.le_of_ble_eq_true rfl) (Nat.le_of_ble_eq_true rfl) rfl ?_
  exact aw_weak (c_X11_minute_196 l F t ht k58 hk58 k105 hk105 x2 x4 x4 μ) (aw_ss (aw_sn (aw_ss (aw_ss (aw_ss aw_s0)))))
def f_X11_minute_105 (F : Nat) (t : Nat) (k105 : Int32 × Int32 × Int32 × aw_M → Option (aw_M)) (k58 : Int32 × aw_M → Option (aw_M)) (x2 : Int32) (x3 : Int32) (x4 : Int32) (μ : aw_M) : Option (aw_M) :=
  aw_g (aw_in 2 1155) ((if (μ.1 (aw_rf t 6) (2 : Int32).toNatClampNeg) ≤ x4 then
  f_X11_minute_202 F t k58 x2 x3 μ
  else
  aw_g (aw_in (11 + x4) 1155) (aw_g (aw_in (67 + x2) 1155) ((f_X11_apart F (μ.1 (aw_rf t 6) (11 + x4).toNatClampNeg) (μ.1 (aw_rf t 6) (67 + x2).toNatClampNeg) μ).bind fun r62 =>
  (if 6 < r62.1 then
  f_X11_minute_196 F t k58 k105 x2 x3 x4 r62.2
  else
  (if x3 < 0 then
  f_X11_minute_193 F t k58 k105 x2 x4 r62.2
  else
  aw_g (aw_in (11 + x4) 1155) (aw_g (aw_in (67 + x2) 1155) ((f_X11_apart F (r62.2.1 (aw_rf t 6) (11 + x4).toNatClampNeg) (r62.2.1 (aw_rf t 6) (67 + x2).toNatClampNeg) r62.2).bind fun r63 =>
  aw_g (aw_in (11 + x3) 1155) (aw_g (aw_in (67 + x2) 1155) ((f_X11_apart F (r63.2.1 (aw_rf t 6) (11 + x3).toNatClampNeg) (r63.2.1 (aw_rf t 6) (67 + x2).toNatClampNeg) r63.2).bind fun r64 =>
  (if r64.1 ≤ r63.1 then
  f_X11_minute_196 F t k58 k105 x2 x3 x4 r64.2
  else
  f_X11_minute_193 F t k58 k105 x2 x4 r64.2)))))))))))
theorem c_X11_minute_105 (l : Launch) (F : Nat) (t : Nat) (ht : (aw_sh t).1 = 16) (k58 : Int32 × aw_M → Option (aw_M)) (hk58 : ∀ s : Int32 × aw_M, AW l k_X11_minute aw_gv 58 [some (.ref t), none, some (.int s.1), none, none] [] s.2 (k58 s)) : ∀ (N : Nat) (s : Int32 × Int32 × Int32 × aw_M), AW l k_X11_minute aw_gv 105 [some (.ref t), none, some (.int s.1), some (.int s.2.1), some (.int s.2.2.1)] [] s.2.2.2 (aw_loop (fun k s => f_X11_minute_105 F t k k58 s.1 s.2.1 s.2.2.1 s.2.2.2) N s) := by
  refine aw_loop_ok (f := fun k s => f_X11_minute_105 F t k k58 s.1 s.2.1 s.2.2.1 s.2.2.2) (Ls := fun s => [some (.ref t), none, some (.int s.1), some (.int s.2.1), some (.int s.2.2.1)]) (ms := fun s => s.2.2.2) ?_
  intro k105 hk105 s
  obtain ⟨x2, x3, x4, μ⟩ := s
  show AW l k_X11_minute aw_gv 105 [some (.ref t), none, some (.int x2), some (.int x3), some (.int x4)] [] μ (f_X11_minute_105 F t k105 k58 x2 x3 x4 μ)
  unfold f_X11_minute_105
  refine aw_iload (n := 107) dX11_minute_105 rfl rfl ?_
  refine aw_aload_n (n := 108) dX11_minute_107 rfl rfl ?_
  refine aw_getR (n := 111) (RX11, TX11, 52) 11 6 dX11_minute_108 rfl ht (by decide) fd_RX11_33 ?_
  refine aw_iconst (n := 112) 2 dX11_minute_111 rfl (by decide) ?_
  refine aw_iaload (n := 113) 1155 dX11_minute_112 rfl (sf_11_6 ht) ?_
  refine aw_icmp_ge (n := 116) 202 dX11_minute_113 (by decide) rfl ?_ ?_
  · exact aw_weak (c_X11_minute_202 l F t ht k58 hk58 x2 x3 μ) (aw_ss (aw_sn (aw_ss (aw_ss (aw_sn aw_s0)))))
  · refine aw_aload_n (n := 117) dX11_minute_116 rfl rfl ?_
    refine aw_getR (n := 120) (RX11, TX11, 52) 11 6 dX11_minute_117 rfl ht (by decide) fd_RX11_33 ?_
    refine aw_bipush (n := 122) 11 dX11_minute_120 rfl (by decide) ?_
    refine aw_iload (n := 124) dX11_minute_122 rfl rfl ?_
    refine aw_iadd (n := 125) dX11_minute_124 rfl ?_
    refine aw_iaload (n := 126) 1155 dX11_minute_125 rfl (sf_11_6 ht) ?_
    refine aw_aload_n (n := 127) dX11_minute_126 rfl rfl ?_
    refine aw_getR (n := 130) (RX11, TX11, 52) 11 6 dX11_minute_127 rfl ht (by decide) fd_RX11_33 ?_
    refine aw_bipush (n := 132) 67 dX11_minute_130 rfl (by decide) ?_
    refine aw_iload_n (n := 133) dX11_minute_132 rfl rfl ?_
    refine aw_iadd (n := 134) dX11_minute_133 rfl ?_
    refine aw_iaload (n := 135) 1155 dX11_minute_134 rfl (sf_11_6 ht) ?_
    refine aw_callSi (n := 138) (as := [.int (μ.1 (aw_rf t 6) (11 + x4).toNatClampNeg), .int (μ.1 (aw_rf t 6) (67 + x2).toNatClampNeg)]) (st := []) dX11_minute_135 rfl rfl (m_X11_apart l F (μ.1 (aw_rf t 6) (11 + x4).toNatClampNeg) (μ.1 (aw_rf t 6) (67 + x2).toNatClampNeg) μ) cw_RX11_278 ⟨Nat.le_of_ble_eq_true rfl, Nat.le_of_ble_eq_true rfl⟩ (fun _ => Nat.le_of_ble_eq_true rfl) (fun r62 => ?_)
    refine aw_bipush (n := 140) 6 dX11_minute_138 rfl (by decide) ?_
    refine aw_icmp_gt (n := 143) 196 dX11_minute_140 (by decide) rfl ?_ ?_
    · exact aw_weak (c_X11_minute_196 l F t ht k58 hk58 k105 hk105 x2 x3 x4 r62.2) (aw_ss (aw_sn (aw_ss (aw_ss (aw_ss aw_s0)))))
    · refine aw_iload_n (n := 144) dX11_minute_143 rfl rfl ?_
      refine aw_if_lt (n := 147) 193 dX11_minute_144 (by decide) rfl ?_ ?_
      · exact aw_weak (c_X11_minute_193 l F t ht k58 hk58 k105 hk105 x2 x4 r62.2) (aw_ss (aw_sn (aw_ss (aw_sn (aw_ss aw_s0)))))
      · refine aw_aload_n (n := 148) dX11_minute_147 rfl rfl ?_
        refine aw_getR (n := 151) (RX11, TX11, 52) 11 6 dX11_minute_148 rfl ht (by decide) fd_RX11_33 ?_
        refine aw_bipush (n := 153) 11 dX11_minute_151 rfl (by decide) ?_
        refine aw_iload (n := 155) dX11_minute_153 rfl rfl ?_
        refine aw_iadd (n := 156) dX11_minute_155 rfl ?_
        refine aw_iaload (n := 157) 1155 dX11_minute_156 rfl (sf_11_6 ht) ?_
        refine aw_aload_n (n := 158) dX11_minute_157 rfl rfl ?_
        refine aw_getR (n := 161) (RX11, TX11, 52) 11 6 dX11_minute_158 rfl ht (by decide) fd_RX11_33 ?_
        refine aw_bipush (n := 163) 67 dX11_minute_161 rfl (by decide) ?_
        refine aw_iload_n (n := 164) dX11_minute_163 rfl rfl ?_
        refine aw_iadd (n := 165) dX11_minute_164 rfl ?_
        refine aw_iaload (n := 166) 1155 dX11_minute_165 rfl (sf_11_6 ht) ?_
        refine aw_callSi (n := 169) (as := [.int (r62.2.1 (aw_rf t 6) (11 + x4).toNatClampNeg), .int (r62.2.1 (aw_rf t 6) (67 + x2).toNatClampNeg)]) (st := []) dX11_minute_166 rfl rfl (m_X11_apart l F (r62.2.1 (aw_rf t 6) (11 + x4).toNatClampNeg) (r62.2.1 (aw_rf t 6) (67 + x2).toNatClampNeg) r62.2) cw_RX11_278 ⟨Nat.le_of_ble_eq_true rfl, Nat.le_of_ble_eq_true rfl⟩ (fun _ => Nat.le_of_ble_eq_true rfl) (fun r63 => ?_)
        refine aw_aload_n (n := 170) dX11_minute_169 rfl rfl ?_
        refine aw_getR (n := 173) (RX11, TX11, 52) 11 6 dX11_minute_170 rfl ht (by decide) fd_RX11_33 ?_
        refine aw_bipush (n := 175) 11 dX11_minute_173 rfl (by decide) ?_
        refine aw_iload_n (n := 176) dX11_minute_175 rfl rfl ?_
        refine aw_iadd (n := 177) dX11_minute_176 rfl ?_
        refine aw_iaload (n := 178) 1155 dX11_minute_177 rfl (sf_11_6 ht) ?_
        refine aw_aload_n (n := 179) dX11_minute_178 rfl rfl ?_
        refine aw_getR (n := 182) (RX11, TX11, 52) 11 6 dX11_minute_179 rfl ht (by decide) fd_RX11_33 ?_
        refine aw_bipush (n := 184) 67 dX11_minute_182 rfl (by decide) ?_
        refine aw_iload_n (n := 185) dX11_minute_184 rfl rfl ?_
        refine aw_iadd (n := 186) dX11_minute_185 rfl ?_
        refine aw_iaload (n := 187) 1155 dX11_minute_186 rfl (sf_11_6 ht) ?_
        refine aw_callSi (n := 190) (as := [.int (r63.2.1 (aw_rf t 6) (11 + x3).toNatClampNeg), .int (r63.2.1 (aw_rf t 6) (67 + x2).toNatClampNeg)]) (st := [.int r63.1]) dX11_minute_187 rfl rfl (m_X11_apart l F (r63.2.1 (aw_rf t 6) (11 + x3).toNatClampNeg) (r63.2.1 (aw_rf t 6) (67 + x2).toNatClampNeg) r63.2) cw_RX11_278 ⟨Nat.le_of_ble_eq_true rfl, Nat.le_of_ble_eq_true rfl⟩ (fun _ => Nat.le_of_ble_eq_true rfl) (fun r64 => ?_)
        refine aw_icmp_ge (n := 193) 196 dX11_minute_190 (by decide) rfl ?_ ?_
        · exact aw_weak (c_X11_minute_196 l F t ht k58 hk58 k105 hk105 x2 x3 x4 r64.2) (aw_ss (aw_sn (aw_ss (aw_ss (aw_ss aw_s0)))))
        · exact aw_weak (c_X11_minute_193 l F t ht k58 hk58 k105 hk105 x2 x4 r64.2) (aw_ss (aw_sn (aw_ss (aw_sn (aw_ss aw_s0)))))
def f_X11_minute_58 (F : Nat) (t : Nat) (k58 : Int32 × aw_M → Option (aw_M)) (x2 : Int32) (μ : aw_M) : Option (aw_M) :=
  aw_g (aw_in 3 1155) ((if (μ.1 (aw_rf t 6) (3 : Int32).toNatClampNeg) ≤ x2 then
  f_X11_minute_301 F t μ
  else
  aw_g (aw_in 456 1155) ((f_X11_isThere F t x2 (μ.1 (aw_rf t 6) (456 : Int32).toNatClampNeg) μ).bind fun r56 =>
  (if r56.1 = true then
  aw_g (aw_in (674 + x2) 1155) ((if (r56.2.1 (aw_rf t 6) (674 + x2).toNatClampNeg) = 0 then
  f_X11_minute_295 F t k58 x2 r56.2
  else
  aw_loop (fun k s => f_X11_minute_105 F t k k58 s.1 s.2.1 s.2.2.1 s.2.2.2) F (x2, (-1), 0, r56.2)))
  else
  f_X11_minute_295 F t k58 x2 r56.2))))
theorem c_X11_minute_58 (l : Launch) (F : Nat) (t : Nat) (ht : (aw_sh t).1 = 16) : ∀ (N : Nat) (s : Int32 × aw_M), AW l k_X11_minute aw_gv 58 [some (.ref t), none, some (.int s.1), none, none] [] s.2 (aw_loop (fun k s => f_X11_minute_58 F t k s.1 s.2) N s) := by
  refine aw_loop_ok (f := fun k s => f_X11_minute_58 F t k s.1 s.2) (Ls := fun s => [some (.ref t), none, some (.int s.1), none, none]) (ms := fun s => s.2) ?_
  intro k58 hk58 s
  obtain ⟨x2, μ⟩ := s
  show AW l k_X11_minute aw_gv 58 [some (.ref t), none, some (.int x2), none, none] [] μ (f_X11_minute_58 F t k58 x2 μ)
  unfold f_X11_minute_58
  refine aw_iload_n (n := 59) dX11_minute_58 rfl rfl ?_
  refine aw_aload_n (n := 60) dX11_minute_59 rfl rfl ?_
  refine aw_getR (n := 63) (RX11, TX11, 52) 11 6 dX11_minute_60 rfl ht (by decide) fd_RX11_33 ?_
  refine aw_iconst (n := 64) 3 dX11_minute_63 rfl (by decide) ?_
  refine aw_iaload (n := 65) 1155 dX11_minute_64 rfl (sf_11_6 ht) ?_
  refine aw_icmp_ge (n := 68) 301 dX11_minute_65 (by decide) rfl ?_ ?_
  · exact aw_weak (c_X11_minute_301 l F t ht μ) (aw_ss (aw_sn (aw_sn (aw_sn (aw_sn aw_s0)))))
  · refine aw_aload_n (n := 69) dX11_minute_68 rfl rfl ?_
    refine aw_iload_n (n := 70) dX11_minute_69 rfl rfl ?_
    refine aw_aload_n (n := 71) dX11_minute_70 rfl rfl ?_
    refine aw_getR (n := 74) (RX11, TX11, 52) 11 6 dX11_minute_71 rfl ht (by decide) fd_RX11_33 ?_
    refine aw_sipush (n := 77) 456 dX11_minute_74 rfl (by decide) ?_
    refine aw_iaload (n := 78) 1155 dX11_minute_77 rfl (sf_11_6 ht) ?_
    refine aw_callVz (n := 81) (as := [.int x2, .int (μ.1 (aw_rf t 6) (456 : Int32).toNatClampNeg)]) (st := []) (RX11, TX11, 52) 11 dX11_minute_78 rfl rfl (m_X11_isThere l F t ht x2 (μ.1 (aw_rf t 6) (456 : Int32).toNatClampNeg) μ) ht (by decide) rfl rfl cw_RX11_268 ⟨Nat.le_of_ble_eq_true rfl, Nat.le_of_ble_eq_true rfl⟩ (fun _ => Nat.le_of_ble_eq_true rfl) (fun r56 => ?_)
    refine aw_ifb_eq (n := 84) 295 dX11_minute_81 (by decide) rfl ?_ ?_
    · exact aw_weak (c_X11_minute_295 l F t ht k58 hk58 x2 r56.2) (aw_ss (aw_sn (aw_ss (aw_sn (aw_sn aw_s0)))))
    · refine aw_aload_n (n := 85) dX11_minute_84 rfl rfl ?_
      refine aw_getR (n := 88) (RX11, TX11, 52) 11 6 dX11_minute_85 rfl ht (by decide) fd_RX11_33 ?_
      refine aw_sipush (n := 91) 674 dX11_minute_88 rfl (by decide) ?_
      refine aw_iload_n (n := 92) dX11_minute_91 rfl rfl ?_
      refine aw_iadd (n := 93) dX11_minute_92 rfl ?_
      refine aw_iaload (n := 94) 1155 dX11_minute_93 rfl (sf_11_6 ht) ?_
      refine aw_if_ne (n := 97) 100 dX11_minute_94 (by decide) rfl ?_ ?_
      · refine aw_iconst (n := 101) (-1) dX11_minute_100 rfl (by decide) ?_
        refine aw_istore_n (n := 102) [some (.ref t), none, some (.int x2), some (.int (-1)), none] dX11_minute_101 rfl rfl (Nat.le_of_ble_eq_true rfl) (Nat.le_of_ble_eq_true rfl) rfl ?_
        refine aw_iconst (n := 103) 0 dX11_minute_102 rfl (by decide) ?_
        refine aw_istore (n := 105) [some (.ref t), none, some (.int x2), some (.int (-1)), some (.int 0)] dX11_minute_103 rfl rfl (Nat.le_of_ble_eq_true rfl) (Nat.le_of_ble_eq_true rfl) rfl ?_
        exact aw_weak (c_X11_minute_105 l F t ht k58 hk58 F (x2, (-1), 0, r56.2)) (aw_ss (aw_sn (aw_ss (aw_ss (aw_ss aw_s0)))))
      · refine aw_goto 295 dX11_minute_97 (by decide) ?_
        exact aw_weak (c_X11_minute_295 l F t ht k58 hk58 x2 r56.2) (aw_ss (aw_sn (aw_ss (aw_sn (aw_sn aw_s0)))))
def f_X11_minute_52 (F : Nat) (t : Nat) (μ : aw_M) : Option (aw_M) :=
  (f_X11_marked F t μ).bind fun r46 =>
  aw_loop (fun k s => f_X11_minute_58 F t k s.1 s.2) F (0, r46)
theorem c_X11_minute_52 (l : Launch) (F : Nat) (t : Nat) (ht : (aw_sh t).1 = 16) (μ : aw_M) : AW l k_X11_minute aw_gv 52 [some (.ref t), none, none, none, none] [] μ (f_X11_minute_52 F t μ) := by
  unfold f_X11_minute_52
  refine aw_aload_n (n := 53) dX11_minute_52 rfl rfl ?_
  refine aw_callVv (n := 56) (as := []) (st := []) (RX11, TX11, 52) 11 dX11_minute_53 rfl rfl (m_X11_marked l F t ht μ) ht (by decide) rfl rfl cw_RX11_307 ⟨Nat.le_of_ble_eq_true rfl, Nat.le_of_ble_eq_true rfl⟩ (fun _ => Nat.le_of_ble_eq_true rfl) (fun r46 => ?_)
  refine aw_iconst (n := 57) 0 dX11_minute_56 rfl (by decide) ?_
  refine aw_istore_n (n := 58) [some (.ref t), none, some (.int 0), none, none] dX11_minute_57 rfl rfl (Nat.le_of_ble_eq_true rfl) (Nat.le_of_ble_eq_true rfl) rfl ?_
  exact aw_weak (c_X11_minute_58 l F t ht F (0, r46)) (aw_ss (aw_sn (aw_ss (aw_sn (aw_sn aw_s0)))))
def f_X11_minute_46 (F : Nat) (t : Nat) (k11 : Int32 × Int32 × aw_M → Option (aw_M)) (x1 : Int32) (x2 : Int32) (μ : aw_M) : Option (aw_M) :=
  k11 (x1, (x2 + 1), μ)
theorem c_X11_minute_46 (l : Launch) (F : Nat) (t : Nat) (ht : (aw_sh t).1 = 16) (k11 : Int32 × Int32 × aw_M → Option (aw_M)) (hk11 : ∀ s : Int32 × Int32 × aw_M, AW l k_X11_minute aw_gv 11 [some (.ref t), some (.int s.1), some (.int s.2.1), none, none] [] s.2.2 (k11 s)) (x1 : Int32) (x2 : Int32) (μ : aw_M) : AW l k_X11_minute aw_gv 46 [some (.ref t), some (.int x1), some (.int x2), none, none] [] μ (f_X11_minute_46 F t k11 x1 x2 μ) := by
  unfold f_X11_minute_46
  refine aw_iinc (n := 49) (x2 + 1) [some (.ref t), some (.int x1), some (.int (x2 + 1)), none, none] dX11_minute_46 rfl rfl (by rfl) rfl (Nat.le_of_ble_eq_true rfl) rfl ?_
  refine aw_goto 11 dX11_minute_49 (by decide) ?_
  exact aw_weak (hk11 (x1, (x2 + 1), μ)) (aw_ss (aw_ss (aw_ss (aw_sn (aw_sn aw_s0)))))
def f_X11_minute_11 (F : Nat) (t : Nat) (k11 : Int32 × Int32 × aw_M → Option (aw_M)) (x1 : Int32) (x2 : Int32) (μ : aw_M) : Option (aw_M) :=
  aw_g (aw_in 2 1155) ((if (μ.1 (aw_rf t 6) (2 : Int32).toNatClampNeg) ≤ x2 then
  f_X11_minute_52 F t μ
  else
  aw_g (aw_in 456 1155) ((f_X11_aimed F t x2 (μ.1 (aw_rf t 6) (456 : Int32).toNatClampNeg) μ).bind fun r65 =>
  (if r65.1 < 0 then
  f_X11_minute_46 F t k11 x1 x2 r65.2
  else
  (f_X11_throwsAt F t x2 r65.1 x1 r65.2).bind fun r66 =>
  f_X11_minute_46 F t k11 x1 x2 r66))))
theorem c_X11_minute_11 (l : Launch) (F : Nat) (t : Nat) (ht : (aw_sh t).1 = 16) : ∀ (N : Nat) (s : Int32 × Int32 × aw_M), AW l k_X11_minute aw_gv 11 [some (.ref t), some (.int s.1), some (.int s.2.1), none, none] [] s.2.2 (aw_loop (fun k s => f_X11_minute_11 F t k s.1 s.2.1 s.2.2) N s) := by
  refine aw_loop_ok (f := fun k s => f_X11_minute_11 F t k s.1 s.2.1 s.2.2) (Ls := fun s => [some (.ref t), some (.int s.1), some (.int s.2.1), none, none]) (ms := fun s => s.2.2) ?_
  intro k11 hk11 s
  obtain ⟨x1, x2, μ⟩ := s
  show AW l k_X11_minute aw_gv 11 [some (.ref t), some (.int x1), some (.int x2), none, none] [] μ (f_X11_minute_11 F t k11 x1 x2 μ)
  unfold f_X11_minute_11
  refine aw_iload_n (n := 12) dX11_minute_11 rfl rfl ?_
  refine aw_aload_n (n := 13) dX11_minute_12 rfl rfl ?_
  refine aw_getR (n := 16) (RX11, TX11, 52) 11 6 dX11_minute_13 rfl ht (by decide) fd_RX11_33 ?_
  refine aw_iconst (n := 17) 2 dX11_minute_16 rfl (by decide) ?_
  refine aw_iaload (n := 18) 1155 dX11_minute_17 rfl (sf_11_6 ht) ?_
  refine aw_icmp_ge (n := 21) 52 dX11_minute_18 (by decide) rfl ?_ ?_
  · exact aw_weak (c_X11_minute_52 l F t ht μ) (aw_ss (aw_sn (aw_sn (aw_sn (aw_sn aw_s0)))))
  · refine aw_aload_n (n := 22) dX11_minute_21 rfl rfl ?_
    refine aw_iload_n (n := 23) dX11_minute_22 rfl rfl ?_
    refine aw_aload_n (n := 24) dX11_minute_23 rfl rfl ?_
    refine aw_getR (n := 27) (RX11, TX11, 52) 11 6 dX11_minute_24 rfl ht (by decide) fd_RX11_33 ?_
    refine aw_sipush (n := 30) 456 dX11_minute_27 rfl (by decide) ?_
    refine aw_iaload (n := 31) 1155 dX11_minute_30 rfl (sf_11_6 ht) ?_
    refine aw_callVi (n := 34) (as := [.int x2, .int (μ.1 (aw_rf t 6) (456 : Int32).toNatClampNeg)]) (st := []) (RX11, TX11, 52) 11 dX11_minute_31 rfl rfl (m_X11_aimed l F t ht x2 (μ.1 (aw_rf t 6) (456 : Int32).toNatClampNeg) μ) ht (by decide) rfl rfl cw_RX11_300 ⟨Nat.le_of_ble_eq_true rfl, Nat.le_of_ble_eq_true rfl⟩ (fun _ => Nat.le_of_ble_eq_true rfl) (fun r65 => ?_)
    refine aw_istore_n (n := 35) [some (.ref t), some (.int x1), some (.int x2), some (.int r65.1), none] dX11_minute_34 rfl rfl (Nat.le_of_ble_eq_true rfl) (Nat.le_of_ble_eq_true rfl) rfl ?_
    refine aw_iload_n (n := 36) dX11_minute_35 rfl rfl ?_
    refine aw_if_lt (n := 39) 46 dX11_minute_36 (by decide) rfl ?_ ?_
    · exact aw_weak (c_X11_minute_46 l F t ht k11 hk11 x1 x2 r65.2) (aw_ss (aw_ss (aw_ss (aw_sn (aw_sn aw_s0)))))
    · refine aw_aload_n (n := 40) dX11_minute_39 rfl rfl ?_
      refine aw_iload_n (n := 41) dX11_minute_40 rfl rfl ?_
      refine aw_iload_n (n := 42) dX11_minute_41 rfl rfl ?_
      refine aw_iload_n (n := 43) dX11_minute_42 rfl rfl ?_
      refine aw_callVv (n := 46) (as := [.int x2, .int r65.1, .int x1]) (st := []) (RX11, TX11, 52) 11 dX11_minute_43 rfl rfl (m_X11_throwsAt l F t ht x2 r65.1 x1 r65.2) ht (by decide) rfl rfl cw_RX11_303 ⟨Nat.le_of_ble_eq_true rfl, Nat.le_of_ble_eq_true rfl⟩ (fun _ => Nat.le_of_ble_eq_true rfl) (fun r66 => ?_)
      exact aw_weak (c_X11_minute_46 l F t ht k11 hk11 x1 x2 r66) (aw_ss (aw_ss (aw_ss (aw_sn (aw_sn aw_s0)))))
def f_X11_minute (F : Nat) (t : Nat) (a0 : Int32) (μ : aw_M) : Option (aw_M) :=
  aw_g (aw_in 919 1155) (aw_let (aw_wI μ (aw_rf t 6) (919 : Int32).toNatClampNeg 0) fun μ45 =>
  aw_loop (fun k s => f_X11_minute_11 F t k s.1 s.2.1 s.2.2) F (a0, 0, μ45))
theorem m_X11_minute (l : Launch) (F : Nat) (t : Nat) (ht : (aw_sh t).1 = 16) (a0 : Int32) (μ : aw_M) : AM l yX11_minute cX11_minute 5 none 5 218 aw_gv [.ref t, .int a0] μ (f_X11_minute F t a0 μ) := by
  refine aw_met [some (.ref t), some (.int a0), none, none, none] (by decide) (fun _ => rfl) (fun _ => Nat.le_of_ble_eq_true rfl) ?_
  show AW l k_X11_minute aw_gv 0 [some (.ref t), some (.int a0), none, none, none] [] μ _
  unfold f_X11_minute
  refine aw_aload_n (n := 1) dX11_minute_0 rfl rfl ?_
  refine aw_getR (n := 4) (RX11, TX11, 52) 11 6 dX11_minute_1 rfl ht (by decide) fd_RX11_33 ?_
  refine aw_sipush (n := 7) 919 dX11_minute_4 rfl (by decide) ?_
  refine aw_iconst (n := 8) 0 dX11_minute_7 rfl (by decide) ?_
  refine aw_iastore (n := 9) 1155 dX11_minute_8 rfl (sf_11_6 ht) (fun μ45 => ?_)
  refine aw_iconst (n := 10) 0 dX11_minute_9 rfl (by decide) ?_
  refine aw_istore_n (n := 11) [some (.ref t), some (.int a0), some (.int 0), none, none] dX11_minute_10 rfl rfl (Nat.le_of_ble_eq_true rfl) (Nat.le_of_ble_eq_true rfl) rfl ?_
  exact aw_weak (c_X11_minute_11 l F t ht F (a0, 0, μ45)) (aw_ss (aw_ss (aw_ss (aw_sn (aw_sn aw_s0)))))
abbrev k_X11_on : aw_K := (RX11, cX11_on, 3, (some .int), 6, 242)
def f_X11_on_20 (F : Nat) (t : Nat) (k20 : Int32 × Int32 × aw_M → Option (Int32 × aw_M)) (x1 : Int32) (x2 : Int32) (μ : aw_M) : Option (Int32 × aw_M) :=
  (if x1 ≤ x2 then
  some (x2, μ)
  else
  aw_g (aw_in 455 1155) ((if 3 ≤ (μ.1 (aw_rf t 6) (455 : Int32).toNatClampNeg) then
  some (x2, μ)
  else
  (f_X11_minute F t 0 μ).bind fun r6 =>
  k20 (x1, (x2 + 1), r6))))
theorem c_X11_on_20 (l : Launch) (F : Nat) (t : Nat) (ht : (aw_sh t).1 = 16) : ∀ (N : Nat) (s : Int32 × Int32 × aw_M), AW l k_X11_on aw_gi 20 [some (.ref t), some (.int s.1), some (.int s.2.1)] [] s.2.2 (aw_loop (fun k s => f_X11_on_20 F t k s.1 s.2.1 s.2.2) N s) := by
  refine aw_loop_ok (f := fun k s => f_X11_on_20 F t k s.1 s.2.1 s.2.2) (Ls := fun s => [some (.ref t), some (.int s.1), some (.int s.2.1)]) (ms := fun s => s.2.2) ?_
  intro k20 hk20 s
  obtain ⟨x1, x2, μ⟩ := s
  show AW l k_X11_on aw_gi 20 [some (.ref t), some (.int x1), some (.int x2)] [] μ (f_X11_on_20 F t k20 x1 x2 μ)
  unfold f_X11_on_20
  refine aw_iload_n (n := 21) dX11_on_20 rfl rfl ?_
  refine aw_iload_n (n := 22) dX11_on_21 rfl rfl ?_
  refine aw_icmp_ge (n := 25) 48 dX11_on_22 (by decide) rfl ?_ ?_
  · refine aw_iload_n (n := 49) dX11_on_48 rfl rfl ?_
    exact aw_ireturn dX11_on_49 rfl rfl
  · refine aw_aload_n (n := 26) dX11_on_25 rfl rfl ?_
    refine aw_getR (n := 29) (RX11, TX11, 52) 11 6 dX11_on_26 rfl ht (by decide) fd_RX11_33 ?_
    refine aw_sipush (n := 32) 455 dX11_on_29 rfl (by decide) ?_
    refine aw_iaload (n := 33) 1155 dX11_on_32 rfl (sf_11_6 ht) ?_
    refine aw_iconst (n := 34) 3 dX11_on_33 rfl (by decide) ?_
    refine aw_icmp_ge (n := 37) 48 dX11_on_34 (by decide) rfl ?_ ?_
    · refine aw_iload_n (n := 49) dX11_on_48 rfl rfl ?_
      exact aw_ireturn dX11_on_49 rfl rfl
    · refine aw_aload_n (n := 38) dX11_on_37 rfl rfl ?_
      refine aw_iconst (n := 39) 0 dX11_on_38 rfl (by decide) ?_
      refine aw_callVv (n := 42) (as := [.int 0]) (st := []) (RX11, TX11, 52) 11 dX11_on_39 rfl rfl (m_X11_minute l F t ht 0 μ) ht (by decide) rfl rfl cw_RX11_313 ⟨Nat.le_of_ble_eq_true rfl, Nat.le_of_ble_eq_true rfl⟩ (fun _ => Nat.le_of_ble_eq_true rfl) (fun r6 => ?_)
      refine aw_iinc (n := 45) (x2 + 1) [some (.ref t), some (.int x1), some (.int (x2 + 1))] dX11_on_42 rfl rfl (by rfl) rfl (Nat.le_of_ble_eq_true rfl) rfl ?_
      refine aw_goto 20 dX11_on_45 (by decide) ?_
      exact aw_weak (hk20 (x1, (x2 + 1), r6)) (aw_ss (aw_ss (aw_ss aw_s0)))
def f_X11_on (F : Nat) (t : Nat) (a0 : Int32) (μ : aw_M) : Option (Int32 × aw_M) :=
  aw_let (aw_wI μ t 0 0) fun μ4 =>
  (f_X11_isIn F a0 1 720 μ4).bind fun r5 =>
  (if r5.1 = true then
  aw_loop (fun k s => f_X11_on_20 F t k s.1 s.2.1 s.2.2) F (a0, 0, r5.2)
  else
  some ((-1), r5.2))
theorem m_X11_on (l : Launch) (F : Nat) (t : Nat) (ht : (aw_sh t).1 = 16) (a0 : Int32) (μ : aw_M) : AM l yX11_on cX11_on 3 (some .int) 6 242 aw_gi [.ref t, .int a0] μ (f_X11_on F t a0 μ) := by
  refine aw_met [some (.ref t), some (.int a0), none] (by decide) (fun _ => rfl) (fun _ => Nat.le_of_ble_eq_true rfl) ?_
  show AW l k_X11_on aw_gi 0 [some (.ref t), some (.int a0), none] [] μ _
  unfold f_X11_on
  refine aw_aload_n (n := 1) dX11_on_0 rfl rfl ?_
  refine aw_iconst (n := 2) 0 dX11_on_1 rfl (by decide) ?_
  refine aw_putI (n := 5) (RX11, TX11, 52) 11 0 dX11_on_2 rfl ht (by decide) fp_RX11_1 (fun μ4 => ?_)
  refine aw_iload_n (n := 6) dX11_on_5 rfl rfl ?_
  refine aw_iconst (n := 7) 1 dX11_on_6 rfl (by decide) ?_
  refine aw_sipush (n := 10) 720 dX11_on_7 rfl (by decide) ?_
  refine aw_callSz (n := 13) (as := [.int a0, .int 1, .int 720]) (st := []) dX11_on_10 rfl rfl (m_X11_isIn l F a0 1 720 μ4) cw_RX11_194 ⟨Nat.le_of_ble_eq_true rfl, Nat.le_of_ble_eq_true rfl⟩ (fun _ => Nat.le_of_ble_eq_true rfl) (fun r5 => ?_)
  refine aw_ifb_ne (n := 16) 18 dX11_on_13 (by decide) rfl ?_ ?_
  · refine aw_iconst (n := 19) 0 dX11_on_18 rfl (by decide) ?_
    refine aw_istore_n (n := 20) [some (.ref t), some (.int a0), some (.int 0)] dX11_on_19 rfl rfl (Nat.le_of_ble_eq_true rfl) (Nat.le_of_ble_eq_true rfl) rfl ?_
    exact aw_weak (c_X11_on_20 l F t ht F (a0, 0, r5.2)) (aw_ss (aw_ss (aw_ss aw_s0)))
  · refine aw_iconst (n := 17) (-1) dX11_on_16 rfl (by decide) ?_
    exact aw_ireturn dX11_on_17 rfl rfl
abbrev k_X11_now : aw_K := (RX11, cX11_now, 4, (some .int), 1, 120)
def f_X11_now_34 (F : Nat) (t : Nat) (x1 : Int32) (x2 : Int32) (μ : aw_M) : Option (Int32 × aw_M) :=
  (aw_sel ((x1 : Int32).toInt - 0) [(aw_g (aw_in 455 1155) (some ((μ.1 (aw_rf t 6) (455 : Int32).toNatClampNeg), μ))), (aw_g (aw_in 456 1155) (some ((μ.1 (aw_rf t 6) (456 : Int32).toNatClampNeg), μ))), (aw_g (aw_in 914 1155) (some ((μ.1 (aw_rf t 6) (914 : Int32).toNatClampNeg), μ))), (aw_g (aw_in 915 1155) (some ((μ.1 (aw_rf t 6) (915 : Int32).toNatClampNeg), μ))), (aw_g (aw_in 916 1155) (some ((μ.1 (aw_rf t 6) (916 : Int32).toNatClampNeg), μ))), (aw_g (aw_in 917 1155) (some ((μ.1 (aw_rf t 6) (917 : Int32).toNatClampNeg), μ))), (aw_g (aw_in 918 1155) (some ((μ.1 (aw_rf t 6) (918 : Int32).toNatClampNeg), μ))), (some (x2, μ))] (some ((-1), μ)))
theorem c_X11_now_34 (l : Launch) (F : Nat) (t : Nat) (ht : (aw_sh t).1 = 16) (x1 : Int32) (x2 : Int32) (μ : aw_M) : AW l k_X11_now aw_gi 34 [some (.ref t), some (.int x1), some (.int x2), none] [] μ (f_X11_now_34 F t x1 x2 μ) := by
  unfold f_X11_now_34
  refine aw_iload_n (n := 35) dX11_now_34 rfl rfl ?_
  refine aw_tsw [80, 89, 98, 107, 116, 125, 134, 143] 145 dX11_now_35 (by decide) (by decide) (by decide) ⟨?_, ?_, ?_, ?_, ?_, ?_, ?_, ?_, trivial⟩ ?_
  · refine aw_aload_n (n := 81) dX11_now_80 rfl rfl ?_
    refine aw_getR (n := 84) (RX11, TX11, 52) 11 6 dX11_now_81 rfl ht (by decide) fd_RX11_33 ?_
    refine aw_sipush (n := 87) 455 dX11_now_84 rfl (by decide) ?_
    refine aw_iaload (n := 88) 1155 dX11_now_87 rfl (sf_11_6 ht) ?_
    exact aw_ireturn dX11_now_88 rfl rfl
  · refine aw_aload_n (n := 90) dX11_now_89 rfl rfl ?_
    refine aw_getR (n := 93) (RX11, TX11, 52) 11 6 dX11_now_90 rfl ht (by decide) fd_RX11_33 ?_
    refine aw_sipush (n := 96) 456 dX11_now_93 rfl (by decide) ?_
    refine aw_iaload (n := 97) 1155 dX11_now_96 rfl (sf_11_6 ht) ?_
    exact aw_ireturn dX11_now_97 rfl rfl
  · refine aw_aload_n (n := 99) dX11_now_98 rfl rfl ?_
    refine aw_getR (n := 102) (RX11, TX11, 52) 11 6 dX11_now_99 rfl ht (by decide) fd_RX11_33 ?_
    refine aw_sipush (n := 105) 914 dX11_now_102 rfl (by decide) ?_
    refine aw_iaload (n := 106) 1155 dX11_now_105 rfl (sf_11_6 ht) ?_
    exact aw_ireturn dX11_now_106 rfl rfl
  · refine aw_aload_n (n := 108) dX11_now_107 rfl rfl ?_
    refine aw_getR (n := 111) (RX11, TX11, 52) 11 6 dX11_now_108 rfl ht (by decide) fd_RX11_33 ?_
    refine aw_sipush (n := 114) 915 dX11_now_111 rfl (by decide) ?_
    refine aw_iaload (n := 115) 1155 dX11_now_114 rfl (sf_11_6 ht) ?_
    exact aw_ireturn dX11_now_115 rfl rfl
  · refine aw_aload_n (n := 117) dX11_now_116 rfl rfl ?_
    refine aw_getR (n := 120) (RX11, TX11, 52) 11 6 dX11_now_117 rfl ht (by decide) fd_RX11_33 ?_
    refine aw_sipush (n := 123) 916 dX11_now_120 rfl (by decide) ?_
    refine aw_iaload (n := 124) 1155 dX11_now_123 rfl (sf_11_6 ht) ?_
    exact aw_ireturn dX11_now_124 rfl rfl
  · refine aw_aload_n (n := 126) dX11_now_125 rfl rfl ?_
    refine aw_getR (n := 129) (RX11, TX11, 52) 11 6 dX11_now_126 rfl ht (by decide) fd_RX11_33 ?_
    refine aw_sipush (n := 132) 917 dX11_now_129 rfl (by decide) ?_
    refine aw_iaload (n := 133) 1155 dX11_now_132 rfl (sf_11_6 ht) ?_
    exact aw_ireturn dX11_now_133 rfl rfl
  · refine aw_aload_n (n := 135) dX11_now_134 rfl rfl ?_
    refine aw_getR (n := 138) (RX11, TX11, 52) 11 6 dX11_now_135 rfl ht (by decide) fd_RX11_33 ?_
    refine aw_sipush (n := 141) 918 dX11_now_138 rfl (by decide) ?_
    refine aw_iaload (n := 142) 1155 dX11_now_141 rfl (sf_11_6 ht) ?_
    exact aw_ireturn dX11_now_142 rfl rfl
  · refine aw_iload_n (n := 144) dX11_now_143 rfl rfl ?_
    exact aw_ireturn dX11_now_144 rfl rfl
  · refine aw_iconst (n := 146) (-1) dX11_now_145 rfl (by decide) ?_
    exact aw_ireturn dX11_now_146 rfl rfl
def f_X11_now_9 (F : Nat) (t : Nat) (k9 : Int32 × Int32 × Int32 × aw_M → Option (Int32 × aw_M)) (x1 : Int32) (x2 : Int32) (x3 : Int32) (μ : aw_M) : Option (Int32 × aw_M) :=
  (if 100 ≤ x3 then
  f_X11_now_34 F t x1 x2 μ
  else
  aw_g (aw_in (714 + x3) 1155) (aw_let ((x2 + (μ.1 (aw_rf t 6) (714 + x3).toNatClampNeg))) fun v6 =>
  k9 (x1, v6, (x3 + 1), μ)))
theorem c_X11_now_9 (l : Launch) (F : Nat) (t : Nat) (ht : (aw_sh t).1 = 16) : ∀ (N : Nat) (s : Int32 × Int32 × Int32 × aw_M), AW l k_X11_now aw_gi 9 [some (.ref t), some (.int s.1), some (.int s.2.1), some (.int s.2.2.1)] [] s.2.2.2 (aw_loop (fun k s => f_X11_now_9 F t k s.1 s.2.1 s.2.2.1 s.2.2.2) N s) := by
  refine aw_loop_ok (f := fun k s => f_X11_now_9 F t k s.1 s.2.1 s.2.2.1 s.2.2.2) (Ls := fun s => [some (.ref t), some (.int s.1), some (.int s.2.1), some (.int s.2.2.1)]) (ms := fun s => s.2.2.2) ?_
  intro k9 hk9 s
  obtain ⟨x1, x2, x3, μ⟩ := s
  show AW l k_X11_now aw_gi 9 [some (.ref t), some (.int x1), some (.int x2), some (.int x3)] [] μ (f_X11_now_9 F t k9 x1 x2 x3 μ)
  unfold f_X11_now_9
  refine aw_iload_n (n := 10) dX11_now_9 rfl rfl ?_
  refine aw_bipush (n := 12) 100 dX11_now_10 rfl (by decide) ?_
  refine aw_icmp_ge (n := 15) 34 dX11_now_12 (by decide) rfl ?_ ?_
  · exact aw_weak (c_X11_now_34 l F t ht x1 x2 μ) (aw_ss (aw_ss (aw_ss (aw_sn aw_s0))))
  · refine aw_iload_n (n := 16) dX11_now_15 rfl rfl ?_
    refine aw_aload_n (n := 17) dX11_now_16 rfl rfl ?_
    refine aw_getR (n := 20) (RX11, TX11, 52) 11 6 dX11_now_17 rfl ht (by decide) fd_RX11_33 ?_
    refine aw_sipush (n := 23) 714 dX11_now_20 rfl (by decide) ?_
    refine aw_iload_n (n := 24) dX11_now_23 rfl rfl ?_
    refine aw_iadd (n := 25) dX11_now_24 rfl ?_
    refine aw_iaload (n := 26) 1155 dX11_now_25 rfl (sf_11_6 ht) ?_
    refine aw_iadd (n := 27) dX11_now_26 rfl ?_
    refine aw_nmI (fun v6 => ?_)
    refine aw_istore_n (n := 28) [some (.ref t), some (.int x1), some (.int v6), some (.int x3)] dX11_now_27 rfl rfl (Nat.le_of_ble_eq_true rfl) (Nat.le_of_ble_eq_true rfl) rfl ?_
    refine aw_iinc (n := 31) (x3 + 1) [some (.ref t), some (.int x1), some (.int v6), some (.int (x3 + 1))] dX11_now_28 rfl rfl (by rfl) rfl (Nat.le_of_ble_eq_true rfl) rfl ?_
    refine aw_goto 9 dX11_now_31 (by decide) ?_
    exact aw_weak (hk9 (x1, v6, (x3 + 1), μ)) (aw_ss (aw_ss (aw_ss (aw_ss aw_s0))))
def f_X11_now (F : Nat) (t : Nat) (a0 : Int32) (μ : aw_M) : Option (Int32 × aw_M) :=
  aw_let (aw_wI μ t 0 0) fun μ5 =>
  aw_loop (fun k s => f_X11_now_9 F t k s.1 s.2.1 s.2.2.1 s.2.2.2) F (a0, 0, 0, μ5)
theorem m_X11_now (l : Launch) (F : Nat) (t : Nat) (ht : (aw_sh t).1 = 16) (a0 : Int32) (μ : aw_M) : AM l yX11_now cX11_now 4 (some .int) 1 120 aw_gi [.ref t, .int a0] μ (f_X11_now F t a0 μ) := by
  refine aw_met [some (.ref t), some (.int a0), none, none] (by decide) (fun _ => rfl) (fun _ => Nat.le_of_ble_eq_true rfl) ?_
  show AW l k_X11_now aw_gi 0 [some (.ref t), some (.int a0), none, none] [] μ _
  unfold f_X11_now
  refine aw_aload_n (n := 1) dX11_now_0 rfl rfl ?_
  refine aw_iconst (n := 2) 0 dX11_now_1 rfl (by decide) ?_
  refine aw_putI (n := 5) (RX11, TX11, 52) 11 0 dX11_now_2 rfl ht (by decide) fp_RX11_1 (fun μ5 => ?_)
  refine aw_iconst (n := 6) 0 dX11_now_5 rfl (by decide) ?_
  refine aw_istore_n (n := 7) [some (.ref t), some (.int a0), some (.int 0), none] dX11_now_6 rfl rfl (Nat.le_of_ble_eq_true rfl) (Nat.le_of_ble_eq_true rfl) rfl ?_
  refine aw_iconst (n := 8) 0 dX11_now_7 rfl (by decide) ?_
  refine aw_istore_n (n := 9) [some (.ref t), some (.int a0), some (.int 0), some (.int 0)] dX11_now_8 rfl rfl (Nat.le_of_ble_eq_true rfl) (Nat.le_of_ble_eq_true rfl) rfl ?_
  exact aw_weak (c_X11_now_9 l F t ht F (a0, 0, 0, μ5)) (aw_ss (aw_ss (aw_ss (aw_ss aw_s0))))
abbrev k_X11_thrown_ : aw_K := (RX11, cX11_thrown_, 3, (some .int), 2, 142)
def f_X11_thrown_ (F : Nat) (t : Nat) (a0 : Int32) (a1 : Int32) (μ : aw_M) : Option (Int32 × aw_M) :=
  aw_let (aw_wI μ t 0 0) fun μ1 =>
  aw_g (aw_in 919 1155) ((f_X11_isIn F a0 0 ((μ1.1 (aw_rf t 6) (919 : Int32).toNatClampNeg) - 1) μ1).bind fun r2 =>
  (if r2.1 = true then
  (f_X11_isIn F a1 0 5 r2.2).bind fun r3 =>
  (if r3.1 = true then
  aw_g (aw_in ((920 + (6 * a0)) + a1) 1155) (some ((r3.2.1 (aw_rf t 6) ((920 + (6 * a0)) + a1).toNatClampNeg), r3.2))
  else
  some ((-1), r3.2))
  else
  some ((-1), r2.2)))
theorem m_X11_thrown_ (l : Launch) (F : Nat) (t : Nat) (ht : (aw_sh t).1 = 16) (a0 : Int32) (a1 : Int32) (μ : aw_M) : AM l yX11_thrown_ cX11_thrown_ 3 (some .int) 2 142 aw_gi [.ref t, .int a0, .int a1] μ (f_X11_thrown_ F t a0 a1 μ) := by
  refine aw_met [some (.ref t), some (.int a0), some (.int a1)] (by decide) (fun _ => rfl) (fun _ => Nat.le_of_ble_eq_true rfl) ?_
  show AW l k_X11_thrown_ aw_gi 0 [some (.ref t), some (.int a0), some (.int a1)] [] μ _
  unfold f_X11_thrown_
  refine aw_aload_n (n := 1) dX11_thrown__0 rfl rfl ?_
  refine aw_iconst (n := 2) 0 dX11_thrown__1 rfl (by decide) ?_
  refine aw_putI (n := 5) (RX11, TX11, 52) 11 0 dX11_thrown__2 rfl ht (by decide) fp_RX11_1 (fun μ1 => ?_)
  refine aw_iload_n (n := 6) dX11_thrown__5 rfl rfl ?_
  refine aw_iconst (n := 7) 0 dX11_thrown__6 rfl (by decide) ?_
  refine aw_aload_n (n := 8) dX11_thrown__7 rfl rfl ?_
  refine aw_getR (n := 11) (RX11, TX11, 52) 11 6 dX11_thrown__8 rfl ht (by decide) fd_RX11_33 ?_
  refine aw_sipush (n := 14) 919 dX11_thrown__11 rfl (by decide) ?_
  refine aw_iaload (n := 15) 1155 dX11_thrown__14 rfl (sf_11_6 ht) ?_
  refine aw_iconst (n := 16) 1 dX11_thrown__15 rfl (by decide) ?_
  refine aw_isub (n := 17) dX11_thrown__16 rfl ?_
  refine aw_callSz (n := 20) (as := [.int a0, .int 0, .int ((μ1.1 (aw_rf t 6) (919 : Int32).toNatClampNeg) - 1)]) (st := []) dX11_thrown__17 rfl rfl (m_X11_isIn l F a0 0 ((μ1.1 (aw_rf t 6) (919 : Int32).toNatClampNeg) - 1) μ1) cw_RX11_194 ⟨Nat.le_of_ble_eq_true rfl, Nat.le_of_ble_eq_true rfl⟩ (fun _ => Nat.le_of_ble_eq_true rfl) (fun r2 => ?_)
  refine aw_ifb_eq (n := 23) 50 dX11_thrown__20 (by decide) rfl ?_ ?_
  · refine aw_iconst (n := 51) (-1) dX11_thrown__50 rfl (by decide) ?_
    exact aw_ireturn dX11_thrown__51 rfl rfl
  · refine aw_iload_n (n := 24) dX11_thrown__23 rfl rfl ?_
    refine aw_iconst (n := 25) 0 dX11_thrown__24 rfl (by decide) ?_
    refine aw_iconst (n := 26) 5 dX11_thrown__25 rfl (by decide) ?_
    refine aw_callSz (n := 29) (as := [.int a1, .int 0, .int 5]) (st := []) dX11_thrown__26 rfl rfl (m_X11_isIn l F a1 0 5 r2.2) cw_RX11_194 ⟨Nat.le_of_ble_eq_true rfl, Nat.le_of_ble_eq_true rfl⟩ (fun _ => Nat.le_of_ble_eq_true rfl) (fun r3 => ?_)
    refine aw_ifb_eq (n := 32) 50 dX11_thrown__29 (by decide) rfl ?_ ?_
    · refine aw_iconst (n := 51) (-1) dX11_thrown__50 rfl (by decide) ?_
      exact aw_ireturn dX11_thrown__51 rfl rfl
    · refine aw_aload_n (n := 33) dX11_thrown__32 rfl rfl ?_
      refine aw_getR (n := 36) (RX11, TX11, 52) 11 6 dX11_thrown__33 rfl ht (by decide) fd_RX11_33 ?_
      refine aw_sipush (n := 39) 920 dX11_thrown__36 rfl (by decide) ?_
      refine aw_bipush (n := 41) 6 dX11_thrown__39 rfl (by decide) ?_
      refine aw_iload_n (n := 42) dX11_thrown__41 rfl rfl ?_
      refine aw_imul (n := 43) dX11_thrown__42 rfl ?_
      refine aw_iadd (n := 44) dX11_thrown__43 rfl ?_
      refine aw_iload_n (n := 45) dX11_thrown__44 rfl rfl ?_
      refine aw_iadd (n := 46) dX11_thrown__45 rfl ?_
      refine aw_iaload (n := 47) 1155 dX11_thrown__46 rfl (sf_11_6 ht) ?_
      refine aw_goto 51 dX11_thrown__47 (by decide) ?_
      exact aw_ireturn dX11_thrown__51 rfl rfl
abbrev k_X11_sand : aw_K := (RX11, cX11_sand, 2, (some .boolean), 2, 141)
def f_X11_sand (F : Nat) (t : Nat) (a0 : Int32) (μ : aw_M) : Option (Bool × aw_M) :=
  aw_let (aw_wI μ t 0 0) fun μ1 =>
  (f_X11_isCell F t a0 μ1).bind fun r2 =>
  (if r2.1 = true then
  aw_g (aw_in (814 + a0) 1155) ((if (r2.2.1 (aw_rf t 6) (814 + a0).toNatClampNeg) = 1 then
  some (false, r2.2)
  else
  aw_g (aw_in (814 + a0) 1155) (aw_let (aw_wI r2.2 (aw_rf t 6) (814 + a0).toNatClampNeg 1) fun μ3 =>
  some (true, μ3))))
  else
  some (false, r2.2))
theorem m_X11_sand (l : Launch) (F : Nat) (t : Nat) (ht : (aw_sh t).1 = 16) (a0 : Int32) (μ : aw_M) : AM l yX11_sand cX11_sand 2 (some .boolean) 2 141 aw_gz [.ref t, .int a0] μ (f_X11_sand F t a0 μ) := by
  refine aw_met [some (.ref t), some (.int a0)] (by decide) (fun _ => rfl) (fun _ => Nat.le_of_ble_eq_true rfl) ?_
  show AW l k_X11_sand aw_gz 0 [some (.ref t), some (.int a0)] [] μ _
  unfold f_X11_sand
  refine aw_aload_n (n := 1) dX11_sand_0 rfl rfl ?_
  refine aw_iconst (n := 2) 0 dX11_sand_1 rfl (by decide) ?_
  refine aw_putI (n := 5) (RX11, TX11, 52) 11 0 dX11_sand_2 rfl ht (by decide) fp_RX11_1 (fun μ1 => ?_)
  refine aw_aload_n (n := 6) dX11_sand_5 rfl rfl ?_
  refine aw_iload_n (n := 7) dX11_sand_6 rfl rfl ?_
  refine aw_callVz (n := 10) (as := [.int a0]) (st := []) (RX11, TX11, 52) 11 dX11_sand_7 rfl rfl (m_X11_isCell l F t ht a0 μ1) ht (by decide) rfl rfl cw_RX11_271 ⟨Nat.le_of_ble_eq_true rfl, Nat.le_of_ble_eq_true rfl⟩ (fun _ => Nat.le_of_ble_eq_true rfl) (fun r2 => ?_)
  refine aw_ifb_eq (n := 13) 27 dX11_sand_10 (by decide) rfl ?_ ?_
  · refine aw_iconst (n := 28) 0 dX11_sand_27 rfl (by decide) ?_
    exact aw_zreturn (b := false) dX11_sand_28 rfl rfl
  · refine aw_aload_n (n := 14) dX11_sand_13 rfl rfl ?_
    refine aw_getR (n := 17) (RX11, TX11, 52) 11 6 dX11_sand_14 rfl ht (by decide) fd_RX11_33 ?_
    refine aw_sipush (n := 20) 814 dX11_sand_17 rfl (by decide) ?_
    refine aw_iload_n (n := 21) dX11_sand_20 rfl rfl ?_
    refine aw_iadd (n := 22) dX11_sand_21 rfl ?_
    refine aw_iaload (n := 23) 1155 dX11_sand_22 rfl (sf_11_6 ht) ?_
    refine aw_iconst (n := 24) 1 dX11_sand_23 rfl (by decide) ?_
    refine aw_icmp_ne (n := 27) 29 dX11_sand_24 (by decide) rfl ?_ ?_
    · refine aw_aload_n (n := 30) dX11_sand_29 rfl rfl ?_
      refine aw_getR (n := 33) (RX11, TX11, 52) 11 6 dX11_sand_30 rfl ht (by decide) fd_RX11_33 ?_
      refine aw_sipush (n := 36) 814 dX11_sand_33 rfl (by decide) ?_
      refine aw_iload_n (n := 37) dX11_sand_36 rfl rfl ?_
      refine aw_iadd (n := 38) dX11_sand_37 rfl ?_
      refine aw_iconst (n := 39) 1 dX11_sand_38 rfl (by decide) ?_
      refine aw_iastore (n := 40) 1155 dX11_sand_39 rfl (sf_11_6 ht) (fun μ3 => ?_)
      refine aw_iconst (n := 41) 1 dX11_sand_40 rfl (by decide) ?_
      exact aw_zreturn (b := true) dX11_sand_41 rfl rfl
    · refine aw_iconst (n := 28) 0 dX11_sand_27 rfl (by decide) ?_
      exact aw_zreturn (b := false) dX11_sand_28 rfl rfl
abbrev k_X11_aims : aw_K := (RX11, cX11_aims, 3, (some .int), 4, 189)
def f_X11_aims (F : Nat) (t : Nat) (a0 : Int32) (a1 : Int32) (μ : aw_M) : Option (Int32 × aw_M) :=
  aw_let (aw_wI μ t 0 0) fun μ1 =>
  (f_X11_isQuarter F t a0 μ1).bind fun r2 =>
  (if r2.1 = true then
  (f_X11_isIn F a1 0 239 r2.2).bind fun r3 =>
  (if r3.1 = true then
  (f_X11_aimed F t a0 a1 r3.2).bind fun r4 =>
  some (r4.1, r4.2)
  else
  some ((-1), r3.2))
  else
  some ((-1), r2.2))
theorem m_X11_aims (l : Launch) (F : Nat) (t : Nat) (ht : (aw_sh t).1 = 16) (a0 : Int32) (a1 : Int32) (μ : aw_M) : AM l yX11_aims cX11_aims 3 (some .int) 4 189 aw_gi [.ref t, .int a0, .int a1] μ (f_X11_aims F t a0 a1 μ) := by
  refine aw_met [some (.ref t), some (.int a0), some (.int a1)] (by decide) (fun _ => rfl) (fun _ => Nat.le_of_ble_eq_true rfl) ?_
  show AW l k_X11_aims aw_gi 0 [some (.ref t), some (.int a0), some (.int a1)] [] μ _
  unfold f_X11_aims
  refine aw_aload_n (n := 1) dX11_aims_0 rfl rfl ?_
  refine aw_iconst (n := 2) 0 dX11_aims_1 rfl (by decide) ?_
  refine aw_putI (n := 5) (RX11, TX11, 52) 11 0 dX11_aims_2 rfl ht (by decide) fp_RX11_1 (fun μ1 => ?_)
  refine aw_aload_n (n := 6) dX11_aims_5 rfl rfl ?_
  refine aw_iload_n (n := 7) dX11_aims_6 rfl rfl ?_
  refine aw_callVz (n := 10) (as := [.int a0]) (st := []) (RX11, TX11, 52) 11 dX11_aims_7 rfl rfl (m_X11_isQuarter l F t ht a0 μ1) ht (by decide) rfl rfl cw_RX11_258 ⟨Nat.le_of_ble_eq_true rfl, Nat.le_of_ble_eq_true rfl⟩ (fun _ => Nat.le_of_ble_eq_true rfl) (fun r2 => ?_)
  refine aw_ifb_eq (n := 13) 33 dX11_aims_10 (by decide) rfl ?_ ?_
  · refine aw_iconst (n := 34) (-1) dX11_aims_33 rfl (by decide) ?_
    exact aw_ireturn dX11_aims_34 rfl rfl
  · refine aw_iload_n (n := 14) dX11_aims_13 rfl rfl ?_
    refine aw_iconst (n := 15) 0 dX11_aims_14 rfl (by decide) ?_
    refine aw_sipush (n := 18) 239 dX11_aims_15 rfl (by decide) ?_
    refine aw_callSz (n := 21) (as := [.int a1, .int 0, .int 239]) (st := []) dX11_aims_18 rfl rfl (m_X11_isIn l F a1 0 239 r2.2) cw_RX11_194 ⟨Nat.le_of_ble_eq_true rfl, Nat.le_of_ble_eq_true rfl⟩ (fun _ => Nat.le_of_ble_eq_true rfl) (fun r3 => ?_)
    refine aw_ifb_eq (n := 24) 33 dX11_aims_21 (by decide) rfl ?_ ?_
    · refine aw_iconst (n := 34) (-1) dX11_aims_33 rfl (by decide) ?_
      exact aw_ireturn dX11_aims_34 rfl rfl
    · refine aw_aload_n (n := 25) dX11_aims_24 rfl rfl ?_
      refine aw_iload_n (n := 26) dX11_aims_25 rfl rfl ?_
      refine aw_iload_n (n := 27) dX11_aims_26 rfl rfl ?_
      refine aw_callVi (n := 30) (as := [.int a0, .int a1]) (st := []) (RX11, TX11, 52) 11 dX11_aims_27 rfl rfl (m_X11_aimed l F t ht a0 a1 r3.2) ht (by decide) rfl rfl cw_RX11_300 ⟨Nat.le_of_ble_eq_true rfl, Nat.le_of_ble_eq_true rfl⟩ (fun _ => Nat.le_of_ble_eq_true rfl) (fun r4 => ?_)
      refine aw_goto 34 dX11_aims_30 (by decide) ?_
      exact aw_ireturn dX11_aims_34 rfl rfl
abbrev k_X11_tries : aw_K := (RX11, cX11_tries, 2, none, 1, 120)
def f_X11_tries_2 (F : Nat) (t : Nat) (k2 : Int32 × aw_M → Option (aw_M)) (x1 : Int32) (μ : aw_M) : Option (aw_M) :=
  (if 519 ≤ x1 then
  some μ
  else
  aw_g (aw_in (455 + x1) 1155) (aw_g (aw_in x1 519) (aw_let (aw_wI μ (aw_rf t 22) x1.toNatClampNeg (μ.1 (aw_rf t 6) (455 + x1).toNatClampNeg)) fun μ2 =>
  k2 ((x1 + 1), μ2))))
theorem c_X11_tries_2 (l : Launch) (F : Nat) (t : Nat) (ht : (aw_sh t).1 = 16) : ∀ (N : Nat) (s : Int32 × aw_M), AW l k_X11_tries aw_gv 2 [some (.ref t), some (.int s.1)] [] s.2 (aw_loop (fun k s => f_X11_tries_2 F t k s.1 s.2) N s) := by
  refine aw_loop_ok (f := fun k s => f_X11_tries_2 F t k s.1 s.2) (Ls := fun s => [some (.ref t), some (.int s.1)]) (ms := fun s => s.2) ?_
  intro k2 hk2 s
  obtain ⟨x1, μ⟩ := s
  show AW l k_X11_tries aw_gv 2 [some (.ref t), some (.int x1)] [] μ (f_X11_tries_2 F t k2 x1 μ)
  unfold f_X11_tries_2
  refine aw_iload_n (n := 3) dX11_tries_2 rfl rfl ?_
  refine aw_sipush (n := 6) 519 dX11_tries_3 rfl (by decide) ?_
  refine aw_icmp_ge (n := 9) 31 dX11_tries_6 (by decide) rfl ?_ ?_
  · exact aw_vreturn dX11_tries_31 rfl rfl
  · refine aw_aload_n (n := 10) dX11_tries_9 rfl rfl ?_
    refine aw_getR (n := 13) (RX11, TX11, 52) 11 22 dX11_tries_10 rfl ht (by decide) fd_RX11_50 ?_
    refine aw_iload_n (n := 14) dX11_tries_13 rfl rfl ?_
    refine aw_aload_n (n := 15) dX11_tries_14 rfl rfl ?_
    refine aw_getR (n := 18) (RX11, TX11, 52) 11 6 dX11_tries_15 rfl ht (by decide) fd_RX11_33 ?_
    refine aw_sipush (n := 21) 455 dX11_tries_18 rfl (by decide) ?_
    refine aw_iload_n (n := 22) dX11_tries_21 rfl rfl ?_
    refine aw_iadd (n := 23) dX11_tries_22 rfl ?_
    refine aw_iaload (n := 24) 1155 dX11_tries_23 rfl (sf_11_6 ht) ?_
    refine aw_iastore (n := 25) 519 dX11_tries_24 rfl (sf_11_22 ht) (fun μ2 => ?_)
    refine aw_iinc (n := 28) (x1 + 1) [some (.ref t), some (.int (x1 + 1))] dX11_tries_25 rfl rfl (by rfl) rfl (Nat.le_of_ble_eq_true rfl) rfl ?_
    refine aw_goto 2 dX11_tries_28 (by decide) ?_
    exact aw_weak (hk2 ((x1 + 1), μ2)) (aw_ss (aw_ss aw_s0))
def f_X11_tries (F : Nat) (t : Nat) (μ : aw_M) : Option (aw_M) :=
  aw_loop (fun k s => f_X11_tries_2 F t k s.1 s.2) F (0, μ)
theorem m_X11_tries (l : Launch) (F : Nat) (t : Nat) (ht : (aw_sh t).1 = 16) (μ : aw_M) : AM l yX11_tries cX11_tries 2 none 1 120 aw_gv [.ref t] μ (f_X11_tries F t μ) := by
  refine aw_met [some (.ref t), none] (by decide) (fun _ => rfl) (fun _ => Nat.le_of_ble_eq_true rfl) ?_
  show AW l k_X11_tries aw_gv 0 [some (.ref t), none] [] μ _
  unfold f_X11_tries
  refine aw_iconst (n := 1) 0 dX11_tries_0 rfl (by decide) ?_
  refine aw_istore_n (n := 2) [some (.ref t), some (.int 0)] dX11_tries_1 rfl rfl (Nat.le_of_ble_eq_true rfl) (Nat.le_of_ble_eq_true rfl) rfl ?_
  exact aw_weak (c_X11_tries_2 l F t ht F (0, μ)) (aw_ss (aw_ss aw_s0))
abbrev k_X11_back : aw_K := (RX11, cX11_back, 2, none, 1, 120)
def f_X11_back_2 (F : Nat) (t : Nat) (k2 : Int32 × aw_M → Option (aw_M)) (x1 : Int32) (μ : aw_M) : Option (aw_M) :=
  (if 519 ≤ x1 then
  some μ
  else
  aw_g (aw_in x1 519) (aw_g (aw_in (455 + x1) 1155) (aw_let (aw_wI μ (aw_rf t 6) (455 + x1).toNatClampNeg (μ.1 (aw_rf t 22) x1.toNatClampNeg)) fun μ2 =>
  k2 ((x1 + 1), μ2))))
theorem c_X11_back_2 (l : Launch) (F : Nat) (t : Nat) (ht : (aw_sh t).1 = 16) : ∀ (N : Nat) (s : Int32 × aw_M), AW l k_X11_back aw_gv 2 [some (.ref t), some (.int s.1)] [] s.2 (aw_loop (fun k s => f_X11_back_2 F t k s.1 s.2) N s) := by
  refine aw_loop_ok (f := fun k s => f_X11_back_2 F t k s.1 s.2) (Ls := fun s => [some (.ref t), some (.int s.1)]) (ms := fun s => s.2) ?_
  intro k2 hk2 s
  obtain ⟨x1, μ⟩ := s
  show AW l k_X11_back aw_gv 2 [some (.ref t), some (.int x1)] [] μ (f_X11_back_2 F t k2 x1 μ)
  unfold f_X11_back_2
  refine aw_iload_n (n := 3) dX11_back_2 rfl rfl ?_
  refine aw_sipush (n := 6) 519 dX11_back_3 rfl (by decide) ?_
  refine aw_icmp_ge (n := 9) 31 dX11_back_6 (by decide) rfl ?_ ?_
  · exact aw_vreturn dX11_back_31 rfl rfl
  · refine aw_aload_n (n := 10) dX11_back_9 rfl rfl ?_
    refine aw_getR (n := 13) (RX11, TX11, 52) 11 6 dX11_back_10 rfl ht (by decide) fd_RX11_33 ?_
    refine aw_sipush (n := 16) 455 dX11_back_13 rfl (by decide) ?_
    refine aw_iload_n (n := 17) dX11_back_16 rfl rfl ?_
    refine aw_iadd (n := 18) dX11_back_17 rfl ?_
    refine aw_aload_n (n := 19) dX11_back_18 rfl rfl ?_
    refine aw_getR (n := 22) (RX11, TX11, 52) 11 22 dX11_back_19 rfl ht (by decide) fd_RX11_50 ?_
    refine aw_iload_n (n := 23) dX11_back_22 rfl rfl ?_
    refine aw_iaload (n := 24) 519 dX11_back_23 rfl (sf_11_22 ht) ?_
    refine aw_iastore (n := 25) 1155 dX11_back_24 rfl (sf_11_6 ht) (fun μ2 => ?_)
    refine aw_iinc (n := 28) (x1 + 1) [some (.ref t), some (.int (x1 + 1))] dX11_back_25 rfl rfl (by rfl) rfl (Nat.le_of_ble_eq_true rfl) rfl ?_
    refine aw_goto 2 dX11_back_28 (by decide) ?_
    exact aw_weak (hk2 ((x1 + 1), μ2)) (aw_ss (aw_ss aw_s0))
def f_X11_back (F : Nat) (t : Nat) (μ : aw_M) : Option (aw_M) :=
  aw_loop (fun k s => f_X11_back_2 F t k s.1 s.2) F (0, μ)
theorem m_X11_back (l : Launch) (F : Nat) (t : Nat) (ht : (aw_sh t).1 = 16) (μ : aw_M) : AM l yX11_back cX11_back 2 none 1 120 aw_gv [.ref t] μ (f_X11_back F t μ) := by
  refine aw_met [some (.ref t), none] (by decide) (fun _ => rfl) (fun _ => Nat.le_of_ble_eq_true rfl) ?_
  show AW l k_X11_back aw_gv 0 [some (.ref t), none] [] μ _
  unfold f_X11_back
  refine aw_iconst (n := 1) 0 dX11_back_0 rfl (by decide) ?_
  refine aw_istore_n (n := 2) [some (.ref t), some (.int 0)] dX11_back_1 rfl rfl (Nat.le_of_ble_eq_true rfl) (Nat.le_of_ble_eq_true rfl) rfl ?_
  exact aw_weak (c_X11_back_2 l F t ht F (0, μ)) (aw_ss (aw_ss aw_s0))
abbrev k_X11_sureDay : aw_K := (RX11, cX11_sureDay, 2, none, 6, 242)
def f_X11_sureDay_58 (F : Nat) (t : Nat) (μ : aw_M) : Option (aw_M) :=
  (f_X11_back F t μ).bind fun r8 =>
  some r8
theorem c_X11_sureDay_58 (l : Launch) (F : Nat) (t : Nat) (ht : (aw_sh t).1 = 16) (μ : aw_M) : AW l k_X11_sureDay aw_gv 58 [some (.ref t), none] [] μ (f_X11_sureDay_58 F t μ) := by
  unfold f_X11_sureDay_58
  refine aw_aload_n (n := 59) dX11_sureDay_58 rfl rfl ?_
  refine aw_callVv (n := 62) (as := []) (st := []) (RX11, TX11, 52) 11 dX11_sureDay_59 rfl rfl (m_X11_back l F t ht μ) ht (by decide) rfl rfl cw_RX11_320 ⟨Nat.le_of_ble_eq_true rfl, Nat.le_of_ble_eq_true rfl⟩ (fun _ => Nat.le_of_ble_eq_true rfl) (fun r8 => ?_)
  exact aw_vreturn dX11_sureDay_62 rfl rfl
def f_X11_sureDay_30 (F : Nat) (t : Nat) (k30 : Int32 × aw_M → Option (aw_M)) (x1 : Int32) (μ : aw_M) : Option (aw_M) :=
  (if 9 ≤ x1 then
  f_X11_sureDay_58 F t μ
  else
  aw_g (aw_in (467 + x1) 1155) (aw_g (aw_in x1 9) (aw_let (aw_wI μ (aw_rf t 23) x1.toNatClampNeg (μ.1 (aw_rf t 6) (467 + x1).toNatClampNeg)) fun μ9 =>
  k30 ((x1 + 1), μ9))))
theorem c_X11_sureDay_30 (l : Launch) (F : Nat) (t : Nat) (ht : (aw_sh t).1 = 16) : ∀ (N : Nat) (s : Int32 × aw_M), AW l k_X11_sureDay aw_gv 30 [some (.ref t), some (.int s.1)] [] s.2 (aw_loop (fun k s => f_X11_sureDay_30 F t k s.1 s.2) N s) := by
  refine aw_loop_ok (f := fun k s => f_X11_sureDay_30 F t k s.1 s.2) (Ls := fun s => [some (.ref t), some (.int s.1)]) (ms := fun s => s.2) ?_
  intro k30 hk30 s
  obtain ⟨x1, μ⟩ := s
  show AW l k_X11_sureDay aw_gv 30 [some (.ref t), some (.int x1)] [] μ (f_X11_sureDay_30 F t k30 x1 μ)
  unfold f_X11_sureDay_30
  refine aw_iload_n (n := 31) dX11_sureDay_30 rfl rfl ?_
  refine aw_bipush (n := 33) 9 dX11_sureDay_31 rfl (by decide) ?_
  refine aw_icmp_ge (n := 36) 58 dX11_sureDay_33 (by decide) rfl ?_ ?_
  · exact aw_weak (c_X11_sureDay_58 l F t ht μ) (aw_ss (aw_sn aw_s0))
  · refine aw_aload_n (n := 37) dX11_sureDay_36 rfl rfl ?_
    refine aw_getR (n := 40) (RX11, TX11, 52) 11 23 dX11_sureDay_37 rfl ht (by decide) fd_RX11_53 ?_
    refine aw_iload_n (n := 41) dX11_sureDay_40 rfl rfl ?_
    refine aw_aload_n (n := 42) dX11_sureDay_41 rfl rfl ?_
    refine aw_getR (n := 45) (RX11, TX11, 52) 11 6 dX11_sureDay_42 rfl ht (by decide) fd_RX11_33 ?_
    refine aw_sipush (n := 48) 467 dX11_sureDay_45 rfl (by decide) ?_
    refine aw_iload_n (n := 49) dX11_sureDay_48 rfl rfl ?_
    refine aw_iadd (n := 50) dX11_sureDay_49 rfl ?_
    refine aw_iaload (n := 51) 1155 dX11_sureDay_50 rfl (sf_11_6 ht) ?_
    refine aw_iastore (n := 52) 9 dX11_sureDay_51 rfl (sf_11_23 ht) (fun μ9 => ?_)
    refine aw_iinc (n := 55) (x1 + 1) [some (.ref t), some (.int (x1 + 1))] dX11_sureDay_52 rfl rfl (by rfl) rfl (Nat.le_of_ble_eq_true rfl) rfl ?_
    refine aw_goto 30 dX11_sureDay_55 (by decide) ?_
    exact aw_weak (hk30 ((x1 + 1), μ9)) (aw_ss (aw_ss aw_s0))
def f_X11_sureDay_28 (F : Nat) (t : Nat) (μ : aw_M) : Option (aw_M) :=
  aw_loop (fun k s => f_X11_sureDay_30 F t k s.1 s.2) F (0, μ)
theorem c_X11_sureDay_28 (l : Launch) (F : Nat) (t : Nat) (ht : (aw_sh t).1 = 16) (μ : aw_M) : AW l k_X11_sureDay aw_gv 28 [some (.ref t), none] [] μ (f_X11_sureDay_28 F t μ) := by
  unfold f_X11_sureDay_28
  refine aw_iconst (n := 29) 0 dX11_sureDay_28 rfl (by decide) ?_
  refine aw_istore_n (n := 30) [some (.ref t), some (.int 0)] dX11_sureDay_29 rfl rfl (Nat.le_of_ble_eq_true rfl) (Nat.le_of_ble_eq_true rfl) rfl ?_
  exact aw_weak (c_X11_sureDay_30 l F t ht F (0, μ)) (aw_ss (aw_ss aw_s0))
def f_X11_sureDay_9 (F : Nat) (t : Nat) (k9 : aw_M → Option (aw_M)) (μ : aw_M) : Option (aw_M) :=
  aw_g (aw_in 455 1155) ((if (μ.1 (aw_rf t 6) (455 : Int32).toNatClampNeg) = 0 then
  (f_X11_minute F t 1 μ).bind fun r10 =>
  k9 r10
  else
  f_X11_sureDay_28 F t μ))
theorem c_X11_sureDay_9 (l : Launch) (F : Nat) (t : Nat) (ht : (aw_sh t).1 = 16) : ∀ (N : Nat) (s : aw_M), AW l k_X11_sureDay aw_gv 9 [some (.ref t), none] [] s (aw_loop (fun k s => f_X11_sureDay_9 F t k s) N s) := by
  refine aw_loop_ok (f := fun k s => f_X11_sureDay_9 F t k s) (Ls := fun s => [some (.ref t), none]) (ms := fun s => s) ?_
  intro k9 hk9 s
  revert s
  intro μ
  show AW l k_X11_sureDay aw_gv 9 [some (.ref t), none] [] μ (f_X11_sureDay_9 F t k9 μ)
  unfold f_X11_sureDay_9
  refine aw_aload_n (n := 10) dX11_sureDay_9 rfl rfl ?_
  refine aw_getR (n := 13) (RX11, TX11, 52) 11 6 dX11_sureDay_10 rfl ht (by decide) fd_RX11_33 ?_
  refine aw_sipush (n := 16) 455 dX11_sureDay_13 rfl (by decide) ?_
  refine aw_iaload (n := 17) 1155 dX11_sureDay_16 rfl (sf_11_6 ht) ?_
  refine aw_if_ne (n := 20) 28 dX11_sureDay_17 (by decide) rfl ?_ ?_
  · exact aw_weak (c_X11_sureDay_28 l F t ht μ) (aw_ss (aw_sn aw_s0))
  · refine aw_aload_n (n := 21) dX11_sureDay_20 rfl rfl ?_
    refine aw_iconst (n := 22) 1 dX11_sureDay_21 rfl (by decide) ?_
    refine aw_callVv (n := 25) (as := [.int 1]) (st := []) (RX11, TX11, 52) 11 dX11_sureDay_22 rfl rfl (m_X11_minute l F t ht 1 μ) ht (by decide) rfl rfl cw_RX11_313 ⟨Nat.le_of_ble_eq_true rfl, Nat.le_of_ble_eq_true rfl⟩ (fun _ => Nat.le_of_ble_eq_true rfl) (fun r10 => ?_)
    refine aw_goto 9 dX11_sureDay_25 (by decide) ?_
    exact aw_weak (hk9 r10) (aw_ss (aw_sn aw_s0))
def f_X11_sureDay (F : Nat) (t : Nat) (μ : aw_M) : Option (aw_M) :=
  (f_X11_tries F t μ).bind fun r6 =>
  (f_X11_begins F t 0 r6).bind fun r7 =>
  aw_loop (fun k s => f_X11_sureDay_9 F t k s) F r7
theorem m_X11_sureDay (l : Launch) (F : Nat) (t : Nat) (ht : (aw_sh t).1 = 16) (μ : aw_M) : AM l yX11_sureDay cX11_sureDay 2 none 6 242 aw_gv [.ref t] μ (f_X11_sureDay F t μ) := by
  refine aw_met [some (.ref t), none] (by decide) (fun _ => rfl) (fun _ => Nat.le_of_ble_eq_true rfl) ?_
  show AW l k_X11_sureDay aw_gv 0 [some (.ref t), none] [] μ _
  unfold f_X11_sureDay
  refine aw_aload_n (n := 1) dX11_sureDay_0 rfl rfl ?_
  refine aw_callVv (n := 4) (as := []) (st := []) (RX11, TX11, 52) 11 dX11_sureDay_1 rfl rfl (m_X11_tries l F t ht μ) ht (by decide) rfl rfl cw_RX11_317 ⟨Nat.le_of_ble_eq_true rfl, Nat.le_of_ble_eq_true rfl⟩ (fun _ => Nat.le_of_ble_eq_true rfl) (fun r6 => ?_)
  refine aw_aload_n (n := 5) dX11_sureDay_4 rfl rfl ?_
  refine aw_iconst (n := 6) 0 dX11_sureDay_5 rfl (by decide) ?_
  refine aw_callVv (n := 9) (as := [.int 0]) (st := []) (RX11, TX11, 52) 11 dX11_sureDay_6 rfl rfl (m_X11_begins l F t ht 0 r6) ht (by decide) rfl rfl cw_RX11_248 ⟨Nat.le_of_ble_eq_true rfl, Nat.le_of_ble_eq_true rfl⟩ (fun _ => Nat.le_of_ble_eq_true rfl) (fun r7 => ?_)
  exact aw_weak (c_X11_sureDay_9 l F t ht F r7) (aw_ss (aw_sn aw_s0))
abbrev k_X11_sure : aw_K := (RX11, cX11_sure, 2, (some .int), 7, 263)
def f_X11_sure (F : Nat) (t : Nat) (a0 : Int32) (μ : aw_M) : Option (Int32 × aw_M) :=
  aw_let (aw_wI μ t 0 0) fun μ1 =>
  (f_X11_isQuarter F t a0 μ1).bind fun r2 =>
  (if r2.1 = true then
  (f_X11_sureDay F t r2.2).bind fun r3 =>
  aw_g (aw_in a0 9) (some ((r3.1 (aw_rf t 23) a0.toNatClampNeg), r3))
  else
  some ((-10001), r2.2))
theorem m_X11_sure (l : Launch) (F : Nat) (t : Nat) (ht : (aw_sh t).1 = 16) (a0 : Int32) (μ : aw_M) : AM l yX11_sure cX11_sure 2 (some .int) 7 263 aw_gi [.ref t, .int a0] μ (f_X11_sure F t a0 μ) := by
  refine aw_met [some (.ref t), some (.int a0)] (by decide) (fun _ => rfl) (fun _ => Nat.le_of_ble_eq_true rfl) ?_
  show AW l k_X11_sure aw_gi 0 [some (.ref t), some (.int a0)] [] μ _
  unfold f_X11_sure
  refine aw_aload_n (n := 1) dX11_sure_0 rfl rfl ?_
  refine aw_iconst (n := 2) 0 dX11_sure_1 rfl (by decide) ?_
  refine aw_putI (n := 5) (RX11, TX11, 52) 11 0 dX11_sure_2 rfl ht (by decide) fp_RX11_1 (fun μ1 => ?_)
  refine aw_aload_n (n := 6) dX11_sure_5 rfl rfl ?_
  refine aw_iload_n (n := 7) dX11_sure_6 rfl rfl ?_
  refine aw_callVz (n := 10) (as := [.int a0]) (st := []) (RX11, TX11, 52) 11 dX11_sure_7 rfl rfl (m_X11_isQuarter l F t ht a0 μ1) ht (by decide) rfl rfl cw_RX11_258 ⟨Nat.le_of_ble_eq_true rfl, Nat.le_of_ble_eq_true rfl⟩ (fun _ => Nat.le_of_ble_eq_true rfl) (fun r2 => ?_)
  refine aw_ifb_ne (n := 13) 17 dX11_sure_10 (by decide) rfl ?_ ?_
  · refine aw_aload_n (n := 18) dX11_sure_17 rfl rfl ?_
    refine aw_callVv (n := 21) (as := []) (st := []) (RX11, TX11, 52) 11 dX11_sure_18 rfl rfl (m_X11_sureDay l F t ht r2.2) ht (by decide) rfl rfl cw_RX11_323 ⟨Nat.le_of_ble_eq_true rfl, Nat.le_of_ble_eq_true rfl⟩ (fun _ => Nat.le_of_ble_eq_true rfl) (fun r3 => ?_)
    refine aw_aload_n (n := 22) dX11_sure_21 rfl rfl ?_
    refine aw_getR (n := 25) (RX11, TX11, 52) 11 23 dX11_sure_22 rfl ht (by decide) fd_RX11_53 ?_
    refine aw_iload_n (n := 26) dX11_sure_25 rfl rfl ?_
    refine aw_iaload (n := 27) 9 dX11_sure_26 rfl (sf_11_23 ht) ?_
    exact aw_ireturn dX11_sure_27 rfl rfl
  · refine aw_sipush (n := 16) (-10001) dX11_sure_13 rfl (by decide) ?_
    exact aw_ireturn dX11_sure_16 rfl rfl
abbrev k_X11_gridOf : aw_K := (RX11, cX11_gridOf, 6, (some .int), 7, 263)
def f_X11_gridOf (F : Nat) (t : Nat) (a0 : Int32) (a1 : Int32) (a2 : Int32) (μ : aw_M) : Option (Int32 × aw_M) :=
  aw_g (aw_in (427 + a0) 1155) (aw_let ((μ.1 (aw_rf t 6) (427 + a0).toNatClampNeg)) fun v1 =>
  aw_g (aw_in (436 + a0) 1155) (aw_let ((μ.1 (aw_rf t 6) (436 + a0).toNatClampNeg)) fun v2 =>
  aw_g (aw_in (427 + a0) 1155) (aw_let (aw_wI μ (aw_rf t 6) (427 + a0).toNatClampNeg (a1 + 1)) fun μ3 =>
  aw_g (aw_in (436 + a0) 1155) (aw_let (aw_wI μ3 (aw_rf t 6) (436 + a0).toNatClampNeg a2) fun μ4 =>
  (f_X11_sureDay F t μ4).bind fun r5 =>
  aw_g (aw_in (427 + a0) 1155) (aw_let (aw_wI r5 (aw_rf t 6) (427 + a0).toNatClampNeg v1) fun μ6 =>
  aw_g (aw_in (436 + a0) 1155) (aw_let (aw_wI μ6 (aw_rf t 6) (436 + a0).toNatClampNeg v2) fun μ7 =>
  aw_g (aw_in a0 9) (some ((μ7.1 (aw_rf t 23) a0.toNatClampNeg), μ7))))))))
theorem m_X11_gridOf (l : Launch) (F : Nat) (t : Nat) (ht : (aw_sh t).1 = 16) (a0 : Int32) (a1 : Int32) (a2 : Int32) (μ : aw_M) : AM l yX11_gridOf cX11_gridOf 6 (some .int) 7 263 aw_gi [.ref t, .int a0, .int a1, .int a2] μ (f_X11_gridOf F t a0 a1 a2 μ) := by
  refine aw_met [some (.ref t), some (.int a0), some (.int a1), some (.int a2), none, none] (by decide) (fun _ => rfl) (fun _ => Nat.le_of_ble_eq_true rfl) ?_
  show AW l k_X11_gridOf aw_gi 0 [some (.ref t), some (.int a0), some (.int a1), some (.int a2), none, none] [] μ _
  unfold f_X11_gridOf
  refine aw_aload_n (n := 1) dX11_gridOf_0 rfl rfl ?_
  refine aw_getR (n := 4) (RX11, TX11, 52) 11 6 dX11_gridOf_1 rfl ht (by decide) fd_RX11_33 ?_
  refine aw_sipush (n := 7) 427 dX11_gridOf_4 rfl (by decide) ?_
  refine aw_iload_n (n := 8) dX11_gridOf_7 rfl rfl ?_
  refine aw_iadd (n := 9) dX11_gridOf_8 rfl ?_
  refine aw_iaload (n := 10) 1155 dX11_gridOf_9 rfl (sf_11_6 ht) ?_
  refine aw_nmI (fun v1 => ?_)
  refine aw_istore (n := 12) [some (.ref t), some (.int a0), some (.int a1), some (.int a2), some (.int v1), none] dX11_gridOf_10 rfl rfl (Nat.le_of_ble_eq_true rfl) (Nat.le_of_ble_eq_true rfl) rfl ?_
  refine aw_aload_n (n := 13) dX11_gridOf_12 rfl rfl ?_
  refine aw_getR (n := 16) (RX11, TX11, 52) 11 6 dX11_gridOf_13 rfl ht (by decide) fd_RX11_33 ?_
  refine aw_sipush (n := 19) 436 dX11_gridOf_16 rfl (by decide) ?_
  refine aw_iload_n (n := 20) dX11_gridOf_19 rfl rfl ?_
  refine aw_iadd (n := 21) dX11_gridOf_20 rfl ?_
  refine aw_iaload (n := 22) 1155 dX11_gridOf_21 rfl (sf_11_6 ht) ?_
  refine aw_nmI (fun v2 => ?_)
  refine aw_istore (n := 24) [some (.ref t), some (.int a0), some (.int a1), some (.int a2), some (.int v1), some (.int v2)] dX11_gridOf_22 rfl rfl (Nat.le_of_ble_eq_true rfl) (Nat.le_of_ble_eq_true rfl) rfl ?_
  refine aw_aload_n (n := 25) dX11_gridOf_24 rfl rfl ?_
  refine aw_getR (n := 28) (RX11, TX11, 52) 11 6 dX11_gridOf_25 rfl ht (by decide) fd_RX11_33 ?_
  refine aw_sipush (n := 31) 427 dX11_gridOf_28 rfl (by decide) ?_
  refine aw_iload_n (n := 32) dX11_gridOf_31 rfl rfl ?_
  refine aw_iadd (n := 33) dX11_gridOf_32 rfl ?_
  refine aw_iload_n (n := 34) dX11_gridOf_33 rfl rfl ?_
  refine aw_iconst (n := 35) 1 dX11_gridOf_34 rfl (by decide) ?_
  refine aw_iadd (n := 36) dX11_gridOf_35 rfl ?_
  refine aw_iastore (n := 37) 1155 dX11_gridOf_36 rfl (sf_11_6 ht) (fun μ3 => ?_)
  refine aw_aload_n (n := 38) dX11_gridOf_37 rfl rfl ?_
  refine aw_getR (n := 41) (RX11, TX11, 52) 11 6 dX11_gridOf_38 rfl ht (by decide) fd_RX11_33 ?_
  refine aw_sipush (n := 44) 436 dX11_gridOf_41 rfl (by decide) ?_
  refine aw_iload_n (n := 45) dX11_gridOf_44 rfl rfl ?_
  refine aw_iadd (n := 46) dX11_gridOf_45 rfl ?_
  refine aw_iload_n (n := 47) dX11_gridOf_46 rfl rfl ?_
  refine aw_iastore (n := 48) 1155 dX11_gridOf_47 rfl (sf_11_6 ht) (fun μ4 => ?_)
  refine aw_aload_n (n := 49) dX11_gridOf_48 rfl rfl ?_
  refine aw_callVv (n := 52) (as := []) (st := []) (RX11, TX11, 52) 11 dX11_gridOf_49 rfl rfl (m_X11_sureDay l F t ht μ4) ht (by decide) rfl rfl cw_RX11_323 ⟨Nat.le_of_ble_eq_true rfl, Nat.le_of_ble_eq_true rfl⟩ (fun _ => Nat.le_of_ble_eq_true rfl) (fun r5 => ?_)
  refine aw_aload_n (n := 53) dX11_gridOf_52 rfl rfl ?_
  refine aw_getR (n := 56) (RX11, TX11, 52) 11 6 dX11_gridOf_53 rfl ht (by decide) fd_RX11_33 ?_
  refine aw_sipush (n := 59) 427 dX11_gridOf_56 rfl (by decide) ?_
  refine aw_iload_n (n := 60) dX11_gridOf_59 rfl rfl ?_
  refine aw_iadd (n := 61) dX11_gridOf_60 rfl ?_
  refine aw_iload (n := 63) dX11_gridOf_61 rfl rfl ?_
  refine aw_iastore (n := 64) 1155 dX11_gridOf_63 rfl (sf_11_6 ht) (fun μ6 => ?_)
  refine aw_aload_n (n := 65) dX11_gridOf_64 rfl rfl ?_
  refine aw_getR (n := 68) (RX11, TX11, 52) 11 6 dX11_gridOf_65 rfl ht (by decide) fd_RX11_33 ?_
  refine aw_sipush (n := 71) 436 dX11_gridOf_68 rfl (by decide) ?_
  refine aw_iload_n (n := 72) dX11_gridOf_71 rfl rfl ?_
  refine aw_iadd (n := 73) dX11_gridOf_72 rfl ?_
  refine aw_iload (n := 75) dX11_gridOf_73 rfl rfl ?_
  refine aw_iastore (n := 76) 1155 dX11_gridOf_75 rfl (sf_11_6 ht) (fun μ7 => ?_)
  refine aw_aload_n (n := 77) dX11_gridOf_76 rfl rfl ?_
  refine aw_getR (n := 80) (RX11, TX11, 52) 11 23 dX11_gridOf_77 rfl ht (by decide) fd_RX11_53 ?_
  refine aw_iload_n (n := 81) dX11_gridOf_80 rfl rfl ?_
  refine aw_iaload (n := 82) 9 dX11_gridOf_81 rfl (sf_11_23 ht) ?_
  exact aw_ireturn dX11_gridOf_82 rfl rfl
abbrev k_X11_grid : aw_K := (RX11, cX11_grid, 4, (some .int), 8, 288)
def f_X11_grid (F : Nat) (t : Nat) (a0 : Int32) (a1 : Int32) (a2 : Int32) (μ : aw_M) : Option (Int32 × aw_M) :=
  aw_let (aw_wI μ t 0 0) fun μ1 =>
  (f_X11_isQuarter F t a0 μ1).bind fun r2 =>
  (if r2.1 = true then
  (f_X11_isIn F a1 0 18 r2.2).bind fun r3 =>
  (if r3.1 = true then
  (f_X11_isIn F a2 0 99 r3.2).bind fun r4 =>
  (if r4.1 = true then
  (f_X11_gridOf F t a0 a1 a2 r4.2).bind fun r5 =>
  some (r5.1, r5.2)
  else
  some ((-10001), r4.2))
  else
  some ((-10001), r3.2))
  else
  some ((-10001), r2.2))
theorem m_X11_grid (l : Launch) (F : Nat) (t : Nat) (ht : (aw_sh t).1 = 16) (a0 : Int32) (a1 : Int32) (a2 : Int32) (μ : aw_M) : AM l yX11_grid cX11_grid 4 (some .int) 8 288 aw_gi [.ref t, .int a0, .int a1, .int a2] μ (f_X11_grid F t a0 a1 a2 μ) := by
  refine aw_met [some (.ref t), some (.int a0), some (.int a1), some (.int a2)] (by decide) (fun _ => rfl) (fun _ => Nat.le_of_ble_eq_true rfl) ?_
  show AW l k_X11_grid aw_gi 0 [some (.ref t), some (.int a0), some (.int a1), some (.int a2)] [] μ _
  unfold f_X11_grid
  refine aw_aload_n (n := 1) dX11_grid_0 rfl rfl ?_
  refine aw_iconst (n := 2) 0 dX11_grid_1 rfl (by decide) ?_
  refine aw_putI (n := 5) (RX11, TX11, 52) 11 0 dX11_grid_2 rfl ht (by decide) fp_RX11_1 (fun μ1 => ?_)
  refine aw_aload_n (n := 6) dX11_grid_5 rfl rfl ?_
  refine aw_iload_n (n := 7) dX11_grid_6 rfl rfl ?_
  refine aw_callVz (n := 10) (as := [.int a0]) (st := []) (RX11, TX11, 52) 11 dX11_grid_7 rfl rfl (m_X11_isQuarter l F t ht a0 μ1) ht (by decide) rfl rfl cw_RX11_258 ⟨Nat.le_of_ble_eq_true rfl, Nat.le_of_ble_eq_true rfl⟩ (fun _ => Nat.le_of_ble_eq_true rfl) (fun r2 => ?_)
  refine aw_ifb_eq (n := 13) 43 dX11_grid_10 (by decide) rfl ?_ ?_
  · refine aw_sipush (n := 46) (-10001) dX11_grid_43 rfl (by decide) ?_
    exact aw_ireturn dX11_grid_46 rfl rfl
  · refine aw_iload_n (n := 14) dX11_grid_13 rfl rfl ?_
    refine aw_iconst (n := 15) 0 dX11_grid_14 rfl (by decide) ?_
    refine aw_bipush (n := 17) 18 dX11_grid_15 rfl (by decide) ?_
    refine aw_callSz (n := 20) (as := [.int a1, .int 0, .int 18]) (st := []) dX11_grid_17 rfl rfl (m_X11_isIn l F a1 0 18 r2.2) cw_RX11_194 ⟨Nat.le_of_ble_eq_true rfl, Nat.le_of_ble_eq_true rfl⟩ (fun _ => Nat.le_of_ble_eq_true rfl) (fun r3 => ?_)
    refine aw_ifb_eq (n := 23) 43 dX11_grid_20 (by decide) rfl ?_ ?_
    · refine aw_sipush (n := 46) (-10001) dX11_grid_43 rfl (by decide) ?_
      exact aw_ireturn dX11_grid_46 rfl rfl
    · refine aw_iload_n (n := 24) dX11_grid_23 rfl rfl ?_
      refine aw_iconst (n := 25) 0 dX11_grid_24 rfl (by decide) ?_
      refine aw_bipush (n := 27) 99 dX11_grid_25 rfl (by decide) ?_
      refine aw_callSz (n := 30) (as := [.int a2, .int 0, .int 99]) (st := []) dX11_grid_27 rfl rfl (m_X11_isIn l F a2 0 99 r3.2) cw_RX11_194 ⟨Nat.le_of_ble_eq_true rfl, Nat.le_of_ble_eq_true rfl⟩ (fun _ => Nat.le_of_ble_eq_true rfl) (fun r4 => ?_)
      refine aw_ifb_eq (n := 33) 43 dX11_grid_30 (by decide) rfl ?_ ?_
      · refine aw_sipush (n := 46) (-10001) dX11_grid_43 rfl (by decide) ?_
        exact aw_ireturn dX11_grid_46 rfl rfl
      · refine aw_aload_n (n := 34) dX11_grid_33 rfl rfl ?_
        refine aw_iload_n (n := 35) dX11_grid_34 rfl rfl ?_
        refine aw_iload_n (n := 36) dX11_grid_35 rfl rfl ?_
        refine aw_iload_n (n := 37) dX11_grid_36 rfl rfl ?_
        refine aw_callVi (n := 40) (as := [.int a0, .int a1, .int a2]) (st := []) (RX11, TX11, 52) 11 dX11_grid_37 rfl rfl (m_X11_gridOf l F t ht a0 a1 a2 r4.2) ht (by decide) rfl rfl cw_RX11_326 ⟨Nat.le_of_ble_eq_true rfl, Nat.le_of_ble_eq_true rfl⟩ (fun _ => Nat.le_of_ble_eq_true rfl) (fun r5 => ?_)
        refine aw_goto 46 dX11_grid_40 (by decide) ?_
        exact aw_ireturn dX11_grid_46 rfl rfl
abbrev k_X11_best : aw_K := (RX11, cX11_best, 7, (some .int), 8, 288)
def f_X11_best_81 (F : Nat) (t : Nat) (k22 : Int32 × Int32 × Int32 × Int32 × aw_M → Option (Int32 × aw_M)) (x1 : Int32) (x2 : Int32) (x3 : Int32) (x4 : Int32) (μ : aw_M) : Option (Int32 × aw_M) :=
  k22 (x1, x2, x3, (x4 + 1), μ)
theorem c_X11_best_81 (l : Launch) (F : Nat) (t : Nat) (ht : (aw_sh t).1 = 16) (k22 : Int32 × Int32 × Int32 × Int32 × aw_M → Option (Int32 × aw_M)) (hk22 : ∀ s : Int32 × Int32 × Int32 × Int32 × aw_M, AW l k_X11_best aw_gi 22 [some (.ref t), some (.int s.1), some (.int s.2.1), some (.int s.2.2.1), some (.int s.2.2.2.1), none, none] [] s.2.2.2.2 (k22 s)) (x1 : Int32) (x2 : Int32) (x3 : Int32) (x4 : Int32) (μ : aw_M) : AW l k_X11_best aw_gi 81 [some (.ref t), some (.int x1), some (.int x2), some (.int x3), some (.int x4), none, none] [] μ (f_X11_best_81 F t k22 x1 x2 x3 x4 μ) := by
  unfold f_X11_best_81
  refine aw_iinc (n := 84) (x4 + 1) [some (.ref t), some (.int x1), some (.int x2), some (.int x3), some (.int (x4 + 1)), none, none] dX11_best_81 rfl rfl (by rfl) rfl (Nat.le_of_ble_eq_true rfl) rfl ?_
  refine aw_goto 22 dX11_best_84 (by decide) ?_
  exact aw_weak (hk22 (x1, x2, x3, (x4 + 1), μ)) (aw_ss (aw_ss (aw_ss (aw_ss (aw_ss (aw_sn (aw_sn aw_s0)))))))
def f_X11_best_75 (F : Nat) (t : Nat) (k22 : Int32 × Int32 × Int32 × Int32 × aw_M → Option (Int32 × aw_M)) (k32 : Int32 × Int32 × Int32 × Int32 × Int32 × aw_M → Option (Int32 × aw_M)) (x1 : Int32) (x2 : Int32) (x3 : Int32) (x4 : Int32) (x5 : Int32) (μ : aw_M) : Option (Int32 × aw_M) :=
  k32 (x1, x2, x3, x4, (x5 + 1), μ)
theorem c_X11_best_75 (l : Launch) (F : Nat) (t : Nat) (ht : (aw_sh t).1 = 16) (k22 : Int32 × Int32 × Int32 × Int32 × aw_M → Option (Int32 × aw_M)) (hk22 : ∀ s : Int32 × Int32 × Int32 × Int32 × aw_M, AW l k_X11_best aw_gi 22 [some (.ref t), some (.int s.1), some (.int s.2.1), some (.int s.2.2.1), some (.int s.2.2.2.1), none, none] [] s.2.2.2.2 (k22 s)) (k32 : Int32 × Int32 × Int32 × Int32 × Int32 × aw_M → Option (Int32 × aw_M)) (hk32 : ∀ s : Int32 × Int32 × Int32 × Int32 × Int32 × aw_M, AW l k_X11_best aw_gi 32 [some (.ref t), some (.int s.1), some (.int s.2.1), some (.int s.2.2.1), some (.int s.2.2.2.1), some (.int s.2.2.2.2.1), none] [] s.2.2.2.2.2 (k32 s)) (x1 : Int32) (x2 : Int32) (x3 : Int32) (x4 : Int32) (x5 : Int32) (μ : aw_M) : AW l k_X11_best aw_gi 75 [some (.ref t), some (.int x1), some (.int x2), some (.int x3), some (.int x4), some (.int x5), none] [] μ (f_X11_best_75 F t k22 k32 x1 x2 x3 x4 x5 μ) := by
  unfold f_X11_best_75
  refine aw_iinc (n := 78) (x5 + 1) [some (.ref t), some (.int x1), some (.int x2), some (.int x3), some (.int x4), some (.int (x5 + 1)), none] dX11_best_75 rfl rfl (by rfl) rfl (Nat.le_of_ble_eq_true rfl) rfl ?_
  refine aw_goto 32 dX11_best_78 (by decide) ?_
  exact aw_weak (hk32 (x1, x2, x3, x4, (x5 + 1), μ)) (aw_ss (aw_ss (aw_ss (aw_ss (aw_ss (aw_ss (aw_sn aw_s0)))))))
def f_X11_best_63 (F : Nat) (t : Nat) (k22 : Int32 × Int32 × Int32 × Int32 × aw_M → Option (Int32 × aw_M)) (k32 : Int32 × Int32 × Int32 × Int32 × Int32 × aw_M → Option (Int32 × aw_M)) (x1 : Int32) (x4 : Int32) (x5 : Int32) (x6 : Int32) (μ : aw_M) : Option (Int32 × aw_M) :=
  aw_let (((100 * x5) + x4)) fun v12 =>
  f_X11_best_75 F t k22 k32 x1 v12 x6 x4 x5 μ
theorem c_X11_best_63 (l : Launch) (F : Nat) (t : Nat) (ht : (aw_sh t).1 = 16) (k22 : Int32 × Int32 × Int32 × Int32 × aw_M → Option (Int32 × aw_M)) (hk22 : ∀ s : Int32 × Int32 × Int32 × Int32 × aw_M, AW l k_X11_best aw_gi 22 [some (.ref t), some (.int s.1), some (.int s.2.1), some (.int s.2.2.1), some (.int s.2.2.2.1), none, none] [] s.2.2.2.2 (k22 s)) (k32 : Int32 × Int32 × Int32 × Int32 × Int32 × aw_M → Option (Int32 × aw_M)) (hk32 : ∀ s : Int32 × Int32 × Int32 × Int32 × Int32 × aw_M, AW l k_X11_best aw_gi 32 [some (.ref t), some (.int s.1), some (.int s.2.1), some (.int s.2.2.1), some (.int s.2.2.2.1), some (.int s.2.2.2.2.1), none] [] s.2.2.2.2.2 (k32 s)) (x1 : Int32) (x4 : Int32) (x5 : Int32) (x6 : Int32) (μ : aw_M) : AW l k_X11_best aw_gi 63 [some (.ref t), some (.int x1), none, none, some (.int x4), some (.int x5), some (.int x6)] [] μ (f_X11_best_63 F t k22 k32 x1 x4 x5 x6 μ) := by
  unfold f_X11_best_63
  refine aw_iload (n := 65) dX11_best_63 rfl rfl ?_
  refine aw_istore_n (n := 66) [some (.ref t), some (.int x1), none, some (.int x6), some (.int x4), some (.int x5), some (.int x6)] dX11_best_65 rfl rfl (Nat.le_of_ble_eq_true rfl) (Nat.le_of_ble_eq_true rfl) rfl ?_
  refine aw_bipush (n := 68) 100 dX11_best_66 rfl (by decide) ?_
  refine aw_iload (n := 70) dX11_best_68 rfl rfl ?_
  refine aw_imul (n := 71) dX11_best_70 rfl ?_
  refine aw_iload (n := 73) dX11_best_71 rfl rfl ?_
  refine aw_iadd (n := 74) dX11_best_73 rfl ?_
  refine aw_nmI (fun v12 => ?_)
  refine aw_istore_n (n := 75) [some (.ref t), some (.int x1), some (.int v12), some (.int x6), some (.int x4), some (.int x5), some (.int x6)] dX11_best_74 rfl rfl (Nat.le_of_ble_eq_true rfl) (Nat.le_of_ble_eq_true rfl) rfl ?_
  exact aw_weak (c_X11_best_75 l F t ht k22 hk22 k32 hk32 x1 v12 x6 x4 x5 μ) (aw_ss (aw_ss (aw_ss (aw_ss (aw_ss (aw_ss (aw_sn aw_s0)))))))
def f_X11_best_32 (F : Nat) (t : Nat) (k32 : Int32 × Int32 × Int32 × Int32 × Int32 × aw_M → Option (Int32 × aw_M)) (k22 : Int32 × Int32 × Int32 × Int32 × aw_M → Option (Int32 × aw_M)) (x1 : Int32) (x2 : Int32) (x3 : Int32) (x4 : Int32) (x5 : Int32) (μ : aw_M) : Option (Int32 × aw_M) :=
  (if 12 < x5 then
  f_X11_best_81 F t k22 x1 x2 x3 x4 μ
  else
  (f_X11_gridOf F t x1 x5 x4 μ).bind fun r11 =>
  (if x2 < 0 then
  f_X11_best_63 F t k22 k32 x1 x4 x5 r11.1 r11.2
  else
  (if x3 < r11.1 then
  f_X11_best_63 F t k22 k32 x1 x4 x5 r11.1 r11.2
  else
  f_X11_best_75 F t k22 k32 x1 x2 x3 x4 x5 r11.2)))
theorem c_X11_best_32 (l : Launch) (F : Nat) (t : Nat) (ht : (aw_sh t).1 = 16) (k22 : Int32 × Int32 × Int32 × Int32 × aw_M → Option (Int32 × aw_M)) (hk22 : ∀ s : Int32 × Int32 × Int32 × Int32 × aw_M, AW l k_X11_best aw_gi 22 [some (.ref t), some (.int s.1), some (.int s.2.1), some (.int s.2.2.1), some (.int s.2.2.2.1), none, none] [] s.2.2.2.2 (k22 s)) : ∀ (N : Nat) (s : Int32 × Int32 × Int32 × Int32 × Int32 × aw_M), AW l k_X11_best aw_gi 32 [some (.ref t), some (.int s.1), some (.int s.2.1), some (.int s.2.2.1), some (.int s.2.2.2.1), some (.int s.2.2.2.2.1), none] [] s.2.2.2.2.2 (aw_loop (fun k s => f_X11_best_32 F t k k22 s.1 s.2.1 s.2.2.1 s.2.2.2.1 s.2.2.2.2.1 s.2.2.2.2.2) N s) := by
  refine aw_loop_ok (f := fun k s => f_X11_best_32 F t k k22 s.1 s.2.1 s.2.2.1 s.2.2.2.1 s.2.2.2.2.1 s.2.2.2.2.2) (Ls := fun s => [some (.ref t), some (.int s.1), some (.int s.2.1), some (.int s.2.2.1), some (.int s.2.2.2.1), some (.int s.2.2.2.2.1), none]) (ms := fun s => s.2.2.2.2.2) ?_
  intro k32 hk32 s
  obtain ⟨x1, x2, x3, x4, x5, μ⟩ := s
  show AW l k_X11_best aw_gi 32 [some (.ref t), some (.int x1), some (.int x2), some (.int x3), some (.int x4), some (.int x5), none] [] μ (f_X11_best_32 F t k32 k22 x1 x2 x3 x4 x5 μ)
  unfold f_X11_best_32
  refine aw_iload (n := 34) dX11_best_32 rfl rfl ?_
  refine aw_bipush (n := 36) 12 dX11_best_34 rfl (by decide) ?_
  refine aw_icmp_gt (n := 39) 81 dX11_best_36 (by decide) rfl ?_ ?_
  · exact aw_weak (c_X11_best_81 l F t ht k22 hk22 x1 x2 x3 x4 μ) (aw_ss (aw_ss (aw_ss (aw_ss (aw_ss (aw_sn (aw_sn aw_s0)))))))
  · refine aw_aload_n (n := 40) dX11_best_39 rfl rfl ?_
    refine aw_iload_n (n := 41) dX11_best_40 rfl rfl ?_
    refine aw_iload (n := 43) dX11_best_41 rfl rfl ?_
    refine aw_iload (n := 45) dX11_best_43 rfl rfl ?_
    refine aw_callVi (n := 48) (as := [.int x1, .int x5, .int x4]) (st := []) (RX11, TX11, 52) 11 dX11_best_45 rfl rfl (m_X11_gridOf l F t ht x1 x5 x4 μ) ht (by decide) rfl rfl cw_RX11_326 ⟨Nat.le_of_ble_eq_true rfl, Nat.le_of_ble_eq_true rfl⟩ (fun _ => Nat.le_of_ble_eq_true rfl) (fun r11 => ?_)
    refine aw_istore (n := 50) [some (.ref t), some (.int x1), some (.int x2), some (.int x3), some (.int x4), some (.int x5), some (.int r11.1)] dX11_best_48 rfl rfl (Nat.le_of_ble_eq_true rfl) (Nat.le_of_ble_eq_true rfl) rfl ?_
    refine aw_iload_n (n := 51) dX11_best_50 rfl rfl ?_
    refine aw_if_lt (n := 54) 63 dX11_best_51 (by decide) rfl ?_ ?_
    · exact aw_weak (c_X11_best_63 l F t ht k22 hk22 k32 hk32 x1 x4 x5 r11.1 r11.2) (aw_ss (aw_ss (aw_sn (aw_sn (aw_ss (aw_ss (aw_ss aw_s0)))))))
    · refine aw_iload (n := 56) dX11_best_54 rfl rfl ?_
      refine aw_iload_n (n := 57) dX11_best_56 rfl rfl ?_
      refine aw_icmp_gt (n := 60) 63 dX11_best_57 (by decide) rfl ?_ ?_
      · exact aw_weak (c_X11_best_63 l F t ht k22 hk22 k32 hk32 x1 x4 x5 r11.1 r11.2) (aw_ss (aw_ss (aw_sn (aw_sn (aw_ss (aw_ss (aw_ss aw_s0)))))))
      · refine aw_goto 75 dX11_best_60 (by decide) ?_
        exact aw_weak (c_X11_best_75 l F t ht k22 hk22 k32 hk32 x1 x2 x3 x4 x5 r11.2) (aw_ss (aw_ss (aw_ss (aw_ss (aw_ss (aw_ss (aw_sn aw_s0)))))))
def f_X11_best_22 (F : Nat) (t : Nat) (k22 : Int32 × Int32 × Int32 × Int32 × aw_M → Option (Int32 × aw_M)) (x1 : Int32) (x2 : Int32) (x3 : Int32) (x4 : Int32) (μ : aw_M) : Option (Int32 × aw_M) :=
  (if 20 < x4 then
  some (x2, μ)
  else
  aw_loop (fun k s => f_X11_best_32 F t k k22 s.1 s.2.1 s.2.2.1 s.2.2.2.1 s.2.2.2.2.1 s.2.2.2.2.2) F (x1, x2, x3, x4, 0, μ))
theorem c_X11_best_22 (l : Launch) (F : Nat) (t : Nat) (ht : (aw_sh t).1 = 16) : ∀ (N : Nat) (s : Int32 × Int32 × Int32 × Int32 × aw_M), AW l k_X11_best aw_gi 22 [some (.ref t), some (.int s.1), some (.int s.2.1), some (.int s.2.2.1), some (.int s.2.2.2.1), none, none] [] s.2.2.2.2 (aw_loop (fun k s => f_X11_best_22 F t k s.1 s.2.1 s.2.2.1 s.2.2.2.1 s.2.2.2.2) N s) := by
  refine aw_loop_ok (f := fun k s => f_X11_best_22 F t k s.1 s.2.1 s.2.2.1 s.2.2.2.1 s.2.2.2.2) (Ls := fun s => [some (.ref t), some (.int s.1), some (.int s.2.1), some (.int s.2.2.1), some (.int s.2.2.2.1), none, none]) (ms := fun s => s.2.2.2.2) ?_
  intro k22 hk22 s
  obtain ⟨x1, x2, x3, x4, μ⟩ := s
  show AW l k_X11_best aw_gi 22 [some (.ref t), some (.int x1), some (.int x2), some (.int x3), some (.int x4), none, none] [] μ (f_X11_best_22 F t k22 x1 x2 x3 x4 μ)
  unfold f_X11_best_22
  refine aw_iload (n := 24) dX11_best_22 rfl rfl ?_
  refine aw_bipush (n := 26) 20 dX11_best_24 rfl (by decide) ?_
  refine aw_icmp_gt (n := 29) 87 dX11_best_26 (by decide) rfl ?_ ?_
  · refine aw_iload_n (n := 88) dX11_best_87 rfl rfl ?_
    exact aw_ireturn dX11_best_88 rfl rfl
  · refine aw_iconst (n := 30) 0 dX11_best_29 rfl (by decide) ?_
    refine aw_istore (n := 32) [some (.ref t), some (.int x1), some (.int x2), some (.int x3), some (.int x4), some (.int 0), none] dX11_best_30 rfl rfl (Nat.le_of_ble_eq_true rfl) (Nat.le_of_ble_eq_true rfl) rfl ?_
    exact aw_weak (c_X11_best_32 l F t ht k22 hk22 F (x1, x2, x3, x4, 0, μ)) (aw_ss (aw_ss (aw_ss (aw_ss (aw_ss (aw_ss (aw_sn aw_s0)))))))
def f_X11_best (F : Nat) (t : Nat) (a0 : Int32) (μ : aw_M) : Option (Int32 × aw_M) :=
  aw_let (aw_wI μ t 0 0) fun μ9 =>
  (f_X11_isQuarter F t a0 μ9).bind fun r10 =>
  (if r10.1 = true then
  aw_loop (fun k s => f_X11_best_22 F t k s.1 s.2.1 s.2.2.1 s.2.2.2.1 s.2.2.2.2) F (a0, (-1), 0, 0, r10.2)
  else
  some ((-1), r10.2))
theorem m_X11_best (l : Launch) (F : Nat) (t : Nat) (ht : (aw_sh t).1 = 16) (a0 : Int32) (μ : aw_M) : AM l yX11_best cX11_best 7 (some .int) 8 288 aw_gi [.ref t, .int a0] μ (f_X11_best F t a0 μ) := by
  refine aw_met [some (.ref t), some (.int a0), none, none, none, none, none] (by decide) (fun _ => rfl) (fun _ => Nat.le_of_ble_eq_true rfl) ?_
  show AW l k_X11_best aw_gi 0 [some (.ref t), some (.int a0), none, none, none, none, none] [] μ _
  unfold f_X11_best
  refine aw_aload_n (n := 1) dX11_best_0 rfl rfl ?_
  refine aw_iconst (n := 2) 0 dX11_best_1 rfl (by decide) ?_
  refine aw_putI (n := 5) (RX11, TX11, 52) 11 0 dX11_best_2 rfl ht (by decide) fp_RX11_1 (fun μ9 => ?_)
  refine aw_aload_n (n := 6) dX11_best_5 rfl rfl ?_
  refine aw_iload_n (n := 7) dX11_best_6 rfl rfl ?_
  refine aw_callVz (n := 10) (as := [.int a0]) (st := []) (RX11, TX11, 52) 11 dX11_best_7 rfl rfl (m_X11_isQuarter l F t ht a0 μ9) ht (by decide) rfl rfl cw_RX11_258 ⟨Nat.le_of_ble_eq_true rfl, Nat.le_of_ble_eq_true rfl⟩ (fun _ => Nat.le_of_ble_eq_true rfl) (fun r10 => ?_)
  refine aw_ifb_ne (n := 13) 15 dX11_best_10 (by decide) rfl ?_ ?_
  · refine aw_iconst (n := 16) (-1) dX11_best_15 rfl (by decide) ?_
    refine aw_istore_n (n := 17) [some (.ref t), some (.int a0), some (.int (-1)), none, none, none, none] dX11_best_16 rfl rfl (Nat.le_of_ble_eq_true rfl) (Nat.le_of_ble_eq_true rfl) rfl ?_
    refine aw_iconst (n := 18) 0 dX11_best_17 rfl (by decide) ?_
    refine aw_istore_n (n := 19) [some (.ref t), some (.int a0), some (.int (-1)), some (.int 0), none, none, none] dX11_best_18 rfl rfl (Nat.le_of_ble_eq_true rfl) (Nat.le_of_ble_eq_true rfl) rfl ?_
    refine aw_iconst (n := 20) 0 dX11_best_19 rfl (by decide) ?_
    refine aw_istore (n := 22) [some (.ref t), some (.int a0), some (.int (-1)), some (.int 0), some (.int 0), none, none] dX11_best_20 rfl rfl (Nat.le_of_ble_eq_true rfl) (Nat.le_of_ble_eq_true rfl) rfl ?_
    exact aw_weak (c_X11_best_22 l F t ht F (a0, (-1), 0, 0, r10.2)) (aw_ss (aw_ss (aw_ss (aw_ss (aw_ss (aw_sn (aw_sn aw_s0)))))))
  · refine aw_iconst (n := 14) (-1) dX11_best_13 rfl (by decide) ?_
    exact aw_ireturn dX11_best_14 rfl rfl
abbrev k_X11_days : aw_K := (RX11, cX11_days, 8, (some .int), 2, 142)
def f_X11_days_240 (F : Nat) (t : Nat) (k92 : Int32 × Int32 × Int32 × Int32 × aw_M → Option (Int32 × aw_M)) (x1 : Int32) (x2 : Int32) (x3 : Int32) (x4 : Int32) (μ : aw_M) : Option (Int32 × aw_M) :=
  k92 (x1, x2, x3, (x4 + 1), μ)
theorem c_X11_days_240 (l : Launch) (F : Nat) (t : Nat) (ht : (aw_sh t).1 = 16) (k92 : Int32 × Int32 × Int32 × Int32 × aw_M → Option (Int32 × aw_M)) (hk92 : ∀ s : Int32 × Int32 × Int32 × Int32 × aw_M, AW l k_X11_days aw_gi 92 [some (.ref t), some (.int s.1), some (.int s.2.1), some (.int s.2.2.1), some (.int s.2.2.2.1), none, none, none] [] s.2.2.2.2 (k92 s)) (x1 : Int32) (x2 : Int32) (x3 : Int32) (x4 : Int32) (μ : aw_M) : AW l k_X11_days aw_gi 240 [some (.ref t), some (.int x1), some (.int x2), some (.int x3), some (.int x4), none, none, none] [] μ (f_X11_days_240 F t k92 x1 x2 x3 x4 μ) := by
  unfold f_X11_days_240
  refine aw_iinc (n := 243) (x4 + 1) [some (.ref t), some (.int x1), some (.int x2), some (.int x3), some (.int (x4 + 1)), none, none, none] dX11_days_240 rfl rfl (by rfl) rfl (Nat.le_of_ble_eq_true rfl) rfl ?_
  refine aw_goto 92 dX11_days_243 (by decide) ?_
  exact aw_weak (hk92 (x1, x2, x3, (x4 + 1), μ)) (aw_ss (aw_ss (aw_ss (aw_ss (aw_ss (aw_sn (aw_sn (aw_sn aw_s0))))))))
def f_X11_days_234 (F : Nat) (t : Nat) (k92 : Int32 × Int32 × Int32 × Int32 × aw_M → Option (Int32 × aw_M)) (k101 : Int32 × Int32 × Int32 × Int32 × Int32 × aw_M → Option (Int32 × aw_M)) (x1 : Int32) (x2 : Int32) (x3 : Int32) (x4 : Int32) (x5 : Int32) (μ : aw_M) : Option (Int32 × aw_M) :=
  k101 (x1, x2, x3, x4, (x5 + 1), μ)
theorem c_X11_days_234 (l : Launch) (F : Nat) (t : Nat) (ht : (aw_sh t).1 = 16) (k92 : Int32 × Int32 × Int32 × Int32 × aw_M → Option (Int32 × aw_M)) (hk92 : ∀ s : Int32 × Int32 × Int32 × Int32 × aw_M, AW l k_X11_days aw_gi 92 [some (.ref t), some (.int s.1), some (.int s.2.1), some (.int s.2.2.1), some (.int s.2.2.2.1), none, none, none] [] s.2.2.2.2 (k92 s)) (k101 : Int32 × Int32 × Int32 × Int32 × Int32 × aw_M → Option (Int32 × aw_M)) (hk101 : ∀ s : Int32 × Int32 × Int32 × Int32 × Int32 × aw_M, AW l k_X11_days aw_gi 101 [some (.ref t), some (.int s.1), some (.int s.2.1), some (.int s.2.2.1), some (.int s.2.2.2.1), some (.int s.2.2.2.2.1), none, none] [] s.2.2.2.2.2 (k101 s)) (x1 : Int32) (x2 : Int32) (x3 : Int32) (x4 : Int32) (x5 : Int32) (μ : aw_M) : AW l k_X11_days aw_gi 234 [some (.ref t), some (.int x1), some (.int x2), some (.int x3), some (.int x4), some (.int x5), none, none] [] μ (f_X11_days_234 F t k92 k101 x1 x2 x3 x4 x5 μ) := by
  unfold f_X11_days_234
  refine aw_iinc (n := 237) (x5 + 1) [some (.ref t), some (.int x1), some (.int x2), some (.int x3), some (.int x4), some (.int (x5 + 1)), none, none] dX11_days_234 rfl rfl (by rfl) rfl (Nat.le_of_ble_eq_true rfl) rfl ?_
  refine aw_goto 101 dX11_days_237 (by decide) ?_
  exact aw_weak (hk101 (x1, x2, x3, x4, (x5 + 1), μ)) (aw_ss (aw_ss (aw_ss (aw_ss (aw_ss (aw_ss (aw_sn (aw_sn aw_s0))))))))
def f_X11_days_228 (F : Nat) (t : Nat) (k92 : Int32 × Int32 × Int32 × Int32 × aw_M → Option (Int32 × aw_M)) (k101 : Int32 × Int32 × Int32 × Int32 × Int32 × aw_M → Option (Int32 × aw_M)) (k110 : Int32 × Int32 × Int32 × Int32 × Int32 × Int32 × aw_M → Option (Int32 × aw_M)) (x1 : Int32) (x2 : Int32) (x3 : Int32) (x4 : Int32) (x5 : Int32) (x6 : Int32) (μ : aw_M) : Option (Int32 × aw_M) :=
  k110 (x1, x2, x3, x4, x5, (x6 + 1), μ)
theorem c_X11_days_228 (l : Launch) (F : Nat) (t : Nat) (ht : (aw_sh t).1 = 16) (k92 : Int32 × Int32 × Int32 × Int32 × aw_M → Option (Int32 × aw_M)) (hk92 : ∀ s : Int32 × Int32 × Int32 × Int32 × aw_M, AW l k_X11_days aw_gi 92 [some (.ref t), some (.int s.1), some (.int s.2.1), some (.int s.2.2.1), some (.int s.2.2.2.1), none, none, none] [] s.2.2.2.2 (k92 s)) (k101 : Int32 × Int32 × Int32 × Int32 × Int32 × aw_M → Option (Int32 × aw_M)) (hk101 : ∀ s : Int32 × Int32 × Int32 × Int32 × Int32 × aw_M, AW l k_X11_days aw_gi 101 [some (.ref t), some (.int s.1), some (.int s.2.1), some (.int s.2.2.1), some (.int s.2.2.2.1), some (.int s.2.2.2.2.1), none, none] [] s.2.2.2.2.2 (k101 s)) (k110 : Int32 × Int32 × Int32 × Int32 × Int32 × Int32 × aw_M → Option (Int32 × aw_M)) (hk110 : ∀ s : Int32 × Int32 × Int32 × Int32 × Int32 × Int32 × aw_M, AW l k_X11_days aw_gi 110 [some (.ref t), some (.int s.1), some (.int s.2.1), some (.int s.2.2.1), some (.int s.2.2.2.1), some (.int s.2.2.2.2.1), some (.int s.2.2.2.2.2.1), none] [] s.2.2.2.2.2.2 (k110 s)) (x1 : Int32) (x2 : Int32) (x3 : Int32) (x4 : Int32) (x5 : Int32) (x6 : Int32) (μ : aw_M) : AW l k_X11_days aw_gi 228 [some (.ref t), some (.int x1), some (.int x2), some (.int x3), some (.int x4), some (.int x5), some (.int x6), none] [] μ (f_X11_days_228 F t k92 k101 k110 x1 x2 x3 x4 x5 x6 μ) := by
  unfold f_X11_days_228
  refine aw_iinc (n := 231) (x6 + 1) [some (.ref t), some (.int x1), some (.int x2), some (.int x3), some (.int x4), some (.int x5), some (.int (x6 + 1)), none] dX11_days_228 rfl rfl (by rfl) rfl (Nat.le_of_ble_eq_true rfl) rfl ?_
  refine aw_goto 110 dX11_days_231 (by decide) ?_
  exact aw_weak (hk110 (x1, x2, x3, x4, x5, (x6 + 1), μ)) (aw_ss (aw_ss (aw_ss (aw_ss (aw_ss (aw_ss (aw_ss (aw_sn aw_s0))))))))
def f_X11_days_110 (F : Nat) (t : Nat) (k110 : Int32 × Int32 × Int32 × Int32 × Int32 × Int32 × aw_M → Option (Int32 × aw_M)) (k92 : Int32 × Int32 × Int32 × Int32 × aw_M → Option (Int32 × aw_M)) (k101 : Int32 × Int32 × Int32 × Int32 × Int32 × aw_M → Option (Int32 × aw_M)) (x1 : Int32) (x2 : Int32) (x3 : Int32) (x4 : Int32) (x5 : Int32) (x6 : Int32) (μ : aw_M) : Option (Int32 × aw_M) :=
  (if x2 < x6 then
  f_X11_days_234 F t k92 k101 x1 x2 x3 x4 x5 μ
  else
  (f_X11_octet F t 0 μ).bind fun r46 =>
  (f_X11_octet F t 1 r46.2).bind fun r47 =>
  (f_X11_octet F t 2 r47.2).bind fun r48 =>
  (if (((r46.1 * x4) + (r47.1 * x5)) + (r48.1 * x6)) ≤ x1 then
  (f_X11_octet F t 0 r48.2).bind fun r49 =>
  aw_g (aw_in x4 10) ((f_X11_octet F t 1 r49.2).bind fun r50 =>
  aw_g (aw_in x5 10) ((f_X11_octet F t 2 r50.2).bind fun r51 =>
  aw_g (aw_in x6 10) (aw_let ((((r49.1 * (r49.2.1 (aw_rf t 25) x4.toNatClampNeg)) + (r50.1 * (r50.2.1 (aw_rf t 25) x5.toNatClampNeg))) + (r51.1 * (r51.2.1 (aw_rf t 25) x6.toNatClampNeg)))) fun v52 =>
  (if x3 < v52 then
  aw_g (aw_in 0 3) (aw_let (aw_wI r51.2 (aw_rf t 24) (0 : Int32).toNatClampNeg x4) fun μ53 =>
  aw_g (aw_in 1 3) (aw_let (aw_wI μ53 (aw_rf t 24) (1 : Int32).toNatClampNeg x5) fun μ54 =>
  aw_g (aw_in 2 3) (aw_let (aw_wI μ54 (aw_rf t 24) (2 : Int32).toNatClampNeg x6) fun μ55 =>
  f_X11_days_228 F t k92 k101 k110 x1 x2 v52 x4 x5 x6 μ55)))
  else
  f_X11_days_228 F t k92 k101 k110 x1 x2 x3 x4 x5 x6 r51.2))))
  else
  f_X11_days_228 F t k92 k101 k110 x1 x2 x3 x4 x5 x6 r48.2))
theorem c_X11_days_110 (l : Launch) (F : Nat) (t : Nat) (ht : (aw_sh t).1 = 16) (k92 : Int32 × Int32 × Int32 × Int32 × aw_M → Option (Int32 × aw_M)) (hk92 : ∀ s : Int32 × Int32 × Int32 × Int32 × aw_M, AW l k_X11_days aw_gi 92 [some (.ref t), some (.int s.1), some (.int s.2.1), some (.int s.2.2.1), some (.int s.2.2.2.1), none, none, none] [] s.2.2.2.2 (k92 s)) (k101 : Int32 × Int32 × Int32 × Int32 × Int32 × aw_M → Option (Int32 × aw_M)) (hk101 : ∀ s : Int32 × Int32 × Int32 × Int32 × Int32 × aw_M, AW l k_X11_days aw_gi 101 [some (.ref t), some (.int s.1), some (.int s.2.1), some (.int s.2.2.1), some (.int s.2.2.2.1), some (.int s.2.2.2.2.1), none, none] [] s.2.2.2.2.2 (k101 s)) : ∀ (N : Nat) (s : Int32 × Int32 × Int32 × Int32 × Int32 × Int32 × aw_M), AW l k_X11_days aw_gi 110 [some (.ref t), some (.int s.1), some (.int s.2.1), some (.int s.2.2.1), some (.int s.2.2.2.1), some (.int s.2.2.2.2.1), some (.int s.2.2.2.2.2.1), none] [] s.2.2.2.2.2.2 (aw_loop (fun k s => f_X11_days_110 F t k k92 k101 s.1 s.2.1 s.2.2.1 s.2.2.2.1 s.2.2.2.2.1 s.2.2.2.2.2.1 s.2.2.2.2.2.2) N s) := by
  refine aw_loop_ok (f := fun k s => f_X11_days_110 F t k k92 k101 s.1 s.2.1 s.2.2.1 s.2.2.2.1 s.2.2.2.2.1 s.2.2.2.2.2.1 s.2.2.2.2.2.2) (Ls := fun s => [some (.ref t), some (.int s.1), some (.int s.2.1), some (.int s.2.2.1), some (.int s.2.2.2.1), some (.int s.2.2.2.2.1), some (.int s.2.2.2.2.2.1), none]) (ms := fun s => s.2.2.2.2.2.2) ?_
  intro k110 hk110 s
  obtain ⟨x1, x2, x3, x4, x5, x6, μ⟩ := s
  show AW l k_X11_days aw_gi 110 [some (.ref t), some (.int x1), some (.int x2), some (.int x3), some (.int x4), some (.int x5), some (.int x6), none] [] μ (f_X11_days_110 F t k110 k92 k101 x1 x2 x3 x4 x5 x6 μ)
  unfold f_X11_days_110
  refine aw_iload (n := 112) dX11_days_110 rfl rfl ?_
  refine aw_iload_n (n := 113) dX11_days_112 rfl rfl ?_
  refine aw_icmp_gt (n := 116) 234 dX11_days_113 (by decide) rfl ?_ ?_
  · exact aw_weak (c_X11_days_234 l F t ht k92 hk92 k101 hk101 x1 x2 x3 x4 x5 μ) (aw_ss (aw_ss (aw_ss (aw_ss (aw_ss (aw_ss (aw_sn (aw_sn aw_s0))))))))
  · refine aw_aload_n (n := 117) dX11_days_116 rfl rfl ?_
    refine aw_iconst (n := 118) 0 dX11_days_117 rfl (by decide) ?_
    refine aw_callVi (n := 121) (as := [.int 0]) (st := []) (RX11, TX11, 52) 11 dX11_days_118 rfl rfl (m_X11_octet l F t ht 0 μ) ht (by decide) rfl rfl cw_RX11_330 ⟨Nat.le_of_ble_eq_true rfl, Nat.le_of_ble_eq_true rfl⟩ (fun _ => Nat.le_of_ble_eq_true rfl) (fun r46 => ?_)
    refine aw_iload (n := 123) dX11_days_121 rfl rfl ?_
    refine aw_imul (n := 124) dX11_days_123 rfl ?_
    refine aw_aload_n (n := 125) dX11_days_124 rfl rfl ?_
    refine aw_iconst (n := 126) 1 dX11_days_125 rfl (by decide) ?_
    refine aw_callVi (n := 129) (as := [.int 1]) (st := [.int (r46.1 * x4)]) (RX11, TX11, 52) 11 dX11_days_126 rfl rfl (m_X11_octet l F t ht 1 r46.2) ht (by decide) rfl rfl cw_RX11_330 ⟨Nat.le_of_ble_eq_true rfl, Nat.le_of_ble_eq_true rfl⟩ (fun _ => Nat.le_of_ble_eq_true rfl) (fun r47 => ?_)
    refine aw_iload (n := 131) dX11_days_129 rfl rfl ?_
    refine aw_imul (n := 132) dX11_days_131 rfl ?_
    refine aw_iadd (n := 133) dX11_days_132 rfl ?_
    refine aw_aload_n (n := 134) dX11_days_133 rfl rfl ?_
    refine aw_iconst (n := 135) 2 dX11_days_134 rfl (by decide) ?_
    refine aw_callVi (n := 138) (as := [.int 2]) (st := [.int ((r46.1 * x4) + (r47.1 * x5))]) (RX11, TX11, 52) 11 dX11_days_135 rfl rfl (m_X11_octet l F t ht 2 r47.2) ht (by decide) rfl rfl cw_RX11_330 ⟨Nat.le_of_ble_eq_true rfl, Nat.le_of_ble_eq_true rfl⟩ (fun _ => Nat.le_of_ble_eq_true rfl) (fun r48 => ?_)
    refine aw_iload (n := 140) dX11_days_138 rfl rfl ?_
    refine aw_imul (n := 141) dX11_days_140 rfl ?_
    refine aw_iadd (n := 142) dX11_days_141 rfl ?_
    refine aw_iload_n (n := 143) dX11_days_142 rfl rfl ?_
    refine aw_icmp_le (n := 146) 149 dX11_days_143 (by decide) rfl ?_ ?_
    · refine aw_aload_n (n := 150) dX11_days_149 rfl rfl ?_
      refine aw_iconst (n := 151) 0 dX11_days_150 rfl (by decide) ?_
      refine aw_callVi (n := 154) (as := [.int 0]) (st := []) (RX11, TX11, 52) 11 dX11_days_151 rfl rfl (m_X11_octet l F t ht 0 r48.2) ht (by decide) rfl rfl cw_RX11_330 ⟨Nat.le_of_ble_eq_true rfl, Nat.le_of_ble_eq_true rfl⟩ (fun _ => Nat.le_of_ble_eq_true rfl) (fun r49 => ?_)
      refine aw_aload_n (n := 155) dX11_days_154 rfl rfl ?_
      refine aw_getR (n := 158) (RX11, TX11, 52) 11 25 dX11_days_155 rfl ht (by decide) fd_RX11_59 ?_
      refine aw_iload (n := 160) dX11_days_158 rfl rfl ?_
      refine aw_iaload (n := 161) 10 dX11_days_160 rfl (sf_11_25 ht) ?_
      refine aw_imul (n := 162) dX11_days_161 rfl ?_
      refine aw_aload_n (n := 163) dX11_days_162 rfl rfl ?_
      refine aw_iconst (n := 164) 1 dX11_days_163 rfl (by decide) ?_
      refine aw_callVi (n := 167) (as := [.int 1]) (st := [.int (r49.1 * (r49.2.1 (aw_rf t 25) x4.toNatClampNeg))]) (RX11, TX11, 52) 11 dX11_days_164 rfl rfl (m_X11_octet l F t ht 1 r49.2) ht (by decide) rfl rfl cw_RX11_330 ⟨Nat.le_of_ble_eq_true rfl, Nat.le_of_ble_eq_true rfl⟩ (fun _ => Nat.le_of_ble_eq_true rfl) (fun r50 => ?_)
      refine aw_aload_n (n := 168) dX11_days_167 rfl rfl ?_
      refine aw_getR (n := 171) (RX11, TX11, 52) 11 25 dX11_days_168 rfl ht (by decide) fd_RX11_59 ?_
      refine aw_iload (n := 173) dX11_days_171 rfl rfl ?_
      refine aw_iaload (n := 174) 10 dX11_days_173 rfl (sf_11_25 ht) ?_
      refine aw_imul (n := 175) dX11_days_174 rfl ?_
      refine aw_iadd (n := 176) dX11_days_175 rfl ?_
      refine aw_aload_n (n := 177) dX11_days_176 rfl rfl ?_
      refine aw_iconst (n := 178) 2 dX11_days_177 rfl (by decide) ?_
      refine aw_callVi (n := 181) (as := [.int 2]) (st := [.int ((r49.1 * (r49.2.1 (aw_rf t 25) x4.toNatClampNeg)) + (r50.1 * (r50.2.1 (aw_rf t 25) x5.toNatClampNeg)))]) (RX11, TX11, 52) 11 dX11_days_178 rfl rfl (m_X11_octet l F t ht 2 r50.2) ht (by decide) rfl rfl cw_RX11_330 ⟨Nat.le_of_ble_eq_true rfl, Nat.le_of_ble_eq_true rfl⟩ (fun _ => Nat.le_of_ble_eq_true rfl) (fun r51 => ?_)
      refine aw_aload_n (n := 182) dX11_days_181 rfl rfl ?_
      refine aw_getR (n := 185) (RX11, TX11, 52) 11 25 dX11_days_182 rfl ht (by decide) fd_RX11_59 ?_
      refine aw_iload (n := 187) dX11_days_185 rfl rfl ?_
      refine aw_iaload (n := 188) 10 dX11_days_187 rfl (sf_11_25 ht) ?_
      refine aw_imul (n := 189) dX11_days_188 rfl ?_
      refine aw_iadd (n := 190) dX11_days_189 rfl ?_
      refine aw_nmI (fun v52 => ?_)
      refine aw_istore (n := 192) [some (.ref t), some (.int x1), some (.int x2), some (.int x3), some (.int x4), some (.int x5), some (.int x6), some (.int v52)] dX11_days_190 rfl rfl (Nat.le_of_ble_eq_true rfl) (Nat.le_of_ble_eq_true rfl) rfl ?_
      refine aw_iload (n := 194) dX11_days_192 rfl rfl ?_
      refine aw_iload_n (n := 195) dX11_days_194 rfl rfl ?_
      refine aw_icmp_gt (n := 198) 201 dX11_days_195 (by decide) rfl ?_ ?_
      · refine aw_iload (n := 203) dX11_days_201 rfl rfl ?_
        refine aw_istore_n (n := 204) [some (.ref t), some (.int x1), some (.int x2), some (.int v52), some (.int x4), some (.int x5), some (.int x6), some (.int v52)] dX11_days_203 rfl rfl (Nat.le_of_ble_eq_true rfl) (Nat.le_of_ble_eq_true rfl) rfl ?_
        refine aw_aload_n (n := 205) dX11_days_204 rfl rfl ?_
        refine aw_getR (n := 208) (RX11, TX11, 52) 11 24 dX11_days_205 rfl ht (by decide) fd_RX11_56 ?_
        refine aw_iconst (n := 209) 0 dX11_days_208 rfl (by decide) ?_
        refine aw_iload (n := 211) dX11_days_209 rfl rfl ?_
        refine aw_iastore (n := 212) 3 dX11_days_211 rfl (sf_11_24 ht) (fun μ53 => ?_)
        refine aw_aload_n (n := 213) dX11_days_212 rfl rfl ?_
        refine aw_getR (n := 216) (RX11, TX11, 52) 11 24 dX11_days_213 rfl ht (by decide) fd_RX11_56 ?_
        refine aw_iconst (n := 217) 1 dX11_days_216 rfl (by decide) ?_
        refine aw_iload (n := 219) dX11_days_217 rfl rfl ?_
        refine aw_iastore (n := 220) 3 dX11_days_219 rfl (sf_11_24 ht) (fun μ54 => ?_)
        refine aw_aload_n (n := 221) dX11_days_220 rfl rfl ?_
        refine aw_getR (n := 224) (RX11, TX11, 52) 11 24 dX11_days_221 rfl ht (by decide) fd_RX11_56 ?_
        refine aw_iconst (n := 225) 2 dX11_days_224 rfl (by decide) ?_
        refine aw_iload (n := 227) dX11_days_225 rfl rfl ?_
        refine aw_iastore (n := 228) 3 dX11_days_227 rfl (sf_11_24 ht) (fun μ55 => ?_)
        exact aw_weak (c_X11_days_228 l F t ht k92 hk92 k101 hk101 k110 hk110 x1 x2 v52 x4 x5 x6 μ55) (aw_ss (aw_ss (aw_ss (aw_ss (aw_ss (aw_ss (aw_ss (aw_sn aw_s0))))))))
      · refine aw_goto 228 dX11_days_198 (by decide) ?_
        exact aw_weak (c_X11_days_228 l F t ht k92 hk92 k101 hk101 k110 hk110 x1 x2 x3 x4 x5 x6 r51.2) (aw_ss (aw_ss (aw_ss (aw_ss (aw_ss (aw_ss (aw_ss (aw_sn aw_s0))))))))
    · refine aw_goto 228 dX11_days_146 (by decide) ?_
      exact aw_weak (c_X11_days_228 l F t ht k92 hk92 k101 hk101 k110 hk110 x1 x2 x3 x4 x5 x6 r48.2) (aw_ss (aw_ss (aw_ss (aw_ss (aw_ss (aw_ss (aw_ss (aw_sn aw_s0))))))))
def f_X11_days_101 (F : Nat) (t : Nat) (k101 : Int32 × Int32 × Int32 × Int32 × Int32 × aw_M → Option (Int32 × aw_M)) (k92 : Int32 × Int32 × Int32 × Int32 × aw_M → Option (Int32 × aw_M)) (x1 : Int32) (x2 : Int32) (x3 : Int32) (x4 : Int32) (x5 : Int32) (μ : aw_M) : Option (Int32 × aw_M) :=
  (if x2 < x5 then
  f_X11_days_240 F t k92 x1 x2 x3 x4 μ
  else
  aw_loop (fun k s => f_X11_days_110 F t k k92 k101 s.1 s.2.1 s.2.2.1 s.2.2.2.1 s.2.2.2.2.1 s.2.2.2.2.2.1 s.2.2.2.2.2.2) F (x1, x2, x3, x4, x5, 0, μ))
theorem c_X11_days_101 (l : Launch) (F : Nat) (t : Nat) (ht : (aw_sh t).1 = 16) (k92 : Int32 × Int32 × Int32 × Int32 × aw_M → Option (Int32 × aw_M)) (hk92 : ∀ s : Int32 × Int32 × Int32 × Int32 × aw_M, AW l k_X11_days aw_gi 92 [some (.ref t), some (.int s.1), some (.int s.2.1), some (.int s.2.2.1), some (.int s.2.2.2.1), none, none, none] [] s.2.2.2.2 (k92 s)) : ∀ (N : Nat) (s : Int32 × Int32 × Int32 × Int32 × Int32 × aw_M), AW l k_X11_days aw_gi 101 [some (.ref t), some (.int s.1), some (.int s.2.1), some (.int s.2.2.1), some (.int s.2.2.2.1), some (.int s.2.2.2.2.1), none, none] [] s.2.2.2.2.2 (aw_loop (fun k s => f_X11_days_101 F t k k92 s.1 s.2.1 s.2.2.1 s.2.2.2.1 s.2.2.2.2.1 s.2.2.2.2.2) N s) := by
  refine aw_loop_ok (f := fun k s => f_X11_days_101 F t k k92 s.1 s.2.1 s.2.2.1 s.2.2.2.1 s.2.2.2.2.1 s.2.2.2.2.2) (Ls := fun s => [some (.ref t), some (.int s.1), some (.int s.2.1), some (.int s.2.2.1), some (.int s.2.2.2.1), some (.int s.2.2.2.2.1), none, none]) (ms := fun s => s.2.2.2.2.2) ?_
  intro k101 hk101 s
  obtain ⟨x1, x2, x3, x4, x5, μ⟩ := s
  show AW l k_X11_days aw_gi 101 [some (.ref t), some (.int x1), some (.int x2), some (.int x3), some (.int x4), some (.int x5), none, none] [] μ (f_X11_days_101 F t k101 k92 x1 x2 x3 x4 x5 μ)
  unfold f_X11_days_101
  refine aw_iload (n := 103) dX11_days_101 rfl rfl ?_
  refine aw_iload_n (n := 104) dX11_days_103 rfl rfl ?_
  refine aw_icmp_gt (n := 107) 240 dX11_days_104 (by decide) rfl ?_ ?_
  · exact aw_weak (c_X11_days_240 l F t ht k92 hk92 x1 x2 x3 x4 μ) (aw_ss (aw_ss (aw_ss (aw_ss (aw_ss (aw_sn (aw_sn (aw_sn aw_s0))))))))
  · refine aw_iconst (n := 108) 0 dX11_days_107 rfl (by decide) ?_
    refine aw_istore (n := 110) [some (.ref t), some (.int x1), some (.int x2), some (.int x3), some (.int x4), some (.int x5), some (.int 0), none] dX11_days_108 rfl rfl (Nat.le_of_ble_eq_true rfl) (Nat.le_of_ble_eq_true rfl) rfl ?_
    exact aw_weak (c_X11_days_110 l F t ht k92 hk92 k101 hk101 F (x1, x2, x3, x4, x5, 0, μ)) (aw_ss (aw_ss (aw_ss (aw_ss (aw_ss (aw_ss (aw_ss (aw_sn aw_s0))))))))
def f_X11_days_92 (F : Nat) (t : Nat) (k92 : Int32 × Int32 × Int32 × Int32 × aw_M → Option (Int32 × aw_M)) (x1 : Int32) (x2 : Int32) (x3 : Int32) (x4 : Int32) (μ : aw_M) : Option (Int32 × aw_M) :=
  (if x2 < x4 then
  aw_let (aw_wI μ t 26 1) fun μ45 =>
  some (x3, μ45)
  else
  aw_loop (fun k s => f_X11_days_101 F t k k92 s.1 s.2.1 s.2.2.1 s.2.2.2.1 s.2.2.2.2.1 s.2.2.2.2.2) F (x1, x2, x3, x4, 0, μ))
theorem c_X11_days_92 (l : Launch) (F : Nat) (t : Nat) (ht : (aw_sh t).1 = 16) : ∀ (N : Nat) (s : Int32 × Int32 × Int32 × Int32 × aw_M), AW l k_X11_days aw_gi 92 [some (.ref t), some (.int s.1), some (.int s.2.1), some (.int s.2.2.1), some (.int s.2.2.2.1), none, none, none] [] s.2.2.2.2 (aw_loop (fun k s => f_X11_days_92 F t k s.1 s.2.1 s.2.2.1 s.2.2.2.1 s.2.2.2.2) N s) := by
  refine aw_loop_ok (f := fun k s => f_X11_days_92 F t k s.1 s.2.1 s.2.2.1 s.2.2.2.1 s.2.2.2.2) (Ls := fun s => [some (.ref t), some (.int s.1), some (.int s.2.1), some (.int s.2.2.1), some (.int s.2.2.2.1), none, none, none]) (ms := fun s => s.2.2.2.2) ?_
  intro k92 hk92 s
  obtain ⟨x1, x2, x3, x4, μ⟩ := s
  show AW l k_X11_days aw_gi 92 [some (.ref t), some (.int x1), some (.int x2), some (.int x3), some (.int x4), none, none, none] [] μ (f_X11_days_92 F t k92 x1 x2 x3 x4 μ)
  unfold f_X11_days_92
  refine aw_iload (n := 94) dX11_days_92 rfl rfl ?_
  refine aw_iload_n (n := 95) dX11_days_94 rfl rfl ?_
  refine aw_icmp_gt (n := 98) 246 dX11_days_95 (by decide) rfl ?_ ?_
  · refine aw_aload_n (n := 247) dX11_days_246 rfl rfl ?_
    refine aw_iconst (n := 248) 1 dX11_days_247 rfl (by decide) ?_
    refine aw_putZ (n := 251) (RX11, TX11, 52) 11 26 dX11_days_248 rfl ht (by decide) fp_RX11_333 (Or.inr rfl) (fun μ45 => ?_)
    refine aw_iload_n (n := 252) dX11_days_251 rfl rfl ?_
    exact aw_ireturn dX11_days_252 rfl rfl
  · refine aw_iconst (n := 99) 0 dX11_days_98 rfl (by decide) ?_
    refine aw_istore (n := 101) [some (.ref t), some (.int x1), some (.int x2), some (.int x3), some (.int x4), some (.int 0), none, none] dX11_days_99 rfl rfl (Nat.le_of_ble_eq_true rfl) (Nat.le_of_ble_eq_true rfl) rfl ?_
    exact aw_weak (c_X11_days_101 l F t ht k92 hk92 F (x1, x2, x3, x4, 0, μ)) (aw_ss (aw_ss (aw_ss (aw_ss (aw_ss (aw_ss (aw_sn (aw_sn aw_s0))))))))
def f_X11_days_87 (F : Nat) (t : Nat) (x1 : Int32) (x2 : Int32) (μ : aw_M) : Option (Int32 × aw_M) :=
  aw_loop (fun k s => f_X11_days_92 F t k s.1 s.2.1 s.2.2.1 s.2.2.2.1 s.2.2.2.2) F (x1, x2, (-1), 0, μ)
theorem c_X11_days_87 (l : Launch) (F : Nat) (t : Nat) (ht : (aw_sh t).1 = 16) (x1 : Int32) (x2 : Int32) (μ : aw_M) : AW l k_X11_days aw_gi 87 [some (.ref t), some (.int x1), some (.int x2), none, none, none, none, none] [] μ (f_X11_days_87 F t x1 x2 μ) := by
  unfold f_X11_days_87
  refine aw_iconst (n := 88) (-1) dX11_days_87 rfl (by decide) ?_
  refine aw_istore_n (n := 89) [some (.ref t), some (.int x1), some (.int x2), some (.int (-1)), none, none, none, none] dX11_days_88 rfl rfl (Nat.le_of_ble_eq_true rfl) (Nat.le_of_ble_eq_true rfl) rfl ?_
  refine aw_iconst (n := 90) 0 dX11_days_89 rfl (by decide) ?_
  refine aw_istore (n := 92) [some (.ref t), some (.int x1), some (.int x2), some (.int (-1)), some (.int 0), none, none, none] dX11_days_90 rfl rfl (Nat.le_of_ble_eq_true rfl) (Nat.le_of_ble_eq_true rfl) rfl ?_
  exact aw_weak (c_X11_days_92 l F t ht F (x1, x2, (-1), 0, μ)) (aw_ss (aw_ss (aw_ss (aw_ss (aw_ss (aw_sn (aw_sn (aw_sn aw_s0))))))))
def f_X11_days_54 (F : Nat) (t : Nat) (k54 : Int32 × Int32 × Int32 × aw_M → Option (Int32 × aw_M)) (x1 : Int32) (x2 : Int32) (x3 : Int32) (μ : aw_M) : Option (Int32 × aw_M) :=
  (if x2 ≤ x3 then
  f_X11_days_87 F t x1 x2 μ
  else
  aw_g (aw_in x3 10) ((f_X11_octet F t (3 + x3) μ).bind fun r56 =>
  aw_g (aw_in (x3 + 1) 10) (aw_let (aw_wI r56.2 (aw_rf t 25) (x3 + 1).toNatClampNeg ((μ.1 (aw_rf t 25) x3.toNatClampNeg) + r56.1)) fun μ57 =>
  k54 (x1, x2, (x3 + 1), μ57))))
theorem c_X11_days_54 (l : Launch) (F : Nat) (t : Nat) (ht : (aw_sh t).1 = 16) : ∀ (N : Nat) (s : Int32 × Int32 × Int32 × aw_M), AW l k_X11_days aw_gi 54 [some (.ref t), some (.int s.1), some (.int s.2.1), some (.int s.2.2.1), none, none, none, none] [] s.2.2.2 (aw_loop (fun k s => f_X11_days_54 F t k s.1 s.2.1 s.2.2.1 s.2.2.2) N s) := by
  refine aw_loop_ok (f := fun k s => f_X11_days_54 F t k s.1 s.2.1 s.2.2.1 s.2.2.2) (Ls := fun s => [some (.ref t), some (.int s.1), some (.int s.2.1), some (.int s.2.2.1), none, none, none, none]) (ms := fun s => s.2.2.2) ?_
  intro k54 hk54 s
  obtain ⟨x1, x2, x3, μ⟩ := s
  show AW l k_X11_days aw_gi 54 [some (.ref t), some (.int x1), some (.int x2), some (.int x3), none, none, none, none] [] μ (f_X11_days_54 F t k54 x1 x2 x3 μ)
  unfold f_X11_days_54
  refine aw_iload_n (n := 55) dX11_days_54 rfl rfl ?_
  refine aw_iload_n (n := 56) dX11_days_55 rfl rfl ?_
  refine aw_icmp_ge (n := 59) 87 dX11_days_56 (by decide) rfl ?_ ?_
  · exact aw_weak (c_X11_days_87 l F t ht x1 x2 μ) (aw_ss (aw_ss (aw_ss (aw_sn (aw_sn (aw_sn (aw_sn (aw_sn aw_s0))))))))
  · refine aw_aload_n (n := 60) dX11_days_59 rfl rfl ?_
    refine aw_getR (n := 63) (RX11, TX11, 52) 11 25 dX11_days_60 rfl ht (by decide) fd_RX11_59 ?_
    refine aw_iload_n (n := 64) dX11_days_63 rfl rfl ?_
    refine aw_iconst (n := 65) 1 dX11_days_64 rfl (by decide) ?_
    refine aw_iadd (n := 66) dX11_days_65 rfl ?_
    refine aw_aload_n (n := 67) dX11_days_66 rfl rfl ?_
    refine aw_getR (n := 70) (RX11, TX11, 52) 11 25 dX11_days_67 rfl ht (by decide) fd_RX11_59 ?_
    refine aw_iload_n (n := 71) dX11_days_70 rfl rfl ?_
    refine aw_iaload (n := 72) 10 dX11_days_71 rfl (sf_11_25 ht) ?_
    refine aw_aload_n (n := 73) dX11_days_72 rfl rfl ?_
    refine aw_iconst (n := 74) 3 dX11_days_73 rfl (by decide) ?_
    refine aw_iload_n (n := 75) dX11_days_74 rfl rfl ?_
    refine aw_iadd (n := 76) dX11_days_75 rfl ?_
    refine aw_callVi (n := 79) (as := [.int (3 + x3)]) (st := [.int (μ.1 (aw_rf t 25) x3.toNatClampNeg), .int (x3 + 1), .ref (aw_rf t 25)]) (RX11, TX11, 52) 11 dX11_days_76 rfl rfl (m_X11_octet l F t ht (3 + x3) μ) ht (by decide) rfl rfl cw_RX11_330 ⟨Nat.le_of_ble_eq_true rfl, Nat.le_of_ble_eq_true rfl⟩ (fun _ => Nat.le_of_ble_eq_true rfl) (fun r56 => ?_)
    refine aw_iadd (n := 80) dX11_days_79 rfl ?_
    refine aw_iastore (n := 81) 10 dX11_days_80 rfl (sf_11_25 ht) (fun μ57 => ?_)
    refine aw_iinc (n := 84) (x3 + 1) [some (.ref t), some (.int x1), some (.int x2), some (.int (x3 + 1)), none, none, none, none] dX11_days_81 rfl rfl (by rfl) rfl (Nat.le_of_ble_eq_true rfl) rfl ?_
    refine aw_goto 54 dX11_days_84 (by decide) ?_
    exact aw_weak (hk54 (x1, x2, (x3 + 1), μ57)) (aw_ss (aw_ss (aw_ss (aw_ss (aw_sn (aw_sn (aw_sn (aw_sn aw_s0))))))))
def f_X11_days (F : Nat) (t : Nat) (a0 : Int32) (μ : aw_M) : Option (Int32 × aw_M) :=
  aw_let (aw_wI μ t 0 0) fun μ39 =>
  (f_X11_taken F t 940 μ39).bind fun r40 =>
  (f_X11_isIn F a0 0 9999 r40).bind fun r41 =>
  (if r41.1 = true then
  (f_X11_isIn F (r41.2.1 t 3) 4 12 r41.2).bind fun r42 =>
  (if r42.1 = true then
  aw_let (((r42.2.1 t 3) - 3)) fun v43 =>
  aw_g (aw_in 0 10) (aw_let (aw_wI r42.2 (aw_rf t 25) (0 : Int32).toNatClampNeg 0) fun μ44 =>
  aw_loop (fun k s => f_X11_days_54 F t k s.1 s.2.1 s.2.2.1 s.2.2.2) F (a0, v43, 0, μ44))
  else
  some ((-1), r42.2))
  else
  some ((-1), r41.2))
theorem m_X11_days (l : Launch) (F : Nat) (t : Nat) (ht : (aw_sh t).1 = 16) (a0 : Int32) (μ : aw_M) : AM l yX11_days cX11_days 8 (some .int) 2 142 aw_gi [.ref t, .int a0] μ (f_X11_days F t a0 μ) := by
  refine aw_met [some (.ref t), some (.int a0), none, none, none, none, none, none] (by decide) (fun _ => rfl) (fun _ => Nat.le_of_ble_eq_true rfl) ?_
  show AW l k_X11_days aw_gi 0 [some (.ref t), some (.int a0), none, none, none, none, none, none] [] μ _
  unfold f_X11_days
  refine aw_aload_n (n := 1) dX11_days_0 rfl rfl ?_
  refine aw_iconst (n := 2) 0 dX11_days_1 rfl (by decide) ?_
  refine aw_putI (n := 5) (RX11, TX11, 52) 11 0 dX11_days_2 rfl ht (by decide) fp_RX11_1 (fun μ39 => ?_)
  refine aw_aload_n (n := 6) dX11_days_5 rfl rfl ?_
  refine aw_sipush (n := 9) 940 dX11_days_6 rfl (by decide) ?_
  refine aw_callVv (n := 12) (as := [.int 940]) (st := []) (RX11, TX11, 52) 11 dX11_days_9 rfl rfl (m_X11_taken l F t ht 940 μ39) ht (by decide) rfl rfl cw_RX11_236 ⟨Nat.le_of_ble_eq_true rfl, Nat.le_of_ble_eq_true rfl⟩ (fun _ => Nat.le_of_ble_eq_true rfl) (fun r40 => ?_)
  refine aw_iload_n (n := 13) dX11_days_12 rfl rfl ?_
  refine aw_iconst (n := 14) 0 dX11_days_13 rfl (by decide) ?_
  refine aw_sipush (n := 17) 9999 dX11_days_14 rfl (by decide) ?_
  refine aw_callSz (n := 20) (as := [.int a0, .int 0, .int 9999]) (st := []) dX11_days_17 rfl rfl (m_X11_isIn l F a0 0 9999 r40) cw_RX11_194 ⟨Nat.le_of_ble_eq_true rfl, Nat.le_of_ble_eq_true rfl⟩ (fun _ => Nat.le_of_ble_eq_true rfl) (fun r41 => ?_)
  refine aw_ifb_eq (n := 23) 36 dX11_days_20 (by decide) rfl ?_ ?_
  · refine aw_iconst (n := 37) (-1) dX11_days_36 rfl (by decide) ?_
    exact aw_ireturn dX11_days_37 rfl rfl
  · refine aw_aload_n (n := 24) dX11_days_23 rfl rfl ?_
    refine aw_getI (n := 27) (RX11, TX11, 52) 11 3 dX11_days_24 rfl ht (by decide) fd_RX11_18 ?_
    refine aw_iconst (n := 28) 4 dX11_days_27 rfl (by decide) ?_
    refine aw_bipush (n := 30) 12 dX11_days_28 rfl (by decide) ?_
    refine aw_callSz (n := 33) (as := [.int (r41.2.1 t 3), .int 4, .int 12]) (st := []) dX11_days_30 rfl rfl (m_X11_isIn l F (r41.2.1 t 3) 4 12 r41.2) cw_RX11_194 ⟨Nat.le_of_ble_eq_true rfl, Nat.le_of_ble_eq_true rfl⟩ (fun _ => Nat.le_of_ble_eq_true rfl) (fun r42 => ?_)
    refine aw_ifb_ne (n := 36) 38 dX11_days_33 (by decide) rfl ?_ ?_
    · refine aw_aload_n (n := 39) dX11_days_38 rfl rfl ?_
      refine aw_getI (n := 42) (RX11, TX11, 52) 11 3 dX11_days_39 rfl ht (by decide) fd_RX11_18 ?_
      refine aw_iconst (n := 43) 3 dX11_days_42 rfl (by decide) ?_
      refine aw_isub (n := 44) dX11_days_43 rfl ?_
      refine aw_nmI (fun v43 => ?_)
      refine aw_istore_n (n := 45) [some (.ref t), some (.int a0), some (.int v43), none, none, none, none, none] dX11_days_44 rfl rfl (Nat.le_of_ble_eq_true rfl) (Nat.le_of_ble_eq_true rfl) rfl ?_
      refine aw_aload_n (n := 46) dX11_days_45 rfl rfl ?_
      refine aw_getR (n := 49) (RX11, TX11, 52) 11 25 dX11_days_46 rfl ht (by decide) fd_RX11_59 ?_
      refine aw_iconst (n := 50) 0 dX11_days_49 rfl (by decide) ?_
      refine aw_iconst (n := 51) 0 dX11_days_50 rfl (by decide) ?_
      refine aw_iastore (n := 52) 10 dX11_days_51 rfl (sf_11_25 ht) (fun μ44 => ?_)
      refine aw_iconst (n := 53) 0 dX11_days_52 rfl (by decide) ?_
      refine aw_istore_n (n := 54) [some (.ref t), some (.int a0), some (.int v43), some (.int 0), none, none, none, none] dX11_days_53 rfl rfl (Nat.le_of_ble_eq_true rfl) (Nat.le_of_ble_eq_true rfl) rfl ?_
      exact aw_weak (c_X11_days_54 l F t ht F (a0, v43, 0, μ44)) (aw_ss (aw_ss (aw_ss (aw_ss (aw_sn (aw_sn (aw_sn (aw_sn aw_s0))))))))
    · refine aw_iconst (n := 37) (-1) dX11_days_36 rfl (by decide) ?_
      exact aw_ireturn dX11_days_37 rfl rfl
abbrev k_X11_rows : aw_K := (RX11, cX11_rows, 2, (some .int), 2, 142)
def f_X11_rows (F : Nat) (t : Nat) (a0 : Int32) (μ : aw_M) : Option (Int32 × aw_M) :=
  aw_let (aw_wI μ t 0 0) fun μ1 =>
  (if (μ1.1 t 26) = 0 then
  some ((-1), μ1)
  else
  (f_X11_isIn F a0 0 2 μ1).bind fun r2 =>
  (if r2.1 = true then
  aw_g (aw_in a0 3) (some ((r2.2.1 (aw_rf t 24) a0.toNatClampNeg), r2.2))
  else
  some ((-1), r2.2)))
theorem m_X11_rows (l : Launch) (F : Nat) (t : Nat) (ht : (aw_sh t).1 = 16) (a0 : Int32) (μ : aw_M) : AM l yX11_rows cX11_rows 2 (some .int) 2 142 aw_gi [.ref t, .int a0] μ (f_X11_rows F t a0 μ) := by
  refine aw_met [some (.ref t), some (.int a0)] (by decide) (fun _ => rfl) (fun _ => Nat.le_of_ble_eq_true rfl) ?_
  show AW l k_X11_rows aw_gi 0 [some (.ref t), some (.int a0)] [] μ _
  unfold f_X11_rows
  refine aw_aload_n (n := 1) dX11_rows_0 rfl rfl ?_
  refine aw_iconst (n := 2) 0 dX11_rows_1 rfl (by decide) ?_
  refine aw_putI (n := 5) (RX11, TX11, 52) 11 0 dX11_rows_2 rfl ht (by decide) fp_RX11_1 (fun μ1 => ?_)
  refine aw_aload_n (n := 6) dX11_rows_5 rfl rfl ?_
  refine aw_getI (n := 9) (RX11, TX11, 52) 11 26 dX11_rows_6 rfl ht (by decide) fd_RX11_333 ?_
  refine aw_if_eq (n := 12) 30 dX11_rows_9 (by decide) rfl ?_ ?_
  · refine aw_iconst (n := 31) (-1) dX11_rows_30 rfl (by decide) ?_
    exact aw_ireturn dX11_rows_31 rfl rfl
  · refine aw_iload_n (n := 13) dX11_rows_12 rfl rfl ?_
    refine aw_iconst (n := 14) 0 dX11_rows_13 rfl (by decide) ?_
    refine aw_iconst (n := 15) 2 dX11_rows_14 rfl (by decide) ?_
    refine aw_callSz (n := 18) (as := [.int a0, .int 0, .int 2]) (st := []) dX11_rows_15 rfl rfl (m_X11_isIn l F a0 0 2 μ1) cw_RX11_194 ⟨Nat.le_of_ble_eq_true rfl, Nat.le_of_ble_eq_true rfl⟩ (fun _ => Nat.le_of_ble_eq_true rfl) (fun r2 => ?_)
    refine aw_ifb_eq (n := 21) 30 dX11_rows_18 (by decide) rfl ?_ ?_
    · refine aw_iconst (n := 31) (-1) dX11_rows_30 rfl (by decide) ?_
      exact aw_ireturn dX11_rows_31 rfl rfl
    · refine aw_aload_n (n := 22) dX11_rows_21 rfl rfl ?_
      refine aw_getR (n := 25) (RX11, TX11, 52) 11 24 dX11_rows_22 rfl ht (by decide) fd_RX11_56 ?_
      refine aw_iload_n (n := 26) dX11_rows_25 rfl rfl ?_
      refine aw_iaload (n := 27) 3 dX11_rows_26 rfl (sf_11_24 ht) ?_
      refine aw_goto 31 dX11_rows_27 (by decide) ?_
      exact aw_ireturn dX11_rows_31 rfl rfl
abbrev k_X11_stands : aw_K := (RX11, cX11_stands, 3, none, 7, 263)
def f_X11_stands_63 (F : Nat) (t : Nat) (k63 : Int32 × aw_M → Option (aw_M)) (x2 : Int32) (μ : aw_M) : Option (aw_M) :=
  (if 9 ≤ x2 then
  some μ
  else
  aw_g (aw_in x2 9) (aw_g (aw_in (11 + x2) 1155) (aw_let (aw_wI μ (aw_rf t 6) (11 + x2).toNatClampNeg (μ.1 (aw_rf t 27) x2.toNatClampNeg)) fun μ12 =>
  k63 ((x2 + 1), μ12))))
theorem c_X11_stands_63 (l : Launch) (F : Nat) (t : Nat) (ht : (aw_sh t).1 = 16) : ∀ (N : Nat) (s : Int32 × aw_M), AW l k_X11_stands aw_gv 63 [some (.ref t), none, some (.int s.1)] [] s.2 (aw_loop (fun k s => f_X11_stands_63 F t k s.1 s.2) N s) := by
  refine aw_loop_ok (f := fun k s => f_X11_stands_63 F t k s.1 s.2) (Ls := fun s => [some (.ref t), none, some (.int s.1)]) (ms := fun s => s.2) ?_
  intro k63 hk63 s
  obtain ⟨x2, μ⟩ := s
  show AW l k_X11_stands aw_gv 63 [some (.ref t), none, some (.int x2)] [] μ (f_X11_stands_63 F t k63 x2 μ)
  unfold f_X11_stands_63
  refine aw_iload_n (n := 64) dX11_stands_63 rfl rfl ?_
  refine aw_bipush (n := 66) 9 dX11_stands_64 rfl (by decide) ?_
  refine aw_icmp_ge (n := 69) 90 dX11_stands_66 (by decide) rfl ?_ ?_
  · exact aw_vreturn dX11_stands_90 rfl rfl
  · refine aw_aload_n (n := 70) dX11_stands_69 rfl rfl ?_
    refine aw_getR (n := 73) (RX11, TX11, 52) 11 6 dX11_stands_70 rfl ht (by decide) fd_RX11_33 ?_
    refine aw_bipush (n := 75) 11 dX11_stands_73 rfl (by decide) ?_
    refine aw_iload_n (n := 76) dX11_stands_75 rfl rfl ?_
    refine aw_iadd (n := 77) dX11_stands_76 rfl ?_
    refine aw_aload_n (n := 78) dX11_stands_77 rfl rfl ?_
    refine aw_getR (n := 81) (RX11, TX11, 52) 11 27 dX11_stands_78 rfl ht (by decide) fd_RX11_62 ?_
    refine aw_iload_n (n := 82) dX11_stands_81 rfl rfl ?_
    refine aw_iaload (n := 83) 9 dX11_stands_82 rfl (sf_11_27 ht) ?_
    refine aw_iastore (n := 84) 1155 dX11_stands_83 rfl (sf_11_6 ht) (fun μ12 => ?_)
    refine aw_iinc (n := 87) (x2 + 1) [some (.ref t), none, some (.int (x2 + 1))] dX11_stands_84 rfl rfl (by rfl) rfl (Nat.le_of_ble_eq_true rfl) rfl ?_
    refine aw_goto 63 dX11_stands_87 (by decide) ?_
    exact aw_weak (hk63 ((x2 + 1), μ12)) (aw_ss (aw_sn (aw_ss aw_s0)))
def f_X11_stands_57 (F : Nat) (t : Nat) (μ : aw_M) : Option (aw_M) :=
  (f_X11_sureDay F t μ).bind fun r11 =>
  aw_loop (fun k s => f_X11_stands_63 F t k s.1 s.2) F (0, r11)
theorem c_X11_stands_57 (l : Launch) (F : Nat) (t : Nat) (ht : (aw_sh t).1 = 16) (μ : aw_M) : AW l k_X11_stands aw_gv 57 [some (.ref t), none, none] [] μ (f_X11_stands_57 F t μ) := by
  unfold f_X11_stands_57
  refine aw_aload_n (n := 58) dX11_stands_57 rfl rfl ?_
  refine aw_callVv (n := 61) (as := []) (st := []) (RX11, TX11, 52) 11 dX11_stands_58 rfl rfl (m_X11_sureDay l F t ht μ) ht (by decide) rfl rfl cw_RX11_323 ⟨Nat.le_of_ble_eq_true rfl, Nat.le_of_ble_eq_true rfl⟩ (fun _ => Nat.le_of_ble_eq_true rfl) (fun r11 => ?_)
  refine aw_iconst (n := 62) 0 dX11_stands_61 rfl (by decide) ?_
  refine aw_istore_n (n := 63) [some (.ref t), none, some (.int 0)] dX11_stands_62 rfl rfl (Nat.le_of_ble_eq_true rfl) (Nat.le_of_ble_eq_true rfl) rfl ?_
  exact aw_weak (c_X11_stands_63 l F t ht F (0, r11)) (aw_ss (aw_sn (aw_ss aw_s0)))
def f_X11_stands_51 (F : Nat) (t : Nat) (k2 : Int32 × Int32 × aw_M → Option (aw_M)) (x1 : Int32) (x2 : Int32) (μ : aw_M) : Option (aw_M) :=
  k2 (x1, (x2 + 1), μ)
theorem c_X11_stands_51 (l : Launch) (F : Nat) (t : Nat) (ht : (aw_sh t).1 = 16) (k2 : Int32 × Int32 × aw_M → Option (aw_M)) (hk2 : ∀ s : Int32 × Int32 × aw_M, AW l k_X11_stands aw_gv 2 [some (.ref t), some (.int s.1), some (.int s.2.1)] [] s.2.2 (k2 s)) (x1 : Int32) (x2 : Int32) (μ : aw_M) : AW l k_X11_stands aw_gv 51 [some (.ref t), some (.int x1), some (.int x2)] [] μ (f_X11_stands_51 F t k2 x1 x2 μ) := by
  unfold f_X11_stands_51
  refine aw_iinc (n := 54) (x2 + 1) [some (.ref t), some (.int x1), some (.int (x2 + 1))] dX11_stands_51 rfl rfl (by rfl) rfl (Nat.le_of_ble_eq_true rfl) rfl ?_
  refine aw_goto 2 dX11_stands_54 (by decide) ?_
  exact aw_weak (hk2 (x1, (x2 + 1), μ)) (aw_ss (aw_ss (aw_ss aw_s0)))
def f_X11_stands_2 (F : Nat) (t : Nat) (k2 : Int32 × Int32 × aw_M → Option (aw_M)) (x1 : Int32) (x2 : Int32) (μ : aw_M) : Option (aw_M) :=
  (if 9 ≤ x2 then
  f_X11_stands_57 F t μ
  else
  aw_g (aw_in (11 + x2) 1155) (aw_g (aw_in x2 9) (aw_let (aw_wI μ (aw_rf t 27) x2.toNatClampNeg (μ.1 (aw_rf t 6) (11 + x2).toNatClampNeg)) fun μ13 =>
  (f_X11_bitOf F x1 x2 μ13).bind fun r14 =>
  (if r14.1 = true then
  aw_g (aw_in (38 + x2) 1155) (aw_g (aw_in (11 + x2) 1155) (aw_let (aw_wI r14.2 (aw_rf t 6) (11 + x2).toNatClampNeg ((r14.2.1 (aw_rf t 6) (38 + x2).toNatClampNeg) - 1)) fun μ15 =>
  f_X11_stands_51 F t k2 x1 x2 μ15))
  else
  f_X11_stands_51 F t k2 x1 x2 r14.2))))
theorem c_X11_stands_2 (l : Launch) (F : Nat) (t : Nat) (ht : (aw_sh t).1 = 16) : ∀ (N : Nat) (s : Int32 × Int32 × aw_M), AW l k_X11_stands aw_gv 2 [some (.ref t), some (.int s.1), some (.int s.2.1)] [] s.2.2 (aw_loop (fun k s => f_X11_stands_2 F t k s.1 s.2.1 s.2.2) N s) := by
  refine aw_loop_ok (f := fun k s => f_X11_stands_2 F t k s.1 s.2.1 s.2.2) (Ls := fun s => [some (.ref t), some (.int s.1), some (.int s.2.1)]) (ms := fun s => s.2.2) ?_
  intro k2 hk2 s
  obtain ⟨x1, x2, μ⟩ := s
  show AW l k_X11_stands aw_gv 2 [some (.ref t), some (.int x1), some (.int x2)] [] μ (f_X11_stands_2 F t k2 x1 x2 μ)
  unfold f_X11_stands_2
  refine aw_iload_n (n := 3) dX11_stands_2 rfl rfl ?_
  refine aw_bipush (n := 5) 9 dX11_stands_3 rfl (by decide) ?_
  refine aw_icmp_ge (n := 8) 57 dX11_stands_5 (by decide) rfl ?_ ?_
  · exact aw_weak (c_X11_stands_57 l F t ht μ) (aw_ss (aw_sn (aw_sn aw_s0)))
  · refine aw_aload_n (n := 9) dX11_stands_8 rfl rfl ?_
    refine aw_getR (n := 12) (RX11, TX11, 52) 11 27 dX11_stands_9 rfl ht (by decide) fd_RX11_62 ?_
    refine aw_iload_n (n := 13) dX11_stands_12 rfl rfl ?_
    refine aw_aload_n (n := 14) dX11_stands_13 rfl rfl ?_
    refine aw_getR (n := 17) (RX11, TX11, 52) 11 6 dX11_stands_14 rfl ht (by decide) fd_RX11_33 ?_
    refine aw_bipush (n := 19) 11 dX11_stands_17 rfl (by decide) ?_
    refine aw_iload_n (n := 20) dX11_stands_19 rfl rfl ?_
    refine aw_iadd (n := 21) dX11_stands_20 rfl ?_
    refine aw_iaload (n := 22) 1155 dX11_stands_21 rfl (sf_11_6 ht) ?_
    refine aw_iastore (n := 23) 9 dX11_stands_22 rfl (sf_11_27 ht) (fun μ13 => ?_)
    refine aw_iload_n (n := 24) dX11_stands_23 rfl rfl ?_
    refine aw_iload_n (n := 25) dX11_stands_24 rfl rfl ?_
    refine aw_callSz (n := 28) (as := [.int x1, .int x2]) (st := []) dX11_stands_25 rfl rfl (m_X11_bitOf l F x1 x2 μ13) cw_RX11_336 ⟨Nat.le_of_ble_eq_true rfl, Nat.le_of_ble_eq_true rfl⟩ (fun _ => Nat.le_of_ble_eq_true rfl) (fun r14 => ?_)
    refine aw_ifb_eq (n := 31) 51 dX11_stands_28 (by decide) rfl ?_ ?_
    · exact aw_weak (c_X11_stands_51 l F t ht k2 hk2 x1 x2 r14.2) (aw_ss (aw_ss (aw_ss aw_s0)))
    · refine aw_aload_n (n := 32) dX11_stands_31 rfl rfl ?_
      refine aw_getR (n := 35) (RX11, TX11, 52) 11 6 dX11_stands_32 rfl ht (by decide) fd_RX11_33 ?_
      refine aw_bipush (n := 37) 11 dX11_stands_35 rfl (by decide) ?_
      refine aw_iload_n (n := 38) dX11_stands_37 rfl rfl ?_
      refine aw_iadd (n := 39) dX11_stands_38 rfl ?_
      refine aw_aload_n (n := 40) dX11_stands_39 rfl rfl ?_
      refine aw_getR (n := 43) (RX11, TX11, 52) 11 6 dX11_stands_40 rfl ht (by decide) fd_RX11_33 ?_
      refine aw_bipush (n := 45) 38 dX11_stands_43 rfl (by decide) ?_
      refine aw_iload_n (n := 46) dX11_stands_45 rfl rfl ?_
      refine aw_iadd (n := 47) dX11_stands_46 rfl ?_
      refine aw_iaload (n := 48) 1155 dX11_stands_47 rfl (sf_11_6 ht) ?_
      refine aw_iconst (n := 49) 1 dX11_stands_48 rfl (by decide) ?_
      refine aw_isub (n := 50) dX11_stands_49 rfl ?_
      refine aw_iastore (n := 51) 1155 dX11_stands_50 rfl (sf_11_6 ht) (fun μ15 => ?_)
      exact aw_weak (c_X11_stands_51 l F t ht k2 hk2 x1 x2 μ15) (aw_ss (aw_ss (aw_ss aw_s0)))
def f_X11_stands (F : Nat) (t : Nat) (a0 : Int32) (μ : aw_M) : Option (aw_M) :=
  aw_loop (fun k s => f_X11_stands_2 F t k s.1 s.2.1 s.2.2) F (a0, 0, μ)
theorem m_X11_stands (l : Launch) (F : Nat) (t : Nat) (ht : (aw_sh t).1 = 16) (a0 : Int32) (μ : aw_M) : AM l yX11_stands cX11_stands 3 none 7 263 aw_gv [.ref t, .int a0] μ (f_X11_stands F t a0 μ) := by
  refine aw_met [some (.ref t), some (.int a0), none] (by decide) (fun _ => rfl) (fun _ => Nat.le_of_ble_eq_true rfl) ?_
  show AW l k_X11_stands aw_gv 0 [some (.ref t), some (.int a0), none] [] μ _
  unfold f_X11_stands
  refine aw_iconst (n := 1) 0 dX11_stands_0 rfl (by decide) ?_
  refine aw_istore_n (n := 2) [some (.ref t), some (.int a0), some (.int 0)] dX11_stands_1 rfl rfl (Nat.le_of_ble_eq_true rfl) (Nat.le_of_ble_eq_true rfl) rfl ?_
  exact aw_weak (c_X11_stands_2 l F t ht F (a0, 0, μ)) (aw_ss (aw_ss (aw_ss aw_s0)))
abbrev k_X11_spotters : aw_K := (RX11, cX11_spotters, 3, (some .int), 1, 120)
def f_X11_spotters_34 (F : Nat) (t : Nat) (k4 : Int32 × Int32 × aw_M → Option (Int32 × aw_M)) (x2 : Int32) (z0 : Int32) (z1 : Int32) (μ : aw_M) : Option (Int32 × aw_M) :=
  aw_let ((z1 ||| z0)) fun v3 =>
  k4 (v3, (x2 + 1), μ)
theorem c_X11_spotters_34 (l : Launch) (F : Nat) (t : Nat) (ht : (aw_sh t).1 = 16) (k4 : Int32 × Int32 × aw_M → Option (Int32 × aw_M)) (hk4 : ∀ s : Int32 × Int32 × aw_M, AW l k_X11_spotters aw_gi 4 [some (.ref t), some (.int s.1), some (.int s.2.1)] [] s.2.2 (k4 s)) (x2 : Int32) (z0 : Int32) (z1 : Int32) (μ : aw_M) : AW l k_X11_spotters aw_gi 34 [some (.ref t), none, some (.int x2)] [.int z0, .int z1] μ (f_X11_spotters_34 F t k4 x2 z0 z1 μ) := by
  unfold f_X11_spotters_34
  refine aw_ior (n := 35) dX11_spotters_34 rfl ?_
  refine aw_nmI (fun v3 => ?_)
  refine aw_istore_n (n := 36) [some (.ref t), some (.int v3), some (.int x2)] dX11_spotters_35 rfl rfl (Nat.le_of_ble_eq_true rfl) (Nat.le_of_ble_eq_true rfl) rfl ?_
  refine aw_iinc (n := 39) (x2 + 1) [some (.ref t), some (.int v3), some (.int (x2 + 1))] dX11_spotters_36 rfl rfl (by rfl) rfl (Nat.le_of_ble_eq_true rfl) rfl ?_
  refine aw_goto 4 dX11_spotters_39 (by decide) ?_
  exact aw_weak (hk4 (v3, (x2 + 1), μ)) (aw_ss (aw_ss (aw_ss aw_s0)))
def f_X11_spotters_4 (F : Nat) (t : Nat) (k4 : Int32 × Int32 × aw_M → Option (Int32 × aw_M)) (x1 : Int32) (x2 : Int32) (μ : aw_M) : Option (Int32 × aw_M) :=
  aw_g (aw_in 2 1155) ((if (μ.1 (aw_rf t 6) (2 : Int32).toNatClampNeg) ≤ x2 then
  some (x1, μ)
  else
  aw_g (aw_in (38 + x2) 1155) ((if (μ.1 (aw_rf t 6) (38 + x2).toNatClampNeg) ≤ 0 then
  f_X11_spotters_34 F t k4 x2 0 x1 μ
  else
  f_X11_spotters_34 F t k4 x2 (1 <<< (x2 &&& 31)) x1 μ))))
theorem c_X11_spotters_4 (l : Launch) (F : Nat) (t : Nat) (ht : (aw_sh t).1 = 16) : ∀ (N : Nat) (s : Int32 × Int32 × aw_M), AW l k_X11_spotters aw_gi 4 [some (.ref t), some (.int s.1), some (.int s.2.1)] [] s.2.2 (aw_loop (fun k s => f_X11_spotters_4 F t k s.1 s.2.1 s.2.2) N s) := by
  refine aw_loop_ok (f := fun k s => f_X11_spotters_4 F t k s.1 s.2.1 s.2.2) (Ls := fun s => [some (.ref t), some (.int s.1), some (.int s.2.1)]) (ms := fun s => s.2.2) ?_
  intro k4 hk4 s
  obtain ⟨x1, x2, μ⟩ := s
  show AW l k_X11_spotters aw_gi 4 [some (.ref t), some (.int x1), some (.int x2)] [] μ (f_X11_spotters_4 F t k4 x1 x2 μ)
  unfold f_X11_spotters_4
  refine aw_iload_n (n := 5) dX11_spotters_4 rfl rfl ?_
  refine aw_aload_n (n := 6) dX11_spotters_5 rfl rfl ?_
  refine aw_getR (n := 9) (RX11, TX11, 52) 11 6 dX11_spotters_6 rfl ht (by decide) fd_RX11_33 ?_
  refine aw_iconst (n := 10) 2 dX11_spotters_9 rfl (by decide) ?_
  refine aw_iaload (n := 11) 1155 dX11_spotters_10 rfl (sf_11_6 ht) ?_
  refine aw_icmp_ge (n := 14) 42 dX11_spotters_11 (by decide) rfl ?_ ?_
  · refine aw_iload_n (n := 43) dX11_spotters_42 rfl rfl ?_
    exact aw_ireturn dX11_spotters_43 rfl rfl
  · refine aw_iload_n (n := 15) dX11_spotters_14 rfl rfl ?_
    refine aw_aload_n (n := 16) dX11_spotters_15 rfl rfl ?_
    refine aw_getR (n := 19) (RX11, TX11, 52) 11 6 dX11_spotters_16 rfl ht (by decide) fd_RX11_33 ?_
    refine aw_bipush (n := 21) 38 dX11_spotters_19 rfl (by decide) ?_
    refine aw_iload_n (n := 22) dX11_spotters_21 rfl rfl ?_
    refine aw_iadd (n := 23) dX11_spotters_22 rfl ?_
    refine aw_iaload (n := 24) 1155 dX11_spotters_23 rfl (sf_11_6 ht) ?_
    refine aw_if_le (n := 27) 33 dX11_spotters_24 (by decide) rfl ?_ ?_
    · refine aw_iconst (n := 34) 0 dX11_spotters_33 rfl (by decide) ?_
      exact aw_weak (c_X11_spotters_34 l F t ht k4 hk4 x2 0 x1 μ) (aw_ss (aw_sn (aw_ss aw_s0)))
    · refine aw_iconst (n := 28) 1 dX11_spotters_27 rfl (by decide) ?_
      refine aw_iload_n (n := 29) dX11_spotters_28 rfl rfl ?_
      refine aw_ishl (n := 30) dX11_spotters_29 rfl ?_
      refine aw_goto 34 dX11_spotters_30 (by decide) ?_
      exact aw_weak (c_X11_spotters_34 l F t ht k4 hk4 x2 (1 <<< (x2 &&& 31)) x1 μ) (aw_ss (aw_sn (aw_ss aw_s0)))
def f_X11_spotters (F : Nat) (t : Nat) (μ : aw_M) : Option (Int32 × aw_M) :=
  aw_loop (fun k s => f_X11_spotters_4 F t k s.1 s.2.1 s.2.2) F (0, 0, μ)
theorem m_X11_spotters (l : Launch) (F : Nat) (t : Nat) (ht : (aw_sh t).1 = 16) (μ : aw_M) : AM l yX11_spotters cX11_spotters 3 (some .int) 1 120 aw_gi [.ref t] μ (f_X11_spotters F t μ) := by
  refine aw_met [some (.ref t), none, none] (by decide) (fun _ => rfl) (fun _ => Nat.le_of_ble_eq_true rfl) ?_
  show AW l k_X11_spotters aw_gi 0 [some (.ref t), none, none] [] μ _
  unfold f_X11_spotters
  refine aw_iconst (n := 1) 0 dX11_spotters_0 rfl (by decide) ?_
  refine aw_istore_n (n := 2) [some (.ref t), some (.int 0), none] dX11_spotters_1 rfl rfl (Nat.le_of_ble_eq_true rfl) (Nat.le_of_ble_eq_true rfl) rfl ?_
  refine aw_iconst (n := 3) 0 dX11_spotters_2 rfl (by decide) ?_
  refine aw_istore_n (n := 4) [some (.ref t), some (.int 0), some (.int 0)] dX11_spotters_3 rfl rfl (Nat.le_of_ble_eq_true rfl) (Nat.le_of_ble_eq_true rfl) rfl ?_
  exact aw_weak (c_X11_spotters_4 l F t ht F (0, 0, μ)) (aw_ss (aw_ss (aw_ss aw_s0)))
abbrev k_X11_stand : aw_K := (RX11, cX11_stand, 3, (some .int), 8, 285)
def f_X11_stand (F : Nat) (t : Nat) (a0 : Int32) (a1 : Int32) (μ : aw_M) : Option (Int32 × aw_M) :=
  aw_let (aw_wI μ t 0 0) fun μ1 =>
  (f_X11_isQuarter F t a0 μ1).bind fun r2 =>
  (if r2.1 = true then
  (if a1 < 0 then
  some ((-10001), r2.2)
  else
  (f_X11_spotters F t r2.2).bind fun r3 =>
  (if (a1 &&& (r3.1 ^^^ (-1))) = 0 then
  (f_X11_stands F t a1 r3.2).bind fun r4 =>
  aw_g (aw_in a0 9) (some ((r4.1 (aw_rf t 23) a0.toNatClampNeg), r4))
  else
  some ((-10001), r3.2)))
  else
  some ((-10001), r2.2))
theorem m_X11_stand (l : Launch) (F : Nat) (t : Nat) (ht : (aw_sh t).1 = 16) (a0 : Int32) (a1 : Int32) (μ : aw_M) : AM l yX11_stand cX11_stand 3 (some .int) 8 285 aw_gi [.ref t, .int a0, .int a1] μ (f_X11_stand F t a0 a1 μ) := by
  refine aw_met [some (.ref t), some (.int a0), some (.int a1)] (by decide) (fun _ => rfl) (fun _ => Nat.le_of_ble_eq_true rfl) ?_
  show AW l k_X11_stand aw_gi 0 [some (.ref t), some (.int a0), some (.int a1)] [] μ _
  unfold f_X11_stand
  refine aw_aload_n (n := 1) dX11_stand_0 rfl rfl ?_
  refine aw_iconst (n := 2) 0 dX11_stand_1 rfl (by decide) ?_
  refine aw_putI (n := 5) (RX11, TX11, 52) 11 0 dX11_stand_2 rfl ht (by decide) fp_RX11_1 (fun μ1 => ?_)
  refine aw_aload_n (n := 6) dX11_stand_5 rfl rfl ?_
  refine aw_iload_n (n := 7) dX11_stand_6 rfl rfl ?_
  refine aw_callVz (n := 10) (as := [.int a0]) (st := []) (RX11, TX11, 52) 11 dX11_stand_7 rfl rfl (m_X11_isQuarter l F t ht a0 μ1) ht (by decide) rfl rfl cw_RX11_258 ⟨Nat.le_of_ble_eq_true rfl, Nat.le_of_ble_eq_true rfl⟩ (fun _ => Nat.le_of_ble_eq_true rfl) (fun r2 => ?_)
  refine aw_ifb_eq (n := 13) 28 dX11_stand_10 (by decide) rfl ?_ ?_
  · refine aw_sipush (n := 31) (-10001) dX11_stand_28 rfl (by decide) ?_
    exact aw_ireturn dX11_stand_31 rfl rfl
  · refine aw_iload_n (n := 14) dX11_stand_13 rfl rfl ?_
    refine aw_if_lt (n := 17) 28 dX11_stand_14 (by decide) rfl ?_ ?_
    · refine aw_sipush (n := 31) (-10001) dX11_stand_28 rfl (by decide) ?_
      exact aw_ireturn dX11_stand_31 rfl rfl
    · refine aw_iload_n (n := 18) dX11_stand_17 rfl rfl ?_
      refine aw_aload_n (n := 19) dX11_stand_18 rfl rfl ?_
      refine aw_callVi (n := 22) (as := []) (st := [.int a1]) (RX11, TX11, 52) 11 dX11_stand_19 rfl rfl (m_X11_spotters l F t ht r2.2) ht (by decide) rfl rfl cw_RX11_339 ⟨Nat.le_of_ble_eq_true rfl, Nat.le_of_ble_eq_true rfl⟩ (fun _ => Nat.le_of_ble_eq_true rfl) (fun r3 => ?_)
      refine aw_iconst (n := 23) (-1) dX11_stand_22 rfl (by decide) ?_
      refine aw_ixor (n := 24) dX11_stand_23 rfl ?_
      refine aw_iand (n := 25) dX11_stand_24 rfl ?_
      refine aw_if_eq (n := 28) 32 dX11_stand_25 (by decide) rfl ?_ ?_
      · refine aw_aload_n (n := 33) dX11_stand_32 rfl rfl ?_
        refine aw_iload_n (n := 34) dX11_stand_33 rfl rfl ?_
        refine aw_callVv (n := 37) (as := [.int a1]) (st := []) (RX11, TX11, 52) 11 dX11_stand_34 rfl rfl (m_X11_stands l F t ht a1 r3.2) ht (by decide) rfl rfl cw_RX11_342 ⟨Nat.le_of_ble_eq_true rfl, Nat.le_of_ble_eq_true rfl⟩ (fun _ => Nat.le_of_ble_eq_true rfl) (fun r4 => ?_)
        refine aw_aload_n (n := 38) dX11_stand_37 rfl rfl ?_
        refine aw_getR (n := 41) (RX11, TX11, 52) 11 23 dX11_stand_38 rfl ht (by decide) fd_RX11_53 ?_
        refine aw_iload_n (n := 42) dX11_stand_41 rfl rfl ?_
        refine aw_iaload (n := 43) 9 dX11_stand_42 rfl (sf_11_23 ht) ?_
        exact aw_ireturn dX11_stand_43 rfl rfl
      · refine aw_sipush (n := 31) (-10001) dX11_stand_28 rfl (by decide) ?_
        exact aw_ireturn dX11_stand_31 rfl rfl
abbrev k_X11_rests : aw_K := (RX11, cX11_rests, 10, (some .int), 8, 285)
def f_X11_rests_282 (F : Nat) (t : Nat) (x1 : Int32) (x4 : Int32) (μ : aw_M) : Option (Int32 × aw_M) :=
  (if x1 = (-1) then
  some (x4, μ)
  else
  some ((-1), μ))
theorem c_X11_rests_282 (l : Launch) (F : Nat) (t : Nat) (ht : (aw_sh t).1 = 16) (x1 : Int32) (x4 : Int32) (μ : aw_M) : AW l k_X11_rests aw_gi 282 [none, some (.int x1), none, none, some (.int x4), none, none, none, none, none] [] μ (f_X11_rests_282 F t x1 x4 μ) := by
  unfold f_X11_rests_282
  refine aw_iload_n (n := 283) dX11_rests_282 rfl rfl ?_
  refine aw_iconst (n := 284) (-1) dX11_rests_283 rfl (by decide) ?_
  refine aw_icmp_ne (n := 287) 292 dX11_rests_284 (by decide) rfl ?_ ?_
  · refine aw_iconst (n := 293) (-1) dX11_rests_292 rfl (by decide) ?_
    exact aw_ireturn dX11_rests_293 rfl rfl
  · refine aw_iload (n := 289) dX11_rests_287 rfl rfl ?_
    refine aw_goto 293 dX11_rests_289 (by decide) ?_
    exact aw_ireturn dX11_rests_293 rfl rfl
def f_X11_rests_276 (F : Nat) (t : Nat) (k133 : Int32 × Int32 × Int32 × Int32 × aw_M → Option (Int32 × aw_M)) (x1 : Int32) (x3 : Int32) (x4 : Int32) (x5 : Int32) (μ : aw_M) : Option (Int32 × aw_M) :=
  k133 (x1, x3, x4, (x5 + 1), μ)
theorem c_X11_rests_276 (l : Launch) (F : Nat) (t : Nat) (ht : (aw_sh t).1 = 16) (k133 : Int32 × Int32 × Int32 × Int32 × aw_M → Option (Int32 × aw_M)) (hk133 : ∀ s : Int32 × Int32 × Int32 × Int32 × aw_M, AW l k_X11_rests aw_gi 133 [some (.ref t), some (.int s.1), none, some (.int s.2.1), some (.int s.2.2.1), some (.int s.2.2.2.1), none, none, none, none] [] s.2.2.2.2 (k133 s)) (x1 : Int32) (x3 : Int32) (x4 : Int32) (x5 : Int32) (μ : aw_M) : AW l k_X11_rests aw_gi 276 [some (.ref t), some (.int x1), none, some (.int x3), some (.int x4), some (.int x5), none, none, none, none] [] μ (f_X11_rests_276 F t k133 x1 x3 x4 x5 μ) := by
  unfold f_X11_rests_276
  refine aw_iinc (n := 279) (x5 + 1) [some (.ref t), some (.int x1), none, some (.int x3), some (.int x4), some (.int (x5 + 1)), none, none, none, none] dX11_rests_276 rfl rfl (by rfl) rfl (Nat.le_of_ble_eq_true rfl) rfl ?_
  refine aw_goto 133 dX11_rests_279 (by decide) ?_
  exact aw_weak (hk133 (x1, x3, x4, (x5 + 1), μ)) (aw_ss (aw_ss (aw_sn (aw_ss (aw_ss (aw_ss (aw_sn (aw_sn (aw_sn (aw_sn aw_s0))))))))))
def f_X11_rests_251 (F : Nat) (t : Nat) (k133 : Int32 × Int32 × Int32 × Int32 × aw_M → Option (Int32 × aw_M)) (x1 : Int32) (x3 : Int32) (x4 : Int32) (x5 : Int32) (x6 : Bool) (μ : aw_M) : Option (Int32 × aw_M) :=
  (if x6 = true then
  (if x4 = x1 then
  aw_g (aw_in x5 64) (some ((μ.1 (aw_rf t 29) x5.toNatClampNeg), μ))
  else
  f_X11_rests_276 F t k133 x1 x3 (x4 + 1) x5 μ)
  else
  f_X11_rests_276 F t k133 x1 x3 x4 x5 μ)
theorem c_X11_rests_251 (l : Launch) (F : Nat) (t : Nat) (ht : (aw_sh t).1 = 16) (k133 : Int32 × Int32 × Int32 × Int32 × aw_M → Option (Int32 × aw_M)) (hk133 : ∀ s : Int32 × Int32 × Int32 × Int32 × aw_M, AW l k_X11_rests aw_gi 133 [some (.ref t), some (.int s.1), none, some (.int s.2.1), some (.int s.2.2.1), some (.int s.2.2.2.1), none, none, none, none] [] s.2.2.2.2 (k133 s)) (x1 : Int32) (x3 : Int32) (x4 : Int32) (x5 : Int32) (x6 : Bool) (μ : aw_M) : AW l k_X11_rests aw_gi 251 [some (.ref t), some (.int x1), none, some (.int x3), some (.int x4), some (.int x5), some (.int (aw_b x6)), none, none, none] [] μ (f_X11_rests_251 F t k133 x1 x3 x4 x5 x6 μ) := by
  unfold f_X11_rests_251
  refine aw_iload (n := 253) dX11_rests_251 rfl rfl ?_
  refine aw_ifb_ne (n := 256) 259 dX11_rests_253 (by decide) rfl ?_ ?_
  · refine aw_iload (n := 261) dX11_rests_259 rfl rfl ?_
    refine aw_iload_n (n := 262) dX11_rests_261 rfl rfl ?_
    refine aw_icmp_ne (n := 265) 273 dX11_rests_262 (by decide) rfl ?_ ?_
    · refine aw_iinc (n := 276) (x4 + 1) [some (.ref t), some (.int x1), none, some (.int x3), some (.int (x4 + 1)), some (.int x5), some (.int (aw_b x6)), none, none, none] dX11_rests_273 rfl rfl (by rfl) rfl (Nat.le_of_ble_eq_true rfl) rfl ?_
      exact aw_weak (c_X11_rests_276 l F t ht k133 hk133 x1 x3 (x4 + 1) x5 μ) (aw_ss (aw_ss (aw_sn (aw_ss (aw_ss (aw_ss (aw_sn (aw_sn (aw_sn (aw_sn aw_s0))))))))))
    · refine aw_aload_n (n := 266) dX11_rests_265 rfl rfl ?_
      refine aw_getR (n := 269) (RX11, TX11, 52) 11 29 dX11_rests_266 rfl ht (by decide) fd_RX11_68 ?_
      refine aw_iload (n := 271) dX11_rests_269 rfl rfl ?_
      refine aw_iaload (n := 272) 64 dX11_rests_271 rfl (sf_11_29 ht) ?_
      exact aw_ireturn dX11_rests_272 rfl rfl
  · refine aw_goto 276 dX11_rests_256 (by decide) ?_
    exact aw_weak (c_X11_rests_276 l F t ht k133 hk133 x1 x3 x4 x5 μ) (aw_ss (aw_ss (aw_sn (aw_ss (aw_ss (aw_ss (aw_sn (aw_sn (aw_sn (aw_sn aw_s0))))))))))
def f_X11_rests_245 (F : Nat) (t : Nat) (k133 : Int32 × Int32 × Int32 × Int32 × aw_M → Option (Int32 × aw_M)) (k145 : Int32 × Int32 × Int32 × Int32 × Bool × Int32 × aw_M → Option (Int32 × aw_M)) (x1 : Int32) (x3 : Int32) (x4 : Int32) (x5 : Int32) (x6 : Bool) (x7 : Int32) (μ : aw_M) : Option (Int32 × aw_M) :=
  k145 (x1, x3, x4, x5, x6, (x7 + 1), μ)
theorem c_X11_rests_245 (l : Launch) (F : Nat) (t : Nat) (ht : (aw_sh t).1 = 16) (k133 : Int32 × Int32 × Int32 × Int32 × aw_M → Option (Int32 × aw_M)) (hk133 : ∀ s : Int32 × Int32 × Int32 × Int32 × aw_M, AW l k_X11_rests aw_gi 133 [some (.ref t), some (.int s.1), none, some (.int s.2.1), some (.int s.2.2.1), some (.int s.2.2.2.1), none, none, none, none] [] s.2.2.2.2 (k133 s)) (k145 : Int32 × Int32 × Int32 × Int32 × Bool × Int32 × aw_M → Option (Int32 × aw_M)) (hk145 : ∀ s : Int32 × Int32 × Int32 × Int32 × Bool × Int32 × aw_M, AW l k_X11_rests aw_gi 145 [some (.ref t), some (.int s.1), none, some (.int s.2.1), some (.int s.2.2.1), some (.int s.2.2.2.1), some (.int (aw_b s.2.2.2.2.1)), some (.int s.2.2.2.2.2.1), none, none] [] s.2.2.2.2.2.2 (k145 s)) (x1 : Int32) (x3 : Int32) (x4 : Int32) (x5 : Int32) (x6 : Bool) (x7 : Int32) (μ : aw_M) : AW l k_X11_rests aw_gi 245 [some (.ref t), some (.int x1), none, some (.int x3), some (.int x4), some (.int x5), some (.int (aw_b x6)), some (.int x7), none, none] [] μ (f_X11_rests_245 F t k133 k145 x1 x3 x4 x5 x6 x7 μ) := by
  unfold f_X11_rests_245
  refine aw_iinc (n := 248) (x7 + 1) [some (.ref t), some (.int x1), none, some (.int x3), some (.int x4), some (.int x5), some (.int (aw_b x6)), some (.int (x7 + 1)), none, none] dX11_rests_245 rfl rfl (by rfl) rfl (Nat.le_of_ble_eq_true rfl) rfl ?_
  refine aw_goto 145 dX11_rests_248 (by decide) ?_
  exact aw_weak (hk145 (x1, x3, x4, x5, x6, (x7 + 1), μ)) (aw_ss (aw_ss (aw_sn (aw_ss (aw_ss (aw_ss (aw_ss (aw_ss (aw_sn (aw_sn aw_s0))))))))))
def f_X11_rests_243 (F : Nat) (t : Nat) (k133 : Int32 × Int32 × Int32 × Int32 × aw_M → Option (Int32 × aw_M)) (k145 : Int32 × Int32 × Int32 × Int32 × Bool × Int32 × aw_M → Option (Int32 × aw_M)) (x1 : Int32) (x3 : Int32) (x4 : Int32) (x5 : Int32) (x7 : Int32) (z0 : Bool) (μ : aw_M) : Option (Int32 × aw_M) :=
  f_X11_rests_245 F t k133 k145 x1 x3 x4 x5 z0 x7 μ
theorem c_X11_rests_243 (l : Launch) (F : Nat) (t : Nat) (ht : (aw_sh t).1 = 16) (k133 : Int32 × Int32 × Int32 × Int32 × aw_M → Option (Int32 × aw_M)) (hk133 : ∀ s : Int32 × Int32 × Int32 × Int32 × aw_M, AW l k_X11_rests aw_gi 133 [some (.ref t), some (.int s.1), none, some (.int s.2.1), some (.int s.2.2.1), some (.int s.2.2.2.1), none, none, none, none] [] s.2.2.2.2 (k133 s)) (k145 : Int32 × Int32 × Int32 × Int32 × Bool × Int32 × aw_M → Option (Int32 × aw_M)) (hk145 : ∀ s : Int32 × Int32 × Int32 × Int32 × Bool × Int32 × aw_M, AW l k_X11_rests aw_gi 145 [some (.ref t), some (.int s.1), none, some (.int s.2.1), some (.int s.2.2.1), some (.int s.2.2.2.1), some (.int (aw_b s.2.2.2.2.1)), some (.int s.2.2.2.2.2.1), none, none] [] s.2.2.2.2.2.2 (k145 s)) (x1 : Int32) (x3 : Int32) (x4 : Int32) (x5 : Int32) (x7 : Int32) (z0 : Bool) (μ : aw_M) : AW l k_X11_rests aw_gi 243 [some (.ref t), some (.int x1), none, some (.int x3), some (.int x4), some (.int x5), none, some (.int x7), none, none] [.int (aw_b z0)] μ (f_X11_rests_243 F t k133 k145 x1 x3 x4 x5 x7 z0 μ) := by
  unfold f_X11_rests_243
  refine aw_istore (n := 245) [some (.ref t), some (.int x1), none, some (.int x3), some (.int x4), some (.int x5), some (.int (aw_b z0)), some (.int x7), none, none] dX11_rests_243 rfl rfl (Nat.le_of_ble_eq_true rfl) (Nat.le_of_ble_eq_true rfl) rfl ?_
  exact aw_weak (c_X11_rests_245 l F t ht k133 hk133 k145 hk145 x1 x3 x4 x5 z0 x7 μ) (aw_ss (aw_ss (aw_sn (aw_ss (aw_ss (aw_ss (aw_ss (aw_ss (aw_sn (aw_sn aw_s0))))))))))
def f_X11_rests_242 (F : Nat) (t : Nat) (k133 : Int32 × Int32 × Int32 × Int32 × aw_M → Option (Int32 × aw_M)) (k145 : Int32 × Int32 × Int32 × Int32 × Bool × Int32 × aw_M → Option (Int32 × aw_M)) (x1 : Int32) (x3 : Int32) (x4 : Int32) (x5 : Int32) (x7 : Int32) (μ : aw_M) : Option (Int32 × aw_M) :=
  f_X11_rests_243 F t k133 k145 x1 x3 x4 x5 x7 false μ
theorem c_X11_rests_242 (l : Launch) (F : Nat) (t : Nat) (ht : (aw_sh t).1 = 16) (k133 : Int32 × Int32 × Int32 × Int32 × aw_M → Option (Int32 × aw_M)) (hk133 : ∀ s : Int32 × Int32 × Int32 × Int32 × aw_M, AW l k_X11_rests aw_gi 133 [some (.ref t), some (.int s.1), none, some (.int s.2.1), some (.int s.2.2.1), some (.int s.2.2.2.1), none, none, none, none] [] s.2.2.2.2 (k133 s)) (k145 : Int32 × Int32 × Int32 × Int32 × Bool × Int32 × aw_M → Option (Int32 × aw_M)) (hk145 : ∀ s : Int32 × Int32 × Int32 × Int32 × Bool × Int32 × aw_M, AW l k_X11_rests aw_gi 145 [some (.ref t), some (.int s.1), none, some (.int s.2.1), some (.int s.2.2.1), some (.int s.2.2.2.1), some (.int (aw_b s.2.2.2.2.1)), some (.int s.2.2.2.2.2.1), none, none] [] s.2.2.2.2.2.2 (k145 s)) (x1 : Int32) (x3 : Int32) (x4 : Int32) (x5 : Int32) (x7 : Int32) (μ : aw_M) : AW l k_X11_rests aw_gi 242 [some (.ref t), some (.int x1), none, some (.int x3), some (.int x4), some (.int x5), none, some (.int x7), none, none] [] μ (f_X11_rests_242 F t k133 k145 x1 x3 x4 x5 x7 μ) := by
  unfold f_X11_rests_242
  refine aw_iconst (n := 243) 0 dX11_rests_242 rfl (by decide) ?_
  exact aw_weak (c_X11_rests_243 l F t ht k133 hk133 k145 hk145 x1 x3 x4 x5 x7 false μ) (aw_ss (aw_ss (aw_sn (aw_ss (aw_ss (aw_ss (aw_sn (aw_ss (aw_sn (aw_sn aw_s0))))))))))
def f_X11_rests_204 (F : Nat) (t : Nat) (k133 : Int32 × Int32 × Int32 × Int32 × aw_M → Option (Int32 × aw_M)) (k145 : Int32 × Int32 × Int32 × Int32 × Bool × Int32 × aw_M → Option (Int32 × aw_M)) (x1 : Int32) (x3 : Int32) (x4 : Int32) (x5 : Int32) (x6 : Bool) (x7 : Int32) (x9 : Int32) (μ : aw_M) : Option (Int32 × aw_M) :=
  (if x6 = true then
  aw_g (aw_in ((9 * x7) + x9) 576) (aw_g (aw_in ((9 * x5) + x9) 576) ((if (μ.1 (aw_rf t 28) ((9 * x5) + x9).toNatClampNeg) < (μ.1 (aw_rf t 28) ((9 * x7) + x9).toNatClampNeg) then
  f_X11_rests_242 F t k133 k145 x1 x3 x4 x5 x7 μ
  else
  f_X11_rests_243 F t k133 k145 x1 x3 x4 x5 x7 true μ)))
  else
  f_X11_rests_242 F t k133 k145 x1 x3 x4 x5 x7 μ)
theorem c_X11_rests_204 (l : Launch) (F : Nat) (t : Nat) (ht : (aw_sh t).1 = 16) (k133 : Int32 × Int32 × Int32 × Int32 × aw_M → Option (Int32 × aw_M)) (hk133 : ∀ s : Int32 × Int32 × Int32 × Int32 × aw_M, AW l k_X11_rests aw_gi 133 [some (.ref t), some (.int s.1), none, some (.int s.2.1), some (.int s.2.2.1), some (.int s.2.2.2.1), none, none, none, none] [] s.2.2.2.2 (k133 s)) (k145 : Int32 × Int32 × Int32 × Int32 × Bool × Int32 × aw_M → Option (Int32 × aw_M)) (hk145 : ∀ s : Int32 × Int32 × Int32 × Int32 × Bool × Int32 × aw_M, AW l k_X11_rests aw_gi 145 [some (.ref t), some (.int s.1), none, some (.int s.2.1), some (.int s.2.2.1), some (.int s.2.2.2.1), some (.int (aw_b s.2.2.2.2.1)), some (.int s.2.2.2.2.2.1), none, none] [] s.2.2.2.2.2.2 (k145 s)) (x1 : Int32) (x3 : Int32) (x4 : Int32) (x5 : Int32) (x6 : Bool) (x7 : Int32) (x9 : Int32) (μ : aw_M) : AW l k_X11_rests aw_gi 204 [some (.ref t), some (.int x1), none, some (.int x3), some (.int x4), some (.int x5), some (.int (aw_b x6)), some (.int x7), none, some (.int x9)] [] μ (f_X11_rests_204 F t k133 k145 x1 x3 x4 x5 x6 x7 x9 μ) := by
  unfold f_X11_rests_204
  refine aw_iload (n := 206) dX11_rests_204 rfl rfl ?_
  refine aw_ifb_eq (n := 209) 242 dX11_rests_206 (by decide) rfl ?_ ?_
  · exact aw_weak (c_X11_rests_242 l F t ht k133 hk133 k145 hk145 x1 x3 x4 x5 x7 μ) (aw_ss (aw_ss (aw_sn (aw_ss (aw_ss (aw_ss (aw_sn (aw_ss (aw_sn (aw_sn aw_s0))))))))))
  · refine aw_aload_n (n := 210) dX11_rests_209 rfl rfl ?_
    refine aw_getR (n := 213) (RX11, TX11, 52) 11 28 dX11_rests_210 rfl ht (by decide) fd_RX11_65 ?_
    refine aw_bipush (n := 215) 9 dX11_rests_213 rfl (by decide) ?_
    refine aw_iload (n := 217) dX11_rests_215 rfl rfl ?_
    refine aw_imul (n := 218) dX11_rests_217 rfl ?_
    refine aw_iload (n := 220) dX11_rests_218 rfl rfl ?_
    refine aw_iadd (n := 221) dX11_rests_220 rfl ?_
    refine aw_iaload (n := 222) 576 dX11_rests_221 rfl (sf_11_28 ht) ?_
    refine aw_aload_n (n := 223) dX11_rests_222 rfl rfl ?_
    refine aw_getR (n := 226) (RX11, TX11, 52) 11 28 dX11_rests_223 rfl ht (by decide) fd_RX11_65 ?_
    refine aw_bipush (n := 228) 9 dX11_rests_226 rfl (by decide) ?_
    refine aw_iload (n := 230) dX11_rests_228 rfl rfl ?_
    refine aw_imul (n := 231) dX11_rests_230 rfl ?_
    refine aw_iload (n := 233) dX11_rests_231 rfl rfl ?_
    refine aw_iadd (n := 234) dX11_rests_233 rfl ?_
    refine aw_iaload (n := 235) 576 dX11_rests_234 rfl (sf_11_28 ht) ?_
    refine aw_icmp_gt (n := 238) 242 dX11_rests_235 (by decide) rfl ?_ ?_
    · exact aw_weak (c_X11_rests_242 l F t ht k133 hk133 k145 hk145 x1 x3 x4 x5 x7 μ) (aw_ss (aw_ss (aw_sn (aw_ss (aw_ss (aw_ss (aw_sn (aw_ss (aw_sn (aw_sn aw_s0))))))))))
    · refine aw_iconst (n := 239) 1 dX11_rests_238 rfl (by decide) ?_
      refine aw_goto 243 dX11_rests_239 (by decide) ?_
      exact aw_weak (c_X11_rests_243 l F t ht k133 hk133 k145 hk145 x1 x3 x4 x5 x7 true μ) (aw_ss (aw_ss (aw_sn (aw_ss (aw_ss (aw_ss (aw_sn (aw_ss (aw_sn (aw_sn aw_s0))))))))))
def f_X11_rests_189 (F : Nat) (t : Nat) (k189 : Int32 × Int32 × Int32 × Int32 × Bool × Int32 × Int32 × Int32 × aw_M → Option (Int32 × aw_M)) (k133 : Int32 × Int32 × Int32 × Int32 × aw_M → Option (Int32 × aw_M)) (k145 : Int32 × Int32 × Int32 × Int32 × Bool × Int32 × aw_M → Option (Int32 × aw_M)) (x1 : Int32) (x3 : Int32) (x4 : Int32) (x5 : Int32) (x6 : Bool) (x7 : Int32) (x8 : Int32) (x9 : Int32) (μ : aw_M) : Option (Int32 × aw_M) :=
  (if (x8 >>> (x9 &&& 31)) = 1 then
  f_X11_rests_204 F t k133 k145 x1 x3 x4 x5 x6 x7 x9 μ
  else
  k189 (x1, x3, x4, x5, x6, x7, x8, (x9 + 1), μ))
theorem c_X11_rests_189 (l : Launch) (F : Nat) (t : Nat) (ht : (aw_sh t).1 = 16) (k133 : Int32 × Int32 × Int32 × Int32 × aw_M → Option (Int32 × aw_M)) (hk133 : ∀ s : Int32 × Int32 × Int32 × Int32 × aw_M, AW l k_X11_rests aw_gi 133 [some (.ref t), some (.int s.1), none, some (.int s.2.1), some (.int s.2.2.1), some (.int s.2.2.2.1), none, none, none, none] [] s.2.2.2.2 (k133 s)) (k145 : Int32 × Int32 × Int32 × Int32 × Bool × Int32 × aw_M → Option (Int32 × aw_M)) (hk145 : ∀ s : Int32 × Int32 × Int32 × Int32 × Bool × Int32 × aw_M, AW l k_X11_rests aw_gi 145 [some (.ref t), some (.int s.1), none, some (.int s.2.1), some (.int s.2.2.1), some (.int s.2.2.2.1), some (.int (aw_b s.2.2.2.2.1)), some (.int s.2.2.2.2.2.1), none, none] [] s.2.2.2.2.2.2 (k145 s)) : ∀ (N : Nat) (s : Int32 × Int32 × Int32 × Int32 × Bool × Int32 × Int32 × Int32 × aw_M), AW l k_X11_rests aw_gi 189 [some (.ref t), some (.int s.1), none, some (.int s.2.1), some (.int s.2.2.1), some (.int s.2.2.2.1), some (.int (aw_b s.2.2.2.2.1)), some (.int s.2.2.2.2.2.1), some (.int s.2.2.2.2.2.2.1), some (.int s.2.2.2.2.2.2.2.1)] [] s.2.2.2.2.2.2.2.2 (aw_loop (fun k s => f_X11_rests_189 F t k k133 k145 s.1 s.2.1 s.2.2.1 s.2.2.2.1 s.2.2.2.2.1 s.2.2.2.2.2.1 s.2.2.2.2.2.2.1 s.2.2.2.2.2.2.2.1 s.2.2.2.2.2.2.2.2) N s) := by
  refine aw_loop_ok (f := fun k s => f_X11_rests_189 F t k k133 k145 s.1 s.2.1 s.2.2.1 s.2.2.2.1 s.2.2.2.2.1 s.2.2.2.2.2.1 s.2.2.2.2.2.2.1 s.2.2.2.2.2.2.2.1 s.2.2.2.2.2.2.2.2) (Ls := fun s => [some (.ref t), some (.int s.1), none, some (.int s.2.1), some (.int s.2.2.1), some (.int s.2.2.2.1), some (.int (aw_b s.2.2.2.2.1)), some (.int s.2.2.2.2.2.1), some (.int s.2.2.2.2.2.2.1), some (.int s.2.2.2.2.2.2.2.1)]) (ms := fun s => s.2.2.2.2.2.2.2.2) ?_
  intro k189 hk189 s
  obtain ⟨x1, x3, x4, x5, x6, x7, x8, x9, μ⟩ := s
  show AW l k_X11_rests aw_gi 189 [some (.ref t), some (.int x1), none, some (.int x3), some (.int x4), some (.int x5), some (.int (aw_b x6)), some (.int x7), some (.int x8), some (.int x9)] [] μ (f_X11_rests_189 F t k189 k133 k145 x1 x3 x4 x5 x6 x7 x8 x9 μ)
  unfold f_X11_rests_189
  refine aw_iload (n := 191) dX11_rests_189 rfl rfl ?_
  refine aw_iload (n := 193) dX11_rests_191 rfl rfl ?_
  refine aw_ishr (n := 194) dX11_rests_193 rfl ?_
  refine aw_iconst (n := 195) 1 dX11_rests_194 rfl (by decide) ?_
  refine aw_icmp_eq (n := 198) 204 dX11_rests_195 (by decide) rfl ?_ ?_
  · exact aw_weak (c_X11_rests_204 l F t ht k133 hk133 k145 hk145 x1 x3 x4 x5 x6 x7 x9 μ) (aw_ss (aw_ss (aw_sn (aw_ss (aw_ss (aw_ss (aw_ss (aw_ss (aw_sn (aw_ss aw_s0))))))))))
  · refine aw_iinc (n := 201) (x9 + 1) [some (.ref t), some (.int x1), none, some (.int x3), some (.int x4), some (.int x5), some (.int (aw_b x6)), some (.int x7), some (.int x8), some (.int (x9 + 1))] dX11_rests_198 rfl rfl (by rfl) rfl (Nat.le_of_ble_eq_true rfl) rfl ?_
    refine aw_goto 189 dX11_rests_201 (by decide) ?_
    exact aw_weak (hk189 (x1, x3, x4, x5, x6, x7, x8, (x9 + 1), μ)) (aw_ss (aw_ss (aw_sn (aw_ss (aw_ss (aw_ss (aw_ss (aw_ss (aw_ss (aw_ss aw_s0))))))))))
def f_X11_rests_145 (F : Nat) (t : Nat) (k145 : Int32 × Int32 × Int32 × Int32 × Bool × Int32 × aw_M → Option (Int32 × aw_M)) (k133 : Int32 × Int32 × Int32 × Int32 × aw_M → Option (Int32 × aw_M)) (x1 : Int32) (x3 : Int32) (x4 : Int32) (x5 : Int32) (x6 : Bool) (x7 : Int32) (μ : aw_M) : Option (Int32 × aw_M) :=
  (if x3 ≤ x7 then
  f_X11_rests_251 F t k133 x1 x3 x4 x5 x6 μ
  else
  aw_g (aw_in x5 64) (aw_g (aw_in x7 64) (aw_let (((μ.1 (aw_rf t 29) x5.toNatClampNeg) ^^^ (μ.1 (aw_rf t 29) x7.toNatClampNeg))) fun v15 =>
  (if v15 = 0 then
  f_X11_rests_245 F t k133 k145 x1 x3 x4 x5 x6 x7 μ
  else
  (if (v15 &&& (v15 - 1)) = 0 then
  aw_loop (fun k s => f_X11_rests_189 F t k k133 k145 s.1 s.2.1 s.2.2.1 s.2.2.2.1 s.2.2.2.2.1 s.2.2.2.2.2.1 s.2.2.2.2.2.2.1 s.2.2.2.2.2.2.2.1 s.2.2.2.2.2.2.2.2) F (x1, x3, x4, x5, x6, x7, v15, 0, μ)
  else
  f_X11_rests_245 F t k133 k145 x1 x3 x4 x5 x6 x7 μ)))))
theorem c_X11_rests_145 (l : Launch) (F : Nat) (t : Nat) (ht : (aw_sh t).1 = 16) (k133 : Int32 × Int32 × Int32 × Int32 × aw_M → Option (Int32 × aw_M)) (hk133 : ∀ s : Int32 × Int32 × Int32 × Int32 × aw_M, AW l k_X11_rests aw_gi 133 [some (.ref t), some (.int s.1), none, some (.int s.2.1), some (.int s.2.2.1), some (.int s.2.2.2.1), none, none, none, none] [] s.2.2.2.2 (k133 s)) : ∀ (N : Nat) (s : Int32 × Int32 × Int32 × Int32 × Bool × Int32 × aw_M), AW l k_X11_rests aw_gi 145 [some (.ref t), some (.int s.1), none, some (.int s.2.1), some (.int s.2.2.1), some (.int s.2.2.2.1), some (.int (aw_b s.2.2.2.2.1)), some (.int s.2.2.2.2.2.1), none, none] [] s.2.2.2.2.2.2 (aw_loop (fun k s => f_X11_rests_145 F t k k133 s.1 s.2.1 s.2.2.1 s.2.2.2.1 s.2.2.2.2.1 s.2.2.2.2.2.1 s.2.2.2.2.2.2) N s) := by
  refine aw_loop_ok (f := fun k s => f_X11_rests_145 F t k k133 s.1 s.2.1 s.2.2.1 s.2.2.2.1 s.2.2.2.2.1 s.2.2.2.2.2.1 s.2.2.2.2.2.2) (Ls := fun s => [some (.ref t), some (.int s.1), none, some (.int s.2.1), some (.int s.2.2.1), some (.int s.2.2.2.1), some (.int (aw_b s.2.2.2.2.1)), some (.int s.2.2.2.2.2.1), none, none]) (ms := fun s => s.2.2.2.2.2.2) ?_
  intro k145 hk145 s
  obtain ⟨x1, x3, x4, x5, x6, x7, μ⟩ := s
  show AW l k_X11_rests aw_gi 145 [some (.ref t), some (.int x1), none, some (.int x3), some (.int x4), some (.int x5), some (.int (aw_b x6)), some (.int x7), none, none] [] μ (f_X11_rests_145 F t k145 k133 x1 x3 x4 x5 x6 x7 μ)
  unfold f_X11_rests_145
  refine aw_iload (n := 147) dX11_rests_145 rfl rfl ?_
  refine aw_iload_n (n := 148) dX11_rests_147 rfl rfl ?_
  refine aw_icmp_ge (n := 151) 251 dX11_rests_148 (by decide) rfl ?_ ?_
  · exact aw_weak (c_X11_rests_251 l F t ht k133 hk133 x1 x3 x4 x5 x6 μ) (aw_ss (aw_ss (aw_sn (aw_ss (aw_ss (aw_ss (aw_ss (aw_sn (aw_sn (aw_sn aw_s0))))))))))
  · refine aw_aload_n (n := 152) dX11_rests_151 rfl rfl ?_
    refine aw_getR (n := 155) (RX11, TX11, 52) 11 29 dX11_rests_152 rfl ht (by decide) fd_RX11_68 ?_
    refine aw_iload (n := 157) dX11_rests_155 rfl rfl ?_
    refine aw_iaload (n := 158) 64 dX11_rests_157 rfl (sf_11_29 ht) ?_
    refine aw_aload_n (n := 159) dX11_rests_158 rfl rfl ?_
    refine aw_getR (n := 162) (RX11, TX11, 52) 11 29 dX11_rests_159 rfl ht (by decide) fd_RX11_68 ?_
    refine aw_iload (n := 164) dX11_rests_162 rfl rfl ?_
    refine aw_iaload (n := 165) 64 dX11_rests_164 rfl (sf_11_29 ht) ?_
    refine aw_ixor (n := 166) dX11_rests_165 rfl ?_
    refine aw_nmI (fun v15 => ?_)
    refine aw_istore (n := 168) [some (.ref t), some (.int x1), none, some (.int x3), some (.int x4), some (.int x5), some (.int (aw_b x6)), some (.int x7), some (.int v15), none] dX11_rests_166 rfl rfl (Nat.le_of_ble_eq_true rfl) (Nat.le_of_ble_eq_true rfl) rfl ?_
    refine aw_iload (n := 170) dX11_rests_168 rfl rfl ?_
    refine aw_if_eq (n := 173) 245 dX11_rests_170 (by decide) rfl ?_ ?_
    · exact aw_weak (c_X11_rests_245 l F t ht k133 hk133 k145 hk145 x1 x3 x4 x5 x6 x7 μ) (aw_ss (aw_ss (aw_sn (aw_ss (aw_ss (aw_ss (aw_ss (aw_ss (aw_sn (aw_sn aw_s0))))))))))
    · refine aw_iload (n := 175) dX11_rests_173 rfl rfl ?_
      refine aw_iload (n := 177) dX11_rests_175 rfl rfl ?_
      refine aw_iconst (n := 178) 1 dX11_rests_177 rfl (by decide) ?_
      refine aw_isub (n := 179) dX11_rests_178 rfl ?_
      refine aw_iand (n := 180) dX11_rests_179 rfl ?_
      refine aw_if_eq (n := 183) 186 dX11_rests_180 (by decide) rfl ?_ ?_
      · refine aw_iconst (n := 187) 0 dX11_rests_186 rfl (by decide) ?_
        refine aw_istore (n := 189) [some (.ref t), some (.int x1), none, some (.int x3), some (.int x4), some (.int x5), some (.int (aw_b x6)), some (.int x7), some (.int v15), some (.int 0)] dX11_rests_187 rfl rfl (Nat.le_of_ble_eq_true rfl) (Nat.le_of_ble_eq_true rfl) rfl ?_
        exact aw_weak (c_X11_rests_189 l F t ht k133 hk133 k145 hk145 F (x1, x3, x4, x5, x6, x7, v15, 0, μ)) (aw_ss (aw_ss (aw_sn (aw_ss (aw_ss (aw_ss (aw_ss (aw_ss (aw_ss (aw_ss aw_s0))))))))))
      · refine aw_goto 245 dX11_rests_183 (by decide) ?_
        exact aw_weak (c_X11_rests_245 l F t ht k133 hk133 k145 hk145 x1 x3 x4 x5 x6 x7 μ) (aw_ss (aw_ss (aw_sn (aw_ss (aw_ss (aw_ss (aw_ss (aw_ss (aw_sn (aw_sn aw_s0))))))))))
def f_X11_rests_133 (F : Nat) (t : Nat) (k133 : Int32 × Int32 × Int32 × Int32 × aw_M → Option (Int32 × aw_M)) (x1 : Int32) (x3 : Int32) (x4 : Int32) (x5 : Int32) (μ : aw_M) : Option (Int32 × aw_M) :=
  (if x3 ≤ x5 then
  f_X11_rests_282 F t x1 x4 μ
  else
  aw_loop (fun k s => f_X11_rests_145 F t k k133 s.1 s.2.1 s.2.2.1 s.2.2.2.1 s.2.2.2.2.1 s.2.2.2.2.2.1 s.2.2.2.2.2.2) F (x1, x3, x4, x5, true, 0, μ))
theorem c_X11_rests_133 (l : Launch) (F : Nat) (t : Nat) (ht : (aw_sh t).1 = 16) : ∀ (N : Nat) (s : Int32 × Int32 × Int32 × Int32 × aw_M), AW l k_X11_rests aw_gi 133 [some (.ref t), some (.int s.1), none, some (.int s.2.1), some (.int s.2.2.1), some (.int s.2.2.2.1), none, none, none, none] [] s.2.2.2.2 (aw_loop (fun k s => f_X11_rests_133 F t k s.1 s.2.1 s.2.2.1 s.2.2.2.1 s.2.2.2.2) N s) := by
  refine aw_loop_ok (f := fun k s => f_X11_rests_133 F t k s.1 s.2.1 s.2.2.1 s.2.2.2.1 s.2.2.2.2) (Ls := fun s => [some (.ref t), some (.int s.1), none, some (.int s.2.1), some (.int s.2.2.1), some (.int s.2.2.2.1), none, none, none, none]) (ms := fun s => s.2.2.2.2) ?_
  intro k133 hk133 s
  obtain ⟨x1, x3, x4, x5, μ⟩ := s
  show AW l k_X11_rests aw_gi 133 [some (.ref t), some (.int x1), none, some (.int x3), some (.int x4), some (.int x5), none, none, none, none] [] μ (f_X11_rests_133 F t k133 x1 x3 x4 x5 μ)
  unfold f_X11_rests_133
  refine aw_iload (n := 135) dX11_rests_133 rfl rfl ?_
  refine aw_iload_n (n := 136) dX11_rests_135 rfl rfl ?_
  refine aw_icmp_ge (n := 139) 282 dX11_rests_136 (by decide) rfl ?_ ?_
  · exact aw_weak (c_X11_rests_282 l F t ht x1 x4 μ) (aw_sn (aw_ss (aw_sn (aw_sn (aw_ss (aw_sn (aw_sn (aw_sn (aw_sn (aw_sn aw_s0))))))))))
  · refine aw_iconst (n := 140) 1 dX11_rests_139 rfl (by decide) ?_
    refine aw_istore (n := 142) [some (.ref t), some (.int x1), none, some (.int x3), some (.int x4), some (.int x5), some (.int 1), none, none, none] dX11_rests_140 rfl rfl (Nat.le_of_ble_eq_true rfl) (Nat.le_of_ble_eq_true rfl) rfl ?_
    refine aw_iconst (n := 143) 0 dX11_rests_142 rfl (by decide) ?_
    refine aw_istore (n := 145) [some (.ref t), some (.int x1), none, some (.int x3), some (.int x4), some (.int x5), some (.int 1), some (.int 0), none, none] dX11_rests_143 rfl rfl (Nat.le_of_ble_eq_true rfl) (Nat.le_of_ble_eq_true rfl) rfl ?_
    exact aw_weak (c_X11_rests_145 l F t ht k133 hk133 F (x1, x3, x4, x5, true, 0, μ)) (aw_ss (aw_ss (aw_sn (aw_ss (aw_ss (aw_ss (aw_ss (aw_ss (aw_sn (aw_sn aw_s0))))))))))
def f_X11_rests_127 (F : Nat) (t : Nat) (x1 : Int32) (x3 : Int32) (μ : aw_M) : Option (Int32 × aw_M) :=
  aw_loop (fun k s => f_X11_rests_133 F t k s.1 s.2.1 s.2.2.1 s.2.2.2.1 s.2.2.2.2) F (x1, x3, 0, 0, μ)
theorem c_X11_rests_127 (l : Launch) (F : Nat) (t : Nat) (ht : (aw_sh t).1 = 16) (x1 : Int32) (x3 : Int32) (μ : aw_M) : AW l k_X11_rests aw_gi 127 [some (.ref t), some (.int x1), none, some (.int x3), none, none, none, none, none, none] [] μ (f_X11_rests_127 F t x1 x3 μ) := by
  unfold f_X11_rests_127
  refine aw_iconst (n := 128) 0 dX11_rests_127 rfl (by decide) ?_
  refine aw_istore (n := 130) [some (.ref t), some (.int x1), none, some (.int x3), some (.int 0), none, none, none, none, none] dX11_rests_128 rfl rfl (Nat.le_of_ble_eq_true rfl) (Nat.le_of_ble_eq_true rfl) rfl ?_
  refine aw_iconst (n := 131) 0 dX11_rests_130 rfl (by decide) ?_
  refine aw_istore (n := 133) [some (.ref t), some (.int x1), none, some (.int x3), some (.int 0), some (.int 0), none, none, none, none] dX11_rests_131 rfl rfl (Nat.le_of_ble_eq_true rfl) (Nat.le_of_ble_eq_true rfl) rfl ?_
  exact aw_weak (c_X11_rests_133 l F t ht F (x1, x3, 0, 0, μ)) (aw_ss (aw_ss (aw_sn (aw_ss (aw_ss (aw_ss (aw_sn (aw_sn (aw_sn (aw_sn aw_s0))))))))))
def f_X11_rests_121 (F : Nat) (t : Nat) (k68 : Int32 × Int32 × Int32 × aw_M → Option (Int32 × aw_M)) (x1 : Int32) (x3 : Int32) (x4 : Int32) (μ : aw_M) : Option (Int32 × aw_M) :=
  k68 (x1, x3, (x4 + 1), μ)
theorem c_X11_rests_121 (l : Launch) (F : Nat) (t : Nat) (ht : (aw_sh t).1 = 16) (k68 : Int32 × Int32 × Int32 × aw_M → Option (Int32 × aw_M)) (hk68 : ∀ s : Int32 × Int32 × Int32 × aw_M, AW l k_X11_rests aw_gi 68 [some (.ref t), some (.int s.1), none, some (.int s.2.1), some (.int s.2.2.1), none, none, none, none, none] [] s.2.2.2 (k68 s)) (x1 : Int32) (x3 : Int32) (x4 : Int32) (μ : aw_M) : AW l k_X11_rests aw_gi 121 [some (.ref t), some (.int x1), none, some (.int x3), some (.int x4), none, none, none, none, none] [] μ (f_X11_rests_121 F t k68 x1 x3 x4 μ) := by
  unfold f_X11_rests_121
  refine aw_iinc (n := 124) (x4 + 1) [some (.ref t), some (.int x1), none, some (.int x3), some (.int (x4 + 1)), none, none, none, none, none] dX11_rests_121 rfl rfl (by rfl) rfl (Nat.le_of_ble_eq_true rfl) rfl ?_
  refine aw_goto 68 dX11_rests_124 (by decide) ?_
  exact aw_weak (hk68 (x1, x3, (x4 + 1), μ)) (aw_ss (aw_ss (aw_sn (aw_ss (aw_ss (aw_sn (aw_sn (aw_sn (aw_sn (aw_sn aw_s0))))))))))
def f_X11_rests_88 (F : Nat) (t : Nat) (k88 : Int32 × Int32 × Int32 × Int32 × aw_M → Option (Int32 × aw_M)) (k68 : Int32 × Int32 × Int32 × aw_M → Option (Int32 × aw_M)) (x1 : Int32) (x3 : Int32) (x4 : Int32) (x5 : Int32) (μ : aw_M) : Option (Int32 × aw_M) :=
  (if 9 ≤ x5 then
  f_X11_rests_121 F t k68 x1 x3 x4 μ
  else
  aw_g (aw_in x5 9) (aw_g (aw_in ((9 * x4) + x5) 576) (aw_let (aw_wI μ (aw_rf t 28) ((9 * x4) + x5).toNatClampNeg (μ.1 (aw_rf t 23) x5.toNatClampNeg)) fun μ17 =>
  k88 (x1, x3, x4, (x5 + 1), μ17))))
theorem c_X11_rests_88 (l : Launch) (F : Nat) (t : Nat) (ht : (aw_sh t).1 = 16) (k68 : Int32 × Int32 × Int32 × aw_M → Option (Int32 × aw_M)) (hk68 : ∀ s : Int32 × Int32 × Int32 × aw_M, AW l k_X11_rests aw_gi 68 [some (.ref t), some (.int s.1), none, some (.int s.2.1), some (.int s.2.2.1), none, none, none, none, none] [] s.2.2.2 (k68 s)) : ∀ (N : Nat) (s : Int32 × Int32 × Int32 × Int32 × aw_M), AW l k_X11_rests aw_gi 88 [some (.ref t), some (.int s.1), none, some (.int s.2.1), some (.int s.2.2.1), some (.int s.2.2.2.1), none, none, none, none] [] s.2.2.2.2 (aw_loop (fun k s => f_X11_rests_88 F t k k68 s.1 s.2.1 s.2.2.1 s.2.2.2.1 s.2.2.2.2) N s) := by
  refine aw_loop_ok (f := fun k s => f_X11_rests_88 F t k k68 s.1 s.2.1 s.2.2.1 s.2.2.2.1 s.2.2.2.2) (Ls := fun s => [some (.ref t), some (.int s.1), none, some (.int s.2.1), some (.int s.2.2.1), some (.int s.2.2.2.1), none, none, none, none]) (ms := fun s => s.2.2.2.2) ?_
  intro k88 hk88 s
  obtain ⟨x1, x3, x4, x5, μ⟩ := s
  show AW l k_X11_rests aw_gi 88 [some (.ref t), some (.int x1), none, some (.int x3), some (.int x4), some (.int x5), none, none, none, none] [] μ (f_X11_rests_88 F t k88 k68 x1 x3 x4 x5 μ)
  unfold f_X11_rests_88
  refine aw_iload (n := 90) dX11_rests_88 rfl rfl ?_
  refine aw_bipush (n := 92) 9 dX11_rests_90 rfl (by decide) ?_
  refine aw_icmp_ge (n := 95) 121 dX11_rests_92 (by decide) rfl ?_ ?_
  · exact aw_weak (c_X11_rests_121 l F t ht k68 hk68 x1 x3 x4 μ) (aw_ss (aw_ss (aw_sn (aw_ss (aw_ss (aw_sn (aw_sn (aw_sn (aw_sn (aw_sn aw_s0))))))))))
  · refine aw_aload_n (n := 96) dX11_rests_95 rfl rfl ?_
    refine aw_getR (n := 99) (RX11, TX11, 52) 11 28 dX11_rests_96 rfl ht (by decide) fd_RX11_65 ?_
    refine aw_bipush (n := 101) 9 dX11_rests_99 rfl (by decide) ?_
    refine aw_iload (n := 103) dX11_rests_101 rfl rfl ?_
    refine aw_imul (n := 104) dX11_rests_103 rfl ?_
    refine aw_iload (n := 106) dX11_rests_104 rfl rfl ?_
    refine aw_iadd (n := 107) dX11_rests_106 rfl ?_
    refine aw_aload_n (n := 108) dX11_rests_107 rfl rfl ?_
    refine aw_getR (n := 111) (RX11, TX11, 52) 11 23 dX11_rests_108 rfl ht (by decide) fd_RX11_53 ?_
    refine aw_iload (n := 113) dX11_rests_111 rfl rfl ?_
    refine aw_iaload (n := 114) 9 dX11_rests_113 rfl (sf_11_23 ht) ?_
    refine aw_iastore (n := 115) 576 dX11_rests_114 rfl (sf_11_28 ht) (fun μ17 => ?_)
    refine aw_iinc (n := 118) (x5 + 1) [some (.ref t), some (.int x1), none, some (.int x3), some (.int x4), some (.int (x5 + 1)), none, none, none, none] dX11_rests_115 rfl rfl (by rfl) rfl (Nat.le_of_ble_eq_true rfl) rfl ?_
    refine aw_goto 88 dX11_rests_118 (by decide) ?_
    exact aw_weak (hk88 (x1, x3, x4, (x5 + 1), μ17)) (aw_ss (aw_ss (aw_sn (aw_ss (aw_ss (aw_ss (aw_sn (aw_sn (aw_sn (aw_sn aw_s0))))))))))
def f_X11_rests_68 (F : Nat) (t : Nat) (k68 : Int32 × Int32 × Int32 × aw_M → Option (Int32 × aw_M)) (x1 : Int32) (x3 : Int32) (x4 : Int32) (μ : aw_M) : Option (Int32 × aw_M) :=
  (if x3 ≤ x4 then
  f_X11_rests_127 F t x1 x3 μ
  else
  aw_g (aw_in x4 64) ((f_X11_stands F t (μ.1 (aw_rf t 29) x4.toNatClampNeg) μ).bind fun r16 =>
  aw_loop (fun k s => f_X11_rests_88 F t k k68 s.1 s.2.1 s.2.2.1 s.2.2.2.1 s.2.2.2.2) F (x1, x3, x4, 0, r16)))
theorem c_X11_rests_68 (l : Launch) (F : Nat) (t : Nat) (ht : (aw_sh t).1 = 16) : ∀ (N : Nat) (s : Int32 × Int32 × Int32 × aw_M), AW l k_X11_rests aw_gi 68 [some (.ref t), some (.int s.1), none, some (.int s.2.1), some (.int s.2.2.1), none, none, none, none, none] [] s.2.2.2 (aw_loop (fun k s => f_X11_rests_68 F t k s.1 s.2.1 s.2.2.1 s.2.2.2) N s) := by
  refine aw_loop_ok (f := fun k s => f_X11_rests_68 F t k s.1 s.2.1 s.2.2.1 s.2.2.2) (Ls := fun s => [some (.ref t), some (.int s.1), none, some (.int s.2.1), some (.int s.2.2.1), none, none, none, none, none]) (ms := fun s => s.2.2.2) ?_
  intro k68 hk68 s
  obtain ⟨x1, x3, x4, μ⟩ := s
  show AW l k_X11_rests aw_gi 68 [some (.ref t), some (.int x1), none, some (.int x3), some (.int x4), none, none, none, none, none] [] μ (f_X11_rests_68 F t k68 x1 x3 x4 μ)
  unfold f_X11_rests_68
  refine aw_iload (n := 70) dX11_rests_68 rfl rfl ?_
  refine aw_iload_n (n := 71) dX11_rests_70 rfl rfl ?_
  refine aw_icmp_ge (n := 74) 127 dX11_rests_71 (by decide) rfl ?_ ?_
  · exact aw_weak (c_X11_rests_127 l F t ht x1 x3 μ) (aw_ss (aw_ss (aw_sn (aw_ss (aw_sn (aw_sn (aw_sn (aw_sn (aw_sn (aw_sn aw_s0))))))))))
  · refine aw_aload_n (n := 75) dX11_rests_74 rfl rfl ?_
    refine aw_aload_n (n := 76) dX11_rests_75 rfl rfl ?_
    refine aw_getR (n := 79) (RX11, TX11, 52) 11 29 dX11_rests_76 rfl ht (by decide) fd_RX11_68 ?_
    refine aw_iload (n := 81) dX11_rests_79 rfl rfl ?_
    refine aw_iaload (n := 82) 64 dX11_rests_81 rfl (sf_11_29 ht) ?_
    refine aw_callVv (n := 85) (as := [.int (μ.1 (aw_rf t 29) x4.toNatClampNeg)]) (st := []) (RX11, TX11, 52) 11 dX11_rests_82 rfl rfl (m_X11_stands l F t ht (μ.1 (aw_rf t 29) x4.toNatClampNeg) μ) ht (by decide) rfl rfl cw_RX11_342 ⟨Nat.le_of_ble_eq_true rfl, Nat.le_of_ble_eq_true rfl⟩ (fun _ => Nat.le_of_ble_eq_true rfl) (fun r16 => ?_)
    refine aw_iconst (n := 86) 0 dX11_rests_85 rfl (by decide) ?_
    refine aw_istore (n := 88) [some (.ref t), some (.int x1), none, some (.int x3), some (.int x4), some (.int 0), none, none, none, none] dX11_rests_86 rfl rfl (Nat.le_of_ble_eq_true rfl) (Nat.le_of_ble_eq_true rfl) rfl ?_
    exact aw_weak (c_X11_rests_88 l F t ht k68 hk68 F (x1, x3, x4, 0, r16)) (aw_ss (aw_ss (aw_sn (aw_ss (aw_ss (aw_ss (aw_sn (aw_sn (aw_sn (aw_sn aw_s0))))))))))
def f_X11_rests_65 (F : Nat) (t : Nat) (x1 : Int32) (x3 : Int32) (μ : aw_M) : Option (Int32 × aw_M) :=
  aw_loop (fun k s => f_X11_rests_68 F t k s.1 s.2.1 s.2.2.1 s.2.2.2) F (x1, x3, 0, μ)
theorem c_X11_rests_65 (l : Launch) (F : Nat) (t : Nat) (ht : (aw_sh t).1 = 16) (x1 : Int32) (x3 : Int32) (μ : aw_M) : AW l k_X11_rests aw_gi 65 [some (.ref t), some (.int x1), none, some (.int x3), none, none, none, none, none, none] [] μ (f_X11_rests_65 F t x1 x3 μ) := by
  unfold f_X11_rests_65
  refine aw_iconst (n := 66) 0 dX11_rests_65 rfl (by decide) ?_
  refine aw_istore (n := 68) [some (.ref t), some (.int x1), none, some (.int x3), some (.int 0), none, none, none, none, none] dX11_rests_66 rfl rfl (Nat.le_of_ble_eq_true rfl) (Nat.le_of_ble_eq_true rfl) rfl ?_
  exact aw_weak (c_X11_rests_68 l F t ht F (x1, x3, 0, μ)) (aw_ss (aw_ss (aw_sn (aw_ss (aw_ss (aw_sn (aw_sn (aw_sn (aw_sn (aw_sn aw_s0))))))))))
def f_X11_rests_59 (F : Nat) (t : Nat) (k22 : Int32 × Int32 × Int32 × Int32 × aw_M → Option (Int32 × aw_M)) (x1 : Int32) (x2 : Int32) (x3 : Int32) (x4 : Int32) (μ : aw_M) : Option (Int32 × aw_M) :=
  k22 (x1, x2, x3, (x4 + 1), μ)
theorem c_X11_rests_59 (l : Launch) (F : Nat) (t : Nat) (ht : (aw_sh t).1 = 16) (k22 : Int32 × Int32 × Int32 × Int32 × aw_M → Option (Int32 × aw_M)) (hk22 : ∀ s : Int32 × Int32 × Int32 × Int32 × aw_M, AW l k_X11_rests aw_gi 22 [some (.ref t), some (.int s.1), some (.int s.2.1), some (.int s.2.2.1), some (.int s.2.2.2.1), none, none, none, none, none] [] s.2.2.2.2 (k22 s)) (x1 : Int32) (x2 : Int32) (x3 : Int32) (x4 : Int32) (μ : aw_M) : AW l k_X11_rests aw_gi 59 [some (.ref t), some (.int x1), some (.int x2), some (.int x3), some (.int x4), none, none, none, none, none] [] μ (f_X11_rests_59 F t k22 x1 x2 x3 x4 μ) := by
  unfold f_X11_rests_59
  refine aw_iinc (n := 62) (x4 + 1) [some (.ref t), some (.int x1), some (.int x2), some (.int x3), some (.int (x4 + 1)), none, none, none, none, none] dX11_rests_59 rfl rfl (by rfl) rfl (Nat.le_of_ble_eq_true rfl) rfl ?_
  refine aw_goto 22 dX11_rests_62 (by decide) ?_
  exact aw_weak (hk22 (x1, x2, x3, (x4 + 1), μ)) (aw_ss (aw_ss (aw_ss (aw_ss (aw_ss (aw_sn (aw_sn (aw_sn (aw_sn (aw_sn aw_s0))))))))))
def f_X11_rests_22 (F : Nat) (t : Nat) (k22 : Int32 × Int32 × Int32 × Int32 × aw_M → Option (Int32 × aw_M)) (x1 : Int32) (x2 : Int32) (x3 : Int32) (x4 : Int32) (μ : aw_M) : Option (Int32 × aw_M) :=
  (if x2 < x4 then
  f_X11_rests_65 F t x1 x3 μ
  else
  (if (x4 &&& (x2 ^^^ (-1))) = 0 then
  (if x3 = 64 then
  some ((-1), μ)
  else
  aw_g (aw_in x3 64) (aw_let (aw_wI μ (aw_rf t 29) x3.toNatClampNeg x4) fun μ18 =>
  f_X11_rests_59 F t k22 x1 x2 (x3 + 1) x4 μ18))
  else
  f_X11_rests_59 F t k22 x1 x2 x3 x4 μ))
theorem c_X11_rests_22 (l : Launch) (F : Nat) (t : Nat) (ht : (aw_sh t).1 = 16) : ∀ (N : Nat) (s : Int32 × Int32 × Int32 × Int32 × aw_M), AW l k_X11_rests aw_gi 22 [some (.ref t), some (.int s.1), some (.int s.2.1), some (.int s.2.2.1), some (.int s.2.2.2.1), none, none, none, none, none] [] s.2.2.2.2 (aw_loop (fun k s => f_X11_rests_22 F t k s.1 s.2.1 s.2.2.1 s.2.2.2.1 s.2.2.2.2) N s) := by
  refine aw_loop_ok (f := fun k s => f_X11_rests_22 F t k s.1 s.2.1 s.2.2.1 s.2.2.2.1 s.2.2.2.2) (Ls := fun s => [some (.ref t), some (.int s.1), some (.int s.2.1), some (.int s.2.2.1), some (.int s.2.2.2.1), none, none, none, none, none]) (ms := fun s => s.2.2.2.2) ?_
  intro k22 hk22 s
  obtain ⟨x1, x2, x3, x4, μ⟩ := s
  show AW l k_X11_rests aw_gi 22 [some (.ref t), some (.int x1), some (.int x2), some (.int x3), some (.int x4), none, none, none, none, none] [] μ (f_X11_rests_22 F t k22 x1 x2 x3 x4 μ)
  unfold f_X11_rests_22
  refine aw_iload (n := 24) dX11_rests_22 rfl rfl ?_
  refine aw_iload_n (n := 25) dX11_rests_24 rfl rfl ?_
  refine aw_icmp_gt (n := 28) 65 dX11_rests_25 (by decide) rfl ?_ ?_
  · exact aw_weak (c_X11_rests_65 l F t ht x1 x3 μ) (aw_ss (aw_ss (aw_sn (aw_ss (aw_sn (aw_sn (aw_sn (aw_sn (aw_sn (aw_sn aw_s0))))))))))
  · refine aw_iload (n := 30) dX11_rests_28 rfl rfl ?_
    refine aw_iload_n (n := 31) dX11_rests_30 rfl rfl ?_
    refine aw_iconst (n := 32) (-1) dX11_rests_31 rfl (by decide) ?_
    refine aw_ixor (n := 33) dX11_rests_32 rfl ?_
    refine aw_iand (n := 34) dX11_rests_33 rfl ?_
    refine aw_if_eq (n := 37) 40 dX11_rests_34 (by decide) rfl ?_ ?_
    · refine aw_iload_n (n := 41) dX11_rests_40 rfl rfl ?_
      refine aw_bipush (n := 43) 64 dX11_rests_41 rfl (by decide) ?_
      refine aw_icmp_ne (n := 46) 48 dX11_rests_43 (by decide) rfl ?_ ?_
      · refine aw_aload_n (n := 49) dX11_rests_48 rfl rfl ?_
        refine aw_getR (n := 52) (RX11, TX11, 52) 11 29 dX11_rests_49 rfl ht (by decide) fd_RX11_68 ?_
        refine aw_iload_n (n := 53) dX11_rests_52 rfl rfl ?_
        refine aw_iload (n := 55) dX11_rests_53 rfl rfl ?_
        refine aw_iastore (n := 56) 64 dX11_rests_55 rfl (sf_11_29 ht) (fun μ18 => ?_)
        refine aw_iinc (n := 59) (x3 + 1) [some (.ref t), some (.int x1), some (.int x2), some (.int (x3 + 1)), some (.int x4), none, none, none, none, none] dX11_rests_56 rfl rfl (by rfl) rfl (Nat.le_of_ble_eq_true rfl) rfl ?_
        exact aw_weak (c_X11_rests_59 l F t ht k22 hk22 x1 x2 (x3 + 1) x4 μ18) (aw_ss (aw_ss (aw_ss (aw_ss (aw_ss (aw_sn (aw_sn (aw_sn (aw_sn (aw_sn aw_s0))))))))))
      · refine aw_iconst (n := 47) (-1) dX11_rests_46 rfl (by decide) ?_
        exact aw_ireturn dX11_rests_47 rfl rfl
    · refine aw_goto 59 dX11_rests_37 (by decide) ?_
      exact aw_weak (c_X11_rests_59 l F t ht k22 hk22 x1 x2 x3 x4 μ) (aw_ss (aw_ss (aw_ss (aw_ss (aw_ss (aw_sn (aw_sn (aw_sn (aw_sn (aw_sn aw_s0))))))))))
def f_X11_rests (F : Nat) (t : Nat) (a0 : Int32) (μ : aw_M) : Option (Int32 × aw_M) :=
  aw_let (aw_wI μ t 0 0) fun μ13 =>
  (f_X11_spotters F t μ13).bind fun r14 =>
  (if (-1) ≤ a0 then
  aw_loop (fun k s => f_X11_rests_22 F t k s.1 s.2.1 s.2.2.1 s.2.2.2.1 s.2.2.2.2) F (a0, r14.1, 0, 0, r14.2)
  else
  some ((-1), r14.2))
theorem m_X11_rests (l : Launch) (F : Nat) (t : Nat) (ht : (aw_sh t).1 = 16) (a0 : Int32) (μ : aw_M) : AM l yX11_rests cX11_rests 10 (some .int) 8 285 aw_gi [.ref t, .int a0] μ (f_X11_rests F t a0 μ) := by
  refine aw_met [some (.ref t), some (.int a0), none, none, none, none, none, none, none, none] (by decide) (fun _ => rfl) (fun _ => Nat.le_of_ble_eq_true rfl) ?_
  show AW l k_X11_rests aw_gi 0 [some (.ref t), some (.int a0), none, none, none, none, none, none, none, none] [] μ _
  unfold f_X11_rests
  refine aw_aload_n (n := 1) dX11_rests_0 rfl rfl ?_
  refine aw_iconst (n := 2) 0 dX11_rests_1 rfl (by decide) ?_
  refine aw_putI (n := 5) (RX11, TX11, 52) 11 0 dX11_rests_2 rfl ht (by decide) fp_RX11_1 (fun μ13 => ?_)
  refine aw_aload_n (n := 6) dX11_rests_5 rfl rfl ?_
  refine aw_callVi (n := 9) (as := []) (st := []) (RX11, TX11, 52) 11 dX11_rests_6 rfl rfl (m_X11_spotters l F t ht μ13) ht (by decide) rfl rfl cw_RX11_339 ⟨Nat.le_of_ble_eq_true rfl, Nat.le_of_ble_eq_true rfl⟩ (fun _ => Nat.le_of_ble_eq_true rfl) (fun r14 => ?_)
  refine aw_istore_n (n := 10) [some (.ref t), some (.int a0), some (.int r14.1), none, none, none, none, none, none, none] dX11_rests_9 rfl rfl (Nat.le_of_ble_eq_true rfl) (Nat.le_of_ble_eq_true rfl) rfl ?_
  refine aw_iload_n (n := 11) dX11_rests_10 rfl rfl ?_
  refine aw_iconst (n := 12) (-1) dX11_rests_11 rfl (by decide) ?_
  refine aw_icmp_ge (n := 15) 17 dX11_rests_12 (by decide) rfl ?_ ?_
  · refine aw_iconst (n := 18) 0 dX11_rests_17 rfl (by decide) ?_
    refine aw_istore_n (n := 19) [some (.ref t), some (.int a0), some (.int r14.1), some (.int 0), none, none, none, none, none, none] dX11_rests_18 rfl rfl (Nat.le_of_ble_eq_true rfl) (Nat.le_of_ble_eq_true rfl) rfl ?_
    refine aw_iconst (n := 20) 0 dX11_rests_19 rfl (by decide) ?_
    refine aw_istore (n := 22) [some (.ref t), some (.int a0), some (.int r14.1), some (.int 0), some (.int 0), none, none, none, none, none] dX11_rests_20 rfl rfl (Nat.le_of_ble_eq_true rfl) (Nat.le_of_ble_eq_true rfl) rfl ?_
    exact aw_weak (c_X11_rests_22 l F t ht F (a0, r14.1, 0, 0, r14.2)) (aw_ss (aw_ss (aw_ss (aw_ss (aw_ss (aw_sn (aw_sn (aw_sn (aw_sn (aw_sn aw_s0))))))))))
  · refine aw_iconst (n := 16) (-1) dX11_rests_15 rfl (by decide) ?_
    exact aw_ireturn dX11_rests_16 rfl rfl
