-- the law, case by case
section LWC
variable {p : Program} {l : Launch} {e : Env} {s : State} {m : MethodId} {below : List Frame} {meth : Method} {c : Code} {H : Heap} {locs : List Loc} {cells slots : Nat} {Q : State → Prop} {ls : Array Slot}
variable {D : va_G} {cs : Nat → ClassId} {t0 : TS} {A : Nat → Prop} {P : PS} {ty : Option FieldType} {adm : Nat → Nat} {S : MS} {da : DD} {Aa : AA} {b L i : Nat} {xs : Nat → Int32}
set_option maxHeartbeats 4000000 in
set_option maxRecDepth 100000 in
theorem lk_8 (cx : mCx p s m #[Value.ref b] meth c RL code (Cond.classLink RL 7 RX8 :: wsL_law) 4 ty) (hX : va_X b L xs s s.heap) (hbl : b < s.heap.size) (hbA : ¬ A b) (hi : 6 * i + 6 ≤ L) (hL : L ≤ 384) (hf1 : cells + 1513 ≤ 600000) (hf2 : slots + 96832 ≤ 7302250) (hl : lv_has ls 4 [(0, .ref b), (1, .ref (da 0)), (2, .ref (adm 100)), (3, .int (nI (6 * i)))]) (w : cWd D cs t0 A s P H locs) (hm : mX D cs adm A S P H) (hc : CC t0 da Aa P) (hM : MM Aa S) (hW : WF Aa) (next : LNx p l e s m b below meth c cells slots Q ls D cs t0 A adm da) : W p l e room_1 s m #[Value.ref b] below meth c H locs cells slots Q (F0 m 420 ls []) := by
  obtain ⟨hx, hb, hr, hts, hown, hlocks, hml⟩ := id cx
  have e1 := cq_meets hW hc (xs (6 * i + 1)) (xs (6 * i + 2)) (xs (6 * i + 3)) (xs (6 * i + 4))
  have h1 := hc
  have hda : da 0 = da 0 := rfl
  refine lv_aload_n hx hb dL_law_420 rfl (lv_at hl 1 rfl) ?_
  refine lw_arg (j := 1) cx hX hbl hbA w.2.2.2.2.1 (by omega) hL hl rfl dL_law_421 dL_law_422 dL_law_423 dL_law_424 dL_law_425 ?_
  refine lw_arg (j := 2) cx hX hbl hbA w.2.2.2.2.1 (by omega) hL hl rfl dL_law_426 dL_law_427 dL_law_428 dL_law_429 dL_law_430 ?_
  refine lw_arg (j := 3) cx hX hbl hbA w.2.2.2.2.1 (by omega) hL hl rfl dL_law_431 dL_law_432 dL_law_433 dL_law_434 dL_law_435 ?_
  refine lw_arg (j := 4) cx hX hbl hbA w.2.2.2.2.1 (by omega) hL hl rfl dL_law_436 dL_law_437 dL_law_438 dL_law_439 dL_law_440 ?_
  refine lc_i (cr_V (As := [.int (xs (6 * i + 1)), .int (xs (6 * i + 2)), .int (xs (6 * i + 3)), .int (xs (6 * i + 4))]) (rest := []) cx (hcc_X8_meets l D cs t0 P P (da 0) (xs (6 * i + 1)) (xs (6 * i + 2)) (xs (6 * i + 3)) (xs (6 * i + 4)) _ e1) kT9 hc.k0 (cwV 4 hts (uG uw_X8_meets ul_RL_48 ui_X8_meets us_RX8_X8_meets un_RX8) rfl rfl rfl ud_X8_meets ⟨Nat.le_of_ble_eq_true rfl, Nat.le_of_ble_eq_true rfl⟩) w rfl hl.1 rfl (Nat.le_of_ble_eq_true rfl) dL_law_441 ⟨by show cells + 0 ≤ 600000; omega, by show slots + 0 ≤ 7302250; omega⟩) hm (fun H1 locs1 w hm => ?_)
  refine lv_aload_n hx hb dL_law_444 rfl (lv_at hl 2 rfl) ?_
  refine lw_arg (j := 1) cx hX hbl hbA w.2.2.2.2.1 (by omega) hL hl rfl dL_law_445 dL_law_446 dL_law_447 dL_law_448 dL_law_449 ?_
  refine lw_arg (j := 2) cx hX hbl hbA w.2.2.2.2.1 (by omega) hL hl rfl dL_law_450 dL_law_451 dL_law_452 dL_law_453 dL_law_454 ?_
  refine lw_arg (j := 3) cx hX hbl hbA w.2.2.2.2.1 (by omega) hL hl rfl dL_law_455 dL_law_456 dL_law_457 dL_law_458 dL_law_459 ?_
  refine lw_arg (j := 4) cx hX hbl hbA w.2.2.2.2.1 (by omega) hL hl rfl dL_law_460 dL_law_461 dL_law_462 dL_law_463 dL_law_464 ?_
  obtain ⟨S1, e2, g2⟩ := mq_meets hW hM (xs (6 * i + 1)) (xs (6 * i + 2)) (xs (6 * i + 3)) (xs (6 * i + 4))
  have hW2 := hW
  refine lm_i (As := [.int (xs (6 * i + 1)), .int (xs (6 * i + 2)), .int (xs (6 * i + 3)), .int (xs (6 * i + 4))]) (rest := [.int (sMeets Aa (xs (6 * i + 1)) (xs (6 * i + 2)) (xs (6 * i + 3)) (xs (6 * i + 4)))]) cx (cc_meets l D cs adm S S1 (xs (6 * i + 1)) (xs (6 * i + 2)) (xs (6 * i + 3)) (xs (6 * i + 4)) _ e2) (cwV 4 hts (uG uw_X9_meets ul_RL_52 ui_X9_meets us_RX9_X9_meets un_RX9) rfl rfl rfl ud_X9_meets ⟨Nat.le_of_ble_eq_true rfl, Nat.le_of_ble_eq_true rfl⟩) w hm rfl hl.1 rfl (Nat.le_of_ble_eq_true rfl) dL_law_465 ⟨by show cells + 0 + 0 ≤ 600000; omega, by show slots + 0 + 0 ≤ 7302250; omega⟩ (fun H2 locs2 w hm hz2 => ?_)
  refine lv_icmp_eq (tgt := 1373) hx hb dL_law_468 (by decide) (fun q => ?_) (fun q => ?_)
  · exact W.widen (k := cells + 1513) (n := slots + 96832) (by omega) (by omega) (next (Aa) _ _ _ _ _ hda w hm (h1.setZ hz2) g2 hW2)
  · exact absurd rfl q
set_option maxHeartbeats 4000000 in
set_option maxRecDepth 100000 in
theorem lk_9 (cx : mCx p s m #[Value.ref b] meth c RL code (Cond.classLink RL 7 RX8 :: wsL_law) 4 ty) (hX : va_X b L xs s s.heap) (hbl : b < s.heap.size) (hbA : ¬ A b) (hi : 6 * i + 6 ≤ L) (hL : L ≤ 384) (hf1 : cells + 1513 ≤ 600000) (hf2 : slots + 96832 ≤ 7302250) (hl : lv_has ls 4 [(0, .ref b), (1, .ref (da 0)), (2, .ref (adm 100)), (3, .int (nI (6 * i)))]) (w : cWd D cs t0 A s P H locs) (hm : mX D cs adm A S P H) (hc : CC t0 da Aa P) (hM : MM Aa S) (hW : WF Aa) (next : LNx p l e s m b below meth c cells slots Q ls D cs t0 A adm da) : W p l e room_1 s m #[Value.ref b] below meth c H locs cells slots Q (F0 m 473 ls []) := by
  obtain ⟨hx, hb, hr, hts, hown, hlocks, hml⟩ := id cx
  have e1 := cq_heard hW hc (xs (6 * i + 1)) (xs (6 * i + 2)) (xs (6 * i + 3))
  have h1 := hc
  have hda : da 0 = da 0 := rfl
  refine lv_aload_n hx hb dL_law_473 rfl (lv_at hl 1 rfl) ?_
  refine lw_arg (j := 1) cx hX hbl hbA w.2.2.2.2.1 (by omega) hL hl rfl dL_law_474 dL_law_475 dL_law_476 dL_law_477 dL_law_478 ?_
  refine lw_arg (j := 2) cx hX hbl hbA w.2.2.2.2.1 (by omega) hL hl rfl dL_law_479 dL_law_480 dL_law_481 dL_law_482 dL_law_483 ?_
  refine lw_arg (j := 3) cx hX hbl hbA w.2.2.2.2.1 (by omega) hL hl rfl dL_law_484 dL_law_485 dL_law_486 dL_law_487 dL_law_488 ?_
  refine lc_i (cr_V (As := [.int (xs (6 * i + 1)), .int (xs (6 * i + 2)), .int (xs (6 * i + 3))]) (rest := []) cx (hcc_X8_heard l D cs t0 P P (da 0) (xs (6 * i + 1)) (xs (6 * i + 2)) (xs (6 * i + 3)) _ e1) kT9 hc.k0 (cwV 3 hts (uG uw_X8_heard ul_RL_53 ui_X8_heard us_RX8_X8_heard un_RX8) rfl rfl rfl ud_X8_heard ⟨Nat.le_of_ble_eq_true rfl, Nat.le_of_ble_eq_true rfl⟩) w rfl hl.1 rfl (Nat.le_of_ble_eq_true rfl) dL_law_489 ⟨by show cells + 0 ≤ 600000; omega, by show slots + 0 ≤ 7302250; omega⟩) hm (fun H1 locs1 w hm => ?_)
  refine lv_aload_n hx hb dL_law_492 rfl (lv_at hl 2 rfl) ?_
  refine lw_arg (j := 1) cx hX hbl hbA w.2.2.2.2.1 (by omega) hL hl rfl dL_law_493 dL_law_494 dL_law_495 dL_law_496 dL_law_497 ?_
  refine lw_arg (j := 2) cx hX hbl hbA w.2.2.2.2.1 (by omega) hL hl rfl dL_law_498 dL_law_499 dL_law_500 dL_law_501 dL_law_502 ?_
  refine lw_arg (j := 3) cx hX hbl hbA w.2.2.2.2.1 (by omega) hL hl rfl dL_law_503 dL_law_504 dL_law_505 dL_law_506 dL_law_507 ?_
  obtain ⟨S1, e2, g2⟩ := mq_heard hW hM (xs (6 * i + 1)) (xs (6 * i + 2)) (xs (6 * i + 3))
  have hW2 := hW
  refine lm_i (As := [.int (xs (6 * i + 1)), .int (xs (6 * i + 2)), .int (xs (6 * i + 3))]) (rest := [.int (sHeard Aa (xs (6 * i + 1)) (xs (6 * i + 2)) (xs (6 * i + 3)))]) cx (cc_heard l D cs adm S S1 (xs (6 * i + 1)) (xs (6 * i + 2)) (xs (6 * i + 3)) _ e2) (cwV 3 hts (uG uw_X9_heard ul_RL_56 ui_X9_heard us_RX9_X9_heard un_RX9) rfl rfl rfl ud_X9_heard ⟨Nat.le_of_ble_eq_true rfl, Nat.le_of_ble_eq_true rfl⟩) w hm rfl hl.1 rfl (Nat.le_of_ble_eq_true rfl) dL_law_508 ⟨by show cells + 0 + 0 ≤ 600000; omega, by show slots + 0 + 0 ≤ 7302250; omega⟩ (fun H2 locs2 w hm hz2 => ?_)
  refine lv_icmp_eq (tgt := 1373) hx hb dL_law_511 (by decide) (fun q => ?_) (fun q => ?_)
  · exact W.widen (k := cells + 1513) (n := slots + 96832) (by omega) (by omega) (next (Aa) _ _ _ _ _ hda w hm (h1.setZ hz2) g2 hW2)
  · exact absurd rfl q
set_option maxHeartbeats 4000000 in
set_option maxRecDepth 100000 in
theorem lk_10 (cx : mCx p s m #[Value.ref b] meth c RL code (Cond.classLink RL 7 RX8 :: wsL_law) 4 ty) (hX : va_X b L xs s s.heap) (hbl : b < s.heap.size) (hbA : ¬ A b) (hi : 6 * i + 6 ≤ L) (hL : L ≤ 384) (hf1 : cells + 1513 ≤ 600000) (hf2 : slots + 96832 ≤ 7302250) (hl : lv_has ls 4 [(0, .ref b), (1, .ref (da 0)), (2, .ref (adm 100)), (3, .int (nI (6 * i)))]) (w : cWd D cs t0 A s P H locs) (hm : mX D cs adm A S P H) (hc : CC t0 da Aa P) (hM : MM Aa S) (hW : WF Aa) (next : LNx p l e s m b below meth c cells slots Q ls D cs t0 A adm da) : W p l e room_1 s m #[Value.ref b] below meth c H locs cells slots Q (F0 m 516 ls []) := by
  obtain ⟨hx, hb, hr, hts, hown, hlocks, hml⟩ := id cx
  have e1 := cq_why hW hc (xs (6 * i + 1)) (xs (6 * i + 2)) (xs (6 * i + 3))
  have h1 := hc
  have hda : da 0 = da 0 := rfl
  refine lv_aload_n hx hb dL_law_516 rfl (lv_at hl 1 rfl) ?_
  refine lw_arg (j := 1) cx hX hbl hbA w.2.2.2.2.1 (by omega) hL hl rfl dL_law_517 dL_law_518 dL_law_519 dL_law_520 dL_law_521 ?_
  refine lw_arg (j := 2) cx hX hbl hbA w.2.2.2.2.1 (by omega) hL hl rfl dL_law_522 dL_law_523 dL_law_524 dL_law_525 dL_law_526 ?_
  refine lw_arg (j := 3) cx hX hbl hbA w.2.2.2.2.1 (by omega) hL hl rfl dL_law_527 dL_law_528 dL_law_529 dL_law_530 dL_law_531 ?_
  refine lc_i (cr_V (As := [.int (xs (6 * i + 1)), .int (xs (6 * i + 2)), .int (xs (6 * i + 3))]) (rest := []) cx (hcc_X8_why l D cs t0 P P (da 0) (xs (6 * i + 1)) (xs (6 * i + 2)) (xs (6 * i + 3)) _ e1) kT9 hc.k0 (cwV 3 hts (uG uw_X8_why ul_RL_57 ui_X8_why us_RX8_X8_why un_RX8) rfl rfl rfl ud_X8_why ⟨Nat.le_of_ble_eq_true rfl, Nat.le_of_ble_eq_true rfl⟩) w rfl hl.1 rfl (Nat.le_of_ble_eq_true rfl) dL_law_532 ⟨by show cells + 0 ≤ 600000; omega, by show slots + 0 ≤ 7302250; omega⟩) hm (fun H1 locs1 w hm => ?_)
  refine lv_aload_n hx hb dL_law_535 rfl (lv_at hl 2 rfl) ?_
  refine lw_arg (j := 1) cx hX hbl hbA w.2.2.2.2.1 (by omega) hL hl rfl dL_law_536 dL_law_537 dL_law_538 dL_law_539 dL_law_540 ?_
  refine lw_arg (j := 2) cx hX hbl hbA w.2.2.2.2.1 (by omega) hL hl rfl dL_law_541 dL_law_542 dL_law_543 dL_law_544 dL_law_545 ?_
  refine lw_arg (j := 3) cx hX hbl hbA w.2.2.2.2.1 (by omega) hL hl rfl dL_law_546 dL_law_547 dL_law_548 dL_law_549 dL_law_550 ?_
  obtain ⟨S1, e2, g2⟩ := mq_why hW hM (xs (6 * i + 1)) (xs (6 * i + 2)) (xs (6 * i + 3))
  have hW2 := hW
  refine lm_i (As := [.int (xs (6 * i + 1)), .int (xs (6 * i + 2)), .int (xs (6 * i + 3))]) (rest := [.int (sWhy Aa (xs (6 * i + 1)) (xs (6 * i + 2)) (xs (6 * i + 3)))]) cx (cc_why l D cs adm S S1 (xs (6 * i + 1)) (xs (6 * i + 2)) (xs (6 * i + 3)) _ e2) (cwV 3 hts (uG uw_X9_why ul_RL_60 ui_X9_why us_RX9_X9_why un_RX9) rfl rfl rfl ud_X9_why ⟨Nat.le_of_ble_eq_true rfl, Nat.le_of_ble_eq_true rfl⟩) w hm rfl hl.1 rfl (Nat.le_of_ble_eq_true rfl) dL_law_551 ⟨by show cells + 0 + 0 ≤ 600000; omega, by show slots + 0 + 0 ≤ 7302250; omega⟩ (fun H2 locs2 w hm hz2 => ?_)
  refine lv_icmp_eq (tgt := 1373) hx hb dL_law_554 (by decide) (fun q => ?_) (fun q => ?_)
  · exact W.widen (k := cells + 1513) (n := slots + 96832) (by omega) (by omega) (next (Aa) _ _ _ _ _ hda w hm (h1.setZ hz2) g2 hW2)
  · exact absurd rfl q
set_option maxHeartbeats 4000000 in
set_option maxRecDepth 100000 in
theorem lk_11 (cx : mCx p s m #[Value.ref b] meth c RL code (Cond.classLink RL 7 RX8 :: wsL_law) 4 ty) (hX : va_X b L xs s s.heap) (hbl : b < s.heap.size) (hbA : ¬ A b) (hi : 6 * i + 6 ≤ L) (hL : L ≤ 384) (hf1 : cells + 1513 ≤ 600000) (hf2 : slots + 96832 ≤ 7302250) (hl : lv_has ls 4 [(0, .ref b), (1, .ref (da 0)), (2, .ref (adm 100)), (3, .int (nI (6 * i)))]) (w : cWd D cs t0 A s P H locs) (hm : mX D cs adm A S P H) (hc : CC t0 da Aa P) (hM : MM Aa S) (hW : WF Aa) (next : LNx p l e s m b below meth c cells slots Q ls D cs t0 A adm da) : W p l e room_1 s m #[Value.ref b] below meth c H locs cells slots Q (F0 m 559 ls []) := by
  obtain ⟨hx, hb, hr, hts, hown, hlocks, hml⟩ := id cx
  obtain ⟨P1, e1, h1⟩ := cq_least hW hc (xs (6 * i + 1)) (xs (6 * i + 2)) (xs (6 * i + 3)) (xs (6 * i + 4))
  have hda : da 0 = da 0 := rfl
  refine lv_aload_n hx hb dL_law_559 rfl (lv_at hl 1 rfl) ?_
  refine lw_arg (j := 1) cx hX hbl hbA w.2.2.2.2.1 (by omega) hL hl rfl dL_law_560 dL_law_561 dL_law_562 dL_law_563 dL_law_564 ?_
  refine lw_arg (j := 2) cx hX hbl hbA w.2.2.2.2.1 (by omega) hL hl rfl dL_law_565 dL_law_566 dL_law_567 dL_law_568 dL_law_569 ?_
  refine lw_arg (j := 3) cx hX hbl hbA w.2.2.2.2.1 (by omega) hL hl rfl dL_law_570 dL_law_571 dL_law_572 dL_law_573 dL_law_574 ?_
  refine lw_arg (j := 4) cx hX hbl hbA w.2.2.2.2.1 (by omega) hL hl rfl dL_law_575 dL_law_576 dL_law_577 dL_law_578 dL_law_579 ?_
  refine lc_i (cr_V (As := [.int (xs (6 * i + 1)), .int (xs (6 * i + 2)), .int (xs (6 * i + 3)), .int (xs (6 * i + 4))]) (rest := []) cx (hcc_X8_least l D cs t0 P P1 (da 0) (xs (6 * i + 1)) (xs (6 * i + 2)) (xs (6 * i + 3)) (xs (6 * i + 4)) _ e1) kT9 hc.k0 (cwV 4 hts (uG uw_X8_least ul_RL_61 ui_X8_least us_RX8_X8_least un_RX8) rfl rfl rfl ud_X8_least ⟨Nat.le_of_ble_eq_true rfl, Nat.le_of_ble_eq_true rfl⟩) w rfl hl.1 rfl (Nat.le_of_ble_eq_true rfl) dL_law_580 ⟨by show cells + 0 ≤ 600000; omega, by show slots + 0 ≤ 7302250; omega⟩) hm (fun H1 locs1 w hm => ?_)
  refine lv_aload_n hx hb dL_law_583 rfl (lv_at hl 2 rfl) ?_
  refine lw_arg (j := 1) cx hX hbl hbA w.2.2.2.2.1 (by omega) hL hl rfl dL_law_584 dL_law_585 dL_law_586 dL_law_587 dL_law_588 ?_
  refine lw_arg (j := 2) cx hX hbl hbA w.2.2.2.2.1 (by omega) hL hl rfl dL_law_589 dL_law_590 dL_law_591 dL_law_592 dL_law_593 ?_
  refine lw_arg (j := 3) cx hX hbl hbA w.2.2.2.2.1 (by omega) hL hl rfl dL_law_594 dL_law_595 dL_law_596 dL_law_597 dL_law_598 ?_
  refine lw_arg (j := 4) cx hX hbl hbA w.2.2.2.2.1 (by omega) hL hl rfl dL_law_599 dL_law_600 dL_law_601 dL_law_602 dL_law_603 ?_
  obtain ⟨S1, e2, g2⟩ := mq_least hW hM (xs (6 * i + 1)) (xs (6 * i + 2)) (xs (6 * i + 3)) (xs (6 * i + 4))
  have hW2 := hW
  refine lm_i (As := [.int (xs (6 * i + 1)), .int (xs (6 * i + 2)), .int (xs (6 * i + 3)), .int (xs (6 * i + 4))]) (rest := [.int (sLeast Aa (xs (6 * i + 1)) (xs (6 * i + 2)) (xs (6 * i + 3)) (xs (6 * i + 4)))]) cx (cc_least l D cs adm S S1 (xs (6 * i + 1)) (xs (6 * i + 2)) (xs (6 * i + 3)) (xs (6 * i + 4)) _ e2) (cwV 4 hts (uG uw_X9_least ul_RL_64 ui_X9_least us_RX9_X9_least un_RX9) rfl rfl rfl ud_X9_least ⟨Nat.le_of_ble_eq_true rfl, Nat.le_of_ble_eq_true rfl⟩) w hm rfl hl.1 rfl (Nat.le_of_ble_eq_true rfl) dL_law_604 ⟨by show cells + 0 + 0 ≤ 600000; omega, by show slots + 0 + 0 ≤ 7302250; omega⟩ (fun H2 locs2 w hm hz2 => ?_)
  refine lv_icmp_eq (tgt := 1373) hx hb dL_law_607 (by decide) (fun q => ?_) (fun q => ?_)
  · exact W.widen (k := cells + 1513) (n := slots + 96832) (by omega) (by omega) (next (Aa) _ _ _ _ _ hda w hm (h1.setZ hz2) g2 hW2)
  · exact absurd rfl q
set_option maxHeartbeats 4000000 in
set_option maxRecDepth 100000 in
theorem lk_12 (cx : mCx p s m #[Value.ref b] meth c RL code (Cond.classLink RL 7 RX8 :: wsL_law) 4 ty) (hX : va_X b L xs s s.heap) (hbl : b < s.heap.size) (hbA : ¬ A b) (hi : 6 * i + 6 ≤ L) (hL : L ≤ 384) (hf1 : cells + 1513 ≤ 600000) (hf2 : slots + 96832 ≤ 7302250) (hl : lv_has ls 4 [(0, .ref b), (1, .ref (da 0)), (2, .ref (adm 100)), (3, .int (nI (6 * i)))]) (w : cWd D cs t0 A s P H locs) (hm : mX D cs adm A S P H) (hc : CC t0 da Aa P) (hM : MM Aa S) (hW : WF Aa) (next : LNx p l e s m b below meth c cells slots Q ls D cs t0 A adm da) : W p l e room_1 s m #[Value.ref b] below meth c H locs cells slots Q (F0 m 612 ls []) := by
  obtain ⟨hx, hb, hr, hts, hown, hlocks, hml⟩ := id cx
  have e1 := cq_ends hW hc (xs (6 * i + 1)) (xs (6 * i + 2))
  have h1 := hc
  have hda : da 0 = da 0 := rfl
  refine lv_aload_n hx hb dL_law_612 rfl (lv_at hl 1 rfl) ?_
  refine lw_arg (j := 1) cx hX hbl hbA w.2.2.2.2.1 (by omega) hL hl rfl dL_law_613 dL_law_614 dL_law_615 dL_law_616 dL_law_617 ?_
  refine lw_arg (j := 2) cx hX hbl hbA w.2.2.2.2.1 (by omega) hL hl rfl dL_law_618 dL_law_619 dL_law_620 dL_law_621 dL_law_622 ?_
  refine lc_i (cr_V (As := [.int (xs (6 * i + 1)), .int (xs (6 * i + 2))]) (rest := []) cx (hcc_X8_ends l D cs t0 P P (da 0) (xs (6 * i + 1)) (xs (6 * i + 2)) _ e1) kT9 hc.k0 (cwV 2 hts (uG uw_X8_ends ul_RL_65 ui_X8_ends us_RX8_X8_ends un_RX8) rfl rfl rfl ud_X8_ends ⟨Nat.le_of_ble_eq_true rfl, Nat.le_of_ble_eq_true rfl⟩) w rfl hl.1 rfl (Nat.le_of_ble_eq_true rfl) dL_law_623 ⟨by show cells + 0 ≤ 600000; omega, by show slots + 0 ≤ 7302250; omega⟩) hm (fun H1 locs1 w hm => ?_)
  refine lv_aload_n hx hb dL_law_626 rfl (lv_at hl 2 rfl) ?_
  refine lw_arg (j := 1) cx hX hbl hbA w.2.2.2.2.1 (by omega) hL hl rfl dL_law_627 dL_law_628 dL_law_629 dL_law_630 dL_law_631 ?_
  refine lw_arg (j := 2) cx hX hbl hbA w.2.2.2.2.1 (by omega) hL hl rfl dL_law_632 dL_law_633 dL_law_634 dL_law_635 dL_law_636 ?_
  obtain ⟨S1, e2, g2⟩ := mq_ends hW hM (xs (6 * i + 1)) (xs (6 * i + 2))
  have hW2 := hW
  refine lm_i (As := [.int (xs (6 * i + 1)), .int (xs (6 * i + 2))]) (rest := [.int (sEnds Aa (xs (6 * i + 1)) (xs (6 * i + 2)))]) cx (cc_ends l D cs adm S S1 (xs (6 * i + 1)) (xs (6 * i + 2)) _ e2) (cwV 2 hts (uG uw_X9_ends ul_RL_68 ui_X9_ends us_RX9_X9_ends un_RX9) rfl rfl rfl ud_X9_ends ⟨Nat.le_of_ble_eq_true rfl, Nat.le_of_ble_eq_true rfl⟩) w hm rfl hl.1 rfl (Nat.le_of_ble_eq_true rfl) dL_law_637 ⟨by show cells + 0 + 0 ≤ 600000; omega, by show slots + 0 + 0 ≤ 7302250; omega⟩ (fun H2 locs2 w hm hz2 => ?_)
  refine lv_icmp_eq (tgt := 1373) hx hb dL_law_640 (by decide) (fun q => ?_) (fun q => ?_)
  · exact W.widen (k := cells + 1513) (n := slots + 96832) (by omega) (by omega) (next (Aa) _ _ _ _ _ hda w hm (h1.setZ hz2) g2 hW2)
  · exact absurd rfl q
set_option maxHeartbeats 4000000 in
set_option maxRecDepth 100000 in
theorem lk_13 (cx : mCx p s m #[Value.ref b] meth c RL code (Cond.classLink RL 7 RX8 :: wsL_law) 4 ty) (hX : va_X b L xs s s.heap) (hbl : b < s.heap.size) (hbA : ¬ A b) (hi : 6 * i + 6 ≤ L) (hL : L ≤ 384) (hf1 : cells + 1513 ≤ 600000) (hf2 : slots + 96832 ≤ 7302250) (hl : lv_has ls 4 [(0, .ref b), (1, .ref (da 0)), (2, .ref (adm 100)), (3, .int (nI (6 * i)))]) (w : cWd D cs t0 A s P H locs) (hm : mX D cs adm A S P H) (hc : CC t0 da Aa P) (hM : MM Aa S) (hW : WF Aa) (next : LNx p l e s m b below meth c cells slots Q ls D cs t0 A adm da) : W p l e room_1 s m #[Value.ref b] below meth c H locs cells slots Q (F0 m 645 ls []) := by
  obtain ⟨hx, hb, hr, hts, hown, hlocks, hml⟩ := id cx
  have e1 := cq_cut hW hc (xs (6 * i + 1)) (xs (6 * i + 2)) (xs (6 * i + 3)) (xs (6 * i + 4))
  have h1 := hc
  have hda : da 0 = da 0 := rfl
  refine lv_aload_n hx hb dL_law_645 rfl (lv_at hl 1 rfl) ?_
  refine lw_arg (j := 1) cx hX hbl hbA w.2.2.2.2.1 (by omega) hL hl rfl dL_law_646 dL_law_647 dL_law_648 dL_law_649 dL_law_650 ?_
  refine lw_arg (j := 2) cx hX hbl hbA w.2.2.2.2.1 (by omega) hL hl rfl dL_law_651 dL_law_652 dL_law_653 dL_law_654 dL_law_655 ?_
  refine lw_arg (j := 3) cx hX hbl hbA w.2.2.2.2.1 (by omega) hL hl rfl dL_law_656 dL_law_657 dL_law_658 dL_law_659 dL_law_660 ?_
  refine lw_arg (j := 4) cx hX hbl hbA w.2.2.2.2.1 (by omega) hL hl rfl dL_law_661 dL_law_662 dL_law_663 dL_law_664 dL_law_665 ?_
  refine lc_i (cr_V (As := [.int (xs (6 * i + 1)), .int (xs (6 * i + 2)), .int (xs (6 * i + 3)), .int (xs (6 * i + 4))]) (rest := []) cx (hcc_X8_cut l D cs t0 P P (da 0) (xs (6 * i + 1)) (xs (6 * i + 2)) (xs (6 * i + 3)) (xs (6 * i + 4)) _ e1) kT9 hc.k0 (cwV 4 hts (uG uw_X8_cut ul_RL_69 ui_X8_cut us_RX8_X8_cut un_RX8) rfl rfl rfl ud_X8_cut ⟨Nat.le_of_ble_eq_true rfl, Nat.le_of_ble_eq_true rfl⟩) w rfl hl.1 rfl (Nat.le_of_ble_eq_true rfl) dL_law_666 ⟨by show cells + 0 ≤ 600000; omega, by show slots + 0 ≤ 7302250; omega⟩) hm (fun H1 locs1 w hm => ?_)
  refine lv_aload_n hx hb dL_law_669 rfl (lv_at hl 2 rfl) ?_
  refine lw_arg (j := 1) cx hX hbl hbA w.2.2.2.2.1 (by omega) hL hl rfl dL_law_670 dL_law_671 dL_law_672 dL_law_673 dL_law_674 ?_
  refine lw_arg (j := 2) cx hX hbl hbA w.2.2.2.2.1 (by omega) hL hl rfl dL_law_675 dL_law_676 dL_law_677 dL_law_678 dL_law_679 ?_
  refine lw_arg (j := 3) cx hX hbl hbA w.2.2.2.2.1 (by omega) hL hl rfl dL_law_680 dL_law_681 dL_law_682 dL_law_683 dL_law_684 ?_
  refine lw_arg (j := 4) cx hX hbl hbA w.2.2.2.2.1 (by omega) hL hl rfl dL_law_685 dL_law_686 dL_law_687 dL_law_688 dL_law_689 ?_
  obtain ⟨S1, e2, g2⟩ := mq_cut hW hM (xs (6 * i + 1)) (xs (6 * i + 2)) (xs (6 * i + 3)) (xs (6 * i + 4))
  have hW2 := hW
  refine lm_i (As := [.int (xs (6 * i + 1)), .int (xs (6 * i + 2)), .int (xs (6 * i + 3)), .int (xs (6 * i + 4))]) (rest := [.int (sCut Aa (xs (6 * i + 1)) (xs (6 * i + 2)) (xs (6 * i + 3)) (xs (6 * i + 4)))]) cx (cc_cut l D cs adm S S1 (xs (6 * i + 1)) (xs (6 * i + 2)) (xs (6 * i + 3)) (xs (6 * i + 4)) _ e2) (cwV 4 hts (uG uw_X9_cut ul_RL_72 ui_X9_cut us_RX9_X9_cut un_RX9) rfl rfl rfl ud_X9_cut ⟨Nat.le_of_ble_eq_true rfl, Nat.le_of_ble_eq_true rfl⟩) w hm rfl hl.1 rfl (Nat.le_of_ble_eq_true rfl) dL_law_690 ⟨by show cells + 0 + 0 ≤ 600000; omega, by show slots + 0 + 0 ≤ 7302250; omega⟩ (fun H2 locs2 w hm hz2 => ?_)
  refine lv_icmp_eq (tgt := 1373) hx hb dL_law_693 (by decide) (fun q => ?_) (fun q => ?_)
  · exact W.widen (k := cells + 1513) (n := slots + 96832) (by omega) (by omega) (next (Aa) _ _ _ _ _ hda w hm (h1.setZ hz2) g2 hW2)
  · exact absurd rfl q
set_option maxHeartbeats 4000000 in
set_option maxRecDepth 100000 in
theorem lk_14 (cx : mCx p s m #[Value.ref b] meth c RL code (Cond.classLink RL 7 RX8 :: wsL_law) 4 ty) (hX : va_X b L xs s s.heap) (hbl : b < s.heap.size) (hbA : ¬ A b) (hi : 6 * i + 6 ≤ L) (hL : L ≤ 384) (hf1 : cells + 1513 ≤ 600000) (hf2 : slots + 96832 ≤ 7302250) (hl : lv_has ls 4 [(0, .ref b), (1, .ref (da 0)), (2, .ref (adm 100)), (3, .int (nI (6 * i)))]) (w : cWd D cs t0 A s P H locs) (hm : mX D cs adm A S P H) (hc : CC t0 da Aa P) (hM : MM Aa S) (hW : WF Aa) (next : LNx p l e s m b below meth c cells slots Q ls D cs t0 A adm da) : W p l e room_1 s m #[Value.ref b] below meth c H locs cells slots Q (F0 m 698 ls []) := by
  obtain ⟨hx, hb, hr, hts, hown, hlocks, hml⟩ := id cx
  obtain ⟨P1, e1, h1⟩ := cq_opened hW hc (xs (6 * i + 1)) (xs (6 * i + 2))
  have hda : da 0 = da 0 := rfl
  refine lv_aload_n hx hb dL_law_698 rfl (lv_at hl 1 rfl) ?_
  refine lw_arg (j := 1) cx hX hbl hbA w.2.2.2.2.1 (by omega) hL hl rfl dL_law_699 dL_law_700 dL_law_701 dL_law_702 dL_law_703 ?_
  refine lw_arg (j := 2) cx hX hbl hbA w.2.2.2.2.1 (by omega) hL hl rfl dL_law_704 dL_law_705 dL_law_706 dL_law_707 dL_law_708 ?_
  refine lc_i (cr_V (As := [.int (xs (6 * i + 1)), .int (xs (6 * i + 2))]) (rest := []) cx (hcc_X8_opened l D cs t0 P P1 (da 0) (xs (6 * i + 1)) (xs (6 * i + 2)) _ e1) kT9 hc.k0 (cwV 2 hts (uG uw_X8_opened ul_RL_73 ui_X8_opened us_RX8_X8_opened un_RX8) rfl rfl rfl ud_X8_opened ⟨Nat.le_of_ble_eq_true rfl, Nat.le_of_ble_eq_true rfl⟩) w rfl hl.1 rfl (Nat.le_of_ble_eq_true rfl) dL_law_709 ⟨by show cells + 0 ≤ 600000; omega, by show slots + 0 ≤ 7302250; omega⟩) hm (fun H1 locs1 w hm => ?_)
  refine lv_aload_n hx hb dL_law_712 rfl (lv_at hl 2 rfl) ?_
  refine lw_arg (j := 1) cx hX hbl hbA w.2.2.2.2.1 (by omega) hL hl rfl dL_law_713 dL_law_714 dL_law_715 dL_law_716 dL_law_717 ?_
  refine lw_arg (j := 2) cx hX hbl hbA w.2.2.2.2.1 (by omega) hL hl rfl dL_law_718 dL_law_719 dL_law_720 dL_law_721 dL_law_722 ?_
  obtain ⟨S1, e2, g2⟩ := mq_opened hW hM (xs (6 * i + 1)) (xs (6 * i + 2))
  have hW2 := hW
  refine lm_i (As := [.int (xs (6 * i + 1)), .int (xs (6 * i + 2))]) (rest := [.int (sOpened Aa (xs (6 * i + 1)) (xs (6 * i + 2)))]) cx (cc_opened l D cs adm S S1 (xs (6 * i + 1)) (xs (6 * i + 2)) _ e2) (cwV 2 hts (uG uw_X9_opened ul_RL_76 ui_X9_opened us_RX9_X9_opened un_RX9) rfl rfl rfl ud_X9_opened ⟨Nat.le_of_ble_eq_true rfl, Nat.le_of_ble_eq_true rfl⟩) w hm rfl hl.1 rfl (Nat.le_of_ble_eq_true rfl) dL_law_723 ⟨by show cells + 0 + 0 ≤ 600000; omega, by show slots + 0 + 0 ≤ 7302250; omega⟩ (fun H2 locs2 w hm hz2 => ?_)
  refine lv_icmp_eq (tgt := 1373) hx hb dL_law_726 (by decide) (fun q => ?_) (fun q => ?_)
  · exact W.widen (k := cells + 1513) (n := slots + 96832) (by omega) (by omega) (next (Aa) _ _ _ _ _ hda w hm (h1.setZ hz2) g2 hW2)
  · exact absurd rfl q
set_option maxHeartbeats 4000000 in
set_option maxRecDepth 100000 in
theorem lk_15 (cx : mCx p s m #[Value.ref b] meth c RL code (Cond.classLink RL 7 RX8 :: wsL_law) 4 ty) (hX : va_X b L xs s s.heap) (hbl : b < s.heap.size) (hbA : ¬ A b) (hi : 6 * i + 6 ≤ L) (hL : L ≤ 384) (hf1 : cells + 1513 ≤ 600000) (hf2 : slots + 96832 ≤ 7302250) (hl : lv_has ls 4 [(0, .ref b), (1, .ref (da 0)), (2, .ref (adm 100)), (3, .int (nI (6 * i)))]) (w : cWd D cs t0 A s P H locs) (hm : mX D cs adm A S P H) (hc : CC t0 da Aa P) (hM : MM Aa S) (hW : WF Aa) (next : LNx p l e s m b below meth c cells slots Q ls D cs t0 A adm da) : W p l e room_1 s m #[Value.ref b] below meth c H locs cells slots Q (F0 m 731 ls []) := by
  obtain ⟨hx, hb, hr, hts, hown, hlocks, hml⟩ := id cx
  obtain ⟨P1, e1, h1⟩ := cq_proved hW hc (xs (6 * i + 1))
  have hda : da 0 = da 0 := rfl
  refine lv_aload_n hx hb dL_law_731 rfl (lv_at hl 1 rfl) ?_
  refine lw_arg (j := 1) cx hX hbl hbA w.2.2.2.2.1 (by omega) hL hl rfl dL_law_732 dL_law_733 dL_law_734 dL_law_735 dL_law_736 ?_
  refine lc_i (cr_V (As := [.int (xs (6 * i + 1))]) (rest := []) cx (hcc_X8_proved l D cs t0 P P1 (da 0) (xs (6 * i + 1)) _ e1) kT9 hc.k0 (cwV 1 hts (uG uw_X8_proved ul_RL_77 ui_X8_proved us_RX8_X8_proved un_RX8) rfl rfl rfl ud_X8_proved ⟨Nat.le_of_ble_eq_true rfl, Nat.le_of_ble_eq_true rfl⟩) w rfl hl.1 rfl (Nat.le_of_ble_eq_true rfl) dL_law_737 ⟨by show cells + 0 ≤ 600000; omega, by show slots + 0 ≤ 7302250; omega⟩) hm (fun H1 locs1 w hm => ?_)
  refine lv_aload_n hx hb dL_law_740 rfl (lv_at hl 2 rfl) ?_
  refine lw_arg (j := 1) cx hX hbl hbA w.2.2.2.2.1 (by omega) hL hl rfl dL_law_741 dL_law_742 dL_law_743 dL_law_744 dL_law_745 ?_
  obtain ⟨S1, e2, g2⟩ := mq_proved hW hM (xs (6 * i + 1))
  have hW2 := hW
  refine lm_i (As := [.int (xs (6 * i + 1))]) (rest := [.int (sProved Aa (xs (6 * i + 1)))]) cx (cc_proved l D cs adm S S1 (xs (6 * i + 1)) _ e2) (cwV 1 hts (uG uw_X9_proved ul_RL_80 ui_X9_proved us_RX9_X9_proved un_RX9) rfl rfl rfl ud_X9_proved ⟨Nat.le_of_ble_eq_true rfl, Nat.le_of_ble_eq_true rfl⟩) w hm rfl hl.1 rfl (Nat.le_of_ble_eq_true rfl) dL_law_746 ⟨by show cells + 0 + 0 ≤ 600000; omega, by show slots + 0 + 0 ≤ 7302250; omega⟩ (fun H2 locs2 w hm hz2 => ?_)
  refine lv_icmp_eq (tgt := 1373) hx hb dL_law_749 (by decide) (fun q => ?_) (fun q => ?_)
  · exact W.widen (k := cells + 1513) (n := slots + 96832) (by omega) (by omega) (next (Aa) _ _ _ _ _ hda w hm (h1.setZ hz2) g2 hW2)
  · exact absurd rfl q
end LWC
