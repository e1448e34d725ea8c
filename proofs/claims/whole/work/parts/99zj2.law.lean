/-! ===== the law: cases 7 to 13 (written by gen5.py) ===== -/
theorem dlw_506 : decode code 506 = .ok (.aload_n 1, 1) := by decide +kernel
theorem dlw_507 : decode code 507 = .ok (.aload_n 0, 1) := by decide +kernel
theorem dlw_508 : decode code 508 = .ok (.iload_n 3, 1) := by decide +kernel
theorem dlw_509 : decode code 509 = .ok (.iconst 1, 1) := by decide +kernel
theorem dlw_510 : decode code 510 = .ok (.iadd, 1) := by decide +kernel
theorem dlw_511 : decode code 511 = .ok (.iaload, 1) := by decide +kernel
theorem dlw_512 : decode code 512 = .ok (.aload_n 0, 1) := by decide +kernel
theorem dlw_513 : decode code 513 = .ok (.iload_n 3, 1) := by decide +kernel
theorem dlw_514 : decode code 514 = .ok (.iconst 2, 1) := by decide +kernel
theorem dlw_515 : decode code 515 = .ok (.iadd, 1) := by decide +kernel
theorem dlw_516 : decode code 516 = .ok (.iaload, 1) := by decide +kernel
theorem dlw_517 : decode code 517 = .ok (.aload_n 0, 1) := by decide +kernel
theorem dlw_518 : decode code 518 = .ok (.iload_n 3, 1) := by decide +kernel
theorem dlw_519 : decode code 519 = .ok (.iconst 3, 1) := by decide +kernel
theorem dlw_520 : decode code 520 = .ok (.iadd, 1) := by decide +kernel
theorem dlw_521 : decode code 521 = .ok (.iaload, 1) := by decide +kernel
theorem dlw_522 : decode code 522 = .ok (.aload_n 0, 1) := by decide +kernel
theorem dlw_523 : decode code 523 = .ok (.iload_n 3, 1) := by decide +kernel
theorem dlw_524 : decode code 524 = .ok (.iconst 4, 1) := by decide +kernel
theorem dlw_525 : decode code 525 = .ok (.iadd, 1) := by decide +kernel
theorem dlw_526 : decode code 526 = .ok (.iaload, 1) := by decide +kernel
theorem dlw_527 : decode code 527 = .ok (.aload_n 0, 1) := by decide +kernel
theorem dlw_528 : decode code 528 = .ok (.iload_n 3, 1) := by decide +kernel
theorem dlw_529 : decode code 529 = .ok (.iconst 5, 1) := by decide +kernel
theorem dlw_530 : decode code 530 = .ok (.iadd, 1) := by decide +kernel
theorem dlw_531 : decode code 531 = .ok (.iaload, 1) := by decide +kernel
theorem dlw_532 : decode code 532 = .ok (.invokevirtual 49, 3) := by decide +kernel
theorem dlw_535 : decode code 535 = .ok (.aload_n 2, 1) := by decide +kernel
theorem dlw_536 : decode code 536 = .ok (.aload_n 0, 1) := by decide +kernel
theorem dlw_537 : decode code 537 = .ok (.iload_n 3, 1) := by decide +kernel
theorem dlw_538 : decode code 538 = .ok (.iconst 1, 1) := by decide +kernel
theorem dlw_539 : decode code 539 = .ok (.iadd, 1) := by decide +kernel
theorem dlw_540 : decode code 540 = .ok (.iaload, 1) := by decide +kernel
theorem dlw_541 : decode code 541 = .ok (.aload_n 0, 1) := by decide +kernel
theorem dlw_542 : decode code 542 = .ok (.iload_n 3, 1) := by decide +kernel
theorem dlw_543 : decode code 543 = .ok (.iconst 2, 1) := by decide +kernel
theorem dlw_544 : decode code 544 = .ok (.iadd, 1) := by decide +kernel
theorem dlw_545 : decode code 545 = .ok (.iaload, 1) := by decide +kernel
theorem dlw_546 : decode code 546 = .ok (.aload_n 0, 1) := by decide +kernel
theorem dlw_547 : decode code 547 = .ok (.iload_n 3, 1) := by decide +kernel
theorem dlw_548 : decode code 548 = .ok (.iconst 3, 1) := by decide +kernel
theorem dlw_549 : decode code 549 = .ok (.iadd, 1) := by decide +kernel
theorem dlw_550 : decode code 550 = .ok (.iaload, 1) := by decide +kernel
theorem dlw_551 : decode code 551 = .ok (.aload_n 0, 1) := by decide +kernel
theorem dlw_552 : decode code 552 = .ok (.iload_n 3, 1) := by decide +kernel
theorem dlw_553 : decode code 553 = .ok (.iconst 4, 1) := by decide +kernel
theorem dlw_554 : decode code 554 = .ok (.iadd, 1) := by decide +kernel
theorem dlw_555 : decode code 555 = .ok (.iaload, 1) := by decide +kernel
theorem dlw_556 : decode code 556 = .ok (.aload_n 0, 1) := by decide +kernel
theorem dlw_557 : decode code 557 = .ok (.iload_n 3, 1) := by decide +kernel
theorem dlw_558 : decode code 558 = .ok (.iconst 5, 1) := by decide +kernel
theorem dlw_559 : decode code 559 = .ok (.iadd, 1) := by decide +kernel
theorem dlw_560 : decode code 560 = .ok (.iaload, 1) := by decide +kernel
theorem dlw_561 : decode code 561 = .ok (.invokevirtual 53, 3) := by decide +kernel
theorem dlw_564 : decode code 564 = .ok (.if_icmp .eq 1024, 3) := by decide +kernel
theorem lc_7 {l : Launch} {g : GG} {p : Program} {e : Env} {s : State} {m : MethodId} {b : Nat} {below : List Frame} {meth : Method} {c : Code} {Lc : Nat} {xs : Nat → Int32} {σ : SG} {k : Nat} (cx : LC g p s m b meth c Lc xs) (hk : k + 6 ≤ Lc) (hI : IVT σ) (nx : ∀ σ2, IVT σ2 → LX l g p e s m b below meth c 1588 [vA (-33), vA 0, vA 161, vI k] [] σ2) : LX l g p e s m b below meth c 506 [vA (-33), vA 0, vA 161, vI k] [] σ := by
  refine LX_aload_n cx dlw_506 rfl (by omega) ?_
  refine LX_arg cx (n := 1) rfl (by omega) dlw_507 dlw_508 dlw_509 dlw_510 dlw_511 ?_
  refine LX_arg cx (n := 2) rfl (by omega) dlw_512 dlw_513 dlw_514 dlw_515 dlw_516 ?_
  refine LX_arg cx (n := 3) rfl (by omega) dlw_517 dlw_518 dlw_519 dlw_520 dlw_521 ?_
  refine LX_arg cx (n := 4) rfl (by omega) dlw_522 dlw_523 dlw_524 dlw_525 dlw_526 ?_
  refine LX_arg cx (n := 5) rfl (by omega) dlw_527 dlw_528 dlw_529 dlw_530 dlw_531 ?_
  refine LX_callVI cx (d := 30) (N := M_X_feed) (As := [vI ((xs (k + 1)).toInt), vI ((xs (k + 2)).toInt), vI ((xs (k + 3)).toInt), vI ((xs (k + 4)).toInt), vI ((xs (k + 5)).toInt)]) rfl cv_X_feed rfl (tk3 53 rfl rfl) rfl (Nat.le_of_ble_eq_true rfl) (by decide) dlw_532 ob_0 ((c_feed (d := 0) hI).mono (fun r1 σ1 h1 => ?_))
  refine LX_aload_n cx dlw_535 rfl (by omega) ?_
  refine LX_arg cx (n := 1) rfl (by omega) dlw_536 dlw_537 dlw_538 dlw_539 dlw_540 ?_
  refine LX_arg cx (n := 2) rfl (by omega) dlw_541 dlw_542 dlw_543 dlw_544 dlw_545 ?_
  refine LX_arg cx (n := 3) rfl (by omega) dlw_546 dlw_547 dlw_548 dlw_549 dlw_550 ?_
  refine LX_arg cx (n := 4) rfl (by omega) dlw_551 dlw_552 dlw_553 dlw_554 dlw_555 ?_
  refine LX_arg cx (n := 5) rfl (by omega) dlw_556 dlw_557 dlw_558 dlw_559 dlw_560 ?_
  refine LX_callVI cx (d := 30) (N := M_R_feed) (As := [vI ((xs (k + 1)).toInt), vI ((xs (k + 2)).toInt), vI ((xs (k + 3)).toInt), vI ((xs (k + 4)).toInt), vI ((xs (k + 5)).toInt)]) rfl cv_R_feed rfl (tk7 216 rfl rfl) rfl (Nat.le_of_ble_eq_true rfl) (by decide) dlw_561 ob_161 (h1.mono (fun r2 σ2 h2 => ?_))
  exact LX_icmp_eq cx (tgt := 1588) dlw_564 (by omega) h2.1 (nx σ2 h2.2)
theorem dlw_569 : decode code 569 = .ok (.aload_n 1, 1) := by decide +kernel
theorem dlw_570 : decode code 570 = .ok (.aload_n 0, 1) := by decide +kernel
theorem dlw_571 : decode code 571 = .ok (.iload_n 3, 1) := by decide +kernel
theorem dlw_572 : decode code 572 = .ok (.iconst 1, 1) := by decide +kernel
theorem dlw_573 : decode code 573 = .ok (.iadd, 1) := by decide +kernel
theorem dlw_574 : decode code 574 = .ok (.iaload, 1) := by decide +kernel
theorem dlw_575 : decode code 575 = .ok (.invokevirtual 54, 3) := by decide +kernel
theorem dlw_578 : decode code 578 = .ok (.aload_n 2, 1) := by decide +kernel
theorem dlw_579 : decode code 579 = .ok (.aload_n 0, 1) := by decide +kernel
theorem dlw_580 : decode code 580 = .ok (.iload_n 3, 1) := by decide +kernel
theorem dlw_581 : decode code 581 = .ok (.iconst 1, 1) := by decide +kernel
theorem dlw_582 : decode code 582 = .ok (.iadd, 1) := by decide +kernel
theorem dlw_583 : decode code 583 = .ok (.iaload, 1) := by decide +kernel
theorem dlw_584 : decode code 584 = .ok (.invokevirtual 58, 3) := by decide +kernel
theorem dlw_587 : decode code 587 = .ok (.if_icmp .eq 1001, 3) := by decide +kernel
theorem lc_8 {l : Launch} {g : GG} {p : Program} {e : Env} {s : State} {m : MethodId} {b : Nat} {below : List Frame} {meth : Method} {c : Code} {Lc : Nat} {xs : Nat → Int32} {σ : SG} {k : Nat} (cx : LC g p s m b meth c Lc xs) (hk : k + 6 ≤ Lc) (hI : IVT σ) (nx : ∀ σ2, IVT σ2 → LX l g p e s m b below meth c 1588 [vA (-33), vA 0, vA 161, vI k] [] σ2) : LX l g p e s m b below meth c 569 [vA (-33), vA 0, vA 161, vI k] [] σ := by
  refine LX_aload_n cx dlw_569 rfl (by omega) ?_
  refine LX_arg cx (n := 1) rfl (by omega) dlw_570 dlw_571 dlw_572 dlw_573 dlw_574 ?_
  refine LX_callVI cx (d := 30) (N := M_X_world) (As := [vI ((xs (k + 1)).toInt)]) rfl cv_X_world rfl (tk3 61 rfl rfl) rfl (Nat.le_of_ble_eq_true rfl) (by decide) dlw_575 ob_0 ((c_world (d := 0) hI).mono (fun r1 σ1 h1 => ?_))
  refine LX_aload_n cx dlw_578 rfl (by omega) ?_
  refine LX_arg cx (n := 1) rfl (by omega) dlw_579 dlw_580 dlw_581 dlw_582 dlw_583 ?_
  refine LX_callVI cx (d := 30) (N := M_R_world) (As := [vI ((xs (k + 1)).toInt)]) rfl cv_R_world rfl (tk7 228 rfl rfl) rfl (Nat.le_of_ble_eq_true rfl) (by decide) dlw_584 ob_161 (h1.mono (fun r2 σ2 h2 => ?_))
  exact LX_icmp_eq cx (tgt := 1588) dlw_587 (by omega) h2.1 (nx σ2 h2.2)
theorem dlw_592 : decode code 592 = .ok (.aload_n 1, 1) := by decide +kernel
theorem dlw_593 : decode code 593 = .ok (.aload_n 0, 1) := by decide +kernel
theorem dlw_594 : decode code 594 = .ok (.iload_n 3, 1) := by decide +kernel
theorem dlw_595 : decode code 595 = .ok (.iconst 1, 1) := by decide +kernel
theorem dlw_596 : decode code 596 = .ok (.iadd, 1) := by decide +kernel
theorem dlw_597 : decode code 597 = .ok (.iaload, 1) := by decide +kernel
theorem dlw_598 : decode code 598 = .ok (.invokevirtual 59, 3) := by decide +kernel
theorem dlw_601 : decode code 601 = .ok (.aload_n 2, 1) := by decide +kernel
theorem dlw_602 : decode code 602 = .ok (.aload_n 0, 1) := by decide +kernel
theorem dlw_603 : decode code 603 = .ok (.iload_n 3, 1) := by decide +kernel
theorem dlw_604 : decode code 604 = .ok (.iconst 1, 1) := by decide +kernel
theorem dlw_605 : decode code 605 = .ok (.iadd, 1) := by decide +kernel
theorem dlw_606 : decode code 606 = .ok (.iaload, 1) := by decide +kernel
theorem dlw_607 : decode code 607 = .ok (.invokevirtual 62, 3) := by decide +kernel
theorem dlw_610 : decode code 610 = .ok (.if_icmp .eq 978, 3) := by decide +kernel
theorem lc_9 {l : Launch} {g : GG} {p : Program} {e : Env} {s : State} {m : MethodId} {b : Nat} {below : List Frame} {meth : Method} {c : Code} {Lc : Nat} {xs : Nat → Int32} {σ : SG} {k : Nat} (cx : LC g p s m b meth c Lc xs) (hk : k + 6 ≤ Lc) (hI : IVT σ) (nx : ∀ σ2, IVT σ2 → LX l g p e s m b below meth c 1588 [vA (-33), vA 0, vA 161, vI k] [] σ2) : LX l g p e s m b below meth c 592 [vA (-33), vA 0, vA 161, vI k] [] σ := by
  refine LX_aload_n cx dlw_592 rfl (by omega) ?_
  refine LX_arg cx (n := 1) rfl (by omega) dlw_593 dlw_594 dlw_595 dlw_596 dlw_597 ?_
  refine LX_callVI cx (d := 30) (N := M_X_script) (As := [vI ((xs (k + 1)).toInt)]) rfl cv_X_script rfl (tk3 212 rfl rfl) rfl (Nat.le_of_ble_eq_true rfl) (by decide) dlw_598 ob_0 ((c_script (d := 0) hI).mono (fun r1 σ1 h1 => ?_))
  refine LX_aload_n cx dlw_601 rfl (by omega) ?_
  refine LX_arg cx (n := 1) rfl (by omega) dlw_602 dlw_603 dlw_604 dlw_605 dlw_606 ?_
  refine LX_callVI cx (d := 30) (N := M_R_script) (As := [vI ((xs (k + 1)).toInt)]) rfl cv_R_script rfl (tk10 112 rfl rfl) rfl (Nat.le_of_ble_eq_true rfl) (by decide) dlw_607 ob_161 (h1.mono (fun r2 σ2 h2 => ?_))
  exact LX_icmp_eq cx (tgt := 1588) dlw_610 (by omega) h2.1 (nx σ2 h2.2)
theorem dlw_615 : decode code 615 = .ok (.aload_n 1, 1) := by decide +kernel
theorem dlw_616 : decode code 616 = .ok (.aload_n 0, 1) := by decide +kernel
theorem dlw_617 : decode code 617 = .ok (.iload_n 3, 1) := by decide +kernel
theorem dlw_618 : decode code 618 = .ok (.iconst 1, 1) := by decide +kernel
theorem dlw_619 : decode code 619 = .ok (.iadd, 1) := by decide +kernel
theorem dlw_620 : decode code 620 = .ok (.iaload, 1) := by decide +kernel
theorem dlw_621 : decode code 621 = .ok (.invokevirtual 63, 3) := by decide +kernel
theorem dlw_624 : decode code 624 = .ok (.aload_n 2, 1) := by decide +kernel
theorem dlw_625 : decode code 625 = .ok (.aload_n 0, 1) := by decide +kernel
theorem dlw_626 : decode code 626 = .ok (.iload_n 3, 1) := by decide +kernel
theorem dlw_627 : decode code 627 = .ok (.iconst 1, 1) := by decide +kernel
theorem dlw_628 : decode code 628 = .ok (.iadd, 1) := by decide +kernel
theorem dlw_629 : decode code 629 = .ok (.iaload, 1) := by decide +kernel
theorem dlw_630 : decode code 630 = .ok (.invokevirtual 66, 3) := by decide +kernel
theorem dlw_633 : decode code 633 = .ok (.if_icmp .eq 955, 3) := by decide +kernel
theorem lc_10 {l : Launch} {g : GG} {p : Program} {e : Env} {s : State} {m : MethodId} {b : Nat} {below : List Frame} {meth : Method} {c : Code} {Lc : Nat} {xs : Nat → Int32} {σ : SG} {k : Nat} (cx : LC g p s m b meth c Lc xs) (hk : k + 6 ≤ Lc) (hI : IVT σ) (nx : ∀ σ2, IVT σ2 → LX l g p e s m b below meth c 1588 [vA (-33), vA 0, vA 161, vI k] [] σ2) : LX l g p e s m b below meth c 615 [vA (-33), vA 0, vA 161, vI k] [] σ := by
  refine LX_aload_n cx dlw_615 rfl (by omega) ?_
  refine LX_arg cx (n := 1) rfl (by omega) dlw_616 dlw_617 dlw_618 dlw_619 dlw_620 ?_
  refine LX_callVI cx (d := 30) (N := M_X_fault) (As := [vI ((xs (k + 1)).toInt)]) rfl cv_X_fault rfl (tk4 33 rfl rfl) rfl (Nat.le_of_ble_eq_true rfl) (by decide) dlw_621 ob_0 ((c_fault (d := 0) hI).mono (fun r1 σ1 h1 => ?_))
  refine LX_aload_n cx dlw_624 rfl (by omega) ?_
  refine LX_arg cx (n := 1) rfl (by omega) dlw_625 dlw_626 dlw_627 dlw_628 dlw_629 ?_
  refine LX_callVI cx (d := 30) (N := M_R_fault) (As := [vI ((xs (k + 1)).toInt)]) rfl cv_R_fault rfl (tk7 224 rfl rfl) rfl (Nat.le_of_ble_eq_true rfl) (by decide) dlw_630 ob_161 (h1.mono (fun r2 σ2 h2 => ?_))
  exact LX_icmp_eq cx (tgt := 1588) dlw_633 (by omega) h2.1 (nx σ2 h2.2)
theorem dlw_638 : decode code 638 = .ok (.aload_n 1, 1) := by decide +kernel
theorem dlw_639 : decode code 639 = .ok (.aload_n 0, 1) := by decide +kernel
theorem dlw_640 : decode code 640 = .ok (.iload_n 3, 1) := by decide +kernel
theorem dlw_641 : decode code 641 = .ok (.iconst 1, 1) := by decide +kernel
theorem dlw_642 : decode code 642 = .ok (.iadd, 1) := by decide +kernel
theorem dlw_643 : decode code 643 = .ok (.iaload, 1) := by decide +kernel
theorem dlw_644 : decode code 644 = .ok (.invokevirtual 67, 3) := by decide +kernel
theorem dlw_647 : decode code 647 = .ok (.aload_n 2, 1) := by decide +kernel
theorem dlw_648 : decode code 648 = .ok (.aload_n 0, 1) := by decide +kernel
theorem dlw_649 : decode code 649 = .ok (.iload_n 3, 1) := by decide +kernel
theorem dlw_650 : decode code 650 = .ok (.iconst 1, 1) := by decide +kernel
theorem dlw_651 : decode code 651 = .ok (.iadd, 1) := by decide +kernel
theorem dlw_652 : decode code 652 = .ok (.iaload, 1) := by decide +kernel
theorem dlw_653 : decode code 653 = .ok (.invokevirtual 70, 3) := by decide +kernel
theorem dlw_656 : decode code 656 = .ok (.if_icmp .eq 932, 3) := by decide +kernel
theorem lc_11 {l : Launch} {g : GG} {p : Program} {e : Env} {s : State} {m : MethodId} {b : Nat} {below : List Frame} {meth : Method} {c : Code} {Lc : Nat} {xs : Nat → Int32} {σ : SG} {k : Nat} (cx : LC g p s m b meth c Lc xs) (hk : k + 6 ≤ Lc) (hI : IVT σ) (nx : ∀ σ2, IVT σ2 → LX l g p e s m b below meth c 1588 [vA (-33), vA 0, vA 161, vI k] [] σ2) : LX l g p e s m b below meth c 638 [vA (-33), vA 0, vA 161, vI k] [] σ := by
  refine LX_aload_n cx dlw_638 rfl (by omega) ?_
  refine LX_arg cx (n := 1) rfl (by omega) dlw_639 dlw_640 dlw_641 dlw_642 dlw_643 ?_
  refine LX_callVI cx (d := 30) (N := M_X_many) (As := [vI ((xs (k + 1)).toInt)]) rfl cv_X_many rfl (tk4 37 rfl rfl) rfl (Nat.le_of_ble_eq_true rfl) (by decide) dlw_644 ob_0 ((c_many (d := 0) hI).mono (fun r1 σ1 h1 => ?_))
  refine LX_aload_n cx dlw_647 rfl (by omega) ?_
  refine LX_arg cx (n := 1) rfl (by omega) dlw_648 dlw_649 dlw_650 dlw_651 dlw_652 ?_
  refine LX_callVI cx (d := 30) (N := M_R_many) (As := [vI ((xs (k + 1)).toInt)]) rfl cv_R_many rfl (tk8 104 rfl rfl) rfl (Nat.le_of_ble_eq_true rfl) (by decide) dlw_653 ob_161 (h1.mono (fun r2 σ2 h2 => ?_))
  exact LX_icmp_eq cx (tgt := 1588) dlw_656 (by omega) h2.1 (nx σ2 h2.2)
theorem dlw_661 : decode code 661 = .ok (.aload_n 1, 1) := by decide +kernel
theorem dlw_662 : decode code 662 = .ok (.aload_n 0, 1) := by decide +kernel
theorem dlw_663 : decode code 663 = .ok (.iload_n 3, 1) := by decide +kernel
theorem dlw_664 : decode code 664 = .ok (.iconst 1, 1) := by decide +kernel
theorem dlw_665 : decode code 665 = .ok (.iadd, 1) := by decide +kernel
theorem dlw_666 : decode code 666 = .ok (.iaload, 1) := by decide +kernel
theorem dlw_667 : decode code 667 = .ok (.aload_n 0, 1) := by decide +kernel
theorem dlw_668 : decode code 668 = .ok (.iload_n 3, 1) := by decide +kernel
theorem dlw_669 : decode code 669 = .ok (.iconst 2, 1) := by decide +kernel
theorem dlw_670 : decode code 670 = .ok (.iadd, 1) := by decide +kernel
theorem dlw_671 : decode code 671 = .ok (.iaload, 1) := by decide +kernel
theorem dlw_672 : decode code 672 = .ok (.aload_n 0, 1) := by decide +kernel
theorem dlw_673 : decode code 673 = .ok (.iload_n 3, 1) := by decide +kernel
theorem dlw_674 : decode code 674 = .ok (.iconst 3, 1) := by decide +kernel
theorem dlw_675 : decode code 675 = .ok (.iadd, 1) := by decide +kernel
theorem dlw_676 : decode code 676 = .ok (.iaload, 1) := by decide +kernel
theorem dlw_677 : decode code 677 = .ok (.invokevirtual 71, 3) := by decide +kernel
theorem dlw_680 : decode code 680 = .ok (.aload_n 2, 1) := by decide +kernel
theorem dlw_681 : decode code 681 = .ok (.aload_n 0, 1) := by decide +kernel
theorem dlw_682 : decode code 682 = .ok (.iload_n 3, 1) := by decide +kernel
theorem dlw_683 : decode code 683 = .ok (.iconst 1, 1) := by decide +kernel
theorem dlw_684 : decode code 684 = .ok (.iadd, 1) := by decide +kernel
theorem dlw_685 : decode code 685 = .ok (.iaload, 1) := by decide +kernel
theorem dlw_686 : decode code 686 = .ok (.aload_n 0, 1) := by decide +kernel
theorem dlw_687 : decode code 687 = .ok (.iload_n 3, 1) := by decide +kernel
theorem dlw_688 : decode code 688 = .ok (.iconst 2, 1) := by decide +kernel
theorem dlw_689 : decode code 689 = .ok (.iadd, 1) := by decide +kernel
theorem dlw_690 : decode code 690 = .ok (.iaload, 1) := by decide +kernel
theorem dlw_691 : decode code 691 = .ok (.aload_n 0, 1) := by decide +kernel
theorem dlw_692 : decode code 692 = .ok (.iload_n 3, 1) := by decide +kernel
theorem dlw_693 : decode code 693 = .ok (.iconst 3, 1) := by decide +kernel
theorem dlw_694 : decode code 694 = .ok (.iadd, 1) := by decide +kernel
theorem dlw_695 : decode code 695 = .ok (.iaload, 1) := by decide +kernel
theorem dlw_696 : decode code 696 = .ok (.invokevirtual 75, 3) := by decide +kernel
theorem dlw_699 : decode code 699 = .ok (.if_icmp .eq 889, 3) := by decide +kernel
theorem lc_12 {l : Launch} {g : GG} {p : Program} {e : Env} {s : State} {m : MethodId} {b : Nat} {below : List Frame} {meth : Method} {c : Code} {Lc : Nat} {xs : Nat → Int32} {σ : SG} {k : Nat} (cx : LC g p s m b meth c Lc xs) (hk : k + 6 ≤ Lc) (hI : IVT σ) (nx : ∀ σ2, IVT σ2 → LX l g p e s m b below meth c 1588 [vA (-33), vA 0, vA 161, vI k] [] σ2) : LX l g p e s m b below meth c 661 [vA (-33), vA 0, vA 161, vI k] [] σ := by
  refine LX_aload_n cx dlw_661 rfl (by omega) ?_
  refine LX_arg cx (n := 1) rfl (by omega) dlw_662 dlw_663 dlw_664 dlw_665 dlw_666 ?_
  refine LX_arg cx (n := 2) rfl (by omega) dlw_667 dlw_668 dlw_669 dlw_670 dlw_671 ?_
  refine LX_arg cx (n := 3) rfl (by omega) dlw_672 dlw_673 dlw_674 dlw_675 dlw_676 ?_
  refine LX_callVI cx (d := 30) (N := M_X_constant) (As := [vI ((xs (k + 1)).toInt), vI ((xs (k + 2)).toInt), vI ((xs (k + 3)).toInt)]) rfl cv_X_constant rfl (tk4 53 rfl rfl) rfl (Nat.le_of_ble_eq_true rfl) (by decide) dlw_677 ob_0 ((c_constant (d := 0) hI).mono (fun r1 σ1 h1 => ?_))
  refine LX_aload_n cx dlw_680 rfl (by omega) ?_
  refine LX_arg cx (n := 1) rfl (by omega) dlw_681 dlw_682 dlw_683 dlw_684 dlw_685 ?_
  refine LX_arg cx (n := 2) rfl (by omega) dlw_686 dlw_687 dlw_688 dlw_689 dlw_690 ?_
  refine LX_arg cx (n := 3) rfl (by omega) dlw_691 dlw_692 dlw_693 dlw_694 dlw_695 ?_
  refine LX_callVI cx (d := 30) (N := M_R_constant) (As := [vI ((xs (k + 1)).toInt), vI ((xs (k + 2)).toInt), vI ((xs (k + 3)).toInt)]) rfl cv_R_constant rfl (tk8 125 rfl rfl) rfl (Nat.le_of_ble_eq_true rfl) (by decide) dlw_696 ob_161 (h1.mono (fun r2 σ2 h2 => ?_))
  exact LX_icmp_eq cx (tgt := 1588) dlw_699 (by omega) h2.1 (nx σ2 h2.2)
theorem dlw_704 : decode code 704 = .ok (.aload_n 1, 1) := by decide +kernel
theorem dlw_705 : decode code 705 = .ok (.aload_n 0, 1) := by decide +kernel
theorem dlw_706 : decode code 706 = .ok (.iload_n 3, 1) := by decide +kernel
theorem dlw_707 : decode code 707 = .ok (.iconst 1, 1) := by decide +kernel
theorem dlw_708 : decode code 708 = .ok (.iadd, 1) := by decide +kernel
theorem dlw_709 : decode code 709 = .ok (.iaload, 1) := by decide +kernel
theorem dlw_710 : decode code 710 = .ok (.aload_n 0, 1) := by decide +kernel
theorem dlw_711 : decode code 711 = .ok (.iload_n 3, 1) := by decide +kernel
theorem dlw_712 : decode code 712 = .ok (.iconst 2, 1) := by decide +kernel
theorem dlw_713 : decode code 713 = .ok (.iadd, 1) := by decide +kernel
theorem dlw_714 : decode code 714 = .ok (.iaload, 1) := by decide +kernel
theorem dlw_715 : decode code 715 = .ok (.aload_n 0, 1) := by decide +kernel
theorem dlw_716 : decode code 716 = .ok (.iload_n 3, 1) := by decide +kernel
theorem dlw_717 : decode code 717 = .ok (.iconst 3, 1) := by decide +kernel
theorem dlw_718 : decode code 718 = .ok (.iadd, 1) := by decide +kernel
theorem dlw_719 : decode code 719 = .ok (.iaload, 1) := by decide +kernel
theorem dlw_720 : decode code 720 = .ok (.aload_n 0, 1) := by decide +kernel
theorem dlw_721 : decode code 721 = .ok (.iload_n 3, 1) := by decide +kernel
theorem dlw_722 : decode code 722 = .ok (.iconst 4, 1) := by decide +kernel
theorem dlw_723 : decode code 723 = .ok (.iadd, 1) := by decide +kernel
theorem dlw_724 : decode code 724 = .ok (.iaload, 1) := by decide +kernel
theorem dlw_725 : decode code 725 = .ok (.invokevirtual 76, 3) := by decide +kernel
theorem dlw_728 : decode code 728 = .ok (.aload_n 2, 1) := by decide +kernel
theorem dlw_729 : decode code 729 = .ok (.aload_n 0, 1) := by decide +kernel
theorem dlw_730 : decode code 730 = .ok (.iload_n 3, 1) := by decide +kernel
theorem dlw_731 : decode code 731 = .ok (.iconst 1, 1) := by decide +kernel
theorem dlw_732 : decode code 732 = .ok (.iadd, 1) := by decide +kernel
theorem dlw_733 : decode code 733 = .ok (.iaload, 1) := by decide +kernel
theorem dlw_734 : decode code 734 = .ok (.aload_n 0, 1) := by decide +kernel
theorem dlw_735 : decode code 735 = .ok (.iload_n 3, 1) := by decide +kernel
theorem dlw_736 : decode code 736 = .ok (.iconst 2, 1) := by decide +kernel
theorem dlw_737 : decode code 737 = .ok (.iadd, 1) := by decide +kernel
theorem dlw_738 : decode code 738 = .ok (.iaload, 1) := by decide +kernel
theorem dlw_739 : decode code 739 = .ok (.aload_n 0, 1) := by decide +kernel
theorem dlw_740 : decode code 740 = .ok (.iload_n 3, 1) := by decide +kernel
theorem dlw_741 : decode code 741 = .ok (.iconst 3, 1) := by decide +kernel
theorem dlw_742 : decode code 742 = .ok (.iadd, 1) := by decide +kernel
theorem dlw_743 : decode code 743 = .ok (.iaload, 1) := by decide +kernel
theorem dlw_744 : decode code 744 = .ok (.aload_n 0, 1) := by decide +kernel
theorem dlw_745 : decode code 745 = .ok (.iload_n 3, 1) := by decide +kernel
theorem dlw_746 : decode code 746 = .ok (.iconst 4, 1) := by decide +kernel
theorem dlw_747 : decode code 747 = .ok (.iadd, 1) := by decide +kernel
theorem dlw_748 : decode code 748 = .ok (.iaload, 1) := by decide +kernel
theorem dlw_749 : decode code 749 = .ok (.invokevirtual 80, 3) := by decide +kernel
theorem dlw_752 : decode code 752 = .ok (.if_icmp .eq 836, 3) := by decide +kernel
theorem lc_13 {l : Launch} {g : GG} {p : Program} {e : Env} {s : State} {m : MethodId} {b : Nat} {below : List Frame} {meth : Method} {c : Code} {Lc : Nat} {xs : Nat → Int32} {σ : SG} {k : Nat} (cx : LC g p s m b meth c Lc xs) (hk : k + 6 ≤ Lc) (hI : IVT σ) (nx : ∀ σ2, IVT σ2 → LX l g p e s m b below meth c 1588 [vA (-33), vA 0, vA 161, vI k] [] σ2) : LX l g p e s m b below meth c 704 [vA (-33), vA 0, vA 161, vI k] [] σ := by
  refine LX_aload_n cx dlw_704 rfl (by omega) ?_
  refine LX_arg cx (n := 1) rfl (by omega) dlw_705 dlw_706 dlw_707 dlw_708 dlw_709 ?_
  refine LX_arg cx (n := 2) rfl (by omega) dlw_710 dlw_711 dlw_712 dlw_713 dlw_714 ?_
  refine LX_arg cx (n := 3) rfl (by omega) dlw_715 dlw_716 dlw_717 dlw_718 dlw_719 ?_
  refine LX_arg cx (n := 4) rfl (by omega) dlw_720 dlw_721 dlw_722 dlw_723 dlw_724 ?_
  refine LX_callVI cx (d := 30) (N := M_X_put) (As := [vI ((xs (k + 1)).toInt), vI ((xs (k + 2)).toInt), vI ((xs (k + 3)).toInt), vI ((xs (k + 4)).toInt)]) rfl cv_X_put rfl (tk4 62 rfl rfl) rfl (Nat.le_of_ble_eq_true rfl) (by decide) dlw_725 ob_0 ((c_put (d := 0) hI).mono (fun r1 σ1 h1 => ?_))
  refine LX_aload_n cx dlw_728 rfl (by omega) ?_
  refine LX_arg cx (n := 1) rfl (by omega) dlw_729 dlw_730 dlw_731 dlw_732 dlw_733 ?_
  refine LX_arg cx (n := 2) rfl (by omega) dlw_734 dlw_735 dlw_736 dlw_737 dlw_738 ?_
  refine LX_arg cx (n := 3) rfl (by omega) dlw_739 dlw_740 dlw_741 dlw_742 dlw_743 ?_
  refine LX_arg cx (n := 4) rfl (by omega) dlw_744 dlw_745 dlw_746 dlw_747 dlw_748 ?_
  refine LX_callVI cx (d := 30) (N := M_R_put) (As := [vI ((xs (k + 1)).toInt), vI ((xs (k + 2)).toInt), vI ((xs (k + 3)).toInt), vI ((xs (k + 4)).toInt)]) rfl cv_R_put rfl (tk8 133 rfl rfl) rfl (Nat.le_of_ble_eq_true rfl) (by decide) dlw_749 ob_161 (h1.mono (fun r2 σ2 h2 => ?_))
  exact LX_icmp_eq cx (tgt := 1588) dlw_752 (by omega) h2.1 (nx σ2 h2.2)
