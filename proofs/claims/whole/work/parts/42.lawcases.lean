/-- an argument of the script, and one as a boolean -/
def sA (xs : Nat → Int32) (i : Int32) (j : Nat) : Int32 := xs (i + Int32.ofNat j).toNatClampNeg
def bA (xs : Nat → Int32) (i : Int32) (j : Nat) : Int32 := if sA xs i j = 0 then 0 else 1
/-- both sides asked the same: the same answer, and related again -/
def PairI (M1 M2 : Mth) (is : List Int32) (wc wr : Wd) : Prop := ClI SC M1 (.ref 0 :: is.map Value.int) wc (fun x wc' => ClI SR M2 (.ref 0 :: is.map Value.int) wr (fun y wr' => x = y ∧ RelE wc' wr'))
def PairL (M1 M2 : Mth) (is : List Int32) (wc wr : Wd) : Prop := ClL SC M1 (.ref 0 :: is.map Value.int) wc (fun x wc' => ClL SR M2 (.ref 0 :: is.map Value.int) wr (fun y wr' => x = y ∧ RelE wc' wr'))
theorem gl_re {L n pc : Nat} {xs : Nat → Int32} {lv : List (Nat × Value)} {st st2 : List Value} {wc wr : Wd} {o : Int64} (h : st = st2) (k : GoL L xs pc lv st2 n wc wr o) : GoL L xs pc lv st n wc wr o := by
  subst h
  exact k
theorem lg_eq0 {x y : Int64} (h : x = y) : lg_cmp x y = 0 := by
  subst h
  unfold lg_cmp
  rw [if_neg (fun q => absurd q (by simp)), if_pos rfl]
theorem gl_bool {L n pc pj : Nat} {xs : Nat → Int32} {lv : List (Nat × Value)} {st : List Value} {wc wr : Wd} {o : Int64} {x : Int32} {o1 o2 : Int} {t : Nat} (d1 : decode code pc = .ok (.ifCond .eq o1, 3)) (d2 : decode code (pc + 3) = .ok (.iconst 1, 1)) (d3 : decode code (pc + 4) = .ok (.goto o2, 3)) (d4 : decode code t = .ok (.iconst 0, 1)) (e1 : (pc : Int) + o1 = (t : Int)) (e2 : ((pc + 4 : Nat) : Int) + o2 = (pj : Int)) (e3 : t = pc + 7) (e4 : pj = t + 1)
    (k : GoL L xs pj lv (.int (if x = 0 then 0 else 1) :: st) n wc wr o) : GoL L xs pc lv (.int x :: st) n wc wr o := by
  refine gl_if_eq d1 e1 (fun q => ?_) (fun q => ?_)
  · rw [if_pos q] at k
    refine gl_iconst d4 c_0 ?_
    rw [← e4]
    exact k
  · rw [if_neg q] at k
    refine gl_iconst d2 c_1 ?_
    exact gl_goto d3 e2 k
theorem kL_19 : CAt R_law 19 mX10_feed 5 := ⟨Or.inl (inT 318 (by decide +kernel) rfl), inT 321 (by decide +kernel) rfl, inT 1 (by decide +kernel) rfl, ⟨by decide +kernel, by decide +kernel⟩, by decide +kernel, Nat.le_of_ble_eq_true rfl⟩
theorem vL_19 : Cond.instanceMethod mX10_feed.1 ∈ TBL ∧ Cond.selects mX10_feed.1.cls mX10_feed.1 mX10_feed.1 ∈ TBL := ⟨inT 319 (by decide +kernel) rfl, inT 320 (by decide +kernel) rfl⟩
theorem kL_23 : CAt R_law 23 mX11_feed 5 := ⟨Or.inl (inT 1358 (by decide +kernel) rfl), inT 1361 (by decide +kernel) rfl, inT 11 (by decide +kernel) rfl, ⟨by decide +kernel, by decide +kernel⟩, by decide +kernel, Nat.le_of_ble_eq_true rfl⟩
theorem vL_23 : Cond.instanceMethod mX11_feed.1 ∈ TBL ∧ Cond.selects mX11_feed.1.cls mX11_feed.1 mX11_feed.1 ∈ TBL := ⟨inT 1359 (by decide +kernel) rfl, inT 1360 (by decide +kernel) rfl⟩
theorem kL_24 : CAt R_law 24 mX10_hall 1 := ⟨Or.inl (inT 333 (by decide +kernel) rfl), inT 336 (by decide +kernel) rfl, inT 1 (by decide +kernel) rfl, ⟨by decide +kernel, by decide +kernel⟩, by decide +kernel, Nat.le_of_ble_eq_true rfl⟩
theorem vL_24 : Cond.instanceMethod mX10_hall.1 ∈ TBL ∧ Cond.selects mX10_hall.1.cls mX10_hall.1 mX10_hall.1 ∈ TBL := ⟨inT 334 (by decide +kernel) rfl, inT 335 (by decide +kernel) rfl⟩
theorem kL_27 : CAt R_law 27 mX11_hall 1 := ⟨Or.inl (inT 1362 (by decide +kernel) rfl), inT 1365 (by decide +kernel) rfl, inT 11 (by decide +kernel) rfl, ⟨by decide +kernel, by decide +kernel⟩, by decide +kernel, Nat.le_of_ble_eq_true rfl⟩
theorem vL_27 : Cond.instanceMethod mX11_hall.1 ∈ TBL ∧ Cond.selects mX11_hall.1.cls mX11_hall.1 mX11_hall.1 ∈ TBL := ⟨inT 1363 (by decide +kernel) rfl, inT 1364 (by decide +kernel) rfl⟩
theorem kL_28 : CAt R_law 28 mX10_fault 0 := ⟨Or.inl (inT 558 (by decide +kernel) rfl), inT 561 (by decide +kernel) rfl, inT 1 (by decide +kernel) rfl, ⟨by decide +kernel, by decide +kernel⟩, by decide +kernel, Nat.le_of_ble_eq_true rfl⟩
theorem vL_28 : Cond.instanceMethod mX10_fault.1 ∈ TBL ∧ Cond.selects mX10_fault.1.cls mX10_fault.1 mX10_fault.1 ∈ TBL := ⟨inT 559 (by decide +kernel) rfl, inT 560 (by decide +kernel) rfl⟩
theorem kL_32 : CAt R_law 32 mX11_fault 0 := ⟨Or.inl (inT 1487 (by decide +kernel) rfl), inT 1490 (by decide +kernel) rfl, inT 11 (by decide +kernel) rfl, ⟨by decide +kernel, by decide +kernel⟩, by decide +kernel, Nat.le_of_ble_eq_true rfl⟩
theorem vL_32 : Cond.instanceMethod mX11_fault.1 ∈ TBL ∧ Cond.selects mX11_fault.1.cls mX11_fault.1 mX11_fault.1 ∈ TBL := ⟨inT 1488 (by decide +kernel) rfl, inT 1489 (by decide +kernel) rfl⟩
theorem kL_33 : CAt R_law 33 mX10_where 0 := ⟨Or.inl (inT 562 (by decide +kernel) rfl), inT 565 (by decide +kernel) rfl, inT 1 (by decide +kernel) rfl, ⟨by decide +kernel, by decide +kernel⟩, by decide +kernel, Nat.le_of_ble_eq_true rfl⟩
theorem vL_33 : Cond.instanceMethod mX10_where.1 ∈ TBL ∧ Cond.selects mX10_where.1.cls mX10_where.1 mX10_where.1 ∈ TBL := ⟨inT 563 (by decide +kernel) rfl, inT 564 (by decide +kernel) rfl⟩
theorem kL_36 : CAt R_law 36 mX11_where 0 := ⟨Or.inl (inT 1491 (by decide +kernel) rfl), inT 1494 (by decide +kernel) rfl, inT 11 (by decide +kernel) rfl, ⟨by decide +kernel, by decide +kernel⟩, by decide +kernel, Nat.le_of_ble_eq_true rfl⟩
theorem vL_36 : Cond.instanceMethod mX11_where.1 ∈ TBL ∧ Cond.selects mX11_where.1.cls mX11_where.1 mX11_where.1 ∈ TBL := ⟨inT 1492 (by decide +kernel) rfl, inT 1493 (by decide +kernel) rfl⟩
theorem kL_37 : CAt R_law 37 mX10_upper 1 := ⟨Or.inl (inT 566 (by decide +kernel) rfl), inT 569 (by decide +kernel) rfl, inT 1 (by decide +kernel) rfl, ⟨by decide +kernel, by decide +kernel⟩, by decide +kernel, Nat.le_of_ble_eq_true rfl⟩
theorem vL_37 : Cond.instanceMethod mX10_upper.1 ∈ TBL ∧ Cond.selects mX10_upper.1.cls mX10_upper.1 mX10_upper.1 ∈ TBL := ⟨inT 567 (by decide +kernel) rfl, inT 568 (by decide +kernel) rfl⟩
theorem kL_40 : CAt R_law 40 mX11_upper 1 := ⟨Or.inl (inT 1495 (by decide +kernel) rfl), inT 1498 (by decide +kernel) rfl, inT 11 (by decide +kernel) rfl, ⟨by decide +kernel, by decide +kernel⟩, by decide +kernel, Nat.le_of_ble_eq_true rfl⟩
theorem vL_40 : Cond.instanceMethod mX11_upper.1 ∈ TBL ∧ Cond.selects mX11_upper.1.cls mX11_upper.1 mX11_upper.1 ∈ TBL := ⟨inT 1496 (by decide +kernel) rfl, inT 1497 (by decide +kernel) rfl⟩
theorem kL_41 : CAt R_law 41 mX10_lower 1 := ⟨Or.inl (inT 572 (by decide +kernel) rfl), inT 575 (by decide +kernel) rfl, inT 1 (by decide +kernel) rfl, ⟨by decide +kernel, by decide +kernel⟩, by decide +kernel, Nat.le_of_ble_eq_true rfl⟩
theorem vL_41 : Cond.instanceMethod mX10_lower.1 ∈ TBL ∧ Cond.selects mX10_lower.1.cls mX10_lower.1 mX10_lower.1 ∈ TBL := ⟨inT 573 (by decide +kernel) rfl, inT 574 (by decide +kernel) rfl⟩
theorem kL_44 : CAt R_law 44 mX11_lower 1 := ⟨Or.inl (inT 1508 (by decide +kernel) rfl), inT 1511 (by decide +kernel) rfl, inT 11 (by decide +kernel) rfl, ⟨by decide +kernel, by decide +kernel⟩, by decide +kernel, Nat.le_of_ble_eq_true rfl⟩
theorem vL_44 : Cond.instanceMethod mX11_lower.1 ∈ TBL ∧ Cond.selects mX11_lower.1.cls mX11_lower.1 mX11_lower.1 ∈ TBL := ⟨inT 1509 (by decide +kernel) rfl, inT 1510 (by decide +kernel) rfl⟩
theorem kL_45 : CAt R_law 45 mX10_end 2 := ⟨Or.inl (inT 576 (by decide +kernel) rfl), inT 579 (by decide +kernel) rfl, inT 1 (by decide +kernel) rfl, ⟨by decide +kernel, by decide +kernel⟩, by decide +kernel, Nat.le_of_ble_eq_true rfl⟩
theorem vL_45 : Cond.instanceMethod mX10_end.1 ∈ TBL ∧ Cond.selects mX10_end.1.cls mX10_end.1 mX10_end.1 ∈ TBL := ⟨inT 577 (by decide +kernel) rfl, inT 578 (by decide +kernel) rfl⟩
theorem kL_49 : CAt R_law 49 mX11_end 2 := ⟨Or.inl (inT 1512 (by decide +kernel) rfl), inT 1515 (by decide +kernel) rfl, inT 11 (by decide +kernel) rfl, ⟨by decide +kernel, by decide +kernel⟩, by decide +kernel, Nat.le_of_ble_eq_true rfl⟩
theorem vL_49 : Cond.instanceMethod mX11_end.1 ∈ TBL ∧ Cond.selects mX11_end.1.cls mX11_end.1 mX11_end.1 ∈ TBL := ⟨inT 1513 (by decide +kernel) rfl, inT 1514 (by decide +kernel) rfl⟩
theorem kL_50 : CAt R_law 50 mX10_parts 1 := ⟨Or.inl (inT 587 (by decide +kernel) rfl), inT 590 (by decide +kernel) rfl, inT 1 (by decide +kernel) rfl, ⟨by decide +kernel, by decide +kernel⟩, by decide +kernel, Nat.le_of_ble_eq_true rfl⟩
theorem vL_50 : Cond.instanceMethod mX10_parts.1 ∈ TBL ∧ Cond.selects mX10_parts.1.cls mX10_parts.1 mX10_parts.1 ∈ TBL := ⟨inT 588 (by decide +kernel) rfl, inT 589 (by decide +kernel) rfl⟩
theorem kL_53 : CAt R_law 53 mX11_parts 1 := ⟨Or.inl (inT 1524 (by decide +kernel) rfl), inT 1527 (by decide +kernel) rfl, inT 11 (by decide +kernel) rfl, ⟨by decide +kernel, by decide +kernel⟩, by decide +kernel, Nat.le_of_ble_eq_true rfl⟩
theorem vL_53 : Cond.instanceMethod mX11_parts.1 ∈ TBL ∧ Cond.selects mX11_parts.1.cls mX11_parts.1 mX11_parts.1 ∈ TBL := ⟨inT 1525 (by decide +kernel) rfl, inT 1526 (by decide +kernel) rfl⟩
theorem kL_54 : CAt R_law 54 mX10_part 2 := ⟨Or.inl (inT 596 (by decide +kernel) rfl), inT 599 (by decide +kernel) rfl, inT 1 (by decide +kernel) rfl, ⟨by decide +kernel, by decide +kernel⟩, by decide +kernel, Nat.le_of_ble_eq_true rfl⟩
theorem vL_54 : Cond.instanceMethod mX10_part.1 ∈ TBL ∧ Cond.selects mX10_part.1.cls mX10_part.1 mX10_part.1 ∈ TBL := ⟨inT 597 (by decide +kernel) rfl, inT 598 (by decide +kernel) rfl⟩
theorem kL_57 : CAt R_law 57 mX11_part 2 := ⟨Or.inl (inT 1532 (by decide +kernel) rfl), inT 1535 (by decide +kernel) rfl, inT 11 (by decide +kernel) rfl, ⟨by decide +kernel, by decide +kernel⟩, by decide +kernel, Nat.le_of_ble_eq_true rfl⟩
theorem vL_57 : Cond.instanceMethod mX11_part.1 ∈ TBL ∧ Cond.selects mX11_part.1.cls mX11_part.1 mX11_part.1 ∈ TBL := ⟨inT 1533 (by decide +kernel) rfl, inT 1534 (by decide +kernel) rfl⟩
theorem kL_58 : CAt R_law 58 mX10_crossings 1 := ⟨Or.inl (inT 604 (by decide +kernel) rfl), inT 607 (by decide +kernel) rfl, inT 1 (by decide +kernel) rfl, ⟨by decide +kernel, by decide +kernel⟩, by decide +kernel, Nat.le_of_ble_eq_true rfl⟩
theorem vL_58 : Cond.instanceMethod mX10_crossings.1 ∈ TBL ∧ Cond.selects mX10_crossings.1.cls mX10_crossings.1 mX10_crossings.1 ∈ TBL := ⟨inT 605 (by decide +kernel) rfl, inT 606 (by decide +kernel) rfl⟩
theorem kL_61 : CAt R_law 61 mX11_crossings 1 := ⟨Or.inl (inT 1536 (by decide +kernel) rfl), inT 1539 (by decide +kernel) rfl, inT 11 (by decide +kernel) rfl, ⟨by decide +kernel, by decide +kernel⟩, by decide +kernel, Nat.le_of_ble_eq_true rfl⟩
theorem vL_61 : Cond.instanceMethod mX11_crossings.1 ∈ TBL ∧ Cond.selects mX11_crossings.1.cls mX11_crossings.1 mX11_crossings.1 ∈ TBL := ⟨inT 1537 (by decide +kernel) rfl, inT 1538 (by decide +kernel) rfl⟩
theorem kL_62 : CAt R_law 62 mX10_figures 1 := ⟨Or.inl (inT 612 (by decide +kernel) rfl), inT 615 (by decide +kernel) rfl, inT 1 (by decide +kernel) rfl, ⟨by decide +kernel, by decide +kernel⟩, by decide +kernel, Nat.le_of_ble_eq_true rfl⟩
theorem vL_62 : Cond.instanceMethod mX10_figures.1 ∈ TBL ∧ Cond.selects mX10_figures.1.cls mX10_figures.1 mX10_figures.1 ∈ TBL := ⟨inT 613 (by decide +kernel) rfl, inT 614 (by decide +kernel) rfl⟩
theorem kL_65 : CAt R_law 65 mX11_figures 1 := ⟨Or.inl (inT 1540 (by decide +kernel) rfl), inT 1543 (by decide +kernel) rfl, inT 11 (by decide +kernel) rfl, ⟨by decide +kernel, by decide +kernel⟩, by decide +kernel, Nat.le_of_ble_eq_true rfl⟩
theorem vL_65 : Cond.instanceMethod mX11_figures.1 ∈ TBL ∧ Cond.selects mX11_figures.1.cls mX11_figures.1 mX11_figures.1 ∈ TBL := ⟨inT 1541 (by decide +kernel) rfl, inT 1542 (by decide +kernel) rfl⟩
theorem kL_66 : CAt R_law 66 mX10_figure 2 := ⟨Or.inl (inT 616 (by decide +kernel) rfl), inT 619 (by decide +kernel) rfl, inT 1 (by decide +kernel) rfl, ⟨by decide +kernel, by decide +kernel⟩, by decide +kernel, Nat.le_of_ble_eq_true rfl⟩
theorem vL_66 : Cond.instanceMethod mX10_figure.1 ∈ TBL ∧ Cond.selects mX10_figure.1.cls mX10_figure.1 mX10_figure.1 ∈ TBL := ⟨inT 617 (by decide +kernel) rfl, inT 618 (by decide +kernel) rfl⟩
theorem kL_69 : CAt R_law 69 mX11_figure 2 := ⟨Or.inl (inT 1544 (by decide +kernel) rfl), inT 1547 (by decide +kernel) rfl, inT 11 (by decide +kernel) rfl, ⟨by decide +kernel, by decide +kernel⟩, by decide +kernel, Nat.le_of_ble_eq_true rfl⟩
theorem vL_69 : Cond.instanceMethod mX11_figure.1 ∈ TBL ∧ Cond.selects mX11_figure.1.cls mX11_figure.1 mX11_figure.1 ∈ TBL := ⟨inT 1545 (by decide +kernel) rfl, inT 1546 (by decide +kernel) rfl⟩
theorem kL_70 : CAt R_law 70 mX10_upperAfter 2 := ⟨Or.inl (inT 624 (by decide +kernel) rfl), inT 627 (by decide +kernel) rfl, inT 1 (by decide +kernel) rfl, ⟨by decide +kernel, by decide +kernel⟩, by decide +kernel, Nat.le_of_ble_eq_true rfl⟩
theorem vL_70 : Cond.instanceMethod mX10_upperAfter.1 ∈ TBL ∧ Cond.selects mX10_upperAfter.1.cls mX10_upperAfter.1 mX10_upperAfter.1 ∈ TBL := ⟨inT 625 (by decide +kernel) rfl, inT 626 (by decide +kernel) rfl⟩
theorem kL_73 : CAt R_law 73 mX11_upperAfter 2 := ⟨Or.inl (inT 1548 (by decide +kernel) rfl), inT 1551 (by decide +kernel) rfl, inT 11 (by decide +kernel) rfl, ⟨by decide +kernel, by decide +kernel⟩, by decide +kernel, Nat.le_of_ble_eq_true rfl⟩
theorem vL_73 : Cond.instanceMethod mX11_upperAfter.1 ∈ TBL ∧ Cond.selects mX11_upperAfter.1.cls mX11_upperAfter.1 mX11_upperAfter.1 ∈ TBL := ⟨inT 1549 (by decide +kernel) rfl, inT 1550 (by decide +kernel) rfl⟩
theorem kL_74 : CAt R_law 74 mX10_lowerAfter 2 := ⟨Or.inl (inT 633 (by decide +kernel) rfl), inT 636 (by decide +kernel) rfl, inT 1 (by decide +kernel) rfl, ⟨by decide +kernel, by decide +kernel⟩, by decide +kernel, Nat.le_of_ble_eq_true rfl⟩
theorem vL_74 : Cond.instanceMethod mX10_lowerAfter.1 ∈ TBL ∧ Cond.selects mX10_lowerAfter.1.cls mX10_lowerAfter.1 mX10_lowerAfter.1 ∈ TBL := ⟨inT 634 (by decide +kernel) rfl, inT 635 (by decide +kernel) rfl⟩
theorem kL_77 : CAt R_law 77 mX11_lowerAfter 2 := ⟨Or.inl (inT 1556 (by decide +kernel) rfl), inT 1559 (by decide +kernel) rfl, inT 11 (by decide +kernel) rfl, ⟨by decide +kernel, by decide +kernel⟩, by decide +kernel, Nat.le_of_ble_eq_true rfl⟩
theorem vL_77 : Cond.instanceMethod mX11_lowerAfter.1 ∈ TBL ∧ Cond.selects mX11_lowerAfter.1.cls mX11_lowerAfter.1 mX11_lowerAfter.1 ∈ TBL := ⟨inT 1557 (by decide +kernel) rfl, inT 1558 (by decide +kernel) rfl⟩
theorem kL_78 : CAt R_law 78 mX10_mostAt 1 := ⟨Or.inl (inT 637 (by decide +kernel) rfl), inT 640 (by decide +kernel) rfl, inT 1 (by decide +kernel) rfl, ⟨by decide +kernel, by decide +kernel⟩, by decide +kernel, Nat.le_of_ble_eq_true rfl⟩
theorem vL_78 : Cond.instanceMethod mX10_mostAt.1 ∈ TBL ∧ Cond.selects mX10_mostAt.1.cls mX10_mostAt.1 mX10_mostAt.1 ∈ TBL := ⟨inT 638 (by decide +kernel) rfl, inT 639 (by decide +kernel) rfl⟩
theorem kL_81 : CAt R_law 81 mX11_mostAt 1 := ⟨Or.inl (inT 1560 (by decide +kernel) rfl), inT 1563 (by decide +kernel) rfl, inT 11 (by decide +kernel) rfl, ⟨by decide +kernel, by decide +kernel⟩, by decide +kernel, Nat.le_of_ble_eq_true rfl⟩
theorem vL_81 : Cond.instanceMethod mX11_mostAt.1 ∈ TBL ∧ Cond.selects mX11_mostAt.1.cls mX11_mostAt.1 mX11_mostAt.1 ∈ TBL := ⟨inT 1561 (by decide +kernel) rfl, inT 1562 (by decide +kernel) rfl⟩
theorem kL_82 : CAt R_law 82 mX10_goesFirst 3 := ⟨Or.inl (inT 641 (by decide +kernel) rfl), inT 644 (by decide +kernel) rfl, inT 1 (by decide +kernel) rfl, ⟨by decide +kernel, by decide +kernel⟩, by decide +kernel, Nat.le_of_ble_eq_true rfl⟩
theorem vL_82 : Cond.instanceMethod mX10_goesFirst.1 ∈ TBL ∧ Cond.selects mX10_goesFirst.1.cls mX10_goesFirst.1 mX10_goesFirst.1 ∈ TBL := ⟨inT 642 (by decide +kernel) rfl, inT 643 (by decide +kernel) rfl⟩
theorem kL_86 : CAt R_law 86 mX11_goesFirst 3 := ⟨Or.inl (inT 1564 (by decide +kernel) rfl), inT 1567 (by decide +kernel) rfl, inT 11 (by decide +kernel) rfl, ⟨by decide +kernel, by decide +kernel⟩, by decide +kernel, Nat.le_of_ble_eq_true rfl⟩
theorem vL_86 : Cond.instanceMethod mX11_goesFirst.1 ∈ TBL ∧ Cond.selects mX11_goesFirst.1.cls mX11_goesFirst.1 mX11_goesFirst.1 ∈ TBL := ⟨inT 1565 (by decide +kernel) rfl, inT 1566 (by decide +kernel) rfl⟩
theorem kL_87 : CAt R_law 87 mX10_again 1 := ⟨Or.inl (inT 648 (by decide +kernel) rfl), inT 651 (by decide +kernel) rfl, inT 1 (by decide +kernel) rfl, ⟨by decide +kernel, by decide +kernel⟩, by decide +kernel, Nat.le_of_ble_eq_true rfl⟩
theorem vL_87 : Cond.instanceMethod mX10_again.1 ∈ TBL ∧ Cond.selects mX10_again.1.cls mX10_again.1 mX10_again.1 ∈ TBL := ⟨inT 649 (by decide +kernel) rfl, inT 650 (by decide +kernel) rfl⟩
theorem kL_90 : CAt R_law 90 mX11_again 1 := ⟨Or.inl (inT 1572 (by decide +kernel) rfl), inT 1575 (by decide +kernel) rfl, inT 11 (by decide +kernel) rfl, ⟨by decide +kernel, by decide +kernel⟩, by decide +kernel, Nat.le_of_ble_eq_true rfl⟩
theorem vL_90 : Cond.instanceMethod mX11_again.1 ∈ TBL ∧ Cond.selects mX11_again.1.cls mX11_again.1 mX11_again.1 ∈ TBL := ⟨inT 1573 (by decide +kernel) rfl, inT 1574 (by decide +kernel) rfl⟩
theorem kL_91 : CAt R_law 91 mX10_trace 1 := ⟨Or.inl (inT 664 (by decide +kernel) rfl), inT 667 (by decide +kernel) rfl, inT 1 (by decide +kernel) rfl, ⟨by decide +kernel, by decide +kernel⟩, by decide +kernel, Nat.le_of_ble_eq_true rfl⟩
theorem vL_91 : Cond.instanceMethod mX10_trace.1 ∈ TBL ∧ Cond.selects mX10_trace.1.cls mX10_trace.1 mX10_trace.1 ∈ TBL := ⟨inT 665 (by decide +kernel) rfl, inT 666 (by decide +kernel) rfl⟩
theorem kL_94 : CAt R_law 94 mX11_trace 1 := ⟨Or.inl (inT 1588 (by decide +kernel) rfl), inT 1591 (by decide +kernel) rfl, inT 11 (by decide +kernel) rfl, ⟨by decide +kernel, by decide +kernel⟩, by decide +kernel, Nat.le_of_ble_eq_true rfl⟩
theorem vL_94 : Cond.instanceMethod mX11_trace.1 ∈ TBL ∧ Cond.selects mX11_trace.1.cls mX11_trace.1 mX11_trace.1 ∈ TBL := ⟨inT 1589 (by decide +kernel) rfl, inT 1590 (by decide +kernel) rfl⟩
theorem kL_95 : CAt R_law 95 mX10_sameDance 2 := ⟨Or.inl (inT 678 (by decide +kernel) rfl), inT 681 (by decide +kernel) rfl, inT 1 (by decide +kernel) rfl, ⟨by decide +kernel, by decide +kernel⟩, by decide +kernel, Nat.le_of_ble_eq_true rfl⟩
theorem vL_95 : Cond.instanceMethod mX10_sameDance.1 ∈ TBL ∧ Cond.selects mX10_sameDance.1.cls mX10_sameDance.1 mX10_sameDance.1 ∈ TBL := ⟨inT 679 (by decide +kernel) rfl, inT 680 (by decide +kernel) rfl⟩
theorem kL_98 : CAt R_law 98 mX11_sameDance 2 := ⟨Or.inl (inT 1596 (by decide +kernel) rfl), inT 1599 (by decide +kernel) rfl, inT 11 (by decide +kernel) rfl, ⟨by decide +kernel, by decide +kernel⟩, by decide +kernel, Nat.le_of_ble_eq_true rfl⟩
theorem vL_98 : Cond.instanceMethod mX11_sameDance.1 ∈ TBL ∧ Cond.selects mX11_sameDance.1.cls mX11_sameDance.1 mX11_sameDance.1 ∈ TBL := ⟨inT 1597 (by decide +kernel) rfl, inT 1598 (by decide +kernel) rfl⟩
theorem kL_99 : CAt R_law 99 mX10_untie 1 := ⟨Or.inl (inT 690 (by decide +kernel) rfl), inT 693 (by decide +kernel) rfl, inT 1 (by decide +kernel) rfl, ⟨by decide +kernel, by decide +kernel⟩, by decide +kernel, Nat.le_of_ble_eq_true rfl⟩
theorem vL_99 : Cond.instanceMethod mX10_untie.1 ∈ TBL ∧ Cond.selects mX10_untie.1.cls mX10_untie.1 mX10_untie.1 ∈ TBL := ⟨inT 691 (by decide +kernel) rfl, inT 692 (by decide +kernel) rfl⟩
theorem kL_102 : CAt R_law 102 mX11_untie 1 := ⟨Or.inl (inT 1600 (by decide +kernel) rfl), inT 1603 (by decide +kernel) rfl, inT 11 (by decide +kernel) rfl, ⟨by decide +kernel, by decide +kernel⟩, by decide +kernel, Nat.le_of_ble_eq_true rfl⟩
theorem vL_102 : Cond.instanceMethod mX11_untie.1 ∈ TBL ∧ Cond.selects mX11_untie.1.cls mX11_untie.1 mX11_untie.1 ∈ TBL := ⟨inT 1601 (by decide +kernel) rfl, inT 1602 (by decide +kernel) rfl⟩
theorem kL_103 : CAt R_law 103 mX10_turnsOf 1 := ⟨Or.inl (inT 708 (by decide +kernel) rfl), inT 711 (by decide +kernel) rfl, inT 1 (by decide +kernel) rfl, ⟨by decide +kernel, by decide +kernel⟩, by decide +kernel, Nat.le_of_ble_eq_true rfl⟩
theorem vL_103 : Cond.instanceMethod mX10_turnsOf.1 ∈ TBL ∧ Cond.selects mX10_turnsOf.1.cls mX10_turnsOf.1 mX10_turnsOf.1 ∈ TBL := ⟨inT 709 (by decide +kernel) rfl, inT 710 (by decide +kernel) rfl⟩
theorem kL_106 : CAt R_law 106 mX11_turnsOf 1 := ⟨Or.inl (inT 1608 (by decide +kernel) rfl), inT 1611 (by decide +kernel) rfl, inT 11 (by decide +kernel) rfl, ⟨by decide +kernel, by decide +kernel⟩, by decide +kernel, Nat.le_of_ble_eq_true rfl⟩
theorem vL_106 : Cond.instanceMethod mX11_turnsOf.1 ∈ TBL ∧ Cond.selects mX11_turnsOf.1.cls mX11_turnsOf.1 mX11_turnsOf.1 ∈ TBL := ⟨inT 1609 (by decide +kernel) rfl, inT 1610 (by decide +kernel) rfl⟩
theorem kL_107 : CAt R_law 107 mX10_untieAt 2 := ⟨Or.inl (inT 712 (by decide +kernel) rfl), inT 715 (by decide +kernel) rfl, inT 1 (by decide +kernel) rfl, ⟨by decide +kernel, by decide +kernel⟩, by decide +kernel, Nat.le_of_ble_eq_true rfl⟩
theorem vL_107 : Cond.instanceMethod mX10_untieAt.1 ∈ TBL ∧ Cond.selects mX10_untieAt.1.cls mX10_untieAt.1 mX10_untieAt.1 ∈ TBL := ⟨inT 713 (by decide +kernel) rfl, inT 714 (by decide +kernel) rfl⟩
theorem kL_110 : CAt R_law 110 mX11_untieAt 2 := ⟨Or.inl (inT 1612 (by decide +kernel) rfl), inT 1615 (by decide +kernel) rfl, inT 11 (by decide +kernel) rfl, ⟨by decide +kernel, by decide +kernel⟩, by decide +kernel, Nat.le_of_ble_eq_true rfl⟩
theorem vL_110 : Cond.instanceMethod mX11_untieAt.1 ∈ TBL ∧ Cond.selects mX11_untieAt.1.cls mX11_untieAt.1 mX11_untieAt.1 ∈ TBL := ⟨inT 1613 (by decide +kernel) rfl, inT 1614 (by decide +kernel) rfl⟩
theorem kL_111 : CAt R_law 111 mX10_widest 1 := ⟨Or.inl (inT 716 (by decide +kernel) rfl), inT 719 (by decide +kernel) rfl, inT 1 (by decide +kernel) rfl, ⟨by decide +kernel, by decide +kernel⟩, by decide +kernel, Nat.le_of_ble_eq_true rfl⟩
theorem vL_111 : Cond.instanceMethod mX10_widest.1 ∈ TBL ∧ Cond.selects mX10_widest.1.cls mX10_widest.1 mX10_widest.1 ∈ TBL := ⟨inT 717 (by decide +kernel) rfl, inT 718 (by decide +kernel) rfl⟩
theorem kL_114 : CAt R_law 114 mX11_widest 1 := ⟨Or.inl (inT 1616 (by decide +kernel) rfl), inT 1619 (by decide +kernel) rfl, inT 11 (by decide +kernel) rfl, ⟨by decide +kernel, by decide +kernel⟩, by decide +kernel, Nat.le_of_ble_eq_true rfl⟩
theorem vL_114 : Cond.instanceMethod mX11_widest.1 ∈ TBL ∧ Cond.selects mX11_widest.1.cls mX11_widest.1 mX11_widest.1 ∈ TBL := ⟨inT 1617 (by decide +kernel) rfl, inT 1618 (by decide +kernel) rfl⟩
theorem kL_115 : CAt R_law 115 mX10_come 3 := ⟨Or.inl (inT 723 (by decide +kernel) rfl), inT 726 (by decide +kernel) rfl, inT 1 (by decide +kernel) rfl, ⟨by decide +kernel, by decide +kernel⟩, by decide +kernel, Nat.le_of_ble_eq_true rfl⟩
theorem vL_115 : Cond.instanceMethod mX10_come.1 ∈ TBL ∧ Cond.selects mX10_come.1.cls mX10_come.1 mX10_come.1 ∈ TBL := ⟨inT 724 (by decide +kernel) rfl, inT 725 (by decide +kernel) rfl⟩
theorem kL_118 : CAt R_law 118 mX11_come 3 := ⟨Or.inl (inT 1620 (by decide +kernel) rfl), inT 1623 (by decide +kernel) rfl, inT 11 (by decide +kernel) rfl, ⟨by decide +kernel, by decide +kernel⟩, by decide +kernel, Nat.le_of_ble_eq_true rfl⟩
theorem vL_118 : Cond.instanceMethod mX11_come.1 ∈ TBL ∧ Cond.selects mX11_come.1.cls mX11_come.1 mX11_come.1 ∈ TBL := ⟨inT 1621 (by decide +kernel) rfl, inT 1622 (by decide +kernel) rfl⟩
theorem kL_119 : CAt R_law 119 mX10_comeRow 3 := ⟨Or.inl (inT 757 (by decide +kernel) rfl), inT 760 (by decide +kernel) rfl, inT 1 (by decide +kernel) rfl, ⟨by decide +kernel, by decide +kernel⟩, by decide +kernel, Nat.le_of_ble_eq_true rfl⟩
theorem vL_119 : Cond.instanceMethod mX10_comeRow.1 ∈ TBL ∧ Cond.selects mX10_comeRow.1.cls mX10_comeRow.1 mX10_comeRow.1 ∈ TBL := ⟨inT 758 (by decide +kernel) rfl, inT 759 (by decide +kernel) rfl⟩
theorem kL_122 : CAt R_law 122 mX11_comeRow 3 := ⟨Or.inl (inT 1647 (by decide +kernel) rfl), inT 1650 (by decide +kernel) rfl, inT 11 (by decide +kernel) rfl, ⟨by decide +kernel, by decide +kernel⟩, by decide +kernel, Nat.le_of_ble_eq_true rfl⟩
theorem vL_122 : Cond.instanceMethod mX11_comeRow.1 ∈ TBL ∧ Cond.selects mX11_comeRow.1.cls mX11_comeRow.1 mX11_comeRow.1 ∈ TBL := ⟨inT 1648 (by decide +kernel) rfl, inT 1649 (by decide +kernel) rfl⟩
theorem kL_123 : CAt R_law 123 mX10_reach 1 := ⟨Or.inl (inT 761 (by decide +kernel) rfl), inT 764 (by decide +kernel) rfl, inT 1 (by decide +kernel) rfl, ⟨by decide +kernel, by decide +kernel⟩, by decide +kernel, Nat.le_of_ble_eq_true rfl⟩
theorem vL_123 : Cond.instanceMethod mX10_reach.1 ∈ TBL ∧ Cond.selects mX10_reach.1.cls mX10_reach.1 mX10_reach.1 ∈ TBL := ⟨inT 762 (by decide +kernel) rfl, inT 763 (by decide +kernel) rfl⟩
theorem kL_126 : CAt R_law 126 mX11_reach 1 := ⟨Or.inl (inT 1651 (by decide +kernel) rfl), inT 1654 (by decide +kernel) rfl, inT 11 (by decide +kernel) rfl, ⟨by decide +kernel, by decide +kernel⟩, by decide +kernel, Nat.le_of_ble_eq_true rfl⟩
theorem vL_126 : Cond.instanceMethod mX11_reach.1 ∈ TBL ∧ Cond.selects mX11_reach.1.cls mX11_reach.1 mX11_reach.1 ∈ TBL := ⟨inT 1652 (by decide +kernel) rfl, inT 1653 (by decide +kernel) rfl⟩
theorem kL_127 : CAt R_law 127 mX10_apart 2 := ⟨Or.inl (inT 787 (by decide +kernel) rfl), inT 790 (by decide +kernel) rfl, inT 1 (by decide +kernel) rfl, ⟨by decide +kernel, by decide +kernel⟩, by decide +kernel, Nat.le_of_ble_eq_true rfl⟩
theorem vL_127 : Cond.instanceMethod mX10_apart.1 ∈ TBL ∧ Cond.selects mX10_apart.1.cls mX10_apart.1 mX10_apart.1 ∈ TBL := ⟨inT 788 (by decide +kernel) rfl, inT 789 (by decide +kernel) rfl⟩
theorem kL_130 : CAt R_law 130 mX11_apart 2 := ⟨Or.inl (inT 1655 (by decide +kernel) rfl), inT 1658 (by decide +kernel) rfl, inT 11 (by decide +kernel) rfl, ⟨by decide +kernel, by decide +kernel⟩, by decide +kernel, Nat.le_of_ble_eq_true rfl⟩
theorem vL_130 : Cond.instanceMethod mX11_apart.1 ∈ TBL ∧ Cond.selects mX11_apart.1.cls mX11_apart.1 mX11_apart.1 ∈ TBL := ⟨inT 1656 (by decide +kernel) rfl, inT 1657 (by decide +kernel) rfl⟩
theorem kL_131 : CAt R_law 131 mX10_upperBetween 2 := ⟨Or.inl (inT 791 (by decide +kernel) rfl), inT 794 (by decide +kernel) rfl, inT 1 (by decide +kernel) rfl, ⟨by decide +kernel, by decide +kernel⟩, by decide +kernel, Nat.le_of_ble_eq_true rfl⟩
theorem vL_131 : Cond.instanceMethod mX10_upperBetween.1 ∈ TBL ∧ Cond.selects mX10_upperBetween.1.cls mX10_upperBetween.1 mX10_upperBetween.1 ∈ TBL := ⟨inT 792 (by decide +kernel) rfl, inT 793 (by decide +kernel) rfl⟩
theorem kL_134 : CAt R_law 134 mX11_upperBetween 2 := ⟨Or.inl (inT 1659 (by decide +kernel) rfl), inT 1662 (by decide +kernel) rfl, inT 11 (by decide +kernel) rfl, ⟨by decide +kernel, by decide +kernel⟩, by decide +kernel, Nat.le_of_ble_eq_true rfl⟩
theorem vL_134 : Cond.instanceMethod mX11_upperBetween.1 ∈ TBL ∧ Cond.selects mX11_upperBetween.1.cls mX11_upperBetween.1 mX11_upperBetween.1 ∈ TBL := ⟨inT 1660 (by decide +kernel) rfl, inT 1661 (by decide +kernel) rfl⟩
theorem kL_135 : CAt R_law 135 mX10_lowerBetween 2 := ⟨Or.inl (inT 813 (by decide +kernel) rfl), inT 816 (by decide +kernel) rfl, inT 1 (by decide +kernel) rfl, ⟨by decide +kernel, by decide +kernel⟩, by decide +kernel, Nat.le_of_ble_eq_true rfl⟩
theorem vL_135 : Cond.instanceMethod mX10_lowerBetween.1 ∈ TBL ∧ Cond.selects mX10_lowerBetween.1.cls mX10_lowerBetween.1 mX10_lowerBetween.1 ∈ TBL := ⟨inT 814 (by decide +kernel) rfl, inT 815 (by decide +kernel) rfl⟩
theorem kL_138 : CAt R_law 138 mX11_lowerBetween 2 := ⟨Or.inl (inT 1670 (by decide +kernel) rfl), inT 1673 (by decide +kernel) rfl, inT 11 (by decide +kernel) rfl, ⟨by decide +kernel, by decide +kernel⟩, by decide +kernel, Nat.le_of_ble_eq_true rfl⟩
theorem vL_138 : Cond.instanceMethod mX11_lowerBetween.1 ∈ TBL ∧ Cond.selects mX11_lowerBetween.1.cls mX11_lowerBetween.1 mX11_lowerBetween.1 ∈ TBL := ⟨inT 1671 (by decide +kernel) rfl, inT 1672 (by decide +kernel) rfl⟩
theorem kL_139 : CAt R_law 139 mX10_rungs 1 := ⟨Or.inl (inT 817 (by decide +kernel) rfl), inT 820 (by decide +kernel) rfl, inT 1 (by decide +kernel) rfl, ⟨by decide +kernel, by decide +kernel⟩, by decide +kernel, Nat.le_of_ble_eq_true rfl⟩
theorem vL_139 : Cond.instanceMethod mX10_rungs.1 ∈ TBL ∧ Cond.selects mX10_rungs.1.cls mX10_rungs.1 mX10_rungs.1 ∈ TBL := ⟨inT 818 (by decide +kernel) rfl, inT 819 (by decide +kernel) rfl⟩
theorem kL_142 : CAt R_law 142 mX11_rungs 1 := ⟨Or.inl (inT 1674 (by decide +kernel) rfl), inT 1677 (by decide +kernel) rfl, inT 11 (by decide +kernel) rfl, ⟨by decide +kernel, by decide +kernel⟩, by decide +kernel, Nat.le_of_ble_eq_true rfl⟩
theorem vL_142 : Cond.instanceMethod mX11_rungs.1 ∈ TBL ∧ Cond.selects mX11_rungs.1.cls mX11_rungs.1 mX11_rungs.1 ∈ TBL := ⟨inT 1675 (by decide +kernel) rfl, inT 1676 (by decide +kernel) rfl⟩
theorem kL_143 : CAt R_law 143 mX10_rungUpper 2 := ⟨Or.inl (inT 826 (by decide +kernel) rfl), inT 829 (by decide +kernel) rfl, inT 1 (by decide +kernel) rfl, ⟨by decide +kernel, by decide +kernel⟩, by decide +kernel, Nat.le_of_ble_eq_true rfl⟩
theorem vL_143 : Cond.instanceMethod mX10_rungUpper.1 ∈ TBL ∧ Cond.selects mX10_rungUpper.1.cls mX10_rungUpper.1 mX10_rungUpper.1 ∈ TBL := ⟨inT 827 (by decide +kernel) rfl, inT 828 (by decide +kernel) rfl⟩
theorem kL_146 : CAt R_law 146 mX11_rungUpper 2 := ⟨Or.inl (inT 1686 (by decide +kernel) rfl), inT 1689 (by decide +kernel) rfl, inT 11 (by decide +kernel) rfl, ⟨by decide +kernel, by decide +kernel⟩, by decide +kernel, Nat.le_of_ble_eq_true rfl⟩
theorem vL_146 : Cond.instanceMethod mX11_rungUpper.1 ∈ TBL ∧ Cond.selects mX11_rungUpper.1.cls mX11_rungUpper.1 mX11_rungUpper.1 ∈ TBL := ⟨inT 1687 (by decide +kernel) rfl, inT 1688 (by decide +kernel) rfl⟩
theorem kL_147 : CAt R_law 147 mX10_rungLower 2 := ⟨Or.inl (inT 834 (by decide +kernel) rfl), inT 837 (by decide +kernel) rfl, inT 1 (by decide +kernel) rfl, ⟨by decide +kernel, by decide +kernel⟩, by decide +kernel, Nat.le_of_ble_eq_true rfl⟩
theorem vL_147 : Cond.instanceMethod mX10_rungLower.1 ∈ TBL ∧ Cond.selects mX10_rungLower.1.cls mX10_rungLower.1 mX10_rungLower.1 ∈ TBL := ⟨inT 835 (by decide +kernel) rfl, inT 836 (by decide +kernel) rfl⟩
theorem kL_150 : CAt R_law 150 mX11_rungLower 2 := ⟨Or.inl (inT 1694 (by decide +kernel) rfl), inT 1697 (by decide +kernel) rfl, inT 11 (by decide +kernel) rfl, ⟨by decide +kernel, by decide +kernel⟩, by decide +kernel, Nat.le_of_ble_eq_true rfl⟩
theorem vL_150 : Cond.instanceMethod mX11_rungLower.1 ∈ TBL ∧ Cond.selects mX11_rungLower.1.cls mX11_rungLower.1 mX11_rungLower.1 ∈ TBL := ⟨inT 1695 (by decide +kernel) rfl, inT 1696 (by decide +kernel) rfl⟩
theorem kL_151 : CAt R_law 151 mX10_knot 2 := ⟨Or.inl (inT 838 (by decide +kernel) rfl), inT 841 (by decide +kernel) rfl, inT 1 (by decide +kernel) rfl, ⟨by decide +kernel, by decide +kernel⟩, by decide +kernel, Nat.le_of_ble_eq_true rfl⟩
theorem vL_151 : Cond.instanceMethod mX10_knot.1 ∈ TBL ∧ Cond.selects mX10_knot.1.cls mX10_knot.1 mX10_knot.1 ∈ TBL := ⟨inT 839 (by decide +kernel) rfl, inT 840 (by decide +kernel) rfl⟩
theorem kL_155 : CAt R_law 155 mX11_knot 2 := ⟨Or.inl (inT 1698 (by decide +kernel) rfl), inT 1701 (by decide +kernel) rfl, inT 11 (by decide +kernel) rfl, ⟨by decide +kernel, by decide +kernel⟩, by decide +kernel, Nat.le_of_ble_eq_true rfl⟩
theorem vL_155 : Cond.instanceMethod mX11_knot.1 ∈ TBL ∧ Cond.selects mX11_knot.1.cls mX11_knot.1 mX11_knot.1 ∈ TBL := ⟨inT 1699 (by decide +kernel) rfl, inT 1700 (by decide +kernel) rfl⟩
theorem kL_156 : CAt R_law 156 mX10_rings 2 := ⟨Or.inl (inT 846 (by decide +kernel) rfl), inT 849 (by decide +kernel) rfl, inT 1 (by decide +kernel) rfl, ⟨by decide +kernel, by decide +kernel⟩, by decide +kernel, Nat.le_of_ble_eq_true rfl⟩
theorem vL_156 : Cond.instanceMethod mX10_rings.1 ∈ TBL ∧ Cond.selects mX10_rings.1.cls mX10_rings.1 mX10_rings.1 ∈ TBL := ⟨inT 847 (by decide +kernel) rfl, inT 848 (by decide +kernel) rfl⟩
theorem kL_159 : CAt R_law 159 mX11_rings 2 := ⟨Or.inl (inT 1706 (by decide +kernel) rfl), inT 1709 (by decide +kernel) rfl, inT 11 (by decide +kernel) rfl, ⟨by decide +kernel, by decide +kernel⟩, by decide +kernel, Nat.le_of_ble_eq_true rfl⟩
theorem vL_159 : Cond.instanceMethod mX11_rings.1 ∈ TBL ∧ Cond.selects mX11_rings.1.cls mX11_rings.1 mX11_rings.1 ∈ TBL := ⟨inT 1707 (by decide +kernel) rfl, inT 1708 (by decide +kernel) rfl⟩
theorem kL_160 : CAt R_law 160 mX10_colours 3 := ⟨Or.inl (inT 850 (by decide +kernel) rfl), inT 853 (by decide +kernel) rfl, inT 1 (by decide +kernel) rfl, ⟨by decide +kernel, by decide +kernel⟩, by decide +kernel, Nat.le_of_ble_eq_true rfl⟩
theorem vL_160 : Cond.instanceMethod mX10_colours.1 ∈ TBL ∧ Cond.selects mX10_colours.1.cls mX10_colours.1 mX10_colours.1 ∈ TBL := ⟨inT 851 (by decide +kernel) rfl, inT 852 (by decide +kernel) rfl⟩
theorem kL_164 : CAt R_law 164 mX11_colours 3 := ⟨Or.inl (inT 1710 (by decide +kernel) rfl), inT 1713 (by decide +kernel) rfl, inT 11 (by decide +kernel) rfl, ⟨by decide +kernel, by decide +kernel⟩, by decide +kernel, Nat.le_of_ble_eq_true rfl⟩
theorem vL_164 : Cond.instanceMethod mX11_colours.1 ∈ TBL ∧ Cond.selects mX11_colours.1.cls mX11_colours.1 mX11_colours.1 ∈ TBL := ⟨inT 1711 (by decide +kernel) rfl, inT 1712 (by decide +kernel) rfl⟩
theorem kL_165 : CAt R_law 165 mX10_beside 2 := ⟨Or.inl (inT 854 (by decide +kernel) rfl), inT 857 (by decide +kernel) rfl, inT 1 (by decide +kernel) rfl, ⟨by decide +kernel, by decide +kernel⟩, by decide +kernel, Nat.le_of_ble_eq_true rfl⟩
theorem vL_165 : Cond.instanceMethod mX10_beside.1 ∈ TBL ∧ Cond.selects mX10_beside.1.cls mX10_beside.1 mX10_beside.1 ∈ TBL := ⟨inT 855 (by decide +kernel) rfl, inT 856 (by decide +kernel) rfl⟩
theorem kL_168 : CAt R_law 168 mX11_beside 2 := ⟨Or.inl (inT 1714 (by decide +kernel) rfl), inT 1717 (by decide +kernel) rfl, inT 11 (by decide +kernel) rfl, ⟨by decide +kernel, by decide +kernel⟩, by decide +kernel, Nat.le_of_ble_eq_true rfl⟩
theorem vL_168 : Cond.instanceMethod mX11_beside.1 ∈ TBL ∧ Cond.selects mX11_beside.1.cls mX11_beside.1 mX11_beside.1 ∈ TBL := ⟨inT 1715 (by decide +kernel) rfl, inT 1716 (by decide +kernel) rfl⟩
theorem kL_169 : CAt R_law 169 mX10_alike 2 := ⟨Or.inl (inT 858 (by decide +kernel) rfl), inT 861 (by decide +kernel) rfl, inT 1 (by decide +kernel) rfl, ⟨by decide +kernel, by decide +kernel⟩, by decide +kernel, Nat.le_of_ble_eq_true rfl⟩
theorem vL_169 : Cond.instanceMethod mX10_alike.1 ∈ TBL ∧ Cond.selects mX10_alike.1.cls mX10_alike.1 mX10_alike.1 ∈ TBL := ⟨inT 859 (by decide +kernel) rfl, inT 860 (by decide +kernel) rfl⟩
theorem kL_172 : CAt R_law 172 mX11_alike 2 := ⟨Or.inl (inT 1718 (by decide +kernel) rfl), inT 1721 (by decide +kernel) rfl, inT 11 (by decide +kernel) rfl, ⟨by decide +kernel, by decide +kernel⟩, by decide +kernel, Nat.le_of_ble_eq_true rfl⟩
theorem vL_172 : Cond.instanceMethod mX11_alike.1 ∈ TBL ∧ Cond.selects mX11_alike.1.cls mX11_alike.1 mX11_alike.1 ∈ TBL := ⟨inT 1719 (by decide +kernel) rfl, inT 1720 (by decide +kernel) rfl⟩
theorem kL_173 : CAt R_law 173 mX10_mirrored 2 := ⟨Or.inl (inT 875 (by decide +kernel) rfl), inT 878 (by decide +kernel) rfl, inT 1 (by decide +kernel) rfl, ⟨by decide +kernel, by decide +kernel⟩, by decide +kernel, Nat.le_of_ble_eq_true rfl⟩
theorem vL_173 : Cond.instanceMethod mX10_mirrored.1 ∈ TBL ∧ Cond.selects mX10_mirrored.1.cls mX10_mirrored.1 mX10_mirrored.1 ∈ TBL := ⟨inT 876 (by decide +kernel) rfl, inT 877 (by decide +kernel) rfl⟩
theorem kL_176 : CAt R_law 176 mX11_mirrored 2 := ⟨Or.inl (inT 1729 (by decide +kernel) rfl), inT 1732 (by decide +kernel) rfl, inT 11 (by decide +kernel) rfl, ⟨by decide +kernel, by decide +kernel⟩, by decide +kernel, Nat.le_of_ble_eq_true rfl⟩
theorem vL_176 : Cond.instanceMethod mX11_mirrored.1 ∈ TBL ∧ Cond.selects mX11_mirrored.1.cls mX11_mirrored.1 mX11_mirrored.1 ∈ TBL := ⟨inT 1730 (by decide +kernel) rfl, inT 1731 (by decide +kernel) rfl⟩
theorem kL_177 : CAt R_law 177 mX10_kinds 2 := ⟨Or.inl (inT 879 (by decide +kernel) rfl), inT 882 (by decide +kernel) rfl, inT 1 (by decide +kernel) rfl, ⟨by decide +kernel, by decide +kernel⟩, by decide +kernel, Nat.le_of_ble_eq_true rfl⟩
theorem vL_177 : Cond.instanceMethod mX10_kinds.1 ∈ TBL ∧ Cond.selects mX10_kinds.1.cls mX10_kinds.1 mX10_kinds.1 ∈ TBL := ⟨inT 880 (by decide +kernel) rfl, inT 881 (by decide +kernel) rfl⟩
theorem kL_180 : CAt R_law 180 mX11_kinds 2 := ⟨Or.inl (inT 1733 (by decide +kernel) rfl), inT 1736 (by decide +kernel) rfl, inT 11 (by decide +kernel) rfl, ⟨by decide +kernel, by decide +kernel⟩, by decide +kernel, Nat.le_of_ble_eq_true rfl⟩
theorem vL_180 : Cond.instanceMethod mX11_kinds.1 ∈ TBL ∧ Cond.selects mX11_kinds.1.cls mX11_kinds.1 mX11_kinds.1 ∈ TBL := ⟨inT 1734 (by decide +kernel) rfl, inT 1735 (by decide +kernel) rfl⟩
theorem kL_181 : CAt R_law 181 mX10_fits 0 := ⟨Or.inl (inT 890 (by decide +kernel) rfl), inT 893 (by decide +kernel) rfl, inT 1 (by decide +kernel) rfl, ⟨by decide +kernel, by decide +kernel⟩, by decide +kernel, Nat.le_of_ble_eq_true rfl⟩
theorem vL_181 : Cond.instanceMethod mX10_fits.1 ∈ TBL ∧ Cond.selects mX10_fits.1.cls mX10_fits.1 mX10_fits.1 ∈ TBL := ⟨inT 891 (by decide +kernel) rfl, inT 892 (by decide +kernel) rfl⟩
theorem kL_184 : CAt R_law 184 mX11_fits 0 := ⟨Or.inl (inT 1737 (by decide +kernel) rfl), inT 1740 (by decide +kernel) rfl, inT 11 (by decide +kernel) rfl, ⟨by decide +kernel, by decide +kernel⟩, by decide +kernel, Nat.le_of_ble_eq_true rfl⟩
theorem vL_184 : Cond.instanceMethod mX11_fits.1 ∈ TBL ∧ Cond.selects mX11_fits.1.cls mX11_fits.1 mX11_fits.1 ∈ TBL := ⟨inT 1738 (by decide +kernel) rfl, inT 1739 (by decide +kernel) rfl⟩
theorem kL_185 : CAt R_law 185 mX10_fitAt 1 := ⟨Or.inl (inT 922 (by decide +kernel) rfl), inT 925 (by decide +kernel) rfl, inT 1 (by decide +kernel) rfl, ⟨by decide +kernel, by decide +kernel⟩, by decide +kernel, Nat.le_of_ble_eq_true rfl⟩
theorem vL_185 : Cond.instanceMethod mX10_fitAt.1 ∈ TBL ∧ Cond.selects mX10_fitAt.1.cls mX10_fitAt.1 mX10_fitAt.1 ∈ TBL := ⟨inT 923 (by decide +kernel) rfl, inT 924 (by decide +kernel) rfl⟩
theorem kL_188 : CAt R_law 188 mX11_fitAt 1 := ⟨Or.inl (inT 1749 (by decide +kernel) rfl), inT 1752 (by decide +kernel) rfl, inT 11 (by decide +kernel) rfl, ⟨by decide +kernel, by decide +kernel⟩, by decide +kernel, Nat.le_of_ble_eq_true rfl⟩
theorem vL_188 : Cond.instanceMethod mX11_fitAt.1 ∈ TBL ∧ Cond.selects mX11_fitAt.1.cls mX11_fitAt.1 mX11_fitAt.1 ∈ TBL := ⟨inT 1750 (by decide +kernel) rfl, inT 1751 (by decide +kernel) rfl⟩
theorem kL_189 : CAt R_law 189 mX10_could 0 := ⟨Or.inl (inT 928 (by decide +kernel) rfl), inT 931 (by decide +kernel) rfl, inT 1 (by decide +kernel) rfl, ⟨by decide +kernel, by decide +kernel⟩, by decide +kernel, Nat.le_of_ble_eq_true rfl⟩
theorem vL_189 : Cond.instanceMethod mX10_could.1 ∈ TBL ∧ Cond.selects mX10_could.1.cls mX10_could.1 mX10_could.1 ∈ TBL := ⟨inT 929 (by decide +kernel) rfl, inT 930 (by decide +kernel) rfl⟩
theorem kL_192 : CAt R_law 192 mX11_could 0 := ⟨Or.inl (inT 1753 (by decide +kernel) rfl), inT 1756 (by decide +kernel) rfl, inT 11 (by decide +kernel) rfl, ⟨by decide +kernel, by decide +kernel⟩, by decide +kernel, Nat.le_of_ble_eq_true rfl⟩
theorem vL_192 : Cond.instanceMethod mX11_could.1 ∈ TBL ∧ Cond.selects mX11_could.1.cls mX11_could.1 mX11_could.1 ∈ TBL := ⟨inT 1754 (by decide +kernel) rfl, inT 1755 (by decide +kernel) rfl⟩
theorem kL_193 : CAt R_law 193 mX10_surely 0 := ⟨Or.inl (inT 932 (by decide +kernel) rfl), inT 935 (by decide +kernel) rfl, inT 1 (by decide +kernel) rfl, ⟨by decide +kernel, by decide +kernel⟩, by decide +kernel, Nat.le_of_ble_eq_true rfl⟩
theorem vL_193 : Cond.instanceMethod mX10_surely.1 ∈ TBL ∧ Cond.selects mX10_surely.1.cls mX10_surely.1 mX10_surely.1 ∈ TBL := ⟨inT 933 (by decide +kernel) rfl, inT 934 (by decide +kernel) rfl⟩
theorem kL_196 : CAt R_law 196 mX11_surely 0 := ⟨Or.inl (inT 1757 (by decide +kernel) rfl), inT 1760 (by decide +kernel) rfl, inT 11 (by decide +kernel) rfl, ⟨by decide +kernel, by decide +kernel⟩, by decide +kernel, Nat.le_of_ble_eq_true rfl⟩
theorem vL_196 : Cond.instanceMethod mX11_surely.1 ∈ TBL ∧ Cond.selects mX11_surely.1.cls mX11_surely.1 mX11_surely.1 ∈ TBL := ⟨inT 1758 (by decide +kernel) rfl, inT 1759 (by decide +kernel) rfl⟩
theorem kL_197 : CAt R_law 197 mX10_ask 0 := ⟨Or.inl (inT 936 (by decide +kernel) rfl), inT 939 (by decide +kernel) rfl, inT 1 (by decide +kernel) rfl, ⟨by decide +kernel, by decide +kernel⟩, by decide +kernel, Nat.le_of_ble_eq_true rfl⟩
theorem vL_197 : Cond.instanceMethod mX10_ask.1 ∈ TBL ∧ Cond.selects mX10_ask.1.cls mX10_ask.1 mX10_ask.1 ∈ TBL := ⟨inT 937 (by decide +kernel) rfl, inT 938 (by decide +kernel) rfl⟩
theorem kL_200 : CAt R_law 200 mX11_ask 0 := ⟨Or.inl (inT 1761 (by decide +kernel) rfl), inT 1764 (by decide +kernel) rfl, inT 11 (by decide +kernel) rfl, ⟨by decide +kernel, by decide +kernel⟩, by decide +kernel, Nat.le_of_ble_eq_true rfl⟩
theorem vL_200 : Cond.instanceMethod mX11_ask.1 ∈ TBL ∧ Cond.selects mX11_ask.1.cls mX11_ask.1 mX11_ask.1 ∈ TBL := ⟨inT 1762 (by decide +kernel) rfl, inT 1763 (by decide +kernel) rfl⟩
theorem kL_201 : CAt R_law 201 mX10_askLeaves 0 := ⟨Or.inl (inT 951 (by decide +kernel) rfl), inT 954 (by decide +kernel) rfl, inT 1 (by decide +kernel) rfl, ⟨by decide +kernel, by decide +kernel⟩, by decide +kernel, Nat.le_of_ble_eq_true rfl⟩
theorem vL_201 : Cond.instanceMethod mX10_askLeaves.1 ∈ TBL ∧ Cond.selects mX10_askLeaves.1.cls mX10_askLeaves.1 mX10_askLeaves.1 ∈ TBL := ⟨inT 952 (by decide +kernel) rfl, inT 953 (by decide +kernel) rfl⟩
theorem kL_204 : CAt R_law 204 mX11_askLeaves 0 := ⟨Or.inl (inT 1773 (by decide +kernel) rfl), inT 1776 (by decide +kernel) rfl, inT 11 (by decide +kernel) rfl, ⟨by decide +kernel, by decide +kernel⟩, by decide +kernel, Nat.le_of_ble_eq_true rfl⟩
theorem vL_204 : Cond.instanceMethod mX11_askLeaves.1 ∈ TBL ∧ Cond.selects mX11_askLeaves.1.cls mX11_askLeaves.1 mX11_askLeaves.1 ∈ TBL := ⟨inT 1774 (by decide +kernel) rfl, inT 1775 (by decide +kernel) rfl⟩
theorem kL_205 : CAt R_law 205 mX10_judge 0 := ⟨Or.inl (inT 956 (by decide +kernel) rfl), inT 959 (by decide +kernel) rfl, inT 1 (by decide +kernel) rfl, ⟨by decide +kernel, by decide +kernel⟩, by decide +kernel, Nat.le_of_ble_eq_true rfl⟩
theorem vL_205 : Cond.instanceMethod mX10_judge.1 ∈ TBL ∧ Cond.selects mX10_judge.1.cls mX10_judge.1 mX10_judge.1 ∈ TBL := ⟨inT 957 (by decide +kernel) rfl, inT 958 (by decide +kernel) rfl⟩
theorem kL_208 : CAt R_law 208 mX11_judge 0 := ⟨Or.inl (inT 1777 (by decide +kernel) rfl), inT 1780 (by decide +kernel) rfl, inT 11 (by decide +kernel) rfl, ⟨by decide +kernel, by decide +kernel⟩, by decide +kernel, Nat.le_of_ble_eq_true rfl⟩
theorem vL_208 : Cond.instanceMethod mX11_judge.1 ∈ TBL ∧ Cond.selects mX11_judge.1.cls mX11_judge.1 mX11_judge.1 ∈ TBL := ⟨inT 1778 (by decide +kernel) rfl, inT 1779 (by decide +kernel) rfl⟩
theorem kL_209 : CAt R_law 209 mX10_callers 2 := ⟨Or.inl (inT 961 (by decide +kernel) rfl), inT 964 (by decide +kernel) rfl, inT 1 (by decide +kernel) rfl, ⟨by decide +kernel, by decide +kernel⟩, by decide +kernel, Nat.le_of_ble_eq_true rfl⟩
theorem vL_209 : Cond.instanceMethod mX10_callers.1 ∈ TBL ∧ Cond.selects mX10_callers.1.cls mX10_callers.1 mX10_callers.1 ∈ TBL := ⟨inT 962 (by decide +kernel) rfl, inT 963 (by decide +kernel) rfl⟩
theorem kL_212 : CAt R_law 212 mX11_callers 2 := ⟨Or.inl (inT 1781 (by decide +kernel) rfl), inT 1784 (by decide +kernel) rfl, inT 11 (by decide +kernel) rfl, ⟨by decide +kernel, by decide +kernel⟩, by decide +kernel, Nat.le_of_ble_eq_true rfl⟩
theorem vL_212 : Cond.instanceMethod mX11_callers.1 ∈ TBL ∧ Cond.selects mX11_callers.1.cls mX11_callers.1 mX11_callers.1 ∈ TBL := ⟨inT 1782 (by decide +kernel) rfl, inT 1783 (by decide +kernel) rfl⟩
theorem kL_213 : CAt R_law 213 mX10_callsBy 2 := ⟨Or.inl (inT 977 (by decide +kernel) rfl), inT 980 (by decide +kernel) rfl, inT 1 (by decide +kernel) rfl, ⟨by decide +kernel, by decide +kernel⟩, by decide +kernel, Nat.le_of_ble_eq_true rfl⟩
theorem vL_213 : Cond.instanceMethod mX10_callsBy.1 ∈ TBL ∧ Cond.selects mX10_callsBy.1.cls mX10_callsBy.1 mX10_callsBy.1 ∈ TBL := ⟨inT 978 (by decide +kernel) rfl, inT 979 (by decide +kernel) rfl⟩
theorem kL_216 : CAt R_law 216 mX11_callsBy 2 := ⟨Or.inl (inT 1793 (by decide +kernel) rfl), inT 1796 (by decide +kernel) rfl, inT 11 (by decide +kernel) rfl, ⟨by decide +kernel, by decide +kernel⟩, by decide +kernel, Nat.le_of_ble_eq_true rfl⟩
theorem vL_216 : Cond.instanceMethod mX11_callsBy.1 ∈ TBL ∧ Cond.selects mX11_callsBy.1.cls mX11_callsBy.1 mX11_callsBy.1 ∈ TBL := ⟨inT 1794 (by decide +kernel) rfl, inT 1795 (by decide +kernel) rfl⟩
theorem kL_217 : CAt R_law 217 mX10_bows 4 := ⟨Or.inl (inT 982 (by decide +kernel) rfl), inT 985 (by decide +kernel) rfl, inT 1 (by decide +kernel) rfl, ⟨by decide +kernel, by decide +kernel⟩, by decide +kernel, Nat.le_of_ble_eq_true rfl⟩
theorem vL_217 : Cond.instanceMethod mX10_bows.1 ∈ TBL ∧ Cond.selects mX10_bows.1.cls mX10_bows.1 mX10_bows.1 ∈ TBL := ⟨inT 983 (by decide +kernel) rfl, inT 984 (by decide +kernel) rfl⟩
theorem kL_221 : CAt R_law 221 mX11_bows 4 := ⟨Or.inl (inT 1797 (by decide +kernel) rfl), inT 1800 (by decide +kernel) rfl, inT 11 (by decide +kernel) rfl, ⟨by decide +kernel, by decide +kernel⟩, by decide +kernel, Nat.le_of_ble_eq_true rfl⟩
theorem vL_221 : Cond.instanceMethod mX11_bows.1 ∈ TBL ∧ Cond.selects mX11_bows.1.cls mX11_bows.1 mX11_bows.1 ∈ TBL := ⟨inT 1798 (by decide +kernel) rfl, inT 1799 (by decide +kernel) rfl⟩
theorem kL_222 : CAt R_law 222 mX10_rests 1 := ⟨Or.inl (inT 989 (by decide +kernel) rfl), inT 992 (by decide +kernel) rfl, inT 1 (by decide +kernel) rfl, ⟨by decide +kernel, by decide +kernel⟩, by decide +kernel, Nat.le_of_ble_eq_true rfl⟩
theorem vL_222 : Cond.instanceMethod mX10_rests.1 ∈ TBL ∧ Cond.selects mX10_rests.1.cls mX10_rests.1 mX10_rests.1 ∈ TBL := ⟨inT 990 (by decide +kernel) rfl, inT 991 (by decide +kernel) rfl⟩
theorem kL_225 : CAt R_law 225 mX11_rests 1 := ⟨Or.inl (inT 1804 (by decide +kernel) rfl), inT 1807 (by decide +kernel) rfl, inT 11 (by decide +kernel) rfl, ⟨by decide +kernel, by decide +kernel⟩, by decide +kernel, Nat.le_of_ble_eq_true rfl⟩
theorem vL_225 : Cond.instanceMethod mX11_rests.1 ∈ TBL ∧ Cond.selects mX11_rests.1.cls mX11_rests.1 mX11_rests.1 ∈ TBL := ⟨inT 1805 (by decide +kernel) rfl, inT 1806 (by decide +kernel) rfl⟩
theorem kL_226 : CAt R_law 226 mX10_rest 1 := ⟨Or.inl (inT 996 (by decide +kernel) rfl), inT 999 (by decide +kernel) rfl, inT 1 (by decide +kernel) rfl, ⟨by decide +kernel, by decide +kernel⟩, by decide +kernel, Nat.le_of_ble_eq_true rfl⟩
theorem vL_226 : Cond.instanceMethod mX10_rest.1 ∈ TBL ∧ Cond.selects mX10_rest.1.cls mX10_rest.1 mX10_rest.1 ∈ TBL := ⟨inT 997 (by decide +kernel) rfl, inT 998 (by decide +kernel) rfl⟩
theorem kL_229 : CAt R_law 229 mX11_rest 1 := ⟨Or.inl (inT 1812 (by decide +kernel) rfl), inT 1815 (by decide +kernel) rfl, inT 11 (by decide +kernel) rfl, ⟨by decide +kernel, by decide +kernel⟩, by decide +kernel, Nat.le_of_ble_eq_true rfl⟩
theorem vL_229 : Cond.instanceMethod mX11_rest.1 ∈ TBL ∧ Cond.selects mX11_rest.1.cls mX11_rest.1 mX11_rest.1 ∈ TBL := ⟨inT 1813 (by decide +kernel) rfl, inT 1814 (by decide +kernel) rfl⟩
theorem kL_230 : CAt R_law 230 mX10_odds 5 := ⟨Or.inl (inT 1000 (by decide +kernel) rfl), inT 1003 (by decide +kernel) rfl, inT 1 (by decide +kernel) rfl, ⟨by decide +kernel, by decide +kernel⟩, by decide +kernel, Nat.le_of_ble_eq_true rfl⟩
theorem vL_230 : Cond.instanceMethod mX10_odds.1 ∈ TBL ∧ Cond.selects mX10_odds.1.cls mX10_odds.1 mX10_odds.1 ∈ TBL := ⟨inT 1001 (by decide +kernel) rfl, inT 1002 (by decide +kernel) rfl⟩
theorem kL_234 : CAt R_law 234 mX11_odds 5 := ⟨Or.inl (inT 1816 (by decide +kernel) rfl), inT 1819 (by decide +kernel) rfl, inT 11 (by decide +kernel) rfl, ⟨by decide +kernel, by decide +kernel⟩, by decide +kernel, Nat.le_of_ble_eq_true rfl⟩
theorem vL_234 : Cond.instanceMethod mX11_odds.1 ∈ TBL ∧ Cond.selects mX11_odds.1.cls mX11_odds.1 mX11_odds.1 ∈ TBL := ⟨inT 1817 (by decide +kernel) rfl, inT 1818 (by decide +kernel) rfl⟩
theorem kL_235 : CAt R_law 235 mX10_untied 3 := ⟨Or.inl (inT 1029 (by decide +kernel) rfl), inT 1032 (by decide +kernel) rfl, inT 1 (by decide +kernel) rfl, ⟨by decide +kernel, by decide +kernel⟩, by decide +kernel, Nat.le_of_ble_eq_true rfl⟩
theorem vL_235 : Cond.instanceMethod mX10_untied.1 ∈ TBL ∧ Cond.selects mX10_untied.1.cls mX10_untied.1 mX10_untied.1 ∈ TBL := ⟨inT 1030 (by decide +kernel) rfl, inT 1031 (by decide +kernel) rfl⟩
theorem kL_239 : CAt R_law 239 mX11_untied 3 := ⟨Or.inl (inT 1831 (by decide +kernel) rfl), inT 1834 (by decide +kernel) rfl, inT 11 (by decide +kernel) rfl, ⟨by decide +kernel, by decide +kernel⟩, by decide +kernel, Nat.le_of_ble_eq_true rfl⟩
theorem vL_239 : Cond.instanceMethod mX11_untied.1 ∈ TBL ∧ Cond.selects mX11_untied.1.cls mX11_untied.1 mX11_untied.1 ∈ TBL := ⟨inT 1832 (by decide +kernel) rfl, inT 1833 (by decide +kernel) rfl⟩
theorem kL_240 : CAt R_law 240 mX10_mean 3 := ⟨Or.inl (inT 1033 (by decide +kernel) rfl), inT 1036 (by decide +kernel) rfl, inT 1 (by decide +kernel) rfl, ⟨by decide +kernel, by decide +kernel⟩, by decide +kernel, Nat.le_of_ble_eq_true rfl⟩
theorem vL_240 : Cond.instanceMethod mX10_mean.1 ∈ TBL ∧ Cond.selects mX10_mean.1.cls mX10_mean.1 mX10_mean.1 ∈ TBL := ⟨inT 1034 (by decide +kernel) rfl, inT 1035 (by decide +kernel) rfl⟩
theorem kL_243 : CAt R_law 243 mX11_mean 3 := ⟨Or.inl (inT 1835 (by decide +kernel) rfl), inT 1838 (by decide +kernel) rfl, inT 11 (by decide +kernel) rfl, ⟨by decide +kernel, by decide +kernel⟩, by decide +kernel, Nat.le_of_ble_eq_true rfl⟩
theorem vL_243 : Cond.instanceMethod mX11_mean.1 ∈ TBL ∧ Cond.selects mX11_mean.1.cls mX11_mean.1 mX11_mean.1 ∈ TBL := ⟨inT 1836 (by decide +kernel) rfl, inT 1837 (by decide +kernel) rfl⟩
theorem kL_244 : CAt R_law 244 mX10_drawnUpper 3 := ⟨Or.inl (inT 1037 (by decide +kernel) rfl), inT 1040 (by decide +kernel) rfl, inT 1 (by decide +kernel) rfl, ⟨by decide +kernel, by decide +kernel⟩, by decide +kernel, Nat.le_of_ble_eq_true rfl⟩
theorem vL_244 : Cond.instanceMethod mX10_drawnUpper.1 ∈ TBL ∧ Cond.selects mX10_drawnUpper.1.cls mX10_drawnUpper.1 mX10_drawnUpper.1 ∈ TBL := ⟨inT 1038 (by decide +kernel) rfl, inT 1039 (by decide +kernel) rfl⟩
theorem kL_247 : CAt R_law 247 mX11_drawnUpper 3 := ⟨Or.inl (inT 1839 (by decide +kernel) rfl), inT 1842 (by decide +kernel) rfl, inT 11 (by decide +kernel) rfl, ⟨by decide +kernel, by decide +kernel⟩, by decide +kernel, Nat.le_of_ble_eq_true rfl⟩
theorem vL_247 : Cond.instanceMethod mX11_drawnUpper.1 ∈ TBL ∧ Cond.selects mX11_drawnUpper.1.cls mX11_drawnUpper.1 mX11_drawnUpper.1 ∈ TBL := ⟨inT 1840 (by decide +kernel) rfl, inT 1841 (by decide +kernel) rfl⟩
theorem kL_248 : CAt R_law 248 mX10_drawnLower 3 := ⟨Or.inl (inT 1050 (by decide +kernel) rfl), inT 1053 (by decide +kernel) rfl, inT 1 (by decide +kernel) rfl, ⟨by decide +kernel, by decide +kernel⟩, by decide +kernel, Nat.le_of_ble_eq_true rfl⟩
theorem vL_248 : Cond.instanceMethod mX10_drawnLower.1 ∈ TBL ∧ Cond.selects mX10_drawnLower.1.cls mX10_drawnLower.1 mX10_drawnLower.1 ∈ TBL := ⟨inT 1051 (by decide +kernel) rfl, inT 1052 (by decide +kernel) rfl⟩
theorem kL_251 : CAt R_law 251 mX11_drawnLower 3 := ⟨Or.inl (inT 1849 (by decide +kernel) rfl), inT 1852 (by decide +kernel) rfl, inT 11 (by decide +kernel) rfl, ⟨by decide +kernel, by decide +kernel⟩, by decide +kernel, Nat.le_of_ble_eq_true rfl⟩
theorem vL_251 : Cond.instanceMethod mX11_drawnLower.1 ∈ TBL ∧ Cond.selects mX11_drawnLower.1.cls mX11_drawnLower.1 mX11_drawnLower.1 ∈ TBL := ⟨inT 1850 (by decide +kernel) rfl, inT 1851 (by decide +kernel) rfl⟩
theorem kL_252 : CAt R_law 252 mX10_call 2 := ⟨Or.inl (inT 1054 (by decide +kernel) rfl), inT 1057 (by decide +kernel) rfl, inT 1 (by decide +kernel) rfl, ⟨by decide +kernel, by decide +kernel⟩, by decide +kernel, Nat.le_of_ble_eq_true rfl⟩
theorem vL_252 : Cond.instanceMethod mX10_call.1 ∈ TBL ∧ Cond.selects mX10_call.1.cls mX10_call.1 mX10_call.1 ∈ TBL := ⟨inT 1055 (by decide +kernel) rfl, inT 1056 (by decide +kernel) rfl⟩
theorem kL_255 : CAt R_law 255 mX11_call 2 := ⟨Or.inl (inT 1853 (by decide +kernel) rfl), inT 1856 (by decide +kernel) rfl, inT 11 (by decide +kernel) rfl, ⟨by decide +kernel, by decide +kernel⟩, by decide +kernel, Nat.le_of_ble_eq_true rfl⟩
theorem vL_255 : Cond.instanceMethod mX11_call.1 ∈ TBL ∧ Cond.selects mX11_call.1.cls mX11_call.1 mX11_call.1 ∈ TBL := ⟨inT 1854 (by decide +kernel) rfl, inT 1855 (by decide +kernel) rfl⟩
theorem kL_256 : CAt R_law 256 mX10_flip 1 := ⟨Or.inl (inT 1074 (by decide +kernel) rfl), inT 1077 (by decide +kernel) rfl, inT 1 (by decide +kernel) rfl, ⟨by decide +kernel, by decide +kernel⟩, by decide +kernel, Nat.le_of_ble_eq_true rfl⟩
theorem vL_256 : Cond.instanceMethod mX10_flip.1 ∈ TBL ∧ Cond.selects mX10_flip.1.cls mX10_flip.1 mX10_flip.1 ∈ TBL := ⟨inT 1075 (by decide +kernel) rfl, inT 1076 (by decide +kernel) rfl⟩
theorem kL_260 : CAt R_law 260 mX11_flip 1 := ⟨Or.inl (inT 1865 (by decide +kernel) rfl), inT 1868 (by decide +kernel) rfl, inT 11 (by decide +kernel) rfl, ⟨by decide +kernel, by decide +kernel⟩, by decide +kernel, Nat.le_of_ble_eq_true rfl⟩
theorem vL_260 : Cond.instanceMethod mX11_flip.1 ∈ TBL ∧ Cond.selects mX11_flip.1.cls mX11_flip.1 mX11_flip.1 ∈ TBL := ⟨inT 1866 (by decide +kernel) rfl, inT 1867 (by decide +kernel) rfl⟩
theorem kL_261 : CAt R_law 261 mX10_reset 1 := ⟨Or.inl (inT 1086 (by decide +kernel) rfl), inT 1089 (by decide +kernel) rfl, inT 1 (by decide +kernel) rfl, ⟨by decide +kernel, by decide +kernel⟩, by decide +kernel, Nat.le_of_ble_eq_true rfl⟩
theorem vL_261 : Cond.instanceMethod mX10_reset.1 ∈ TBL ∧ Cond.selects mX10_reset.1.cls mX10_reset.1 mX10_reset.1 ∈ TBL := ⟨inT 1087 (by decide +kernel) rfl, inT 1088 (by decide +kernel) rfl⟩
theorem kL_264 : CAt R_law 264 mX11_reset 1 := ⟨Or.inl (inT 1873 (by decide +kernel) rfl), inT 1876 (by decide +kernel) rfl, inT 11 (by decide +kernel) rfl, ⟨by decide +kernel, by decide +kernel⟩, by decide +kernel, Nat.le_of_ble_eq_true rfl⟩
theorem vL_264 : Cond.instanceMethod mX11_reset.1 ∈ TBL ∧ Cond.selects mX11_reset.1.cls mX11_reset.1 mX11_reset.1 ∈ TBL := ⟨inT 1874 (by decide +kernel) rfl, inT 1875 (by decide +kernel) rfl⟩
theorem kL_265 : CAt R_law 265 mX10_join 2 := ⟨Or.inl (inT 1090 (by decide +kernel) rfl), inT 1093 (by decide +kernel) rfl, inT 1 (by decide +kernel) rfl, ⟨by decide +kernel, by decide +kernel⟩, by decide +kernel, Nat.le_of_ble_eq_true rfl⟩
theorem vL_265 : Cond.instanceMethod mX10_join.1 ∈ TBL ∧ Cond.selects mX10_join.1.cls mX10_join.1 mX10_join.1 ∈ TBL := ⟨inT 1091 (by decide +kernel) rfl, inT 1092 (by decide +kernel) rfl⟩
theorem kL_268 : CAt R_law 268 mX11_join 2 := ⟨Or.inl (inT 1877 (by decide +kernel) rfl), inT 1880 (by decide +kernel) rfl, inT 11 (by decide +kernel) rfl, ⟨by decide +kernel, by decide +kernel⟩, by decide +kernel, Nat.le_of_ble_eq_true rfl⟩
theorem vL_268 : Cond.instanceMethod mX11_join.1 ∈ TBL ∧ Cond.selects mX11_join.1.cls mX11_join.1 mX11_join.1 ∈ TBL := ⟨inT 1878 (by decide +kernel) rfl, inT 1879 (by decide +kernel) rfl⟩
theorem kL_269 : CAt R_law 269 mX10_undo 0 := ⟨Or.inl (inT 1094 (by decide +kernel) rfl), inT 1097 (by decide +kernel) rfl, inT 1 (by decide +kernel) rfl, ⟨by decide +kernel, by decide +kernel⟩, by decide +kernel, Nat.le_of_ble_eq_true rfl⟩
theorem vL_269 : Cond.instanceMethod mX10_undo.1 ∈ TBL ∧ Cond.selects mX10_undo.1.cls mX10_undo.1 mX10_undo.1 ∈ TBL := ⟨inT 1095 (by decide +kernel) rfl, inT 1096 (by decide +kernel) rfl⟩
theorem kL_273 : CAt R_law 273 mX11_undo 0 := ⟨Or.inl (inT 1881 (by decide +kernel) rfl), inT 1884 (by decide +kernel) rfl, inT 11 (by decide +kernel) rfl, ⟨by decide +kernel, by decide +kernel⟩, by decide +kernel, Nat.le_of_ble_eq_true rfl⟩
theorem vL_273 : Cond.instanceMethod mX11_undo.1 ∈ TBL ∧ Cond.selects mX11_undo.1.cls mX11_undo.1 mX11_undo.1 ∈ TBL := ⟨inT 1882 (by decide +kernel) rfl, inT 1883 (by decide +kernel) rfl⟩
theorem kL_274 : CAt R_law 274 mX10_image 0 := ⟨Or.inl (inT 1104 (by decide +kernel) rfl), inT 1107 (by decide +kernel) rfl, inT 1 (by decide +kernel) rfl, ⟨by decide +kernel, by decide +kernel⟩, by decide +kernel, Nat.le_of_ble_eq_true rfl⟩
theorem vL_274 : Cond.instanceMethod mX10_image.1 ∈ TBL ∧ Cond.selects mX10_image.1.cls mX10_image.1 mX10_image.1 ∈ TBL := ⟨inT 1105 (by decide +kernel) rfl, inT 1106 (by decide +kernel) rfl⟩
theorem kL_277 : CAt R_law 277 mX11_image 0 := ⟨Or.inl (inT 1885 (by decide +kernel) rfl), inT 1888 (by decide +kernel) rfl, inT 11 (by decide +kernel) rfl, ⟨by decide +kernel, by decide +kernel⟩, by decide +kernel, Nat.le_of_ble_eq_true rfl⟩
theorem vL_277 : Cond.instanceMethod mX11_image.1 ∈ TBL ∧ Cond.selects mX11_image.1.cls mX11_image.1 mX11_image.1 ∈ TBL := ⟨inT 1886 (by decide +kernel) rfl, inT 1887 (by decide +kernel) rfl⟩
theorem kL_278 : CAt R_law 278 mX10_back 1 := ⟨Or.inl (inT 1112 (by decide +kernel) rfl), inT 1115 (by decide +kernel) rfl, inT 1 (by decide +kernel) rfl, ⟨by decide +kernel, by decide +kernel⟩, by decide +kernel, Nat.le_of_ble_eq_true rfl⟩
theorem vL_278 : Cond.instanceMethod mX10_back.1 ∈ TBL ∧ Cond.selects mX10_back.1.cls mX10_back.1 mX10_back.1 ∈ TBL := ⟨inT 1113 (by decide +kernel) rfl, inT 1114 (by decide +kernel) rfl⟩
theorem kL_281 : CAt R_law 281 mX11_back 1 := ⟨Or.inl (inT 1889 (by decide +kernel) rfl), inT 1892 (by decide +kernel) rfl, inT 11 (by decide +kernel) rfl, ⟨by decide +kernel, by decide +kernel⟩, by decide +kernel, Nat.le_of_ble_eq_true rfl⟩
theorem vL_281 : Cond.instanceMethod mX11_back.1 ∈ TBL ∧ Cond.selects mX11_back.1.cls mX11_back.1 mX11_back.1 ∈ TBL := ⟨inT 1890 (by decide +kernel) rfl, inT 1891 (by decide +kernel) rfl⟩
theorem kL_291 : CAt R_law 291 mX10_size 1 := ⟨Or.inl (inT 1120 (by decide +kernel) rfl), inT 1123 (by decide +kernel) rfl, inT 1 (by decide +kernel) rfl, ⟨by decide +kernel, by decide +kernel⟩, by decide +kernel, Nat.le_of_ble_eq_true rfl⟩
theorem vL_291 : Cond.instanceMethod mX10_size.1 ∈ TBL ∧ Cond.selects mX10_size.1.cls mX10_size.1 mX10_size.1 ∈ TBL := ⟨inT 1121 (by decide +kernel) rfl, inT 1122 (by decide +kernel) rfl⟩
theorem kL_294 : CAt R_law 294 mX11_size 1 := ⟨Or.inl (inT 1897 (by decide +kernel) rfl), inT 1900 (by decide +kernel) rfl, inT 11 (by decide +kernel) rfl, ⟨by decide +kernel, by decide +kernel⟩, by decide +kernel, Nat.le_of_ble_eq_true rfl⟩
theorem vL_294 : Cond.instanceMethod mX11_size.1 ∈ TBL ∧ Cond.selects mX11_size.1.cls mX11_size.1 mX11_size.1 ∈ TBL := ⟨inT 1898 (by decide +kernel) rfl, inT 1899 (by decide +kernel) rfl⟩
theorem kL_295 : CAt R_law 295 mX10_trouble 0 := ⟨Or.inl (inT 1124 (by decide +kernel) rfl), inT 1127 (by decide +kernel) rfl, inT 1 (by decide +kernel) rfl, ⟨by decide +kernel, by decide +kernel⟩, by decide +kernel, Nat.le_of_ble_eq_true rfl⟩
theorem vL_295 : Cond.instanceMethod mX10_trouble.1 ∈ TBL ∧ Cond.selects mX10_trouble.1.cls mX10_trouble.1 mX10_trouble.1 ∈ TBL := ⟨inT 1125 (by decide +kernel) rfl, inT 1126 (by decide +kernel) rfl⟩
theorem kL_298 : CAt R_law 298 mX11_trouble 0 := ⟨Or.inl (inT 1901 (by decide +kernel) rfl), inT 1904 (by decide +kernel) rfl, inT 11 (by decide +kernel) rfl, ⟨by decide +kernel, by decide +kernel⟩, by decide +kernel, Nat.le_of_ble_eq_true rfl⟩
theorem vL_298 : Cond.instanceMethod mX11_trouble.1 ∈ TBL ∧ Cond.selects mX11_trouble.1.cls mX11_trouble.1 mX11_trouble.1 ∈ TBL := ⟨inT 1902 (by decide +kernel) rfl, inT 1903 (by decide +kernel) rfl⟩
theorem lc_0 {L n : Nat} {xs : Nat → Int32} {wc wr : Wd} {o : Int64} {i : Int32} (hn9 : n ≤ 1000) (hI : ∀ j : Nat, j < 6 → vp_in (i + Int32.ofNat j) L) (hP : PairI mX10_feed mX11_feed [(sA xs i 1), (sA xs i 2), (sA xs i 3), (sA xs i 4), (sA xs i 5)] wc wr) (k : ∀ wc' wr', RelE wc' wr' → GoL L xs 2620 [(0, .ref 3), (1, .ref 0), (2, .ref 1), (3, .ref 2), (4, .int i)] [] n wc' wr' o) : GoL L xs 320 [(0, .ref 3), (1, .ref 0), (2, .ref 1), (3, .ref 2), (4, .int i)] [] n wc wr o := by
  unfold PairI at hP
  refine gl_aload_n (pc := 320) dL_law_320 rfl 1 rfl ?_
  refine gl_aload_n (pc := 321) dL_law_321 rfl 0 rfl ?_
  refine gl_iload (pc := 322) dL_law_322 4 rfl ?_
  refine gl_iconst (pc := 324) dL_law_324 c_1 ?_
  refine gl_iadd (pc := 325) dL_law_325 ?_
  refine gl_sld (pc := 326) dL_law_326 (hI 1 (by decide)) ?_
  refine gl_re (st2 := [.int (sA xs i 1), .ref 0]) rfl ?_
  refine gl_aload_n (pc := 327) dL_law_327 rfl 0 rfl ?_
  refine gl_iload (pc := 328) dL_law_328 4 rfl ?_
  refine gl_iconst (pc := 330) dL_law_330 c_2 ?_
  refine gl_iadd (pc := 331) dL_law_331 ?_
  refine gl_sld (pc := 332) dL_law_332 (hI 2 (by decide)) ?_
  refine gl_re (st2 := [.int (sA xs i 2), .int (sA xs i 1), .ref 0]) rfl ?_
  refine gl_aload_n (pc := 333) dL_law_333 rfl 0 rfl ?_
  refine gl_iload (pc := 334) dL_law_334 4 rfl ?_
  refine gl_iconst (pc := 336) dL_law_336 c_3 ?_
  refine gl_iadd (pc := 337) dL_law_337 ?_
  refine gl_sld (pc := 338) dL_law_338 (hI 3 (by decide)) ?_
  refine gl_re (st2 := [.int (sA xs i 3), .int (sA xs i 2), .int (sA xs i 1), .ref 0]) rfl ?_
  refine gl_aload_n (pc := 339) dL_law_339 rfl 0 rfl ?_
  refine gl_iload (pc := 340) dL_law_340 4 rfl ?_
  refine gl_iconst (pc := 342) dL_law_342 c_4 ?_
  refine gl_iadd (pc := 343) dL_law_343 ?_
  refine gl_sld (pc := 344) dL_law_344 (hI 4 (by decide)) ?_
  refine gl_re (st2 := [.int (sA xs i 4), .int (sA xs i 3), .int (sA xs i 2), .int (sA xs i 1), .ref 0]) rfl ?_
  refine gl_aload_n (pc := 345) dL_law_345 rfl 0 rfl ?_
  refine gl_iload (pc := 346) dL_law_346 4 rfl ?_
  refine gl_iconst (pc := 348) dL_law_348 c_5 ?_
  refine gl_iadd (pc := 349) dL_law_349 ?_
  refine gl_sld (pc := 350) dL_law_350 (hI 5 (by decide)) ?_
  refine gl_re (st2 := [.int (sA xs i 5), .int (sA xs i 4), .int (sA xs i 3), .int (sA xs i 2), .int (sA xs i 1), .ref 0]) rfl ?_
  refine gl_callCI (pc := 351) (is := [(sA xs i 1), (sA xs i 2), (sA xs i 3), (sA xs i 4), (sA xs i 5)]) (st := []) hn9 dL_law_351 kL_19 vL_19 (Nat.le_of_ble_eq_true rfl) rfl rfl rfl (Nat.le_of_ble_eq_true rfl) ?_
  refine ClI.mono (fun x1 wc' hP => ?_) hP
  refine gl_aload_n (pc := 354) dL_law_354 rfl 2 rfl ?_
  refine gl_aload_n (pc := 355) dL_law_355 rfl 0 rfl ?_
  refine gl_iload (pc := 356) dL_law_356 4 rfl ?_
  refine gl_iconst (pc := 358) dL_law_358 c_1 ?_
  refine gl_iadd (pc := 359) dL_law_359 ?_
  refine gl_sld (pc := 360) dL_law_360 (hI 1 (by decide)) ?_
  refine gl_re (st2 := [.int (sA xs i 1), .ref 1, .int x1]) rfl ?_
  refine gl_aload_n (pc := 361) dL_law_361 rfl 0 rfl ?_
  refine gl_iload (pc := 362) dL_law_362 4 rfl ?_
  refine gl_iconst (pc := 364) dL_law_364 c_2 ?_
  refine gl_iadd (pc := 365) dL_law_365 ?_
  refine gl_sld (pc := 366) dL_law_366 (hI 2 (by decide)) ?_
  refine gl_re (st2 := [.int (sA xs i 2), .int (sA xs i 1), .ref 1, .int x1]) rfl ?_
  refine gl_aload_n (pc := 367) dL_law_367 rfl 0 rfl ?_
  refine gl_iload (pc := 368) dL_law_368 4 rfl ?_
  refine gl_iconst (pc := 370) dL_law_370 c_3 ?_
  refine gl_iadd (pc := 371) dL_law_371 ?_
  refine gl_sld (pc := 372) dL_law_372 (hI 3 (by decide)) ?_
  refine gl_re (st2 := [.int (sA xs i 3), .int (sA xs i 2), .int (sA xs i 1), .ref 1, .int x1]) rfl ?_
  refine gl_aload_n (pc := 373) dL_law_373 rfl 0 rfl ?_
  refine gl_iload (pc := 374) dL_law_374 4 rfl ?_
  refine gl_iconst (pc := 376) dL_law_376 c_4 ?_
  refine gl_iadd (pc := 377) dL_law_377 ?_
  refine gl_sld (pc := 378) dL_law_378 (hI 4 (by decide)) ?_
  refine gl_re (st2 := [.int (sA xs i 4), .int (sA xs i 3), .int (sA xs i 2), .int (sA xs i 1), .ref 1, .int x1]) rfl ?_
  refine gl_aload_n (pc := 379) dL_law_379 rfl 0 rfl ?_
  refine gl_iload (pc := 380) dL_law_380 4 rfl ?_
  refine gl_iconst (pc := 382) dL_law_382 c_5 ?_
  refine gl_iadd (pc := 383) dL_law_383 ?_
  refine gl_sld (pc := 384) dL_law_384 (hI 5 (by decide)) ?_
  refine gl_re (st2 := [.int (sA xs i 5), .int (sA xs i 4), .int (sA xs i 3), .int (sA xs i 2), .int (sA xs i 1), .ref 1, .int x1]) rfl ?_
  refine gl_callRI (pc := 385) (is := [(sA xs i 1), (sA xs i 2), (sA xs i 3), (sA xs i 4), (sA xs i 5)]) (st := [.int x1]) hn9 dL_law_385 kL_23 vL_23 (Nat.le_of_ble_eq_true rfl) rfl rfl rfl (Nat.le_of_ble_eq_true rfl) ?_
  refine ClI.mono (fun x2 wr' hP => ?_) hP
  refine gl_icmp_eq (pc := 388) (tgt := 2620) dL_law_388 (by decide) (fun _ => k _ _ hP.2) (fun q => absurd hP.1 q)
theorem lc_1 {L n : Nat} {xs : Nat → Int32} {wc wr : Wd} {o : Int64} {i : Int32} (hn9 : n ≤ 1000) (hI : ∀ j : Nat, j < 6 → vp_in (i + Int32.ofNat j) L) (hP : PairI mX10_hall mX11_hall [(sA xs i 1)] wc wr) (k : ∀ wc' wr', RelE wc' wr' → GoL L xs 2620 [(0, .ref 3), (1, .ref 0), (2, .ref 1), (3, .ref 2), (4, .int i)] [] n wc' wr' o) : GoL L xs 393 [(0, .ref 3), (1, .ref 0), (2, .ref 1), (3, .ref 2), (4, .int i)] [] n wc wr o := by
  unfold PairI at hP
  refine gl_aload_n (pc := 393) dL_law_393 rfl 1 rfl ?_
  refine gl_aload_n (pc := 394) dL_law_394 rfl 0 rfl ?_
  refine gl_iload (pc := 395) dL_law_395 4 rfl ?_
  refine gl_iconst (pc := 397) dL_law_397 c_1 ?_
  refine gl_iadd (pc := 398) dL_law_398 ?_
  refine gl_sld (pc := 399) dL_law_399 (hI 1 (by decide)) ?_
  refine gl_re (st2 := [.int (sA xs i 1), .ref 0]) rfl ?_
  refine gl_callCI (pc := 400) (is := [(sA xs i 1)]) (st := []) hn9 dL_law_400 kL_24 vL_24 (Nat.le_of_ble_eq_true rfl) rfl rfl rfl (Nat.le_of_ble_eq_true rfl) ?_
  refine ClI.mono (fun x1 wc' hP => ?_) hP
  refine gl_aload_n (pc := 403) dL_law_403 rfl 2 rfl ?_
  refine gl_aload_n (pc := 404) dL_law_404 rfl 0 rfl ?_
  refine gl_iload (pc := 405) dL_law_405 4 rfl ?_
  refine gl_iconst (pc := 407) dL_law_407 c_1 ?_
  refine gl_iadd (pc := 408) dL_law_408 ?_
  refine gl_sld (pc := 409) dL_law_409 (hI 1 (by decide)) ?_
  refine gl_re (st2 := [.int (sA xs i 1), .ref 1, .int x1]) rfl ?_
  refine gl_callRI (pc := 410) (is := [(sA xs i 1)]) (st := [.int x1]) hn9 dL_law_410 kL_27 vL_27 (Nat.le_of_ble_eq_true rfl) rfl rfl rfl (Nat.le_of_ble_eq_true rfl) ?_
  refine ClI.mono (fun x2 wr' hP => ?_) hP
  refine gl_icmp_eq (pc := 413) (tgt := 2620) dL_law_413 (by decide) (fun _ => k _ _ hP.2) (fun q => absurd hP.1 q)
theorem lc_2 {L n : Nat} {xs : Nat → Int32} {wc wr : Wd} {o : Int64} {i : Int32} (hn9 : n ≤ 1000) (hI : ∀ j : Nat, j < 6 → vp_in (i + Int32.ofNat j) L) (hP : PairI mX10_fault mX11_fault [] wc wr) (k : ∀ wc' wr', RelE wc' wr' → GoL L xs 2620 [(0, .ref 3), (1, .ref 0), (2, .ref 1), (3, .ref 2), (4, .int i)] [] n wc' wr' o) : GoL L xs 418 [(0, .ref 3), (1, .ref 0), (2, .ref 1), (3, .ref 2), (4, .int i)] [] n wc wr o := by
  unfold PairI at hP
  refine gl_aload_n (pc := 418) dL_law_418 rfl 1 rfl ?_
  refine gl_callCI (pc := 419) (is := []) (st := []) hn9 dL_law_419 kL_28 vL_28 (Nat.le_of_ble_eq_true rfl) rfl rfl rfl (Nat.le_of_ble_eq_true rfl) ?_
  refine ClI.mono (fun x1 wc' hP => ?_) hP
  refine gl_aload_n (pc := 422) dL_law_422 rfl 2 rfl ?_
  refine gl_callRI (pc := 423) (is := []) (st := [.int x1]) hn9 dL_law_423 kL_32 vL_32 (Nat.le_of_ble_eq_true rfl) rfl rfl rfl (Nat.le_of_ble_eq_true rfl) ?_
  refine ClI.mono (fun x2 wr' hP => ?_) hP
  refine gl_icmp_eq (pc := 426) (tgt := 2620) dL_law_426 (by decide) (fun _ => k _ _ hP.2) (fun q => absurd hP.1 q)
theorem lc_3 {L n : Nat} {xs : Nat → Int32} {wc wr : Wd} {o : Int64} {i : Int32} (hn9 : n ≤ 1000) (hI : ∀ j : Nat, j < 6 → vp_in (i + Int32.ofNat j) L) (hP : PairI mX10_where mX11_where [] wc wr) (k : ∀ wc' wr', RelE wc' wr' → GoL L xs 2620 [(0, .ref 3), (1, .ref 0), (2, .ref 1), (3, .ref 2), (4, .int i)] [] n wc' wr' o) : GoL L xs 431 [(0, .ref 3), (1, .ref 0), (2, .ref 1), (3, .ref 2), (4, .int i)] [] n wc wr o := by
  unfold PairI at hP
  refine gl_aload_n (pc := 431) dL_law_431 rfl 1 rfl ?_
  refine gl_callCI (pc := 432) (is := []) (st := []) hn9 dL_law_432 kL_33 vL_33 (Nat.le_of_ble_eq_true rfl) rfl rfl rfl (Nat.le_of_ble_eq_true rfl) ?_
  refine ClI.mono (fun x1 wc' hP => ?_) hP
  refine gl_aload_n (pc := 435) dL_law_435 rfl 2 rfl ?_
  refine gl_callRI (pc := 436) (is := []) (st := [.int x1]) hn9 dL_law_436 kL_36 vL_36 (Nat.le_of_ble_eq_true rfl) rfl rfl rfl (Nat.le_of_ble_eq_true rfl) ?_
  refine ClI.mono (fun x2 wr' hP => ?_) hP
  refine gl_icmp_eq (pc := 439) (tgt := 2620) dL_law_439 (by decide) (fun _ => k _ _ hP.2) (fun q => absurd hP.1 q)
theorem lc_4 {L n : Nat} {xs : Nat → Int32} {wc wr : Wd} {o : Int64} {i : Int32} (hn9 : n ≤ 1000) (hI : ∀ j : Nat, j < 6 → vp_in (i + Int32.ofNat j) L) (hP : PairI mX10_upper mX11_upper [(sA xs i 1)] wc wr) (k : ∀ wc' wr', RelE wc' wr' → GoL L xs 2620 [(0, .ref 3), (1, .ref 0), (2, .ref 1), (3, .ref 2), (4, .int i)] [] n wc' wr' o) : GoL L xs 444 [(0, .ref 3), (1, .ref 0), (2, .ref 1), (3, .ref 2), (4, .int i)] [] n wc wr o := by
  unfold PairI at hP
  refine gl_aload_n (pc := 444) dL_law_444 rfl 1 rfl ?_
  refine gl_aload_n (pc := 445) dL_law_445 rfl 0 rfl ?_
  refine gl_iload (pc := 446) dL_law_446 4 rfl ?_
  refine gl_iconst (pc := 448) dL_law_448 c_1 ?_
  refine gl_iadd (pc := 449) dL_law_449 ?_
  refine gl_sld (pc := 450) dL_law_450 (hI 1 (by decide)) ?_
  refine gl_re (st2 := [.int (sA xs i 1), .ref 0]) rfl ?_
  refine gl_callCI (pc := 451) (is := [(sA xs i 1)]) (st := []) hn9 dL_law_451 kL_37 vL_37 (Nat.le_of_ble_eq_true rfl) rfl rfl rfl (Nat.le_of_ble_eq_true rfl) ?_
  refine ClI.mono (fun x1 wc' hP => ?_) hP
  refine gl_aload_n (pc := 454) dL_law_454 rfl 2 rfl ?_
  refine gl_aload_n (pc := 455) dL_law_455 rfl 0 rfl ?_
  refine gl_iload (pc := 456) dL_law_456 4 rfl ?_
  refine gl_iconst (pc := 458) dL_law_458 c_1 ?_
  refine gl_iadd (pc := 459) dL_law_459 ?_
  refine gl_sld (pc := 460) dL_law_460 (hI 1 (by decide)) ?_
  refine gl_re (st2 := [.int (sA xs i 1), .ref 1, .int x1]) rfl ?_
  refine gl_callRI (pc := 461) (is := [(sA xs i 1)]) (st := [.int x1]) hn9 dL_law_461 kL_40 vL_40 (Nat.le_of_ble_eq_true rfl) rfl rfl rfl (Nat.le_of_ble_eq_true rfl) ?_
  refine ClI.mono (fun x2 wr' hP => ?_) hP
  refine gl_icmp_eq (pc := 464) (tgt := 2620) dL_law_464 (by decide) (fun _ => k _ _ hP.2) (fun q => absurd hP.1 q)
theorem lc_5 {L n : Nat} {xs : Nat → Int32} {wc wr : Wd} {o : Int64} {i : Int32} (hn9 : n ≤ 1000) (hI : ∀ j : Nat, j < 6 → vp_in (i + Int32.ofNat j) L) (hP : PairI mX10_lower mX11_lower [(sA xs i 1)] wc wr) (k : ∀ wc' wr', RelE wc' wr' → GoL L xs 2620 [(0, .ref 3), (1, .ref 0), (2, .ref 1), (3, .ref 2), (4, .int i)] [] n wc' wr' o) : GoL L xs 469 [(0, .ref 3), (1, .ref 0), (2, .ref 1), (3, .ref 2), (4, .int i)] [] n wc wr o := by
  unfold PairI at hP
  refine gl_aload_n (pc := 469) dL_law_469 rfl 1 rfl ?_
  refine gl_aload_n (pc := 470) dL_law_470 rfl 0 rfl ?_
  refine gl_iload (pc := 471) dL_law_471 4 rfl ?_
  refine gl_iconst (pc := 473) dL_law_473 c_1 ?_
  refine gl_iadd (pc := 474) dL_law_474 ?_
  refine gl_sld (pc := 475) dL_law_475 (hI 1 (by decide)) ?_
  refine gl_re (st2 := [.int (sA xs i 1), .ref 0]) rfl ?_
  refine gl_callCI (pc := 476) (is := [(sA xs i 1)]) (st := []) hn9 dL_law_476 kL_41 vL_41 (Nat.le_of_ble_eq_true rfl) rfl rfl rfl (Nat.le_of_ble_eq_true rfl) ?_
  refine ClI.mono (fun x1 wc' hP => ?_) hP
  refine gl_aload_n (pc := 479) dL_law_479 rfl 2 rfl ?_
  refine gl_aload_n (pc := 480) dL_law_480 rfl 0 rfl ?_
  refine gl_iload (pc := 481) dL_law_481 4 rfl ?_
  refine gl_iconst (pc := 483) dL_law_483 c_1 ?_
  refine gl_iadd (pc := 484) dL_law_484 ?_
  refine gl_sld (pc := 485) dL_law_485 (hI 1 (by decide)) ?_
  refine gl_re (st2 := [.int (sA xs i 1), .ref 1, .int x1]) rfl ?_
  refine gl_callRI (pc := 486) (is := [(sA xs i 1)]) (st := [.int x1]) hn9 dL_law_486 kL_44 vL_44 (Nat.le_of_ble_eq_true rfl) rfl rfl rfl (Nat.le_of_ble_eq_true rfl) ?_
  refine ClI.mono (fun x2 wr' hP => ?_) hP
  refine gl_icmp_eq (pc := 489) (tgt := 2620) dL_law_489 (by decide) (fun _ => k _ _ hP.2) (fun q => absurd hP.1 q)
theorem lc_6 {L n : Nat} {xs : Nat → Int32} {wc wr : Wd} {o : Int64} {i : Int32} (hn9 : n ≤ 1000) (hI : ∀ j : Nat, j < 6 → vp_in (i + Int32.ofNat j) L) (hP : PairI mX10_end mX11_end [(sA xs i 1), (sA xs i 2)] wc wr) (k : ∀ wc' wr', RelE wc' wr' → GoL L xs 2620 [(0, .ref 3), (1, .ref 0), (2, .ref 1), (3, .ref 2), (4, .int i)] [] n wc' wr' o) : GoL L xs 494 [(0, .ref 3), (1, .ref 0), (2, .ref 1), (3, .ref 2), (4, .int i)] [] n wc wr o := by
  unfold PairI at hP
  refine gl_aload_n (pc := 494) dL_law_494 rfl 1 rfl ?_
  refine gl_aload_n (pc := 495) dL_law_495 rfl 0 rfl ?_
  refine gl_iload (pc := 496) dL_law_496 4 rfl ?_
  refine gl_iconst (pc := 498) dL_law_498 c_1 ?_
  refine gl_iadd (pc := 499) dL_law_499 ?_
  refine gl_sld (pc := 500) dL_law_500 (hI 1 (by decide)) ?_
  refine gl_re (st2 := [.int (sA xs i 1), .ref 0]) rfl ?_
  refine gl_aload_n (pc := 501) dL_law_501 rfl 0 rfl ?_
  refine gl_iload (pc := 502) dL_law_502 4 rfl ?_
  refine gl_iconst (pc := 504) dL_law_504 c_2 ?_
  refine gl_iadd (pc := 505) dL_law_505 ?_
  refine gl_sld (pc := 506) dL_law_506 (hI 2 (by decide)) ?_
  refine gl_re (st2 := [.int (sA xs i 2), .int (sA xs i 1), .ref 0]) rfl ?_
  refine gl_callCI (pc := 507) (is := [(sA xs i 1), (sA xs i 2)]) (st := []) hn9 dL_law_507 kL_45 vL_45 (Nat.le_of_ble_eq_true rfl) rfl rfl rfl (Nat.le_of_ble_eq_true rfl) ?_
  refine ClI.mono (fun x1 wc' hP => ?_) hP
  refine gl_aload_n (pc := 510) dL_law_510 rfl 2 rfl ?_
  refine gl_aload_n (pc := 511) dL_law_511 rfl 0 rfl ?_
  refine gl_iload (pc := 512) dL_law_512 4 rfl ?_
  refine gl_iconst (pc := 514) dL_law_514 c_1 ?_
  refine gl_iadd (pc := 515) dL_law_515 ?_
  refine gl_sld (pc := 516) dL_law_516 (hI 1 (by decide)) ?_
  refine gl_re (st2 := [.int (sA xs i 1), .ref 1, .int x1]) rfl ?_
  refine gl_aload_n (pc := 517) dL_law_517 rfl 0 rfl ?_
  refine gl_iload (pc := 518) dL_law_518 4 rfl ?_
  refine gl_iconst (pc := 520) dL_law_520 c_2 ?_
  refine gl_iadd (pc := 521) dL_law_521 ?_
  refine gl_sld (pc := 522) dL_law_522 (hI 2 (by decide)) ?_
  refine gl_re (st2 := [.int (sA xs i 2), .int (sA xs i 1), .ref 1, .int x1]) rfl ?_
  refine gl_callRI (pc := 523) (is := [(sA xs i 1), (sA xs i 2)]) (st := [.int x1]) hn9 dL_law_523 kL_49 vL_49 (Nat.le_of_ble_eq_true rfl) rfl rfl rfl (Nat.le_of_ble_eq_true rfl) ?_
  refine ClI.mono (fun x2 wr' hP => ?_) hP
  refine gl_icmp_eq (pc := 526) (tgt := 2620) dL_law_526 (by decide) (fun _ => k _ _ hP.2) (fun q => absurd hP.1 q)
theorem lc_7 {L n : Nat} {xs : Nat → Int32} {wc wr : Wd} {o : Int64} {i : Int32} (hn9 : n ≤ 1000) (hI : ∀ j : Nat, j < 6 → vp_in (i + Int32.ofNat j) L) (hP : PairI mX10_parts mX11_parts [(sA xs i 1)] wc wr) (k : ∀ wc' wr', RelE wc' wr' → GoL L xs 2620 [(0, .ref 3), (1, .ref 0), (2, .ref 1), (3, .ref 2), (4, .int i)] [] n wc' wr' o) : GoL L xs 531 [(0, .ref 3), (1, .ref 0), (2, .ref 1), (3, .ref 2), (4, .int i)] [] n wc wr o := by
  unfold PairI at hP
  refine gl_aload_n (pc := 531) dL_law_531 rfl 1 rfl ?_
  refine gl_aload_n (pc := 532) dL_law_532 rfl 0 rfl ?_
  refine gl_iload (pc := 533) dL_law_533 4 rfl ?_
  refine gl_iconst (pc := 535) dL_law_535 c_1 ?_
  refine gl_iadd (pc := 536) dL_law_536 ?_
  refine gl_sld (pc := 537) dL_law_537 (hI 1 (by decide)) ?_
  refine gl_re (st2 := [.int (sA xs i 1), .ref 0]) rfl ?_
  refine gl_callCI (pc := 538) (is := [(sA xs i 1)]) (st := []) hn9 dL_law_538 kL_50 vL_50 (Nat.le_of_ble_eq_true rfl) rfl rfl rfl (Nat.le_of_ble_eq_true rfl) ?_
  refine ClI.mono (fun x1 wc' hP => ?_) hP
  refine gl_aload_n (pc := 541) dL_law_541 rfl 2 rfl ?_
  refine gl_aload_n (pc := 542) dL_law_542 rfl 0 rfl ?_
  refine gl_iload (pc := 543) dL_law_543 4 rfl ?_
  refine gl_iconst (pc := 545) dL_law_545 c_1 ?_
  refine gl_iadd (pc := 546) dL_law_546 ?_
  refine gl_sld (pc := 547) dL_law_547 (hI 1 (by decide)) ?_
  refine gl_re (st2 := [.int (sA xs i 1), .ref 1, .int x1]) rfl ?_
  refine gl_callRI (pc := 548) (is := [(sA xs i 1)]) (st := [.int x1]) hn9 dL_law_548 kL_53 vL_53 (Nat.le_of_ble_eq_true rfl) rfl rfl rfl (Nat.le_of_ble_eq_true rfl) ?_
  refine ClI.mono (fun x2 wr' hP => ?_) hP
  refine gl_icmp_eq (pc := 551) (tgt := 2620) dL_law_551 (by decide) (fun _ => k _ _ hP.2) (fun q => absurd hP.1 q)
theorem lc_8 {L n : Nat} {xs : Nat → Int32} {wc wr : Wd} {o : Int64} {i : Int32} (hn9 : n ≤ 1000) (hI : ∀ j : Nat, j < 6 → vp_in (i + Int32.ofNat j) L) (hP : PairI mX10_part mX11_part [(sA xs i 1), (sA xs i 2)] wc wr) (k : ∀ wc' wr', RelE wc' wr' → GoL L xs 2620 [(0, .ref 3), (1, .ref 0), (2, .ref 1), (3, .ref 2), (4, .int i)] [] n wc' wr' o) : GoL L xs 556 [(0, .ref 3), (1, .ref 0), (2, .ref 1), (3, .ref 2), (4, .int i)] [] n wc wr o := by
  unfold PairI at hP
  refine gl_aload_n (pc := 556) dL_law_556 rfl 1 rfl ?_
  refine gl_aload_n (pc := 557) dL_law_557 rfl 0 rfl ?_
  refine gl_iload (pc := 558) dL_law_558 4 rfl ?_
  refine gl_iconst (pc := 560) dL_law_560 c_1 ?_
  refine gl_iadd (pc := 561) dL_law_561 ?_
  refine gl_sld (pc := 562) dL_law_562 (hI 1 (by decide)) ?_
  refine gl_re (st2 := [.int (sA xs i 1), .ref 0]) rfl ?_
  refine gl_aload_n (pc := 563) dL_law_563 rfl 0 rfl ?_
  refine gl_iload (pc := 564) dL_law_564 4 rfl ?_
  refine gl_iconst (pc := 566) dL_law_566 c_2 ?_
  refine gl_iadd (pc := 567) dL_law_567 ?_
  refine gl_sld (pc := 568) dL_law_568 (hI 2 (by decide)) ?_
  refine gl_re (st2 := [.int (sA xs i 2), .int (sA xs i 1), .ref 0]) rfl ?_
  refine gl_callCI (pc := 569) (is := [(sA xs i 1), (sA xs i 2)]) (st := []) hn9 dL_law_569 kL_54 vL_54 (Nat.le_of_ble_eq_true rfl) rfl rfl rfl (Nat.le_of_ble_eq_true rfl) ?_
  refine ClI.mono (fun x1 wc' hP => ?_) hP
  refine gl_aload_n (pc := 572) dL_law_572 rfl 2 rfl ?_
  refine gl_aload_n (pc := 573) dL_law_573 rfl 0 rfl ?_
  refine gl_iload (pc := 574) dL_law_574 4 rfl ?_
  refine gl_iconst (pc := 576) dL_law_576 c_1 ?_
  refine gl_iadd (pc := 577) dL_law_577 ?_
  refine gl_sld (pc := 578) dL_law_578 (hI 1 (by decide)) ?_
  refine gl_re (st2 := [.int (sA xs i 1), .ref 1, .int x1]) rfl ?_
  refine gl_aload_n (pc := 579) dL_law_579 rfl 0 rfl ?_
  refine gl_iload (pc := 580) dL_law_580 4 rfl ?_
  refine gl_iconst (pc := 582) dL_law_582 c_2 ?_
  refine gl_iadd (pc := 583) dL_law_583 ?_
  refine gl_sld (pc := 584) dL_law_584 (hI 2 (by decide)) ?_
  refine gl_re (st2 := [.int (sA xs i 2), .int (sA xs i 1), .ref 1, .int x1]) rfl ?_
  refine gl_callRI (pc := 585) (is := [(sA xs i 1), (sA xs i 2)]) (st := [.int x1]) hn9 dL_law_585 kL_57 vL_57 (Nat.le_of_ble_eq_true rfl) rfl rfl rfl (Nat.le_of_ble_eq_true rfl) ?_
  refine ClI.mono (fun x2 wr' hP => ?_) hP
  refine gl_icmp_eq (pc := 588) (tgt := 2620) dL_law_588 (by decide) (fun _ => k _ _ hP.2) (fun q => absurd hP.1 q)
theorem lc_9 {L n : Nat} {xs : Nat → Int32} {wc wr : Wd} {o : Int64} {i : Int32} (hn9 : n ≤ 1000) (hI : ∀ j : Nat, j < 6 → vp_in (i + Int32.ofNat j) L) (hP : PairI mX10_crossings mX11_crossings [(sA xs i 1)] wc wr) (k : ∀ wc' wr', RelE wc' wr' → GoL L xs 2620 [(0, .ref 3), (1, .ref 0), (2, .ref 1), (3, .ref 2), (4, .int i)] [] n wc' wr' o) : GoL L xs 593 [(0, .ref 3), (1, .ref 0), (2, .ref 1), (3, .ref 2), (4, .int i)] [] n wc wr o := by
  unfold PairI at hP
  refine gl_aload_n (pc := 593) dL_law_593 rfl 1 rfl ?_
  refine gl_aload_n (pc := 594) dL_law_594 rfl 0 rfl ?_
  refine gl_iload (pc := 595) dL_law_595 4 rfl ?_
  refine gl_iconst (pc := 597) dL_law_597 c_1 ?_
  refine gl_iadd (pc := 598) dL_law_598 ?_
  refine gl_sld (pc := 599) dL_law_599 (hI 1 (by decide)) ?_
  refine gl_re (st2 := [.int (sA xs i 1), .ref 0]) rfl ?_
  refine gl_callCI (pc := 600) (is := [(sA xs i 1)]) (st := []) hn9 dL_law_600 kL_58 vL_58 (Nat.le_of_ble_eq_true rfl) rfl rfl rfl (Nat.le_of_ble_eq_true rfl) ?_
  refine ClI.mono (fun x1 wc' hP => ?_) hP
  refine gl_aload_n (pc := 603) dL_law_603 rfl 2 rfl ?_
  refine gl_aload_n (pc := 604) dL_law_604 rfl 0 rfl ?_
  refine gl_iload (pc := 605) dL_law_605 4 rfl ?_
  refine gl_iconst (pc := 607) dL_law_607 c_1 ?_
  refine gl_iadd (pc := 608) dL_law_608 ?_
  refine gl_sld (pc := 609) dL_law_609 (hI 1 (by decide)) ?_
  refine gl_re (st2 := [.int (sA xs i 1), .ref 1, .int x1]) rfl ?_
  refine gl_callRI (pc := 610) (is := [(sA xs i 1)]) (st := [.int x1]) hn9 dL_law_610 kL_61 vL_61 (Nat.le_of_ble_eq_true rfl) rfl rfl rfl (Nat.le_of_ble_eq_true rfl) ?_
  refine ClI.mono (fun x2 wr' hP => ?_) hP
  refine gl_icmp_eq (pc := 613) (tgt := 2620) dL_law_613 (by decide) (fun _ => k _ _ hP.2) (fun q => absurd hP.1 q)
theorem lc_10 {L n : Nat} {xs : Nat → Int32} {wc wr : Wd} {o : Int64} {i : Int32} (hn9 : n ≤ 1000) (hI : ∀ j : Nat, j < 6 → vp_in (i + Int32.ofNat j) L) (hP : PairI mX10_figures mX11_figures [(sA xs i 1)] wc wr) (k : ∀ wc' wr', RelE wc' wr' → GoL L xs 2620 [(0, .ref 3), (1, .ref 0), (2, .ref 1), (3, .ref 2), (4, .int i)] [] n wc' wr' o) : GoL L xs 618 [(0, .ref 3), (1, .ref 0), (2, .ref 1), (3, .ref 2), (4, .int i)] [] n wc wr o := by
  unfold PairI at hP
  refine gl_aload_n (pc := 618) dL_law_618 rfl 1 rfl ?_
  refine gl_aload_n (pc := 619) dL_law_619 rfl 0 rfl ?_
  refine gl_iload (pc := 620) dL_law_620 4 rfl ?_
  refine gl_iconst (pc := 622) dL_law_622 c_1 ?_
  refine gl_iadd (pc := 623) dL_law_623 ?_
  refine gl_sld (pc := 624) dL_law_624 (hI 1 (by decide)) ?_
  refine gl_re (st2 := [.int (sA xs i 1), .ref 0]) rfl ?_
  refine gl_callCI (pc := 625) (is := [(sA xs i 1)]) (st := []) hn9 dL_law_625 kL_62 vL_62 (Nat.le_of_ble_eq_true rfl) rfl rfl rfl (Nat.le_of_ble_eq_true rfl) ?_
  refine ClI.mono (fun x1 wc' hP => ?_) hP
  refine gl_aload_n (pc := 628) dL_law_628 rfl 2 rfl ?_
  refine gl_aload_n (pc := 629) dL_law_629 rfl 0 rfl ?_
  refine gl_iload (pc := 630) dL_law_630 4 rfl ?_
  refine gl_iconst (pc := 632) dL_law_632 c_1 ?_
  refine gl_iadd (pc := 633) dL_law_633 ?_
  refine gl_sld (pc := 634) dL_law_634 (hI 1 (by decide)) ?_
  refine gl_re (st2 := [.int (sA xs i 1), .ref 1, .int x1]) rfl ?_
  refine gl_callRI (pc := 635) (is := [(sA xs i 1)]) (st := [.int x1]) hn9 dL_law_635 kL_65 vL_65 (Nat.le_of_ble_eq_true rfl) rfl rfl rfl (Nat.le_of_ble_eq_true rfl) ?_
  refine ClI.mono (fun x2 wr' hP => ?_) hP
  refine gl_icmp_eq (pc := 638) (tgt := 2620) dL_law_638 (by decide) (fun _ => k _ _ hP.2) (fun q => absurd hP.1 q)
theorem lc_11 {L n : Nat} {xs : Nat → Int32} {wc wr : Wd} {o : Int64} {i : Int32} (hn9 : n ≤ 1000) (hI : ∀ j : Nat, j < 6 → vp_in (i + Int32.ofNat j) L) (hP : PairI mX10_figure mX11_figure [(sA xs i 1), (sA xs i 2)] wc wr) (k : ∀ wc' wr', RelE wc' wr' → GoL L xs 2620 [(0, .ref 3), (1, .ref 0), (2, .ref 1), (3, .ref 2), (4, .int i)] [] n wc' wr' o) : GoL L xs 643 [(0, .ref 3), (1, .ref 0), (2, .ref 1), (3, .ref 2), (4, .int i)] [] n wc wr o := by
  unfold PairI at hP
  refine gl_aload_n (pc := 643) dL_law_643 rfl 1 rfl ?_
  refine gl_aload_n (pc := 644) dL_law_644 rfl 0 rfl ?_
  refine gl_iload (pc := 645) dL_law_645 4 rfl ?_
  refine gl_iconst (pc := 647) dL_law_647 c_1 ?_
  refine gl_iadd (pc := 648) dL_law_648 ?_
  refine gl_sld (pc := 649) dL_law_649 (hI 1 (by decide)) ?_
  refine gl_re (st2 := [.int (sA xs i 1), .ref 0]) rfl ?_
  refine gl_aload_n (pc := 650) dL_law_650 rfl 0 rfl ?_
  refine gl_iload (pc := 651) dL_law_651 4 rfl ?_
  refine gl_iconst (pc := 653) dL_law_653 c_2 ?_
  refine gl_iadd (pc := 654) dL_law_654 ?_
  refine gl_sld (pc := 655) dL_law_655 (hI 2 (by decide)) ?_
  refine gl_re (st2 := [.int (sA xs i 2), .int (sA xs i 1), .ref 0]) rfl ?_
  refine gl_callCI (pc := 656) (is := [(sA xs i 1), (sA xs i 2)]) (st := []) hn9 dL_law_656 kL_66 vL_66 (Nat.le_of_ble_eq_true rfl) rfl rfl rfl (Nat.le_of_ble_eq_true rfl) ?_
  refine ClI.mono (fun x1 wc' hP => ?_) hP
  refine gl_aload_n (pc := 659) dL_law_659 rfl 2 rfl ?_
  refine gl_aload_n (pc := 660) dL_law_660 rfl 0 rfl ?_
  refine gl_iload (pc := 661) dL_law_661 4 rfl ?_
  refine gl_iconst (pc := 663) dL_law_663 c_1 ?_
  refine gl_iadd (pc := 664) dL_law_664 ?_
  refine gl_sld (pc := 665) dL_law_665 (hI 1 (by decide)) ?_
  refine gl_re (st2 := [.int (sA xs i 1), .ref 1, .int x1]) rfl ?_
  refine gl_aload_n (pc := 666) dL_law_666 rfl 0 rfl ?_
  refine gl_iload (pc := 667) dL_law_667 4 rfl ?_
  refine gl_iconst (pc := 669) dL_law_669 c_2 ?_
  refine gl_iadd (pc := 670) dL_law_670 ?_
  refine gl_sld (pc := 671) dL_law_671 (hI 2 (by decide)) ?_
  refine gl_re (st2 := [.int (sA xs i 2), .int (sA xs i 1), .ref 1, .int x1]) rfl ?_
  refine gl_callRI (pc := 672) (is := [(sA xs i 1), (sA xs i 2)]) (st := [.int x1]) hn9 dL_law_672 kL_69 vL_69 (Nat.le_of_ble_eq_true rfl) rfl rfl rfl (Nat.le_of_ble_eq_true rfl) ?_
  refine ClI.mono (fun x2 wr' hP => ?_) hP
  refine gl_icmp_eq (pc := 675) (tgt := 2620) dL_law_675 (by decide) (fun _ => k _ _ hP.2) (fun q => absurd hP.1 q)
theorem lc_12 {L n : Nat} {xs : Nat → Int32} {wc wr : Wd} {o : Int64} {i : Int32} (hn9 : n ≤ 1000) (hI : ∀ j : Nat, j < 6 → vp_in (i + Int32.ofNat j) L) (hP : PairI mX10_upperAfter mX11_upperAfter [(sA xs i 1), (sA xs i 2)] wc wr) (k : ∀ wc' wr', RelE wc' wr' → GoL L xs 2620 [(0, .ref 3), (1, .ref 0), (2, .ref 1), (3, .ref 2), (4, .int i)] [] n wc' wr' o) : GoL L xs 680 [(0, .ref 3), (1, .ref 0), (2, .ref 1), (3, .ref 2), (4, .int i)] [] n wc wr o := by
  unfold PairI at hP
  refine gl_aload_n (pc := 680) dL_law_680 rfl 1 rfl ?_
  refine gl_aload_n (pc := 681) dL_law_681 rfl 0 rfl ?_
  refine gl_iload (pc := 682) dL_law_682 4 rfl ?_
  refine gl_iconst (pc := 684) dL_law_684 c_1 ?_
  refine gl_iadd (pc := 685) dL_law_685 ?_
  refine gl_sld (pc := 686) dL_law_686 (hI 1 (by decide)) ?_
  refine gl_re (st2 := [.int (sA xs i 1), .ref 0]) rfl ?_
  refine gl_aload_n (pc := 687) dL_law_687 rfl 0 rfl ?_
  refine gl_iload (pc := 688) dL_law_688 4 rfl ?_
  refine gl_iconst (pc := 690) dL_law_690 c_2 ?_
  refine gl_iadd (pc := 691) dL_law_691 ?_
  refine gl_sld (pc := 692) dL_law_692 (hI 2 (by decide)) ?_
  refine gl_re (st2 := [.int (sA xs i 2), .int (sA xs i 1), .ref 0]) rfl ?_
  refine gl_callCI (pc := 693) (is := [(sA xs i 1), (sA xs i 2)]) (st := []) hn9 dL_law_693 kL_70 vL_70 (Nat.le_of_ble_eq_true rfl) rfl rfl rfl (Nat.le_of_ble_eq_true rfl) ?_
  refine ClI.mono (fun x1 wc' hP => ?_) hP
  refine gl_aload_n (pc := 696) dL_law_696 rfl 2 rfl ?_
  refine gl_aload_n (pc := 697) dL_law_697 rfl 0 rfl ?_
  refine gl_iload (pc := 698) dL_law_698 4 rfl ?_
  refine gl_iconst (pc := 700) dL_law_700 c_1 ?_
  refine gl_iadd (pc := 701) dL_law_701 ?_
  refine gl_sld (pc := 702) dL_law_702 (hI 1 (by decide)) ?_
  refine gl_re (st2 := [.int (sA xs i 1), .ref 1, .int x1]) rfl ?_
  refine gl_aload_n (pc := 703) dL_law_703 rfl 0 rfl ?_
  refine gl_iload (pc := 704) dL_law_704 4 rfl ?_
  refine gl_iconst (pc := 706) dL_law_706 c_2 ?_
  refine gl_iadd (pc := 707) dL_law_707 ?_
  refine gl_sld (pc := 708) dL_law_708 (hI 2 (by decide)) ?_
  refine gl_re (st2 := [.int (sA xs i 2), .int (sA xs i 1), .ref 1, .int x1]) rfl ?_
  refine gl_callRI (pc := 709) (is := [(sA xs i 1), (sA xs i 2)]) (st := [.int x1]) hn9 dL_law_709 kL_73 vL_73 (Nat.le_of_ble_eq_true rfl) rfl rfl rfl (Nat.le_of_ble_eq_true rfl) ?_
  refine ClI.mono (fun x2 wr' hP => ?_) hP
  refine gl_icmp_eq (pc := 712) (tgt := 2620) dL_law_712 (by decide) (fun _ => k _ _ hP.2) (fun q => absurd hP.1 q)
theorem lc_13 {L n : Nat} {xs : Nat → Int32} {wc wr : Wd} {o : Int64} {i : Int32} (hn9 : n ≤ 1000) (hI : ∀ j : Nat, j < 6 → vp_in (i + Int32.ofNat j) L) (hP : PairI mX10_lowerAfter mX11_lowerAfter [(sA xs i 1), (sA xs i 2)] wc wr) (k : ∀ wc' wr', RelE wc' wr' → GoL L xs 2620 [(0, .ref 3), (1, .ref 0), (2, .ref 1), (3, .ref 2), (4, .int i)] [] n wc' wr' o) : GoL L xs 717 [(0, .ref 3), (1, .ref 0), (2, .ref 1), (3, .ref 2), (4, .int i)] [] n wc wr o := by
  unfold PairI at hP
  refine gl_aload_n (pc := 717) dL_law_717 rfl 1 rfl ?_
  refine gl_aload_n (pc := 718) dL_law_718 rfl 0 rfl ?_
  refine gl_iload (pc := 719) dL_law_719 4 rfl ?_
  refine gl_iconst (pc := 721) dL_law_721 c_1 ?_
  refine gl_iadd (pc := 722) dL_law_722 ?_
  refine gl_sld (pc := 723) dL_law_723 (hI 1 (by decide)) ?_
  refine gl_re (st2 := [.int (sA xs i 1), .ref 0]) rfl ?_
  refine gl_aload_n (pc := 724) dL_law_724 rfl 0 rfl ?_
  refine gl_iload (pc := 725) dL_law_725 4 rfl ?_
  refine gl_iconst (pc := 727) dL_law_727 c_2 ?_
  refine gl_iadd (pc := 728) dL_law_728 ?_
  refine gl_sld (pc := 729) dL_law_729 (hI 2 (by decide)) ?_
  refine gl_re (st2 := [.int (sA xs i 2), .int (sA xs i 1), .ref 0]) rfl ?_
  refine gl_callCI (pc := 730) (is := [(sA xs i 1), (sA xs i 2)]) (st := []) hn9 dL_law_730 kL_74 vL_74 (Nat.le_of_ble_eq_true rfl) rfl rfl rfl (Nat.le_of_ble_eq_true rfl) ?_
  refine ClI.mono (fun x1 wc' hP => ?_) hP
  refine gl_aload_n (pc := 733) dL_law_733 rfl 2 rfl ?_
  refine gl_aload_n (pc := 734) dL_law_734 rfl 0 rfl ?_
  refine gl_iload (pc := 735) dL_law_735 4 rfl ?_
  refine gl_iconst (pc := 737) dL_law_737 c_1 ?_
  refine gl_iadd (pc := 738) dL_law_738 ?_
  refine gl_sld (pc := 739) dL_law_739 (hI 1 (by decide)) ?_
  refine gl_re (st2 := [.int (sA xs i 1), .ref 1, .int x1]) rfl ?_
  refine gl_aload_n (pc := 740) dL_law_740 rfl 0 rfl ?_
  refine gl_iload (pc := 741) dL_law_741 4 rfl ?_
  refine gl_iconst (pc := 743) dL_law_743 c_2 ?_
  refine gl_iadd (pc := 744) dL_law_744 ?_
  refine gl_sld (pc := 745) dL_law_745 (hI 2 (by decide)) ?_
  refine gl_re (st2 := [.int (sA xs i 2), .int (sA xs i 1), .ref 1, .int x1]) rfl ?_
  refine gl_callRI (pc := 746) (is := [(sA xs i 1), (sA xs i 2)]) (st := [.int x1]) hn9 dL_law_746 kL_77 vL_77 (Nat.le_of_ble_eq_true rfl) rfl rfl rfl (Nat.le_of_ble_eq_true rfl) ?_
  refine ClI.mono (fun x2 wr' hP => ?_) hP
  refine gl_icmp_eq (pc := 749) (tgt := 2620) dL_law_749 (by decide) (fun _ => k _ _ hP.2) (fun q => absurd hP.1 q)
theorem lc_14 {L n : Nat} {xs : Nat → Int32} {wc wr : Wd} {o : Int64} {i : Int32} (hn9 : n ≤ 1000) (hI : ∀ j : Nat, j < 6 → vp_in (i + Int32.ofNat j) L) (hP : PairI mX10_mostAt mX11_mostAt [(sA xs i 1)] wc wr) (k : ∀ wc' wr', RelE wc' wr' → GoL L xs 2620 [(0, .ref 3), (1, .ref 0), (2, .ref 1), (3, .ref 2), (4, .int i)] [] n wc' wr' o) : GoL L xs 754 [(0, .ref 3), (1, .ref 0), (2, .ref 1), (3, .ref 2), (4, .int i)] [] n wc wr o := by
  unfold PairI at hP
  refine gl_aload_n (pc := 754) dL_law_754 rfl 1 rfl ?_
  refine gl_aload_n (pc := 755) dL_law_755 rfl 0 rfl ?_
  refine gl_iload (pc := 756) dL_law_756 4 rfl ?_
  refine gl_iconst (pc := 758) dL_law_758 c_1 ?_
  refine gl_iadd (pc := 759) dL_law_759 ?_
  refine gl_sld (pc := 760) dL_law_760 (hI 1 (by decide)) ?_
  refine gl_re (st2 := [.int (sA xs i 1), .ref 0]) rfl ?_
  refine gl_callCI (pc := 761) (is := [(sA xs i 1)]) (st := []) hn9 dL_law_761 kL_78 vL_78 (Nat.le_of_ble_eq_true rfl) rfl rfl rfl (Nat.le_of_ble_eq_true rfl) ?_
  refine ClI.mono (fun x1 wc' hP => ?_) hP
  refine gl_aload_n (pc := 764) dL_law_764 rfl 2 rfl ?_
  refine gl_aload_n (pc := 765) dL_law_765 rfl 0 rfl ?_
  refine gl_iload (pc := 766) dL_law_766 4 rfl ?_
  refine gl_iconst (pc := 768) dL_law_768 c_1 ?_
  refine gl_iadd (pc := 769) dL_law_769 ?_
  refine gl_sld (pc := 770) dL_law_770 (hI 1 (by decide)) ?_
  refine gl_re (st2 := [.int (sA xs i 1), .ref 1, .int x1]) rfl ?_
  refine gl_callRI (pc := 771) (is := [(sA xs i 1)]) (st := [.int x1]) hn9 dL_law_771 kL_81 vL_81 (Nat.le_of_ble_eq_true rfl) rfl rfl rfl (Nat.le_of_ble_eq_true rfl) ?_
  refine ClI.mono (fun x2 wr' hP => ?_) hP
  refine gl_icmp_eq (pc := 774) (tgt := 2620) dL_law_774 (by decide) (fun _ => k _ _ hP.2) (fun q => absurd hP.1 q)
theorem lc_15 {L n : Nat} {xs : Nat → Int32} {wc wr : Wd} {o : Int64} {i : Int32} (hn9 : n ≤ 1000) (hI : ∀ j : Nat, j < 6 → vp_in (i + Int32.ofNat j) L) (hP : PairI mX10_goesFirst mX11_goesFirst [(sA xs i 1), (sA xs i 2), (sA xs i 3)] wc wr) (k : ∀ wc' wr', RelE wc' wr' → GoL L xs 2620 [(0, .ref 3), (1, .ref 0), (2, .ref 1), (3, .ref 2), (4, .int i)] [] n wc' wr' o) : GoL L xs 779 [(0, .ref 3), (1, .ref 0), (2, .ref 1), (3, .ref 2), (4, .int i)] [] n wc wr o := by
  unfold PairI at hP
  refine gl_aload_n (pc := 779) dL_law_779 rfl 1 rfl ?_
  refine gl_aload_n (pc := 780) dL_law_780 rfl 0 rfl ?_
  refine gl_iload (pc := 781) dL_law_781 4 rfl ?_
  refine gl_iconst (pc := 783) dL_law_783 c_1 ?_
  refine gl_iadd (pc := 784) dL_law_784 ?_
  refine gl_sld (pc := 785) dL_law_785 (hI 1 (by decide)) ?_
  refine gl_re (st2 := [.int (sA xs i 1), .ref 0]) rfl ?_
  refine gl_aload_n (pc := 786) dL_law_786 rfl 0 rfl ?_
  refine gl_iload (pc := 787) dL_law_787 4 rfl ?_
  refine gl_iconst (pc := 789) dL_law_789 c_2 ?_
  refine gl_iadd (pc := 790) dL_law_790 ?_
  refine gl_sld (pc := 791) dL_law_791 (hI 2 (by decide)) ?_
  refine gl_re (st2 := [.int (sA xs i 2), .int (sA xs i 1), .ref 0]) rfl ?_
  refine gl_aload_n (pc := 792) dL_law_792 rfl 0 rfl ?_
  refine gl_iload (pc := 793) dL_law_793 4 rfl ?_
  refine gl_iconst (pc := 795) dL_law_795 c_3 ?_
  refine gl_iadd (pc := 796) dL_law_796 ?_
  refine gl_sld (pc := 797) dL_law_797 (hI 3 (by decide)) ?_
  refine gl_re (st2 := [.int (sA xs i 3), .int (sA xs i 2), .int (sA xs i 1), .ref 0]) rfl ?_
  refine gl_callCI (pc := 798) (is := [(sA xs i 1), (sA xs i 2), (sA xs i 3)]) (st := []) hn9 dL_law_798 kL_82 vL_82 (Nat.le_of_ble_eq_true rfl) rfl rfl rfl (Nat.le_of_ble_eq_true rfl) ?_
  refine ClI.mono (fun x1 wc' hP => ?_) hP
  refine gl_aload_n (pc := 801) dL_law_801 rfl 2 rfl ?_
  refine gl_aload_n (pc := 802) dL_law_802 rfl 0 rfl ?_
  refine gl_iload (pc := 803) dL_law_803 4 rfl ?_
  refine gl_iconst (pc := 805) dL_law_805 c_1 ?_
  refine gl_iadd (pc := 806) dL_law_806 ?_
  refine gl_sld (pc := 807) dL_law_807 (hI 1 (by decide)) ?_
  refine gl_re (st2 := [.int (sA xs i 1), .ref 1, .int x1]) rfl ?_
  refine gl_aload_n (pc := 808) dL_law_808 rfl 0 rfl ?_
  refine gl_iload (pc := 809) dL_law_809 4 rfl ?_
  refine gl_iconst (pc := 811) dL_law_811 c_2 ?_
  refine gl_iadd (pc := 812) dL_law_812 ?_
  refine gl_sld (pc := 813) dL_law_813 (hI 2 (by decide)) ?_
  refine gl_re (st2 := [.int (sA xs i 2), .int (sA xs i 1), .ref 1, .int x1]) rfl ?_
  refine gl_aload_n (pc := 814) dL_law_814 rfl 0 rfl ?_
  refine gl_iload (pc := 815) dL_law_815 4 rfl ?_
  refine gl_iconst (pc := 817) dL_law_817 c_3 ?_
  refine gl_iadd (pc := 818) dL_law_818 ?_
  refine gl_sld (pc := 819) dL_law_819 (hI 3 (by decide)) ?_
  refine gl_re (st2 := [.int (sA xs i 3), .int (sA xs i 2), .int (sA xs i 1), .ref 1, .int x1]) rfl ?_
  refine gl_callRI (pc := 820) (is := [(sA xs i 1), (sA xs i 2), (sA xs i 3)]) (st := [.int x1]) hn9 dL_law_820 kL_86 vL_86 (Nat.le_of_ble_eq_true rfl) rfl rfl rfl (Nat.le_of_ble_eq_true rfl) ?_
  refine ClI.mono (fun x2 wr' hP => ?_) hP
  refine gl_icmp_eq (pc := 823) (tgt := 2620) dL_law_823 (by decide) (fun _ => k _ _ hP.2) (fun q => absurd hP.1 q)
theorem lc_16 {L n : Nat} {xs : Nat → Int32} {wc wr : Wd} {o : Int64} {i : Int32} (hn9 : n ≤ 1000) (hI : ∀ j : Nat, j < 6 → vp_in (i + Int32.ofNat j) L) (hP : PairI mX10_again mX11_again [(sA xs i 1)] wc wr) (k : ∀ wc' wr', RelE wc' wr' → GoL L xs 2620 [(0, .ref 3), (1, .ref 0), (2, .ref 1), (3, .ref 2), (4, .int i)] [] n wc' wr' o) : GoL L xs 828 [(0, .ref 3), (1, .ref 0), (2, .ref 1), (3, .ref 2), (4, .int i)] [] n wc wr o := by
  unfold PairI at hP
  refine gl_aload_n (pc := 828) dL_law_828 rfl 1 rfl ?_
  refine gl_aload_n (pc := 829) dL_law_829 rfl 0 rfl ?_
  refine gl_iload (pc := 830) dL_law_830 4 rfl ?_
  refine gl_iconst (pc := 832) dL_law_832 c_1 ?_
  refine gl_iadd (pc := 833) dL_law_833 ?_
  refine gl_sld (pc := 834) dL_law_834 (hI 1 (by decide)) ?_
  refine gl_re (st2 := [.int (sA xs i 1), .ref 0]) rfl ?_
  refine gl_callCI (pc := 835) (is := [(sA xs i 1)]) (st := []) hn9 dL_law_835 kL_87 vL_87 (Nat.le_of_ble_eq_true rfl) rfl rfl rfl (Nat.le_of_ble_eq_true rfl) ?_
  refine ClI.mono (fun x1 wc' hP => ?_) hP
  refine gl_aload_n (pc := 838) dL_law_838 rfl 2 rfl ?_
  refine gl_aload_n (pc := 839) dL_law_839 rfl 0 rfl ?_
  refine gl_iload (pc := 840) dL_law_840 4 rfl ?_
  refine gl_iconst (pc := 842) dL_law_842 c_1 ?_
  refine gl_iadd (pc := 843) dL_law_843 ?_
  refine gl_sld (pc := 844) dL_law_844 (hI 1 (by decide)) ?_
  refine gl_re (st2 := [.int (sA xs i 1), .ref 1, .int x1]) rfl ?_
  refine gl_callRI (pc := 845) (is := [(sA xs i 1)]) (st := [.int x1]) hn9 dL_law_845 kL_90 vL_90 (Nat.le_of_ble_eq_true rfl) rfl rfl rfl (Nat.le_of_ble_eq_true rfl) ?_
  refine ClI.mono (fun x2 wr' hP => ?_) hP
  refine gl_icmp_eq (pc := 848) (tgt := 2620) dL_law_848 (by decide) (fun _ => k _ _ hP.2) (fun q => absurd hP.1 q)
theorem lc_17 {L n : Nat} {xs : Nat → Int32} {wc wr : Wd} {o : Int64} {i : Int32} (hn9 : n ≤ 1000) (hI : ∀ j : Nat, j < 6 → vp_in (i + Int32.ofNat j) L) (hP : PairI mX10_trace mX11_trace [(sA xs i 1)] wc wr) (k : ∀ wc' wr', RelE wc' wr' → GoL L xs 2620 [(0, .ref 3), (1, .ref 0), (2, .ref 1), (3, .ref 2), (4, .int i)] [] n wc' wr' o) : GoL L xs 853 [(0, .ref 3), (1, .ref 0), (2, .ref 1), (3, .ref 2), (4, .int i)] [] n wc wr o := by
  unfold PairI at hP
  refine gl_aload_n (pc := 853) dL_law_853 rfl 1 rfl ?_
  refine gl_aload_n (pc := 854) dL_law_854 rfl 0 rfl ?_
  refine gl_iload (pc := 855) dL_law_855 4 rfl ?_
  refine gl_iconst (pc := 857) dL_law_857 c_1 ?_
  refine gl_iadd (pc := 858) dL_law_858 ?_
  refine gl_sld (pc := 859) dL_law_859 (hI 1 (by decide)) ?_
  refine gl_re (st2 := [.int (sA xs i 1), .ref 0]) rfl ?_
  refine gl_callCI (pc := 860) (is := [(sA xs i 1)]) (st := []) hn9 dL_law_860 kL_91 vL_91 (Nat.le_of_ble_eq_true rfl) rfl rfl rfl (Nat.le_of_ble_eq_true rfl) ?_
  refine ClI.mono (fun x1 wc' hP => ?_) hP
  refine gl_aload_n (pc := 863) dL_law_863 rfl 2 rfl ?_
  refine gl_aload_n (pc := 864) dL_law_864 rfl 0 rfl ?_
  refine gl_iload (pc := 865) dL_law_865 4 rfl ?_
  refine gl_iconst (pc := 867) dL_law_867 c_1 ?_
  refine gl_iadd (pc := 868) dL_law_868 ?_
  refine gl_sld (pc := 869) dL_law_869 (hI 1 (by decide)) ?_
  refine gl_re (st2 := [.int (sA xs i 1), .ref 1, .int x1]) rfl ?_
  refine gl_callRI (pc := 870) (is := [(sA xs i 1)]) (st := [.int x1]) hn9 dL_law_870 kL_94 vL_94 (Nat.le_of_ble_eq_true rfl) rfl rfl rfl (Nat.le_of_ble_eq_true rfl) ?_
  refine ClI.mono (fun x2 wr' hP => ?_) hP
  refine gl_icmp_eq (pc := 873) (tgt := 2620) dL_law_873 (by decide) (fun _ => k _ _ hP.2) (fun q => absurd hP.1 q)
theorem lc_18 {L n : Nat} {xs : Nat → Int32} {wc wr : Wd} {o : Int64} {i : Int32} (hn9 : n ≤ 1000) (hI : ∀ j : Nat, j < 6 → vp_in (i + Int32.ofNat j) L) (hP : PairI mX10_sameDance mX11_sameDance [(sA xs i 1), (sA xs i 2)] wc wr) (k : ∀ wc' wr', RelE wc' wr' → GoL L xs 2620 [(0, .ref 3), (1, .ref 0), (2, .ref 1), (3, .ref 2), (4, .int i)] [] n wc' wr' o) : GoL L xs 878 [(0, .ref 3), (1, .ref 0), (2, .ref 1), (3, .ref 2), (4, .int i)] [] n wc wr o := by
  unfold PairI at hP
  refine gl_aload_n (pc := 878) dL_law_878 rfl 1 rfl ?_
  refine gl_aload_n (pc := 879) dL_law_879 rfl 0 rfl ?_
  refine gl_iload (pc := 880) dL_law_880 4 rfl ?_
  refine gl_iconst (pc := 882) dL_law_882 c_1 ?_
  refine gl_iadd (pc := 883) dL_law_883 ?_
  refine gl_sld (pc := 884) dL_law_884 (hI 1 (by decide)) ?_
  refine gl_re (st2 := [.int (sA xs i 1), .ref 0]) rfl ?_
  refine gl_aload_n (pc := 885) dL_law_885 rfl 0 rfl ?_
  refine gl_iload (pc := 886) dL_law_886 4 rfl ?_
  refine gl_iconst (pc := 888) dL_law_888 c_2 ?_
  refine gl_iadd (pc := 889) dL_law_889 ?_
  refine gl_sld (pc := 890) dL_law_890 (hI 2 (by decide)) ?_
  refine gl_re (st2 := [.int (sA xs i 2), .int (sA xs i 1), .ref 0]) rfl ?_
  refine gl_callCI (pc := 891) (is := [(sA xs i 1), (sA xs i 2)]) (st := []) hn9 dL_law_891 kL_95 vL_95 (Nat.le_of_ble_eq_true rfl) rfl rfl rfl (Nat.le_of_ble_eq_true rfl) ?_
  refine ClI.mono (fun x1 wc' hP => ?_) hP
  refine gl_aload_n (pc := 894) dL_law_894 rfl 2 rfl ?_
  refine gl_aload_n (pc := 895) dL_law_895 rfl 0 rfl ?_
  refine gl_iload (pc := 896) dL_law_896 4 rfl ?_
  refine gl_iconst (pc := 898) dL_law_898 c_1 ?_
  refine gl_iadd (pc := 899) dL_law_899 ?_
  refine gl_sld (pc := 900) dL_law_900 (hI 1 (by decide)) ?_
  refine gl_re (st2 := [.int (sA xs i 1), .ref 1, .int x1]) rfl ?_
  refine gl_aload_n (pc := 901) dL_law_901 rfl 0 rfl ?_
  refine gl_iload (pc := 902) dL_law_902 4 rfl ?_
  refine gl_iconst (pc := 904) dL_law_904 c_2 ?_
  refine gl_iadd (pc := 905) dL_law_905 ?_
  refine gl_sld (pc := 906) dL_law_906 (hI 2 (by decide)) ?_
  refine gl_re (st2 := [.int (sA xs i 2), .int (sA xs i 1), .ref 1, .int x1]) rfl ?_
  refine gl_callRI (pc := 907) (is := [(sA xs i 1), (sA xs i 2)]) (st := [.int x1]) hn9 dL_law_907 kL_98 vL_98 (Nat.le_of_ble_eq_true rfl) rfl rfl rfl (Nat.le_of_ble_eq_true rfl) ?_
  refine ClI.mono (fun x2 wr' hP => ?_) hP
  refine gl_icmp_eq (pc := 910) (tgt := 2620) dL_law_910 (by decide) (fun _ => k _ _ hP.2) (fun q => absurd hP.1 q)
theorem lc_19 {L n : Nat} {xs : Nat → Int32} {wc wr : Wd} {o : Int64} {i : Int32} (hn9 : n ≤ 1000) (hI : ∀ j : Nat, j < 6 → vp_in (i + Int32.ofNat j) L) (hP : PairI mX10_untie mX11_untie [(sA xs i 1)] wc wr) (k : ∀ wc' wr', RelE wc' wr' → GoL L xs 2620 [(0, .ref 3), (1, .ref 0), (2, .ref 1), (3, .ref 2), (4, .int i)] [] n wc' wr' o) : GoL L xs 915 [(0, .ref 3), (1, .ref 0), (2, .ref 1), (3, .ref 2), (4, .int i)] [] n wc wr o := by
  unfold PairI at hP
  refine gl_aload_n (pc := 915) dL_law_915 rfl 1 rfl ?_
  refine gl_aload_n (pc := 916) dL_law_916 rfl 0 rfl ?_
  refine gl_iload (pc := 917) dL_law_917 4 rfl ?_
  refine gl_iconst (pc := 919) dL_law_919 c_1 ?_
  refine gl_iadd (pc := 920) dL_law_920 ?_
  refine gl_sld (pc := 921) dL_law_921 (hI 1 (by decide)) ?_
  refine gl_re (st2 := [.int (sA xs i 1), .ref 0]) rfl ?_
  refine gl_callCI (pc := 922) (is := [(sA xs i 1)]) (st := []) hn9 dL_law_922 kL_99 vL_99 (Nat.le_of_ble_eq_true rfl) rfl rfl rfl (Nat.le_of_ble_eq_true rfl) ?_
  refine ClI.mono (fun x1 wc' hP => ?_) hP
  refine gl_aload_n (pc := 925) dL_law_925 rfl 2 rfl ?_
  refine gl_aload_n (pc := 926) dL_law_926 rfl 0 rfl ?_
  refine gl_iload (pc := 927) dL_law_927 4 rfl ?_
  refine gl_iconst (pc := 929) dL_law_929 c_1 ?_
  refine gl_iadd (pc := 930) dL_law_930 ?_
  refine gl_sld (pc := 931) dL_law_931 (hI 1 (by decide)) ?_
  refine gl_re (st2 := [.int (sA xs i 1), .ref 1, .int x1]) rfl ?_
  refine gl_callRI (pc := 932) (is := [(sA xs i 1)]) (st := [.int x1]) hn9 dL_law_932 kL_102 vL_102 (Nat.le_of_ble_eq_true rfl) rfl rfl rfl (Nat.le_of_ble_eq_true rfl) ?_
  refine ClI.mono (fun x2 wr' hP => ?_) hP
  refine gl_icmp_eq (pc := 935) (tgt := 2620) dL_law_935 (by decide) (fun _ => k _ _ hP.2) (fun q => absurd hP.1 q)
theorem lc_20 {L n : Nat} {xs : Nat → Int32} {wc wr : Wd} {o : Int64} {i : Int32} (hn9 : n ≤ 1000) (hI : ∀ j : Nat, j < 6 → vp_in (i + Int32.ofNat j) L) (hP : PairI mX10_turnsOf mX11_turnsOf [(sA xs i 1)] wc wr) (k : ∀ wc' wr', RelE wc' wr' → GoL L xs 2620 [(0, .ref 3), (1, .ref 0), (2, .ref 1), (3, .ref 2), (4, .int i)] [] n wc' wr' o) : GoL L xs 940 [(0, .ref 3), (1, .ref 0), (2, .ref 1), (3, .ref 2), (4, .int i)] [] n wc wr o := by
  unfold PairI at hP
  refine gl_aload_n (pc := 940) dL_law_940 rfl 1 rfl ?_
  refine gl_aload_n (pc := 941) dL_law_941 rfl 0 rfl ?_
  refine gl_iload (pc := 942) dL_law_942 4 rfl ?_
  refine gl_iconst (pc := 944) dL_law_944 c_1 ?_
  refine gl_iadd (pc := 945) dL_law_945 ?_
  refine gl_sld (pc := 946) dL_law_946 (hI 1 (by decide)) ?_
  refine gl_re (st2 := [.int (sA xs i 1), .ref 0]) rfl ?_
  refine gl_callCI (pc := 947) (is := [(sA xs i 1)]) (st := []) hn9 dL_law_947 kL_103 vL_103 (Nat.le_of_ble_eq_true rfl) rfl rfl rfl (Nat.le_of_ble_eq_true rfl) ?_
  refine ClI.mono (fun x1 wc' hP => ?_) hP
  refine gl_aload_n (pc := 950) dL_law_950 rfl 2 rfl ?_
  refine gl_aload_n (pc := 951) dL_law_951 rfl 0 rfl ?_
  refine gl_iload (pc := 952) dL_law_952 4 rfl ?_
  refine gl_iconst (pc := 954) dL_law_954 c_1 ?_
  refine gl_iadd (pc := 955) dL_law_955 ?_
  refine gl_sld (pc := 956) dL_law_956 (hI 1 (by decide)) ?_
  refine gl_re (st2 := [.int (sA xs i 1), .ref 1, .int x1]) rfl ?_
  refine gl_callRI (pc := 957) (is := [(sA xs i 1)]) (st := [.int x1]) hn9 dL_law_957 kL_106 vL_106 (Nat.le_of_ble_eq_true rfl) rfl rfl rfl (Nat.le_of_ble_eq_true rfl) ?_
  refine ClI.mono (fun x2 wr' hP => ?_) hP
  refine gl_icmp_eq (pc := 960) (tgt := 2620) dL_law_960 (by decide) (fun _ => k _ _ hP.2) (fun q => absurd hP.1 q)
theorem lc_21 {L n : Nat} {xs : Nat → Int32} {wc wr : Wd} {o : Int64} {i : Int32} (hn9 : n ≤ 1000) (hI : ∀ j : Nat, j < 6 → vp_in (i + Int32.ofNat j) L) (hP : PairI mX10_untieAt mX11_untieAt [(sA xs i 1), (sA xs i 2)] wc wr) (k : ∀ wc' wr', RelE wc' wr' → GoL L xs 2620 [(0, .ref 3), (1, .ref 0), (2, .ref 1), (3, .ref 2), (4, .int i)] [] n wc' wr' o) : GoL L xs 965 [(0, .ref 3), (1, .ref 0), (2, .ref 1), (3, .ref 2), (4, .int i)] [] n wc wr o := by
  unfold PairI at hP
  refine gl_aload_n (pc := 965) dL_law_965 rfl 1 rfl ?_
  refine gl_aload_n (pc := 966) dL_law_966 rfl 0 rfl ?_
  refine gl_iload (pc := 967) dL_law_967 4 rfl ?_
  refine gl_iconst (pc := 969) dL_law_969 c_1 ?_
  refine gl_iadd (pc := 970) dL_law_970 ?_
  refine gl_sld (pc := 971) dL_law_971 (hI 1 (by decide)) ?_
  refine gl_re (st2 := [.int (sA xs i 1), .ref 0]) rfl ?_
  refine gl_aload_n (pc := 972) dL_law_972 rfl 0 rfl ?_
  refine gl_iload (pc := 973) dL_law_973 4 rfl ?_
  refine gl_iconst (pc := 975) dL_law_975 c_2 ?_
  refine gl_iadd (pc := 976) dL_law_976 ?_
  refine gl_sld (pc := 977) dL_law_977 (hI 2 (by decide)) ?_
  refine gl_re (st2 := [.int (sA xs i 2), .int (sA xs i 1), .ref 0]) rfl ?_
  refine gl_callCI (pc := 978) (is := [(sA xs i 1), (sA xs i 2)]) (st := []) hn9 dL_law_978 kL_107 vL_107 (Nat.le_of_ble_eq_true rfl) rfl rfl rfl (Nat.le_of_ble_eq_true rfl) ?_
  refine ClI.mono (fun x1 wc' hP => ?_) hP
  refine gl_aload_n (pc := 981) dL_law_981 rfl 2 rfl ?_
  refine gl_aload_n (pc := 982) dL_law_982 rfl 0 rfl ?_
  refine gl_iload (pc := 983) dL_law_983 4 rfl ?_
  refine gl_iconst (pc := 985) dL_law_985 c_1 ?_
  refine gl_iadd (pc := 986) dL_law_986 ?_
  refine gl_sld (pc := 987) dL_law_987 (hI 1 (by decide)) ?_
  refine gl_re (st2 := [.int (sA xs i 1), .ref 1, .int x1]) rfl ?_
  refine gl_aload_n (pc := 988) dL_law_988 rfl 0 rfl ?_
  refine gl_iload (pc := 989) dL_law_989 4 rfl ?_
  refine gl_iconst (pc := 991) dL_law_991 c_2 ?_
  refine gl_iadd (pc := 992) dL_law_992 ?_
  refine gl_sld (pc := 993) dL_law_993 (hI 2 (by decide)) ?_
  refine gl_re (st2 := [.int (sA xs i 2), .int (sA xs i 1), .ref 1, .int x1]) rfl ?_
  refine gl_callRI (pc := 994) (is := [(sA xs i 1), (sA xs i 2)]) (st := [.int x1]) hn9 dL_law_994 kL_110 vL_110 (Nat.le_of_ble_eq_true rfl) rfl rfl rfl (Nat.le_of_ble_eq_true rfl) ?_
  refine ClI.mono (fun x2 wr' hP => ?_) hP
  refine gl_icmp_eq (pc := 997) (tgt := 2620) dL_law_997 (by decide) (fun _ => k _ _ hP.2) (fun q => absurd hP.1 q)
theorem lc_22 {L n : Nat} {xs : Nat → Int32} {wc wr : Wd} {o : Int64} {i : Int32} (hn9 : n ≤ 1000) (hI : ∀ j : Nat, j < 6 → vp_in (i + Int32.ofNat j) L) (hP : PairI mX10_widest mX11_widest [(sA xs i 1)] wc wr) (k : ∀ wc' wr', RelE wc' wr' → GoL L xs 2620 [(0, .ref 3), (1, .ref 0), (2, .ref 1), (3, .ref 2), (4, .int i)] [] n wc' wr' o) : GoL L xs 1002 [(0, .ref 3), (1, .ref 0), (2, .ref 1), (3, .ref 2), (4, .int i)] [] n wc wr o := by
  unfold PairI at hP
  refine gl_aload_n (pc := 1002) dL_law_1002 rfl 1 rfl ?_
  refine gl_aload_n (pc := 1003) dL_law_1003 rfl 0 rfl ?_
  refine gl_iload (pc := 1004) dL_law_1004 4 rfl ?_
  refine gl_iconst (pc := 1006) dL_law_1006 c_1 ?_
  refine gl_iadd (pc := 1007) dL_law_1007 ?_
  refine gl_sld (pc := 1008) dL_law_1008 (hI 1 (by decide)) ?_
  refine gl_re (st2 := [.int (sA xs i 1), .ref 0]) rfl ?_
  refine gl_callCI (pc := 1009) (is := [(sA xs i 1)]) (st := []) hn9 dL_law_1009 kL_111 vL_111 (Nat.le_of_ble_eq_true rfl) rfl rfl rfl (Nat.le_of_ble_eq_true rfl) ?_
  refine ClI.mono (fun x1 wc' hP => ?_) hP
  refine gl_aload_n (pc := 1012) dL_law_1012 rfl 2 rfl ?_
  refine gl_aload_n (pc := 1013) dL_law_1013 rfl 0 rfl ?_
  refine gl_iload (pc := 1014) dL_law_1014 4 rfl ?_
  refine gl_iconst (pc := 1016) dL_law_1016 c_1 ?_
  refine gl_iadd (pc := 1017) dL_law_1017 ?_
  refine gl_sld (pc := 1018) dL_law_1018 (hI 1 (by decide)) ?_
  refine gl_re (st2 := [.int (sA xs i 1), .ref 1, .int x1]) rfl ?_
  refine gl_callRI (pc := 1019) (is := [(sA xs i 1)]) (st := [.int x1]) hn9 dL_law_1019 kL_114 vL_114 (Nat.le_of_ble_eq_true rfl) rfl rfl rfl (Nat.le_of_ble_eq_true rfl) ?_
  refine ClI.mono (fun x2 wr' hP => ?_) hP
  refine gl_icmp_eq (pc := 1022) (tgt := 2620) dL_law_1022 (by decide) (fun _ => k _ _ hP.2) (fun q => absurd hP.1 q)
theorem lc_23 {L n : Nat} {xs : Nat → Int32} {wc wr : Wd} {o : Int64} {i : Int32} (hn9 : n ≤ 1000) (hI : ∀ j : Nat, j < 6 → vp_in (i + Int32.ofNat j) L) (hP : PairI mX10_come mX11_come [(sA xs i 1), (sA xs i 2), (sA xs i 3)] wc wr) (k : ∀ wc' wr', RelE wc' wr' → GoL L xs 2620 [(0, .ref 3), (1, .ref 0), (2, .ref 1), (3, .ref 2), (4, .int i)] [] n wc' wr' o) : GoL L xs 1027 [(0, .ref 3), (1, .ref 0), (2, .ref 1), (3, .ref 2), (4, .int i)] [] n wc wr o := by
  unfold PairI at hP
  refine gl_aload_n (pc := 1027) dL_law_1027 rfl 1 rfl ?_
  refine gl_aload_n (pc := 1028) dL_law_1028 rfl 0 rfl ?_
  refine gl_iload (pc := 1029) dL_law_1029 4 rfl ?_
  refine gl_iconst (pc := 1031) dL_law_1031 c_1 ?_
  refine gl_iadd (pc := 1032) dL_law_1032 ?_
  refine gl_sld (pc := 1033) dL_law_1033 (hI 1 (by decide)) ?_
  refine gl_re (st2 := [.int (sA xs i 1), .ref 0]) rfl ?_
  refine gl_aload_n (pc := 1034) dL_law_1034 rfl 0 rfl ?_
  refine gl_iload (pc := 1035) dL_law_1035 4 rfl ?_
  refine gl_iconst (pc := 1037) dL_law_1037 c_2 ?_
  refine gl_iadd (pc := 1038) dL_law_1038 ?_
  refine gl_sld (pc := 1039) dL_law_1039 (hI 2 (by decide)) ?_
  refine gl_re (st2 := [.int (sA xs i 2), .int (sA xs i 1), .ref 0]) rfl ?_
  refine gl_aload_n (pc := 1040) dL_law_1040 rfl 0 rfl ?_
  refine gl_iload (pc := 1041) dL_law_1041 4 rfl ?_
  refine gl_iconst (pc := 1043) dL_law_1043 c_3 ?_
  refine gl_iadd (pc := 1044) dL_law_1044 ?_
  refine gl_sld (pc := 1045) dL_law_1045 (hI 3 (by decide)) ?_
  refine gl_re (st2 := [.int (sA xs i 3), .int (sA xs i 2), .int (sA xs i 1), .ref 0]) rfl ?_
  refine gl_callCI (pc := 1046) (is := [(sA xs i 1), (sA xs i 2), (sA xs i 3)]) (st := []) hn9 dL_law_1046 kL_115 vL_115 (Nat.le_of_ble_eq_true rfl) rfl rfl rfl (Nat.le_of_ble_eq_true rfl) ?_
  refine ClI.mono (fun x1 wc' hP => ?_) hP
  refine gl_aload_n (pc := 1049) dL_law_1049 rfl 2 rfl ?_
  refine gl_aload_n (pc := 1050) dL_law_1050 rfl 0 rfl ?_
  refine gl_iload (pc := 1051) dL_law_1051 4 rfl ?_
  refine gl_iconst (pc := 1053) dL_law_1053 c_1 ?_
  refine gl_iadd (pc := 1054) dL_law_1054 ?_
  refine gl_sld (pc := 1055) dL_law_1055 (hI 1 (by decide)) ?_
  refine gl_re (st2 := [.int (sA xs i 1), .ref 1, .int x1]) rfl ?_
  refine gl_aload_n (pc := 1056) dL_law_1056 rfl 0 rfl ?_
  refine gl_iload (pc := 1057) dL_law_1057 4 rfl ?_
  refine gl_iconst (pc := 1059) dL_law_1059 c_2 ?_
  refine gl_iadd (pc := 1060) dL_law_1060 ?_
  refine gl_sld (pc := 1061) dL_law_1061 (hI 2 (by decide)) ?_
  refine gl_re (st2 := [.int (sA xs i 2), .int (sA xs i 1), .ref 1, .int x1]) rfl ?_
  refine gl_aload_n (pc := 1062) dL_law_1062 rfl 0 rfl ?_
  refine gl_iload (pc := 1063) dL_law_1063 4 rfl ?_
  refine gl_iconst (pc := 1065) dL_law_1065 c_3 ?_
  refine gl_iadd (pc := 1066) dL_law_1066 ?_
  refine gl_sld (pc := 1067) dL_law_1067 (hI 3 (by decide)) ?_
  refine gl_re (st2 := [.int (sA xs i 3), .int (sA xs i 2), .int (sA xs i 1), .ref 1, .int x1]) rfl ?_
  refine gl_callRI (pc := 1068) (is := [(sA xs i 1), (sA xs i 2), (sA xs i 3)]) (st := [.int x1]) hn9 dL_law_1068 kL_118 vL_118 (Nat.le_of_ble_eq_true rfl) rfl rfl rfl (Nat.le_of_ble_eq_true rfl) ?_
  refine ClI.mono (fun x2 wr' hP => ?_) hP
  refine gl_icmp_eq (pc := 1071) (tgt := 2620) dL_law_1071 (by decide) (fun _ => k _ _ hP.2) (fun q => absurd hP.1 q)
theorem lc_24 {L n : Nat} {xs : Nat → Int32} {wc wr : Wd} {o : Int64} {i : Int32} (hn9 : n ≤ 1000) (hI : ∀ j : Nat, j < 6 → vp_in (i + Int32.ofNat j) L) (hP : PairI mX10_comeRow mX11_comeRow [(sA xs i 1), (sA xs i 2), (sA xs i 3)] wc wr) (k : ∀ wc' wr', RelE wc' wr' → GoL L xs 2620 [(0, .ref 3), (1, .ref 0), (2, .ref 1), (3, .ref 2), (4, .int i)] [] n wc' wr' o) : GoL L xs 1076 [(0, .ref 3), (1, .ref 0), (2, .ref 1), (3, .ref 2), (4, .int i)] [] n wc wr o := by
  unfold PairI at hP
  refine gl_aload_n (pc := 1076) dL_law_1076 rfl 1 rfl ?_
  refine gl_aload_n (pc := 1077) dL_law_1077 rfl 0 rfl ?_
  refine gl_iload (pc := 1078) dL_law_1078 4 rfl ?_
  refine gl_iconst (pc := 1080) dL_law_1080 c_1 ?_
  refine gl_iadd (pc := 1081) dL_law_1081 ?_
  refine gl_sld (pc := 1082) dL_law_1082 (hI 1 (by decide)) ?_
  refine gl_re (st2 := [.int (sA xs i 1), .ref 0]) rfl ?_
  refine gl_aload_n (pc := 1083) dL_law_1083 rfl 0 rfl ?_
  refine gl_iload (pc := 1084) dL_law_1084 4 rfl ?_
  refine gl_iconst (pc := 1086) dL_law_1086 c_2 ?_
  refine gl_iadd (pc := 1087) dL_law_1087 ?_
  refine gl_sld (pc := 1088) dL_law_1088 (hI 2 (by decide)) ?_
  refine gl_re (st2 := [.int (sA xs i 2), .int (sA xs i 1), .ref 0]) rfl ?_
  refine gl_aload_n (pc := 1089) dL_law_1089 rfl 0 rfl ?_
  refine gl_iload (pc := 1090) dL_law_1090 4 rfl ?_
  refine gl_iconst (pc := 1092) dL_law_1092 c_3 ?_
  refine gl_iadd (pc := 1093) dL_law_1093 ?_
  refine gl_sld (pc := 1094) dL_law_1094 (hI 3 (by decide)) ?_
  refine gl_re (st2 := [.int (sA xs i 3), .int (sA xs i 2), .int (sA xs i 1), .ref 0]) rfl ?_
  refine gl_callCI (pc := 1095) (is := [(sA xs i 1), (sA xs i 2), (sA xs i 3)]) (st := []) hn9 dL_law_1095 kL_119 vL_119 (Nat.le_of_ble_eq_true rfl) rfl rfl rfl (Nat.le_of_ble_eq_true rfl) ?_
  refine ClI.mono (fun x1 wc' hP => ?_) hP
  refine gl_aload_n (pc := 1098) dL_law_1098 rfl 2 rfl ?_
  refine gl_aload_n (pc := 1099) dL_law_1099 rfl 0 rfl ?_
  refine gl_iload (pc := 1100) dL_law_1100 4 rfl ?_
  refine gl_iconst (pc := 1102) dL_law_1102 c_1 ?_
  refine gl_iadd (pc := 1103) dL_law_1103 ?_
  refine gl_sld (pc := 1104) dL_law_1104 (hI 1 (by decide)) ?_
  refine gl_re (st2 := [.int (sA xs i 1), .ref 1, .int x1]) rfl ?_
  refine gl_aload_n (pc := 1105) dL_law_1105 rfl 0 rfl ?_
  refine gl_iload (pc := 1106) dL_law_1106 4 rfl ?_
  refine gl_iconst (pc := 1108) dL_law_1108 c_2 ?_
  refine gl_iadd (pc := 1109) dL_law_1109 ?_
  refine gl_sld (pc := 1110) dL_law_1110 (hI 2 (by decide)) ?_
  refine gl_re (st2 := [.int (sA xs i 2), .int (sA xs i 1), .ref 1, .int x1]) rfl ?_
  refine gl_aload_n (pc := 1111) dL_law_1111 rfl 0 rfl ?_
  refine gl_iload (pc := 1112) dL_law_1112 4 rfl ?_
  refine gl_iconst (pc := 1114) dL_law_1114 c_3 ?_
  refine gl_iadd (pc := 1115) dL_law_1115 ?_
  refine gl_sld (pc := 1116) dL_law_1116 (hI 3 (by decide)) ?_
  refine gl_re (st2 := [.int (sA xs i 3), .int (sA xs i 2), .int (sA xs i 1), .ref 1, .int x1]) rfl ?_
  refine gl_callRI (pc := 1117) (is := [(sA xs i 1), (sA xs i 2), (sA xs i 3)]) (st := [.int x1]) hn9 dL_law_1117 kL_122 vL_122 (Nat.le_of_ble_eq_true rfl) rfl rfl rfl (Nat.le_of_ble_eq_true rfl) ?_
  refine ClI.mono (fun x2 wr' hP => ?_) hP
  refine gl_icmp_eq (pc := 1120) (tgt := 2620) dL_law_1120 (by decide) (fun _ => k _ _ hP.2) (fun q => absurd hP.1 q)
theorem lc_25 {L n : Nat} {xs : Nat → Int32} {wc wr : Wd} {o : Int64} {i : Int32} (hn9 : n ≤ 1000) (hI : ∀ j : Nat, j < 6 → vp_in (i + Int32.ofNat j) L) (hP : PairI mX10_reach mX11_reach [(sA xs i 1)] wc wr) (k : ∀ wc' wr', RelE wc' wr' → GoL L xs 2620 [(0, .ref 3), (1, .ref 0), (2, .ref 1), (3, .ref 2), (4, .int i)] [] n wc' wr' o) : GoL L xs 1125 [(0, .ref 3), (1, .ref 0), (2, .ref 1), (3, .ref 2), (4, .int i)] [] n wc wr o := by
  unfold PairI at hP
  refine gl_aload_n (pc := 1125) dL_law_1125 rfl 1 rfl ?_
  refine gl_aload_n (pc := 1126) dL_law_1126 rfl 0 rfl ?_
  refine gl_iload (pc := 1127) dL_law_1127 4 rfl ?_
  refine gl_iconst (pc := 1129) dL_law_1129 c_1 ?_
  refine gl_iadd (pc := 1130) dL_law_1130 ?_
  refine gl_sld (pc := 1131) dL_law_1131 (hI 1 (by decide)) ?_
  refine gl_re (st2 := [.int (sA xs i 1), .ref 0]) rfl ?_
  refine gl_callCI (pc := 1132) (is := [(sA xs i 1)]) (st := []) hn9 dL_law_1132 kL_123 vL_123 (Nat.le_of_ble_eq_true rfl) rfl rfl rfl (Nat.le_of_ble_eq_true rfl) ?_
  refine ClI.mono (fun x1 wc' hP => ?_) hP
  refine gl_aload_n (pc := 1135) dL_law_1135 rfl 2 rfl ?_
  refine gl_aload_n (pc := 1136) dL_law_1136 rfl 0 rfl ?_
  refine gl_iload (pc := 1137) dL_law_1137 4 rfl ?_
  refine gl_iconst (pc := 1139) dL_law_1139 c_1 ?_
  refine gl_iadd (pc := 1140) dL_law_1140 ?_
  refine gl_sld (pc := 1141) dL_law_1141 (hI 1 (by decide)) ?_
  refine gl_re (st2 := [.int (sA xs i 1), .ref 1, .int x1]) rfl ?_
  refine gl_callRI (pc := 1142) (is := [(sA xs i 1)]) (st := [.int x1]) hn9 dL_law_1142 kL_126 vL_126 (Nat.le_of_ble_eq_true rfl) rfl rfl rfl (Nat.le_of_ble_eq_true rfl) ?_
  refine ClI.mono (fun x2 wr' hP => ?_) hP
  refine gl_icmp_eq (pc := 1145) (tgt := 2620) dL_law_1145 (by decide) (fun _ => k _ _ hP.2) (fun q => absurd hP.1 q)
theorem lc_26 {L n : Nat} {xs : Nat → Int32} {wc wr : Wd} {o : Int64} {i : Int32} (hn9 : n ≤ 1000) (hI : ∀ j : Nat, j < 6 → vp_in (i + Int32.ofNat j) L) (hP : PairI mX10_apart mX11_apart [(sA xs i 1), (sA xs i 2)] wc wr) (k : ∀ wc' wr', RelE wc' wr' → GoL L xs 2620 [(0, .ref 3), (1, .ref 0), (2, .ref 1), (3, .ref 2), (4, .int i)] [] n wc' wr' o) : GoL L xs 1150 [(0, .ref 3), (1, .ref 0), (2, .ref 1), (3, .ref 2), (4, .int i)] [] n wc wr o := by
  unfold PairI at hP
  refine gl_aload_n (pc := 1150) dL_law_1150 rfl 1 rfl ?_
  refine gl_aload_n (pc := 1151) dL_law_1151 rfl 0 rfl ?_
  refine gl_iload (pc := 1152) dL_law_1152 4 rfl ?_
  refine gl_iconst (pc := 1154) dL_law_1154 c_1 ?_
  refine gl_iadd (pc := 1155) dL_law_1155 ?_
  refine gl_sld (pc := 1156) dL_law_1156 (hI 1 (by decide)) ?_
  refine gl_re (st2 := [.int (sA xs i 1), .ref 0]) rfl ?_
  refine gl_aload_n (pc := 1157) dL_law_1157 rfl 0 rfl ?_
  refine gl_iload (pc := 1158) dL_law_1158 4 rfl ?_
  refine gl_iconst (pc := 1160) dL_law_1160 c_2 ?_
  refine gl_iadd (pc := 1161) dL_law_1161 ?_
  refine gl_sld (pc := 1162) dL_law_1162 (hI 2 (by decide)) ?_
  refine gl_re (st2 := [.int (sA xs i 2), .int (sA xs i 1), .ref 0]) rfl ?_
  refine gl_callCI (pc := 1163) (is := [(sA xs i 1), (sA xs i 2)]) (st := []) hn9 dL_law_1163 kL_127 vL_127 (Nat.le_of_ble_eq_true rfl) rfl rfl rfl (Nat.le_of_ble_eq_true rfl) ?_
  refine ClI.mono (fun x1 wc' hP => ?_) hP
  refine gl_aload_n (pc := 1166) dL_law_1166 rfl 2 rfl ?_
  refine gl_aload_n (pc := 1167) dL_law_1167 rfl 0 rfl ?_
  refine gl_iload (pc := 1168) dL_law_1168 4 rfl ?_
  refine gl_iconst (pc := 1170) dL_law_1170 c_1 ?_
  refine gl_iadd (pc := 1171) dL_law_1171 ?_
  refine gl_sld (pc := 1172) dL_law_1172 (hI 1 (by decide)) ?_
  refine gl_re (st2 := [.int (sA xs i 1), .ref 1, .int x1]) rfl ?_
  refine gl_aload_n (pc := 1173) dL_law_1173 rfl 0 rfl ?_
  refine gl_iload (pc := 1174) dL_law_1174 4 rfl ?_
  refine gl_iconst (pc := 1176) dL_law_1176 c_2 ?_
  refine gl_iadd (pc := 1177) dL_law_1177 ?_
  refine gl_sld (pc := 1178) dL_law_1178 (hI 2 (by decide)) ?_
  refine gl_re (st2 := [.int (sA xs i 2), .int (sA xs i 1), .ref 1, .int x1]) rfl ?_
  refine gl_callRI (pc := 1179) (is := [(sA xs i 1), (sA xs i 2)]) (st := [.int x1]) hn9 dL_law_1179 kL_130 vL_130 (Nat.le_of_ble_eq_true rfl) rfl rfl rfl (Nat.le_of_ble_eq_true rfl) ?_
  refine ClI.mono (fun x2 wr' hP => ?_) hP
  refine gl_icmp_eq (pc := 1182) (tgt := 2620) dL_law_1182 (by decide) (fun _ => k _ _ hP.2) (fun q => absurd hP.1 q)
theorem lc_27 {L n : Nat} {xs : Nat → Int32} {wc wr : Wd} {o : Int64} {i : Int32} (hn9 : n ≤ 1000) (hI : ∀ j : Nat, j < 6 → vp_in (i + Int32.ofNat j) L) (hP : PairI mX10_upperBetween mX11_upperBetween [(sA xs i 1), (sA xs i 2)] wc wr) (k : ∀ wc' wr', RelE wc' wr' → GoL L xs 2620 [(0, .ref 3), (1, .ref 0), (2, .ref 1), (3, .ref 2), (4, .int i)] [] n wc' wr' o) : GoL L xs 1187 [(0, .ref 3), (1, .ref 0), (2, .ref 1), (3, .ref 2), (4, .int i)] [] n wc wr o := by
  unfold PairI at hP
  refine gl_aload_n (pc := 1187) dL_law_1187 rfl 1 rfl ?_
  refine gl_aload_n (pc := 1188) dL_law_1188 rfl 0 rfl ?_
  refine gl_iload (pc := 1189) dL_law_1189 4 rfl ?_
  refine gl_iconst (pc := 1191) dL_law_1191 c_1 ?_
  refine gl_iadd (pc := 1192) dL_law_1192 ?_
  refine gl_sld (pc := 1193) dL_law_1193 (hI 1 (by decide)) ?_
  refine gl_re (st2 := [.int (sA xs i 1), .ref 0]) rfl ?_
  refine gl_aload_n (pc := 1194) dL_law_1194 rfl 0 rfl ?_
  refine gl_iload (pc := 1195) dL_law_1195 4 rfl ?_
  refine gl_iconst (pc := 1197) dL_law_1197 c_2 ?_
  refine gl_iadd (pc := 1198) dL_law_1198 ?_
  refine gl_sld (pc := 1199) dL_law_1199 (hI 2 (by decide)) ?_
  refine gl_re (st2 := [.int (sA xs i 2), .int (sA xs i 1), .ref 0]) rfl ?_
  refine gl_callCI (pc := 1200) (is := [(sA xs i 1), (sA xs i 2)]) (st := []) hn9 dL_law_1200 kL_131 vL_131 (Nat.le_of_ble_eq_true rfl) rfl rfl rfl (Nat.le_of_ble_eq_true rfl) ?_
  refine ClI.mono (fun x1 wc' hP => ?_) hP
  refine gl_aload_n (pc := 1203) dL_law_1203 rfl 2 rfl ?_
  refine gl_aload_n (pc := 1204) dL_law_1204 rfl 0 rfl ?_
  refine gl_iload (pc := 1205) dL_law_1205 4 rfl ?_
  refine gl_iconst (pc := 1207) dL_law_1207 c_1 ?_
  refine gl_iadd (pc := 1208) dL_law_1208 ?_
  refine gl_sld (pc := 1209) dL_law_1209 (hI 1 (by decide)) ?_
  refine gl_re (st2 := [.int (sA xs i 1), .ref 1, .int x1]) rfl ?_
  refine gl_aload_n (pc := 1210) dL_law_1210 rfl 0 rfl ?_
  refine gl_iload (pc := 1211) dL_law_1211 4 rfl ?_
  refine gl_iconst (pc := 1213) dL_law_1213 c_2 ?_
  refine gl_iadd (pc := 1214) dL_law_1214 ?_
  refine gl_sld (pc := 1215) dL_law_1215 (hI 2 (by decide)) ?_
  refine gl_re (st2 := [.int (sA xs i 2), .int (sA xs i 1), .ref 1, .int x1]) rfl ?_
  refine gl_callRI (pc := 1216) (is := [(sA xs i 1), (sA xs i 2)]) (st := [.int x1]) hn9 dL_law_1216 kL_134 vL_134 (Nat.le_of_ble_eq_true rfl) rfl rfl rfl (Nat.le_of_ble_eq_true rfl) ?_
  refine ClI.mono (fun x2 wr' hP => ?_) hP
  refine gl_icmp_eq (pc := 1219) (tgt := 2620) dL_law_1219 (by decide) (fun _ => k _ _ hP.2) (fun q => absurd hP.1 q)
theorem lc_28 {L n : Nat} {xs : Nat → Int32} {wc wr : Wd} {o : Int64} {i : Int32} (hn9 : n ≤ 1000) (hI : ∀ j : Nat, j < 6 → vp_in (i + Int32.ofNat j) L) (hP : PairI mX10_lowerBetween mX11_lowerBetween [(sA xs i 1), (sA xs i 2)] wc wr) (k : ∀ wc' wr', RelE wc' wr' → GoL L xs 2620 [(0, .ref 3), (1, .ref 0), (2, .ref 1), (3, .ref 2), (4, .int i)] [] n wc' wr' o) : GoL L xs 1224 [(0, .ref 3), (1, .ref 0), (2, .ref 1), (3, .ref 2), (4, .int i)] [] n wc wr o := by
  unfold PairI at hP
  refine gl_aload_n (pc := 1224) dL_law_1224 rfl 1 rfl ?_
  refine gl_aload_n (pc := 1225) dL_law_1225 rfl 0 rfl ?_
  refine gl_iload (pc := 1226) dL_law_1226 4 rfl ?_
  refine gl_iconst (pc := 1228) dL_law_1228 c_1 ?_
  refine gl_iadd (pc := 1229) dL_law_1229 ?_
  refine gl_sld (pc := 1230) dL_law_1230 (hI 1 (by decide)) ?_
  refine gl_re (st2 := [.int (sA xs i 1), .ref 0]) rfl ?_
  refine gl_aload_n (pc := 1231) dL_law_1231 rfl 0 rfl ?_
  refine gl_iload (pc := 1232) dL_law_1232 4 rfl ?_
  refine gl_iconst (pc := 1234) dL_law_1234 c_2 ?_
  refine gl_iadd (pc := 1235) dL_law_1235 ?_
  refine gl_sld (pc := 1236) dL_law_1236 (hI 2 (by decide)) ?_
  refine gl_re (st2 := [.int (sA xs i 2), .int (sA xs i 1), .ref 0]) rfl ?_
  refine gl_callCI (pc := 1237) (is := [(sA xs i 1), (sA xs i 2)]) (st := []) hn9 dL_law_1237 kL_135 vL_135 (Nat.le_of_ble_eq_true rfl) rfl rfl rfl (Nat.le_of_ble_eq_true rfl) ?_
  refine ClI.mono (fun x1 wc' hP => ?_) hP
  refine gl_aload_n (pc := 1240) dL_law_1240 rfl 2 rfl ?_
  refine gl_aload_n (pc := 1241) dL_law_1241 rfl 0 rfl ?_
  refine gl_iload (pc := 1242) dL_law_1242 4 rfl ?_
  refine gl_iconst (pc := 1244) dL_law_1244 c_1 ?_
  refine gl_iadd (pc := 1245) dL_law_1245 ?_
  refine gl_sld (pc := 1246) dL_law_1246 (hI 1 (by decide)) ?_
  refine gl_re (st2 := [.int (sA xs i 1), .ref 1, .int x1]) rfl ?_
  refine gl_aload_n (pc := 1247) dL_law_1247 rfl 0 rfl ?_
  refine gl_iload (pc := 1248) dL_law_1248 4 rfl ?_
  refine gl_iconst (pc := 1250) dL_law_1250 c_2 ?_
  refine gl_iadd (pc := 1251) dL_law_1251 ?_
  refine gl_sld (pc := 1252) dL_law_1252 (hI 2 (by decide)) ?_
  refine gl_re (st2 := [.int (sA xs i 2), .int (sA xs i 1), .ref 1, .int x1]) rfl ?_
  refine gl_callRI (pc := 1253) (is := [(sA xs i 1), (sA xs i 2)]) (st := [.int x1]) hn9 dL_law_1253 kL_138 vL_138 (Nat.le_of_ble_eq_true rfl) rfl rfl rfl (Nat.le_of_ble_eq_true rfl) ?_
  refine ClI.mono (fun x2 wr' hP => ?_) hP
  refine gl_icmp_eq (pc := 1256) (tgt := 2620) dL_law_1256 (by decide) (fun _ => k _ _ hP.2) (fun q => absurd hP.1 q)
theorem lc_29 {L n : Nat} {xs : Nat → Int32} {wc wr : Wd} {o : Int64} {i : Int32} (hn9 : n ≤ 1000) (hI : ∀ j : Nat, j < 6 → vp_in (i + Int32.ofNat j) L) (hP : PairI mX10_rungs mX11_rungs [(sA xs i 1)] wc wr) (k : ∀ wc' wr', RelE wc' wr' → GoL L xs 2620 [(0, .ref 3), (1, .ref 0), (2, .ref 1), (3, .ref 2), (4, .int i)] [] n wc' wr' o) : GoL L xs 1261 [(0, .ref 3), (1, .ref 0), (2, .ref 1), (3, .ref 2), (4, .int i)] [] n wc wr o := by
  unfold PairI at hP
  refine gl_aload_n (pc := 1261) dL_law_1261 rfl 1 rfl ?_
  refine gl_aload_n (pc := 1262) dL_law_1262 rfl 0 rfl ?_
  refine gl_iload (pc := 1263) dL_law_1263 4 rfl ?_
  refine gl_iconst (pc := 1265) dL_law_1265 c_1 ?_
  refine gl_iadd (pc := 1266) dL_law_1266 ?_
  refine gl_sld (pc := 1267) dL_law_1267 (hI 1 (by decide)) ?_
  refine gl_re (st2 := [.int (sA xs i 1), .ref 0]) rfl ?_
  refine gl_callCI (pc := 1268) (is := [(sA xs i 1)]) (st := []) hn9 dL_law_1268 kL_139 vL_139 (Nat.le_of_ble_eq_true rfl) rfl rfl rfl (Nat.le_of_ble_eq_true rfl) ?_
  refine ClI.mono (fun x1 wc' hP => ?_) hP
  refine gl_aload_n (pc := 1271) dL_law_1271 rfl 2 rfl ?_
  refine gl_aload_n (pc := 1272) dL_law_1272 rfl 0 rfl ?_
  refine gl_iload (pc := 1273) dL_law_1273 4 rfl ?_
  refine gl_iconst (pc := 1275) dL_law_1275 c_1 ?_
  refine gl_iadd (pc := 1276) dL_law_1276 ?_
  refine gl_sld (pc := 1277) dL_law_1277 (hI 1 (by decide)) ?_
  refine gl_re (st2 := [.int (sA xs i 1), .ref 1, .int x1]) rfl ?_
  refine gl_callRI (pc := 1278) (is := [(sA xs i 1)]) (st := [.int x1]) hn9 dL_law_1278 kL_142 vL_142 (Nat.le_of_ble_eq_true rfl) rfl rfl rfl (Nat.le_of_ble_eq_true rfl) ?_
  refine ClI.mono (fun x2 wr' hP => ?_) hP
  refine gl_icmp_eq (pc := 1281) (tgt := 2620) dL_law_1281 (by decide) (fun _ => k _ _ hP.2) (fun q => absurd hP.1 q)
theorem lc_30 {L n : Nat} {xs : Nat → Int32} {wc wr : Wd} {o : Int64} {i : Int32} (hn9 : n ≤ 1000) (hI : ∀ j : Nat, j < 6 → vp_in (i + Int32.ofNat j) L) (hP : PairI mX10_rungUpper mX11_rungUpper [(sA xs i 1), (sA xs i 2)] wc wr) (k : ∀ wc' wr', RelE wc' wr' → GoL L xs 2620 [(0, .ref 3), (1, .ref 0), (2, .ref 1), (3, .ref 2), (4, .int i)] [] n wc' wr' o) : GoL L xs 1286 [(0, .ref 3), (1, .ref 0), (2, .ref 1), (3, .ref 2), (4, .int i)] [] n wc wr o := by
  unfold PairI at hP
  refine gl_aload_n (pc := 1286) dL_law_1286 rfl 1 rfl ?_
  refine gl_aload_n (pc := 1287) dL_law_1287 rfl 0 rfl ?_
  refine gl_iload (pc := 1288) dL_law_1288 4 rfl ?_
  refine gl_iconst (pc := 1290) dL_law_1290 c_1 ?_
  refine gl_iadd (pc := 1291) dL_law_1291 ?_
  refine gl_sld (pc := 1292) dL_law_1292 (hI 1 (by decide)) ?_
  refine gl_re (st2 := [.int (sA xs i 1), .ref 0]) rfl ?_
  refine gl_aload_n (pc := 1293) dL_law_1293 rfl 0 rfl ?_
  refine gl_iload (pc := 1294) dL_law_1294 4 rfl ?_
  refine gl_iconst (pc := 1296) dL_law_1296 c_2 ?_
  refine gl_iadd (pc := 1297) dL_law_1297 ?_
  refine gl_sld (pc := 1298) dL_law_1298 (hI 2 (by decide)) ?_
  refine gl_re (st2 := [.int (sA xs i 2), .int (sA xs i 1), .ref 0]) rfl ?_
  refine gl_callCI (pc := 1299) (is := [(sA xs i 1), (sA xs i 2)]) (st := []) hn9 dL_law_1299 kL_143 vL_143 (Nat.le_of_ble_eq_true rfl) rfl rfl rfl (Nat.le_of_ble_eq_true rfl) ?_
  refine ClI.mono (fun x1 wc' hP => ?_) hP
  refine gl_aload_n (pc := 1302) dL_law_1302 rfl 2 rfl ?_
  refine gl_aload_n (pc := 1303) dL_law_1303 rfl 0 rfl ?_
  refine gl_iload (pc := 1304) dL_law_1304 4 rfl ?_
  refine gl_iconst (pc := 1306) dL_law_1306 c_1 ?_
  refine gl_iadd (pc := 1307) dL_law_1307 ?_
  refine gl_sld (pc := 1308) dL_law_1308 (hI 1 (by decide)) ?_
  refine gl_re (st2 := [.int (sA xs i 1), .ref 1, .int x1]) rfl ?_
  refine gl_aload_n (pc := 1309) dL_law_1309 rfl 0 rfl ?_
  refine gl_iload (pc := 1310) dL_law_1310 4 rfl ?_
  refine gl_iconst (pc := 1312) dL_law_1312 c_2 ?_
  refine gl_iadd (pc := 1313) dL_law_1313 ?_
  refine gl_sld (pc := 1314) dL_law_1314 (hI 2 (by decide)) ?_
  refine gl_re (st2 := [.int (sA xs i 2), .int (sA xs i 1), .ref 1, .int x1]) rfl ?_
  refine gl_callRI (pc := 1315) (is := [(sA xs i 1), (sA xs i 2)]) (st := [.int x1]) hn9 dL_law_1315 kL_146 vL_146 (Nat.le_of_ble_eq_true rfl) rfl rfl rfl (Nat.le_of_ble_eq_true rfl) ?_
  refine ClI.mono (fun x2 wr' hP => ?_) hP
  refine gl_icmp_eq (pc := 1318) (tgt := 2620) dL_law_1318 (by decide) (fun _ => k _ _ hP.2) (fun q => absurd hP.1 q)
theorem lc_31 {L n : Nat} {xs : Nat → Int32} {wc wr : Wd} {o : Int64} {i : Int32} (hn9 : n ≤ 1000) (hI : ∀ j : Nat, j < 6 → vp_in (i + Int32.ofNat j) L) (hP : PairI mX10_rungLower mX11_rungLower [(sA xs i 1), (sA xs i 2)] wc wr) (k : ∀ wc' wr', RelE wc' wr' → GoL L xs 2620 [(0, .ref 3), (1, .ref 0), (2, .ref 1), (3, .ref 2), (4, .int i)] [] n wc' wr' o) : GoL L xs 1323 [(0, .ref 3), (1, .ref 0), (2, .ref 1), (3, .ref 2), (4, .int i)] [] n wc wr o := by
  unfold PairI at hP
  refine gl_aload_n (pc := 1323) dL_law_1323 rfl 1 rfl ?_
  refine gl_aload_n (pc := 1324) dL_law_1324 rfl 0 rfl ?_
  refine gl_iload (pc := 1325) dL_law_1325 4 rfl ?_
  refine gl_iconst (pc := 1327) dL_law_1327 c_1 ?_
  refine gl_iadd (pc := 1328) dL_law_1328 ?_
  refine gl_sld (pc := 1329) dL_law_1329 (hI 1 (by decide)) ?_
  refine gl_re (st2 := [.int (sA xs i 1), .ref 0]) rfl ?_
  refine gl_aload_n (pc := 1330) dL_law_1330 rfl 0 rfl ?_
  refine gl_iload (pc := 1331) dL_law_1331 4 rfl ?_
  refine gl_iconst (pc := 1333) dL_law_1333 c_2 ?_
  refine gl_iadd (pc := 1334) dL_law_1334 ?_
  refine gl_sld (pc := 1335) dL_law_1335 (hI 2 (by decide)) ?_
  refine gl_re (st2 := [.int (sA xs i 2), .int (sA xs i 1), .ref 0]) rfl ?_
  refine gl_callCI (pc := 1336) (is := [(sA xs i 1), (sA xs i 2)]) (st := []) hn9 dL_law_1336 kL_147 vL_147 (Nat.le_of_ble_eq_true rfl) rfl rfl rfl (Nat.le_of_ble_eq_true rfl) ?_
  refine ClI.mono (fun x1 wc' hP => ?_) hP
  refine gl_aload_n (pc := 1339) dL_law_1339 rfl 2 rfl ?_
  refine gl_aload_n (pc := 1340) dL_law_1340 rfl 0 rfl ?_
  refine gl_iload (pc := 1341) dL_law_1341 4 rfl ?_
  refine gl_iconst (pc := 1343) dL_law_1343 c_1 ?_
  refine gl_iadd (pc := 1344) dL_law_1344 ?_
  refine gl_sld (pc := 1345) dL_law_1345 (hI 1 (by decide)) ?_
  refine gl_re (st2 := [.int (sA xs i 1), .ref 1, .int x1]) rfl ?_
  refine gl_aload_n (pc := 1346) dL_law_1346 rfl 0 rfl ?_
  refine gl_iload (pc := 1347) dL_law_1347 4 rfl ?_
  refine gl_iconst (pc := 1349) dL_law_1349 c_2 ?_
  refine gl_iadd (pc := 1350) dL_law_1350 ?_
  refine gl_sld (pc := 1351) dL_law_1351 (hI 2 (by decide)) ?_
  refine gl_re (st2 := [.int (sA xs i 2), .int (sA xs i 1), .ref 1, .int x1]) rfl ?_
  refine gl_callRI (pc := 1352) (is := [(sA xs i 1), (sA xs i 2)]) (st := [.int x1]) hn9 dL_law_1352 kL_150 vL_150 (Nat.le_of_ble_eq_true rfl) rfl rfl rfl (Nat.le_of_ble_eq_true rfl) ?_
  refine ClI.mono (fun x2 wr' hP => ?_) hP
  refine gl_icmp_eq (pc := 1355) (tgt := 2620) dL_law_1355 (by decide) (fun _ => k _ _ hP.2) (fun q => absurd hP.1 q)
theorem lc_32 {L n : Nat} {xs : Nat → Int32} {wc wr : Wd} {o : Int64} {i : Int32} (hn9 : n ≤ 1000) (hI : ∀ j : Nat, j < 6 → vp_in (i + Int32.ofNat j) L) (hP : PairI mX10_knot mX11_knot [(sA xs i 1), (bA xs i 2)] wc wr) (k : ∀ wc' wr', RelE wc' wr' → GoL L xs 2620 [(0, .ref 3), (1, .ref 0), (2, .ref 1), (3, .ref 2), (4, .int i)] [] n wc' wr' o) : GoL L xs 1360 [(0, .ref 3), (1, .ref 0), (2, .ref 1), (3, .ref 2), (4, .int i)] [] n wc wr o := by
  unfold PairI at hP
  refine gl_aload_n (pc := 1360) dL_law_1360 rfl 1 rfl ?_
  refine gl_aload_n (pc := 1361) dL_law_1361 rfl 0 rfl ?_
  refine gl_iload (pc := 1362) dL_law_1362 4 rfl ?_
  refine gl_iconst (pc := 1364) dL_law_1364 c_1 ?_
  refine gl_iadd (pc := 1365) dL_law_1365 ?_
  refine gl_sld (pc := 1366) dL_law_1366 (hI 1 (by decide)) ?_
  refine gl_re (st2 := [.int (sA xs i 1), .ref 0]) rfl ?_
  refine gl_aload_n (pc := 1367) dL_law_1367 rfl 0 rfl ?_
  refine gl_iload (pc := 1368) dL_law_1368 4 rfl ?_
  refine gl_iconst (pc := 1370) dL_law_1370 c_2 ?_
  refine gl_iadd (pc := 1371) dL_law_1371 ?_
  refine gl_sld (pc := 1372) dL_law_1372 (hI 2 (by decide)) ?_
  refine gl_re (st2 := [.int (sA xs i 2), .int (sA xs i 1), .ref 0]) rfl ?_
  refine gl_bool (pc := 1373) (pj := 1381) dL_law_1373 dL_law_1376 dL_law_1377 dL_law_1380 (by decide) (by decide) rfl rfl ?_
  refine gl_re (st2 := [.int (bA xs i 2), .int (sA xs i 1), .ref 0]) rfl ?_
  refine gl_callCI (pc := 1381) (is := [(sA xs i 1), (bA xs i 2)]) (st := []) hn9 dL_law_1381 kL_151 vL_151 (Nat.le_of_ble_eq_true rfl) rfl rfl rfl (Nat.le_of_ble_eq_true rfl) ?_
  refine ClI.mono (fun x1 wc' hP => ?_) hP
  refine gl_aload_n (pc := 1384) dL_law_1384 rfl 2 rfl ?_
  refine gl_aload_n (pc := 1385) dL_law_1385 rfl 0 rfl ?_
  refine gl_iload (pc := 1386) dL_law_1386 4 rfl ?_
  refine gl_iconst (pc := 1388) dL_law_1388 c_1 ?_
  refine gl_iadd (pc := 1389) dL_law_1389 ?_
  refine gl_sld (pc := 1390) dL_law_1390 (hI 1 (by decide)) ?_
  refine gl_re (st2 := [.int (sA xs i 1), .ref 1, .int x1]) rfl ?_
  refine gl_aload_n (pc := 1391) dL_law_1391 rfl 0 rfl ?_
  refine gl_iload (pc := 1392) dL_law_1392 4 rfl ?_
  refine gl_iconst (pc := 1394) dL_law_1394 c_2 ?_
  refine gl_iadd (pc := 1395) dL_law_1395 ?_
  refine gl_sld (pc := 1396) dL_law_1396 (hI 2 (by decide)) ?_
  refine gl_re (st2 := [.int (sA xs i 2), .int (sA xs i 1), .ref 1, .int x1]) rfl ?_
  refine gl_bool (pc := 1397) (pj := 1405) dL_law_1397 dL_law_1400 dL_law_1401 dL_law_1404 (by decide) (by decide) rfl rfl ?_
  refine gl_re (st2 := [.int (bA xs i 2), .int (sA xs i 1), .ref 1, .int x1]) rfl ?_
  refine gl_callRI (pc := 1405) (is := [(sA xs i 1), (bA xs i 2)]) (st := [.int x1]) hn9 dL_law_1405 kL_155 vL_155 (Nat.le_of_ble_eq_true rfl) rfl rfl rfl (Nat.le_of_ble_eq_true rfl) ?_
  refine ClI.mono (fun x2 wr' hP => ?_) hP
  refine gl_icmp_eq (pc := 1408) (tgt := 2620) dL_law_1408 (by decide) (fun _ => k _ _ hP.2) (fun q => absurd hP.1 q)
theorem lc_33 {L n : Nat} {xs : Nat → Int32} {wc wr : Wd} {o : Int64} {i : Int32} (hn9 : n ≤ 1000) (hI : ∀ j : Nat, j < 6 → vp_in (i + Int32.ofNat j) L) (hP : PairI mX10_rings mX11_rings [(sA xs i 1), (bA xs i 2)] wc wr) (k : ∀ wc' wr', RelE wc' wr' → GoL L xs 2620 [(0, .ref 3), (1, .ref 0), (2, .ref 1), (3, .ref 2), (4, .int i)] [] n wc' wr' o) : GoL L xs 1413 [(0, .ref 3), (1, .ref 0), (2, .ref 1), (3, .ref 2), (4, .int i)] [] n wc wr o := by
  unfold PairI at hP
  refine gl_aload_n (pc := 1413) dL_law_1413 rfl 1 rfl ?_
  refine gl_aload_n (pc := 1414) dL_law_1414 rfl 0 rfl ?_
  refine gl_iload (pc := 1415) dL_law_1415 4 rfl ?_
  refine gl_iconst (pc := 1417) dL_law_1417 c_1 ?_
  refine gl_iadd (pc := 1418) dL_law_1418 ?_
  refine gl_sld (pc := 1419) dL_law_1419 (hI 1 (by decide)) ?_
  refine gl_re (st2 := [.int (sA xs i 1), .ref 0]) rfl ?_
  refine gl_aload_n (pc := 1420) dL_law_1420 rfl 0 rfl ?_
  refine gl_iload (pc := 1421) dL_law_1421 4 rfl ?_
  refine gl_iconst (pc := 1423) dL_law_1423 c_2 ?_
  refine gl_iadd (pc := 1424) dL_law_1424 ?_
  refine gl_sld (pc := 1425) dL_law_1425 (hI 2 (by decide)) ?_
  refine gl_re (st2 := [.int (sA xs i 2), .int (sA xs i 1), .ref 0]) rfl ?_
  refine gl_bool (pc := 1426) (pj := 1434) dL_law_1426 dL_law_1429 dL_law_1430 dL_law_1433 (by decide) (by decide) rfl rfl ?_
  refine gl_re (st2 := [.int (bA xs i 2), .int (sA xs i 1), .ref 0]) rfl ?_
  refine gl_callCI (pc := 1434) (is := [(sA xs i 1), (bA xs i 2)]) (st := []) hn9 dL_law_1434 kL_156 vL_156 (Nat.le_of_ble_eq_true rfl) rfl rfl rfl (Nat.le_of_ble_eq_true rfl) ?_
  refine ClI.mono (fun x1 wc' hP => ?_) hP
  refine gl_aload_n (pc := 1437) dL_law_1437 rfl 2 rfl ?_
  refine gl_aload_n (pc := 1438) dL_law_1438 rfl 0 rfl ?_
  refine gl_iload (pc := 1439) dL_law_1439 4 rfl ?_
  refine gl_iconst (pc := 1441) dL_law_1441 c_1 ?_
  refine gl_iadd (pc := 1442) dL_law_1442 ?_
  refine gl_sld (pc := 1443) dL_law_1443 (hI 1 (by decide)) ?_
  refine gl_re (st2 := [.int (sA xs i 1), .ref 1, .int x1]) rfl ?_
  refine gl_aload_n (pc := 1444) dL_law_1444 rfl 0 rfl ?_
  refine gl_iload (pc := 1445) dL_law_1445 4 rfl ?_
  refine gl_iconst (pc := 1447) dL_law_1447 c_2 ?_
  refine gl_iadd (pc := 1448) dL_law_1448 ?_
  refine gl_sld (pc := 1449) dL_law_1449 (hI 2 (by decide)) ?_
  refine gl_re (st2 := [.int (sA xs i 2), .int (sA xs i 1), .ref 1, .int x1]) rfl ?_
  refine gl_bool (pc := 1450) (pj := 1458) dL_law_1450 dL_law_1453 dL_law_1454 dL_law_1457 (by decide) (by decide) rfl rfl ?_
  refine gl_re (st2 := [.int (bA xs i 2), .int (sA xs i 1), .ref 1, .int x1]) rfl ?_
  refine gl_callRI (pc := 1458) (is := [(sA xs i 1), (bA xs i 2)]) (st := [.int x1]) hn9 dL_law_1458 kL_159 vL_159 (Nat.le_of_ble_eq_true rfl) rfl rfl rfl (Nat.le_of_ble_eq_true rfl) ?_
  refine ClI.mono (fun x2 wr' hP => ?_) hP
  refine gl_icmp_eq (pc := 1461) (tgt := 2620) dL_law_1461 (by decide) (fun _ => k _ _ hP.2) (fun q => absurd hP.1 q)
theorem lc_34 {L n : Nat} {xs : Nat → Int32} {wc wr : Wd} {o : Int64} {i : Int32} (hn9 : n ≤ 1000) (hI : ∀ j : Nat, j < 6 → vp_in (i + Int32.ofNat j) L) (hP : PairI mX10_colours mX11_colours [(sA xs i 1), (bA xs i 2), (sA xs i 3)] wc wr) (k : ∀ wc' wr', RelE wc' wr' → GoL L xs 2620 [(0, .ref 3), (1, .ref 0), (2, .ref 1), (3, .ref 2), (4, .int i)] [] n wc' wr' o) : GoL L xs 1466 [(0, .ref 3), (1, .ref 0), (2, .ref 1), (3, .ref 2), (4, .int i)] [] n wc wr o := by
  unfold PairI at hP
  refine gl_aload_n (pc := 1466) dL_law_1466 rfl 1 rfl ?_
  refine gl_aload_n (pc := 1467) dL_law_1467 rfl 0 rfl ?_
  refine gl_iload (pc := 1468) dL_law_1468 4 rfl ?_
  refine gl_iconst (pc := 1470) dL_law_1470 c_1 ?_
  refine gl_iadd (pc := 1471) dL_law_1471 ?_
  refine gl_sld (pc := 1472) dL_law_1472 (hI 1 (by decide)) ?_
  refine gl_re (st2 := [.int (sA xs i 1), .ref 0]) rfl ?_
  refine gl_aload_n (pc := 1473) dL_law_1473 rfl 0 rfl ?_
  refine gl_iload (pc := 1474) dL_law_1474 4 rfl ?_
  refine gl_iconst (pc := 1476) dL_law_1476 c_2 ?_
  refine gl_iadd (pc := 1477) dL_law_1477 ?_
  refine gl_sld (pc := 1478) dL_law_1478 (hI 2 (by decide)) ?_
  refine gl_re (st2 := [.int (sA xs i 2), .int (sA xs i 1), .ref 0]) rfl ?_
  refine gl_bool (pc := 1479) (pj := 1487) dL_law_1479 dL_law_1482 dL_law_1483 dL_law_1486 (by decide) (by decide) rfl rfl ?_
  refine gl_re (st2 := [.int (bA xs i 2), .int (sA xs i 1), .ref 0]) rfl ?_
  refine gl_aload_n (pc := 1487) dL_law_1487 rfl 0 rfl ?_
  refine gl_iload (pc := 1488) dL_law_1488 4 rfl ?_
  refine gl_iconst (pc := 1490) dL_law_1490 c_3 ?_
  refine gl_iadd (pc := 1491) dL_law_1491 ?_
  refine gl_sld (pc := 1492) dL_law_1492 (hI 3 (by decide)) ?_
  refine gl_re (st2 := [.int (sA xs i 3), .int (bA xs i 2), .int (sA xs i 1), .ref 0]) rfl ?_
  refine gl_callCI (pc := 1493) (is := [(sA xs i 1), (bA xs i 2), (sA xs i 3)]) (st := []) hn9 dL_law_1493 kL_160 vL_160 (Nat.le_of_ble_eq_true rfl) rfl rfl rfl (Nat.le_of_ble_eq_true rfl) ?_
  refine ClI.mono (fun x1 wc' hP => ?_) hP
  refine gl_aload_n (pc := 1496) dL_law_1496 rfl 2 rfl ?_
  refine gl_aload_n (pc := 1497) dL_law_1497 rfl 0 rfl ?_
  refine gl_iload (pc := 1498) dL_law_1498 4 rfl ?_
  refine gl_iconst (pc := 1500) dL_law_1500 c_1 ?_
  refine gl_iadd (pc := 1501) dL_law_1501 ?_
  refine gl_sld (pc := 1502) dL_law_1502 (hI 1 (by decide)) ?_
  refine gl_re (st2 := [.int (sA xs i 1), .ref 1, .int x1]) rfl ?_
  refine gl_aload_n (pc := 1503) dL_law_1503 rfl 0 rfl ?_
  refine gl_iload (pc := 1504) dL_law_1504 4 rfl ?_
  refine gl_iconst (pc := 1506) dL_law_1506 c_2 ?_
  refine gl_iadd (pc := 1507) dL_law_1507 ?_
  refine gl_sld (pc := 1508) dL_law_1508 (hI 2 (by decide)) ?_
  refine gl_re (st2 := [.int (sA xs i 2), .int (sA xs i 1), .ref 1, .int x1]) rfl ?_
  refine gl_bool (pc := 1509) (pj := 1517) dL_law_1509 dL_law_1512 dL_law_1513 dL_law_1516 (by decide) (by decide) rfl rfl ?_
  refine gl_re (st2 := [.int (bA xs i 2), .int (sA xs i 1), .ref 1, .int x1]) rfl ?_
  refine gl_aload_n (pc := 1517) dL_law_1517 rfl 0 rfl ?_
  refine gl_iload (pc := 1518) dL_law_1518 4 rfl ?_
  refine gl_iconst (pc := 1520) dL_law_1520 c_3 ?_
  refine gl_iadd (pc := 1521) dL_law_1521 ?_
  refine gl_sld (pc := 1522) dL_law_1522 (hI 3 (by decide)) ?_
  refine gl_re (st2 := [.int (sA xs i 3), .int (bA xs i 2), .int (sA xs i 1), .ref 1, .int x1]) rfl ?_
  refine gl_callRI (pc := 1523) (is := [(sA xs i 1), (bA xs i 2), (sA xs i 3)]) (st := [.int x1]) hn9 dL_law_1523 kL_164 vL_164 (Nat.le_of_ble_eq_true rfl) rfl rfl rfl (Nat.le_of_ble_eq_true rfl) ?_
  refine ClI.mono (fun x2 wr' hP => ?_) hP
  refine gl_icmp_eq (pc := 1526) (tgt := 2620) dL_law_1526 (by decide) (fun _ => k _ _ hP.2) (fun q => absurd hP.1 q)
theorem lc_35 {L n : Nat} {xs : Nat → Int32} {wc wr : Wd} {o : Int64} {i : Int32} (hn9 : n ≤ 1000) (hI : ∀ j : Nat, j < 6 → vp_in (i + Int32.ofNat j) L) (hP : PairI mX10_beside mX11_beside [(sA xs i 1), (sA xs i 2)] wc wr) (k : ∀ wc' wr', RelE wc' wr' → GoL L xs 2620 [(0, .ref 3), (1, .ref 0), (2, .ref 1), (3, .ref 2), (4, .int i)] [] n wc' wr' o) : GoL L xs 1531 [(0, .ref 3), (1, .ref 0), (2, .ref 1), (3, .ref 2), (4, .int i)] [] n wc wr o := by
  unfold PairI at hP
  refine gl_aload_n (pc := 1531) dL_law_1531 rfl 1 rfl ?_
  refine gl_aload_n (pc := 1532) dL_law_1532 rfl 0 rfl ?_
  refine gl_iload (pc := 1533) dL_law_1533 4 rfl ?_
  refine gl_iconst (pc := 1535) dL_law_1535 c_1 ?_
  refine gl_iadd (pc := 1536) dL_law_1536 ?_
  refine gl_sld (pc := 1537) dL_law_1537 (hI 1 (by decide)) ?_
  refine gl_re (st2 := [.int (sA xs i 1), .ref 0]) rfl ?_
  refine gl_aload_n (pc := 1538) dL_law_1538 rfl 0 rfl ?_
  refine gl_iload (pc := 1539) dL_law_1539 4 rfl ?_
  refine gl_iconst (pc := 1541) dL_law_1541 c_2 ?_
  refine gl_iadd (pc := 1542) dL_law_1542 ?_
  refine gl_sld (pc := 1543) dL_law_1543 (hI 2 (by decide)) ?_
  refine gl_re (st2 := [.int (sA xs i 2), .int (sA xs i 1), .ref 0]) rfl ?_
  refine gl_callCI (pc := 1544) (is := [(sA xs i 1), (sA xs i 2)]) (st := []) hn9 dL_law_1544 kL_165 vL_165 (Nat.le_of_ble_eq_true rfl) rfl rfl rfl (Nat.le_of_ble_eq_true rfl) ?_
  refine ClI.mono (fun x1 wc' hP => ?_) hP
  refine gl_aload_n (pc := 1547) dL_law_1547 rfl 2 rfl ?_
  refine gl_aload_n (pc := 1548) dL_law_1548 rfl 0 rfl ?_
  refine gl_iload (pc := 1549) dL_law_1549 4 rfl ?_
  refine gl_iconst (pc := 1551) dL_law_1551 c_1 ?_
  refine gl_iadd (pc := 1552) dL_law_1552 ?_
  refine gl_sld (pc := 1553) dL_law_1553 (hI 1 (by decide)) ?_
  refine gl_re (st2 := [.int (sA xs i 1), .ref 1, .int x1]) rfl ?_
  refine gl_aload_n (pc := 1554) dL_law_1554 rfl 0 rfl ?_
  refine gl_iload (pc := 1555) dL_law_1555 4 rfl ?_
  refine gl_iconst (pc := 1557) dL_law_1557 c_2 ?_
  refine gl_iadd (pc := 1558) dL_law_1558 ?_
  refine gl_sld (pc := 1559) dL_law_1559 (hI 2 (by decide)) ?_
  refine gl_re (st2 := [.int (sA xs i 2), .int (sA xs i 1), .ref 1, .int x1]) rfl ?_
  refine gl_callRI (pc := 1560) (is := [(sA xs i 1), (sA xs i 2)]) (st := [.int x1]) hn9 dL_law_1560 kL_168 vL_168 (Nat.le_of_ble_eq_true rfl) rfl rfl rfl (Nat.le_of_ble_eq_true rfl) ?_
  refine ClI.mono (fun x2 wr' hP => ?_) hP
  refine gl_icmp_eq (pc := 1563) (tgt := 2620) dL_law_1563 (by decide) (fun _ => k _ _ hP.2) (fun q => absurd hP.1 q)
theorem lc_36 {L n : Nat} {xs : Nat → Int32} {wc wr : Wd} {o : Int64} {i : Int32} (hn9 : n ≤ 1000) (hI : ∀ j : Nat, j < 6 → vp_in (i + Int32.ofNat j) L) (hP : PairI mX10_alike mX11_alike [(sA xs i 1), (sA xs i 2)] wc wr) (k : ∀ wc' wr', RelE wc' wr' → GoL L xs 2620 [(0, .ref 3), (1, .ref 0), (2, .ref 1), (3, .ref 2), (4, .int i)] [] n wc' wr' o) : GoL L xs 1568 [(0, .ref 3), (1, .ref 0), (2, .ref 1), (3, .ref 2), (4, .int i)] [] n wc wr o := by
  unfold PairI at hP
  refine gl_aload_n (pc := 1568) dL_law_1568 rfl 1 rfl ?_
  refine gl_aload_n (pc := 1569) dL_law_1569 rfl 0 rfl ?_
  refine gl_iload (pc := 1570) dL_law_1570 4 rfl ?_
  refine gl_iconst (pc := 1572) dL_law_1572 c_1 ?_
  refine gl_iadd (pc := 1573) dL_law_1573 ?_
  refine gl_sld (pc := 1574) dL_law_1574 (hI 1 (by decide)) ?_
  refine gl_re (st2 := [.int (sA xs i 1), .ref 0]) rfl ?_
  refine gl_aload_n (pc := 1575) dL_law_1575 rfl 0 rfl ?_
  refine gl_iload (pc := 1576) dL_law_1576 4 rfl ?_
  refine gl_iconst (pc := 1578) dL_law_1578 c_2 ?_
  refine gl_iadd (pc := 1579) dL_law_1579 ?_
  refine gl_sld (pc := 1580) dL_law_1580 (hI 2 (by decide)) ?_
  refine gl_re (st2 := [.int (sA xs i 2), .int (sA xs i 1), .ref 0]) rfl ?_
  refine gl_callCI (pc := 1581) (is := [(sA xs i 1), (sA xs i 2)]) (st := []) hn9 dL_law_1581 kL_169 vL_169 (Nat.le_of_ble_eq_true rfl) rfl rfl rfl (Nat.le_of_ble_eq_true rfl) ?_
  refine ClI.mono (fun x1 wc' hP => ?_) hP
  refine gl_aload_n (pc := 1584) dL_law_1584 rfl 2 rfl ?_
  refine gl_aload_n (pc := 1585) dL_law_1585 rfl 0 rfl ?_
  refine gl_iload (pc := 1586) dL_law_1586 4 rfl ?_
  refine gl_iconst (pc := 1588) dL_law_1588 c_1 ?_
  refine gl_iadd (pc := 1589) dL_law_1589 ?_
  refine gl_sld (pc := 1590) dL_law_1590 (hI 1 (by decide)) ?_
  refine gl_re (st2 := [.int (sA xs i 1), .ref 1, .int x1]) rfl ?_
  refine gl_aload_n (pc := 1591) dL_law_1591 rfl 0 rfl ?_
  refine gl_iload (pc := 1592) dL_law_1592 4 rfl ?_
  refine gl_iconst (pc := 1594) dL_law_1594 c_2 ?_
  refine gl_iadd (pc := 1595) dL_law_1595 ?_
  refine gl_sld (pc := 1596) dL_law_1596 (hI 2 (by decide)) ?_
  refine gl_re (st2 := [.int (sA xs i 2), .int (sA xs i 1), .ref 1, .int x1]) rfl ?_
  refine gl_callRI (pc := 1597) (is := [(sA xs i 1), (sA xs i 2)]) (st := [.int x1]) hn9 dL_law_1597 kL_172 vL_172 (Nat.le_of_ble_eq_true rfl) rfl rfl rfl (Nat.le_of_ble_eq_true rfl) ?_
  refine ClI.mono (fun x2 wr' hP => ?_) hP
  refine gl_icmp_eq (pc := 1600) (tgt := 2620) dL_law_1600 (by decide) (fun _ => k _ _ hP.2) (fun q => absurd hP.1 q)
theorem lc_37 {L n : Nat} {xs : Nat → Int32} {wc wr : Wd} {o : Int64} {i : Int32} (hn9 : n ≤ 1000) (hI : ∀ j : Nat, j < 6 → vp_in (i + Int32.ofNat j) L) (hP : PairI mX10_mirrored mX11_mirrored [(sA xs i 1), (sA xs i 2)] wc wr) (k : ∀ wc' wr', RelE wc' wr' → GoL L xs 2620 [(0, .ref 3), (1, .ref 0), (2, .ref 1), (3, .ref 2), (4, .int i)] [] n wc' wr' o) : GoL L xs 1605 [(0, .ref 3), (1, .ref 0), (2, .ref 1), (3, .ref 2), (4, .int i)] [] n wc wr o := by
  unfold PairI at hP
  refine gl_aload_n (pc := 1605) dL_law_1605 rfl 1 rfl ?_
  refine gl_aload_n (pc := 1606) dL_law_1606 rfl 0 rfl ?_
  refine gl_iload (pc := 1607) dL_law_1607 4 rfl ?_
  refine gl_iconst (pc := 1609) dL_law_1609 c_1 ?_
  refine gl_iadd (pc := 1610) dL_law_1610 ?_
  refine gl_sld (pc := 1611) dL_law_1611 (hI 1 (by decide)) ?_
  refine gl_re (st2 := [.int (sA xs i 1), .ref 0]) rfl ?_
  refine gl_aload_n (pc := 1612) dL_law_1612 rfl 0 rfl ?_
  refine gl_iload (pc := 1613) dL_law_1613 4 rfl ?_
  refine gl_iconst (pc := 1615) dL_law_1615 c_2 ?_
  refine gl_iadd (pc := 1616) dL_law_1616 ?_
  refine gl_sld (pc := 1617) dL_law_1617 (hI 2 (by decide)) ?_
  refine gl_re (st2 := [.int (sA xs i 2), .int (sA xs i 1), .ref 0]) rfl ?_
  refine gl_callCI (pc := 1618) (is := [(sA xs i 1), (sA xs i 2)]) (st := []) hn9 dL_law_1618 kL_173 vL_173 (Nat.le_of_ble_eq_true rfl) rfl rfl rfl (Nat.le_of_ble_eq_true rfl) ?_
  refine ClI.mono (fun x1 wc' hP => ?_) hP
  refine gl_aload_n (pc := 1621) dL_law_1621 rfl 2 rfl ?_
  refine gl_aload_n (pc := 1622) dL_law_1622 rfl 0 rfl ?_
  refine gl_iload (pc := 1623) dL_law_1623 4 rfl ?_
  refine gl_iconst (pc := 1625) dL_law_1625 c_1 ?_
  refine gl_iadd (pc := 1626) dL_law_1626 ?_
  refine gl_sld (pc := 1627) dL_law_1627 (hI 1 (by decide)) ?_
  refine gl_re (st2 := [.int (sA xs i 1), .ref 1, .int x1]) rfl ?_
  refine gl_aload_n (pc := 1628) dL_law_1628 rfl 0 rfl ?_
  refine gl_iload (pc := 1629) dL_law_1629 4 rfl ?_
  refine gl_iconst (pc := 1631) dL_law_1631 c_2 ?_
  refine gl_iadd (pc := 1632) dL_law_1632 ?_
  refine gl_sld (pc := 1633) dL_law_1633 (hI 2 (by decide)) ?_
  refine gl_re (st2 := [.int (sA xs i 2), .int (sA xs i 1), .ref 1, .int x1]) rfl ?_
  refine gl_callRI (pc := 1634) (is := [(sA xs i 1), (sA xs i 2)]) (st := [.int x1]) hn9 dL_law_1634 kL_176 vL_176 (Nat.le_of_ble_eq_true rfl) rfl rfl rfl (Nat.le_of_ble_eq_true rfl) ?_
  refine ClI.mono (fun x2 wr' hP => ?_) hP
  refine gl_icmp_eq (pc := 1637) (tgt := 2620) dL_law_1637 (by decide) (fun _ => k _ _ hP.2) (fun q => absurd hP.1 q)
theorem lc_38 {L n : Nat} {xs : Nat → Int32} {wc wr : Wd} {o : Int64} {i : Int32} (hn9 : n ≤ 1000) (hI : ∀ j : Nat, j < 6 → vp_in (i + Int32.ofNat j) L) (hP : PairI mX10_kinds mX11_kinds [(sA xs i 1), (bA xs i 2)] wc wr) (k : ∀ wc' wr', RelE wc' wr' → GoL L xs 2620 [(0, .ref 3), (1, .ref 0), (2, .ref 1), (3, .ref 2), (4, .int i)] [] n wc' wr' o) : GoL L xs 1642 [(0, .ref 3), (1, .ref 0), (2, .ref 1), (3, .ref 2), (4, .int i)] [] n wc wr o := by
  unfold PairI at hP
  refine gl_aload_n (pc := 1642) dL_law_1642 rfl 1 rfl ?_
  refine gl_aload_n (pc := 1643) dL_law_1643 rfl 0 rfl ?_
  refine gl_iload (pc := 1644) dL_law_1644 4 rfl ?_
  refine gl_iconst (pc := 1646) dL_law_1646 c_1 ?_
  refine gl_iadd (pc := 1647) dL_law_1647 ?_
  refine gl_sld (pc := 1648) dL_law_1648 (hI 1 (by decide)) ?_
  refine gl_re (st2 := [.int (sA xs i 1), .ref 0]) rfl ?_
  refine gl_aload_n (pc := 1649) dL_law_1649 rfl 0 rfl ?_
  refine gl_iload (pc := 1650) dL_law_1650 4 rfl ?_
  refine gl_iconst (pc := 1652) dL_law_1652 c_2 ?_
  refine gl_iadd (pc := 1653) dL_law_1653 ?_
  refine gl_sld (pc := 1654) dL_law_1654 (hI 2 (by decide)) ?_
  refine gl_re (st2 := [.int (sA xs i 2), .int (sA xs i 1), .ref 0]) rfl ?_
  refine gl_bool (pc := 1655) (pj := 1663) dL_law_1655 dL_law_1658 dL_law_1659 dL_law_1662 (by decide) (by decide) rfl rfl ?_
  refine gl_re (st2 := [.int (bA xs i 2), .int (sA xs i 1), .ref 0]) rfl ?_
  refine gl_callCI (pc := 1663) (is := [(sA xs i 1), (bA xs i 2)]) (st := []) hn9 dL_law_1663 kL_177 vL_177 (Nat.le_of_ble_eq_true rfl) rfl rfl rfl (Nat.le_of_ble_eq_true rfl) ?_
  refine ClI.mono (fun x1 wc' hP => ?_) hP
  refine gl_aload_n (pc := 1666) dL_law_1666 rfl 2 rfl ?_
  refine gl_aload_n (pc := 1667) dL_law_1667 rfl 0 rfl ?_
  refine gl_iload (pc := 1668) dL_law_1668 4 rfl ?_
  refine gl_iconst (pc := 1670) dL_law_1670 c_1 ?_
  refine gl_iadd (pc := 1671) dL_law_1671 ?_
  refine gl_sld (pc := 1672) dL_law_1672 (hI 1 (by decide)) ?_
  refine gl_re (st2 := [.int (sA xs i 1), .ref 1, .int x1]) rfl ?_
  refine gl_aload_n (pc := 1673) dL_law_1673 rfl 0 rfl ?_
  refine gl_iload (pc := 1674) dL_law_1674 4 rfl ?_
  refine gl_iconst (pc := 1676) dL_law_1676 c_2 ?_
  refine gl_iadd (pc := 1677) dL_law_1677 ?_
  refine gl_sld (pc := 1678) dL_law_1678 (hI 2 (by decide)) ?_
  refine gl_re (st2 := [.int (sA xs i 2), .int (sA xs i 1), .ref 1, .int x1]) rfl ?_
  refine gl_bool (pc := 1679) (pj := 1687) dL_law_1679 dL_law_1682 dL_law_1683 dL_law_1686 (by decide) (by decide) rfl rfl ?_
  refine gl_re (st2 := [.int (bA xs i 2), .int (sA xs i 1), .ref 1, .int x1]) rfl ?_
  refine gl_callRI (pc := 1687) (is := [(sA xs i 1), (bA xs i 2)]) (st := [.int x1]) hn9 dL_law_1687 kL_180 vL_180 (Nat.le_of_ble_eq_true rfl) rfl rfl rfl (Nat.le_of_ble_eq_true rfl) ?_
  refine ClI.mono (fun x2 wr' hP => ?_) hP
  refine gl_icmp_eq (pc := 1690) (tgt := 2620) dL_law_1690 (by decide) (fun _ => k _ _ hP.2) (fun q => absurd hP.1 q)
theorem lc_39 {L n : Nat} {xs : Nat → Int32} {wc wr : Wd} {o : Int64} {i : Int32} (hn9 : n ≤ 1000) (hI : ∀ j : Nat, j < 6 → vp_in (i + Int32.ofNat j) L) (hP : PairI mX10_fits mX11_fits [] wc wr) (k : ∀ wc' wr', RelE wc' wr' → GoL L xs 2620 [(0, .ref 3), (1, .ref 0), (2, .ref 1), (3, .ref 2), (4, .int i)] [] n wc' wr' o) : GoL L xs 1695 [(0, .ref 3), (1, .ref 0), (2, .ref 1), (3, .ref 2), (4, .int i)] [] n wc wr o := by
  unfold PairI at hP
  refine gl_aload_n (pc := 1695) dL_law_1695 rfl 1 rfl ?_
  refine gl_callCI (pc := 1696) (is := []) (st := []) hn9 dL_law_1696 kL_181 vL_181 (Nat.le_of_ble_eq_true rfl) rfl rfl rfl (Nat.le_of_ble_eq_true rfl) ?_
  refine ClI.mono (fun x1 wc' hP => ?_) hP
  refine gl_aload_n (pc := 1699) dL_law_1699 rfl 2 rfl ?_
  refine gl_callRI (pc := 1700) (is := []) (st := [.int x1]) hn9 dL_law_1700 kL_184 vL_184 (Nat.le_of_ble_eq_true rfl) rfl rfl rfl (Nat.le_of_ble_eq_true rfl) ?_
  refine ClI.mono (fun x2 wr' hP => ?_) hP
  refine gl_icmp_eq (pc := 1703) (tgt := 2620) dL_law_1703 (by decide) (fun _ => k _ _ hP.2) (fun q => absurd hP.1 q)
theorem lc_40 {L n : Nat} {xs : Nat → Int32} {wc wr : Wd} {o : Int64} {i : Int32} (hn9 : n ≤ 1000) (hI : ∀ j : Nat, j < 6 → vp_in (i + Int32.ofNat j) L) (hP : PairI mX10_fitAt mX11_fitAt [(sA xs i 1)] wc wr) (k : ∀ wc' wr', RelE wc' wr' → GoL L xs 2620 [(0, .ref 3), (1, .ref 0), (2, .ref 1), (3, .ref 2), (4, .int i)] [] n wc' wr' o) : GoL L xs 1708 [(0, .ref 3), (1, .ref 0), (2, .ref 1), (3, .ref 2), (4, .int i)] [] n wc wr o := by
  unfold PairI at hP
  refine gl_aload_n (pc := 1708) dL_law_1708 rfl 1 rfl ?_
  refine gl_aload_n (pc := 1709) dL_law_1709 rfl 0 rfl ?_
  refine gl_iload (pc := 1710) dL_law_1710 4 rfl ?_
  refine gl_iconst (pc := 1712) dL_law_1712 c_1 ?_
  refine gl_iadd (pc := 1713) dL_law_1713 ?_
  refine gl_sld (pc := 1714) dL_law_1714 (hI 1 (by decide)) ?_
  refine gl_re (st2 := [.int (sA xs i 1), .ref 0]) rfl ?_
  refine gl_callCI (pc := 1715) (is := [(sA xs i 1)]) (st := []) hn9 dL_law_1715 kL_185 vL_185 (Nat.le_of_ble_eq_true rfl) rfl rfl rfl (Nat.le_of_ble_eq_true rfl) ?_
  refine ClI.mono (fun x1 wc' hP => ?_) hP
  refine gl_aload_n (pc := 1718) dL_law_1718 rfl 2 rfl ?_
  refine gl_aload_n (pc := 1719) dL_law_1719 rfl 0 rfl ?_
  refine gl_iload (pc := 1720) dL_law_1720 4 rfl ?_
  refine gl_iconst (pc := 1722) dL_law_1722 c_1 ?_
  refine gl_iadd (pc := 1723) dL_law_1723 ?_
  refine gl_sld (pc := 1724) dL_law_1724 (hI 1 (by decide)) ?_
  refine gl_re (st2 := [.int (sA xs i 1), .ref 1, .int x1]) rfl ?_
  refine gl_callRI (pc := 1725) (is := [(sA xs i 1)]) (st := [.int x1]) hn9 dL_law_1725 kL_188 vL_188 (Nat.le_of_ble_eq_true rfl) rfl rfl rfl (Nat.le_of_ble_eq_true rfl) ?_
  refine ClI.mono (fun x2 wr' hP => ?_) hP
  refine gl_icmp_eq (pc := 1728) (tgt := 2620) dL_law_1728 (by decide) (fun _ => k _ _ hP.2) (fun q => absurd hP.1 q)
theorem lc_41 {L n : Nat} {xs : Nat → Int32} {wc wr : Wd} {o : Int64} {i : Int32} (hn9 : n ≤ 1000) (hI : ∀ j : Nat, j < 6 → vp_in (i + Int32.ofNat j) L) (hP : PairI mX10_could mX11_could [] wc wr) (k : ∀ wc' wr', RelE wc' wr' → GoL L xs 2620 [(0, .ref 3), (1, .ref 0), (2, .ref 1), (3, .ref 2), (4, .int i)] [] n wc' wr' o) : GoL L xs 1733 [(0, .ref 3), (1, .ref 0), (2, .ref 1), (3, .ref 2), (4, .int i)] [] n wc wr o := by
  unfold PairI at hP
  refine gl_aload_n (pc := 1733) dL_law_1733 rfl 1 rfl ?_
  refine gl_callCI (pc := 1734) (is := []) (st := []) hn9 dL_law_1734 kL_189 vL_189 (Nat.le_of_ble_eq_true rfl) rfl rfl rfl (Nat.le_of_ble_eq_true rfl) ?_
  refine ClI.mono (fun x1 wc' hP => ?_) hP
  refine gl_aload_n (pc := 1737) dL_law_1737 rfl 2 rfl ?_
  refine gl_callRI (pc := 1738) (is := []) (st := [.int x1]) hn9 dL_law_1738 kL_192 vL_192 (Nat.le_of_ble_eq_true rfl) rfl rfl rfl (Nat.le_of_ble_eq_true rfl) ?_
  refine ClI.mono (fun x2 wr' hP => ?_) hP
  refine gl_icmp_eq (pc := 1741) (tgt := 2620) dL_law_1741 (by decide) (fun _ => k _ _ hP.2) (fun q => absurd hP.1 q)
theorem lc_42 {L n : Nat} {xs : Nat → Int32} {wc wr : Wd} {o : Int64} {i : Int32} (hn9 : n ≤ 1000) (hI : ∀ j : Nat, j < 6 → vp_in (i + Int32.ofNat j) L) (hP : PairI mX10_surely mX11_surely [] wc wr) (k : ∀ wc' wr', RelE wc' wr' → GoL L xs 2620 [(0, .ref 3), (1, .ref 0), (2, .ref 1), (3, .ref 2), (4, .int i)] [] n wc' wr' o) : GoL L xs 1746 [(0, .ref 3), (1, .ref 0), (2, .ref 1), (3, .ref 2), (4, .int i)] [] n wc wr o := by
  unfold PairI at hP
  refine gl_aload_n (pc := 1746) dL_law_1746 rfl 1 rfl ?_
  refine gl_callCI (pc := 1747) (is := []) (st := []) hn9 dL_law_1747 kL_193 vL_193 (Nat.le_of_ble_eq_true rfl) rfl rfl rfl (Nat.le_of_ble_eq_true rfl) ?_
  refine ClI.mono (fun x1 wc' hP => ?_) hP
  refine gl_aload_n (pc := 1750) dL_law_1750 rfl 2 rfl ?_
  refine gl_callRI (pc := 1751) (is := []) (st := [.int x1]) hn9 dL_law_1751 kL_196 vL_196 (Nat.le_of_ble_eq_true rfl) rfl rfl rfl (Nat.le_of_ble_eq_true rfl) ?_
  refine ClI.mono (fun x2 wr' hP => ?_) hP
  refine gl_icmp_eq (pc := 1754) (tgt := 2620) dL_law_1754 (by decide) (fun _ => k _ _ hP.2) (fun q => absurd hP.1 q)
theorem lc_43 {L n : Nat} {xs : Nat → Int32} {wc wr : Wd} {o : Int64} {i : Int32} (hn9 : n ≤ 1000) (hI : ∀ j : Nat, j < 6 → vp_in (i + Int32.ofNat j) L) (hP : PairI mX10_ask mX11_ask [] wc wr) (k : ∀ wc' wr', RelE wc' wr' → GoL L xs 2620 [(0, .ref 3), (1, .ref 0), (2, .ref 1), (3, .ref 2), (4, .int i)] [] n wc' wr' o) : GoL L xs 1759 [(0, .ref 3), (1, .ref 0), (2, .ref 1), (3, .ref 2), (4, .int i)] [] n wc wr o := by
  unfold PairI at hP
  refine gl_aload_n (pc := 1759) dL_law_1759 rfl 1 rfl ?_
  refine gl_callCI (pc := 1760) (is := []) (st := []) hn9 dL_law_1760 kL_197 vL_197 (Nat.le_of_ble_eq_true rfl) rfl rfl rfl (Nat.le_of_ble_eq_true rfl) ?_
  refine ClI.mono (fun x1 wc' hP => ?_) hP
  refine gl_aload_n (pc := 1763) dL_law_1763 rfl 2 rfl ?_
  refine gl_callRI (pc := 1764) (is := []) (st := [.int x1]) hn9 dL_law_1764 kL_200 vL_200 (Nat.le_of_ble_eq_true rfl) rfl rfl rfl (Nat.le_of_ble_eq_true rfl) ?_
  refine ClI.mono (fun x2 wr' hP => ?_) hP
  refine gl_icmp_eq (pc := 1767) (tgt := 2620) dL_law_1767 (by decide) (fun _ => k _ _ hP.2) (fun q => absurd hP.1 q)
theorem lc_44 {L n : Nat} {xs : Nat → Int32} {wc wr : Wd} {o : Int64} {i : Int32} (hn9 : n ≤ 1000) (hI : ∀ j : Nat, j < 6 → vp_in (i + Int32.ofNat j) L) (hP : PairI mX10_askLeaves mX11_askLeaves [] wc wr) (k : ∀ wc' wr', RelE wc' wr' → GoL L xs 2620 [(0, .ref 3), (1, .ref 0), (2, .ref 1), (3, .ref 2), (4, .int i)] [] n wc' wr' o) : GoL L xs 1772 [(0, .ref 3), (1, .ref 0), (2, .ref 1), (3, .ref 2), (4, .int i)] [] n wc wr o := by
  unfold PairI at hP
  refine gl_aload_n (pc := 1772) dL_law_1772 rfl 1 rfl ?_
  refine gl_callCI (pc := 1773) (is := []) (st := []) hn9 dL_law_1773 kL_201 vL_201 (Nat.le_of_ble_eq_true rfl) rfl rfl rfl (Nat.le_of_ble_eq_true rfl) ?_
  refine ClI.mono (fun x1 wc' hP => ?_) hP
  refine gl_aload_n (pc := 1776) dL_law_1776 rfl 2 rfl ?_
  refine gl_callRI (pc := 1777) (is := []) (st := [.int x1]) hn9 dL_law_1777 kL_204 vL_204 (Nat.le_of_ble_eq_true rfl) rfl rfl rfl (Nat.le_of_ble_eq_true rfl) ?_
  refine ClI.mono (fun x2 wr' hP => ?_) hP
  refine gl_icmp_eq (pc := 1780) (tgt := 2620) dL_law_1780 (by decide) (fun _ => k _ _ hP.2) (fun q => absurd hP.1 q)
theorem lc_45 {L n : Nat} {xs : Nat → Int32} {wc wr : Wd} {o : Int64} {i : Int32} (hn9 : n ≤ 1000) (hI : ∀ j : Nat, j < 6 → vp_in (i + Int32.ofNat j) L) (hP : PairI mX10_judge mX11_judge [] wc wr) (k : ∀ wc' wr', RelE wc' wr' → GoL L xs 2620 [(0, .ref 3), (1, .ref 0), (2, .ref 1), (3, .ref 2), (4, .int i)] [] n wc' wr' o) : GoL L xs 1785 [(0, .ref 3), (1, .ref 0), (2, .ref 1), (3, .ref 2), (4, .int i)] [] n wc wr o := by
  unfold PairI at hP
  refine gl_aload_n (pc := 1785) dL_law_1785 rfl 1 rfl ?_
  refine gl_callCI (pc := 1786) (is := []) (st := []) hn9 dL_law_1786 kL_205 vL_205 (Nat.le_of_ble_eq_true rfl) rfl rfl rfl (Nat.le_of_ble_eq_true rfl) ?_
  refine ClI.mono (fun x1 wc' hP => ?_) hP
  refine gl_aload_n (pc := 1789) dL_law_1789 rfl 2 rfl ?_
  refine gl_callRI (pc := 1790) (is := []) (st := [.int x1]) hn9 dL_law_1790 kL_208 vL_208 (Nat.le_of_ble_eq_true rfl) rfl rfl rfl (Nat.le_of_ble_eq_true rfl) ?_
  refine ClI.mono (fun x2 wr' hP => ?_) hP
  refine gl_icmp_eq (pc := 1793) (tgt := 2620) dL_law_1793 (by decide) (fun _ => k _ _ hP.2) (fun q => absurd hP.1 q)
theorem lc_46 {L n : Nat} {xs : Nat → Int32} {wc wr : Wd} {o : Int64} {i : Int32} (hn9 : n ≤ 1000) (hI : ∀ j : Nat, j < 6 → vp_in (i + Int32.ofNat j) L) (hP : PairI mX10_callers mX11_callers [(sA xs i 1), (sA xs i 2)] wc wr) (k : ∀ wc' wr', RelE wc' wr' → GoL L xs 2620 [(0, .ref 3), (1, .ref 0), (2, .ref 1), (3, .ref 2), (4, .int i)] [] n wc' wr' o) : GoL L xs 1798 [(0, .ref 3), (1, .ref 0), (2, .ref 1), (3, .ref 2), (4, .int i)] [] n wc wr o := by
  unfold PairI at hP
  refine gl_aload_n (pc := 1798) dL_law_1798 rfl 1 rfl ?_
  refine gl_aload_n (pc := 1799) dL_law_1799 rfl 0 rfl ?_
  refine gl_iload (pc := 1800) dL_law_1800 4 rfl ?_
  refine gl_iconst (pc := 1802) dL_law_1802 c_1 ?_
  refine gl_iadd (pc := 1803) dL_law_1803 ?_
  refine gl_sld (pc := 1804) dL_law_1804 (hI 1 (by decide)) ?_
  refine gl_re (st2 := [.int (sA xs i 1), .ref 0]) rfl ?_
  refine gl_aload_n (pc := 1805) dL_law_1805 rfl 0 rfl ?_
  refine gl_iload (pc := 1806) dL_law_1806 4 rfl ?_
  refine gl_iconst (pc := 1808) dL_law_1808 c_2 ?_
  refine gl_iadd (pc := 1809) dL_law_1809 ?_
  refine gl_sld (pc := 1810) dL_law_1810 (hI 2 (by decide)) ?_
  refine gl_re (st2 := [.int (sA xs i 2), .int (sA xs i 1), .ref 0]) rfl ?_
  refine gl_callCI (pc := 1811) (is := [(sA xs i 1), (sA xs i 2)]) (st := []) hn9 dL_law_1811 kL_209 vL_209 (Nat.le_of_ble_eq_true rfl) rfl rfl rfl (Nat.le_of_ble_eq_true rfl) ?_
  refine ClI.mono (fun x1 wc' hP => ?_) hP
  refine gl_aload_n (pc := 1814) dL_law_1814 rfl 2 rfl ?_
  refine gl_aload_n (pc := 1815) dL_law_1815 rfl 0 rfl ?_
  refine gl_iload (pc := 1816) dL_law_1816 4 rfl ?_
  refine gl_iconst (pc := 1818) dL_law_1818 c_1 ?_
  refine gl_iadd (pc := 1819) dL_law_1819 ?_
  refine gl_sld (pc := 1820) dL_law_1820 (hI 1 (by decide)) ?_
  refine gl_re (st2 := [.int (sA xs i 1), .ref 1, .int x1]) rfl ?_
  refine gl_aload_n (pc := 1821) dL_law_1821 rfl 0 rfl ?_
  refine gl_iload (pc := 1822) dL_law_1822 4 rfl ?_
  refine gl_iconst (pc := 1824) dL_law_1824 c_2 ?_
  refine gl_iadd (pc := 1825) dL_law_1825 ?_
  refine gl_sld (pc := 1826) dL_law_1826 (hI 2 (by decide)) ?_
  refine gl_re (st2 := [.int (sA xs i 2), .int (sA xs i 1), .ref 1, .int x1]) rfl ?_
  refine gl_callRI (pc := 1827) (is := [(sA xs i 1), (sA xs i 2)]) (st := [.int x1]) hn9 dL_law_1827 kL_212 vL_212 (Nat.le_of_ble_eq_true rfl) rfl rfl rfl (Nat.le_of_ble_eq_true rfl) ?_
  refine ClI.mono (fun x2 wr' hP => ?_) hP
  refine gl_icmp_eq (pc := 1830) (tgt := 2620) dL_law_1830 (by decide) (fun _ => k _ _ hP.2) (fun q => absurd hP.1 q)
theorem lc_47 {L n : Nat} {xs : Nat → Int32} {wc wr : Wd} {o : Int64} {i : Int32} (hn9 : n ≤ 1000) (hI : ∀ j : Nat, j < 6 → vp_in (i + Int32.ofNat j) L) (hP : PairI mX10_callsBy mX11_callsBy [(sA xs i 1), (sA xs i 2)] wc wr) (k : ∀ wc' wr', RelE wc' wr' → GoL L xs 2620 [(0, .ref 3), (1, .ref 0), (2, .ref 1), (3, .ref 2), (4, .int i)] [] n wc' wr' o) : GoL L xs 1835 [(0, .ref 3), (1, .ref 0), (2, .ref 1), (3, .ref 2), (4, .int i)] [] n wc wr o := by
  unfold PairI at hP
  refine gl_aload_n (pc := 1835) dL_law_1835 rfl 1 rfl ?_
  refine gl_aload_n (pc := 1836) dL_law_1836 rfl 0 rfl ?_
  refine gl_iload (pc := 1837) dL_law_1837 4 rfl ?_
  refine gl_iconst (pc := 1839) dL_law_1839 c_1 ?_
  refine gl_iadd (pc := 1840) dL_law_1840 ?_
  refine gl_sld (pc := 1841) dL_law_1841 (hI 1 (by decide)) ?_
  refine gl_re (st2 := [.int (sA xs i 1), .ref 0]) rfl ?_
  refine gl_aload_n (pc := 1842) dL_law_1842 rfl 0 rfl ?_
  refine gl_iload (pc := 1843) dL_law_1843 4 rfl ?_
  refine gl_iconst (pc := 1845) dL_law_1845 c_2 ?_
  refine gl_iadd (pc := 1846) dL_law_1846 ?_
  refine gl_sld (pc := 1847) dL_law_1847 (hI 2 (by decide)) ?_
  refine gl_re (st2 := [.int (sA xs i 2), .int (sA xs i 1), .ref 0]) rfl ?_
  refine gl_callCI (pc := 1848) (is := [(sA xs i 1), (sA xs i 2)]) (st := []) hn9 dL_law_1848 kL_213 vL_213 (Nat.le_of_ble_eq_true rfl) rfl rfl rfl (Nat.le_of_ble_eq_true rfl) ?_
  refine ClI.mono (fun x1 wc' hP => ?_) hP
  refine gl_aload_n (pc := 1851) dL_law_1851 rfl 2 rfl ?_
  refine gl_aload_n (pc := 1852) dL_law_1852 rfl 0 rfl ?_
  refine gl_iload (pc := 1853) dL_law_1853 4 rfl ?_
  refine gl_iconst (pc := 1855) dL_law_1855 c_1 ?_
  refine gl_iadd (pc := 1856) dL_law_1856 ?_
  refine gl_sld (pc := 1857) dL_law_1857 (hI 1 (by decide)) ?_
  refine gl_re (st2 := [.int (sA xs i 1), .ref 1, .int x1]) rfl ?_
  refine gl_aload_n (pc := 1858) dL_law_1858 rfl 0 rfl ?_
  refine gl_iload (pc := 1859) dL_law_1859 4 rfl ?_
  refine gl_iconst (pc := 1861) dL_law_1861 c_2 ?_
  refine gl_iadd (pc := 1862) dL_law_1862 ?_
  refine gl_sld (pc := 1863) dL_law_1863 (hI 2 (by decide)) ?_
  refine gl_re (st2 := [.int (sA xs i 2), .int (sA xs i 1), .ref 1, .int x1]) rfl ?_
  refine gl_callRI (pc := 1864) (is := [(sA xs i 1), (sA xs i 2)]) (st := [.int x1]) hn9 dL_law_1864 kL_216 vL_216 (Nat.le_of_ble_eq_true rfl) rfl rfl rfl (Nat.le_of_ble_eq_true rfl) ?_
  refine ClI.mono (fun x2 wr' hP => ?_) hP
  refine gl_icmp_eq (pc := 1867) (tgt := 2620) dL_law_1867 (by decide) (fun _ => k _ _ hP.2) (fun q => absurd hP.1 q)
theorem lc_48 {L n : Nat} {xs : Nat → Int32} {wc wr : Wd} {o : Int64} {i : Int32} (hn9 : n ≤ 1000) (hI : ∀ j : Nat, j < 6 → vp_in (i + Int32.ofNat j) L) (hP : PairI mX10_bows mX11_bows [(sA xs i 1), (bA xs i 2), (bA xs i 3), (bA xs i 4)] wc wr) (k : ∀ wc' wr', RelE wc' wr' → GoL L xs 2620 [(0, .ref 3), (1, .ref 0), (2, .ref 1), (3, .ref 2), (4, .int i)] [] n wc' wr' o) : GoL L xs 1872 [(0, .ref 3), (1, .ref 0), (2, .ref 1), (3, .ref 2), (4, .int i)] [] n wc wr o := by
  unfold PairI at hP
  refine gl_aload_n (pc := 1872) dL_law_1872 rfl 1 rfl ?_
  refine gl_aload_n (pc := 1873) dL_law_1873 rfl 0 rfl ?_
  refine gl_iload (pc := 1874) dL_law_1874 4 rfl ?_
  refine gl_iconst (pc := 1876) dL_law_1876 c_1 ?_
  refine gl_iadd (pc := 1877) dL_law_1877 ?_
  refine gl_sld (pc := 1878) dL_law_1878 (hI 1 (by decide)) ?_
  refine gl_re (st2 := [.int (sA xs i 1), .ref 0]) rfl ?_
  refine gl_aload_n (pc := 1879) dL_law_1879 rfl 0 rfl ?_
  refine gl_iload (pc := 1880) dL_law_1880 4 rfl ?_
  refine gl_iconst (pc := 1882) dL_law_1882 c_2 ?_
  refine gl_iadd (pc := 1883) dL_law_1883 ?_
  refine gl_sld (pc := 1884) dL_law_1884 (hI 2 (by decide)) ?_
  refine gl_re (st2 := [.int (sA xs i 2), .int (sA xs i 1), .ref 0]) rfl ?_
  refine gl_bool (pc := 1885) (pj := 1893) dL_law_1885 dL_law_1888 dL_law_1889 dL_law_1892 (by decide) (by decide) rfl rfl ?_
  refine gl_re (st2 := [.int (bA xs i 2), .int (sA xs i 1), .ref 0]) rfl ?_
  refine gl_aload_n (pc := 1893) dL_law_1893 rfl 0 rfl ?_
  refine gl_iload (pc := 1894) dL_law_1894 4 rfl ?_
  refine gl_iconst (pc := 1896) dL_law_1896 c_3 ?_
  refine gl_iadd (pc := 1897) dL_law_1897 ?_
  refine gl_sld (pc := 1898) dL_law_1898 (hI 3 (by decide)) ?_
  refine gl_re (st2 := [.int (sA xs i 3), .int (bA xs i 2), .int (sA xs i 1), .ref 0]) rfl ?_
  refine gl_bool (pc := 1899) (pj := 1907) dL_law_1899 dL_law_1902 dL_law_1903 dL_law_1906 (by decide) (by decide) rfl rfl ?_
  refine gl_re (st2 := [.int (bA xs i 3), .int (bA xs i 2), .int (sA xs i 1), .ref 0]) rfl ?_
  refine gl_aload_n (pc := 1907) dL_law_1907 rfl 0 rfl ?_
  refine gl_iload (pc := 1908) dL_law_1908 4 rfl ?_
  refine gl_iconst (pc := 1910) dL_law_1910 c_4 ?_
  refine gl_iadd (pc := 1911) dL_law_1911 ?_
  refine gl_sld (pc := 1912) dL_law_1912 (hI 4 (by decide)) ?_
  refine gl_re (st2 := [.int (sA xs i 4), .int (bA xs i 3), .int (bA xs i 2), .int (sA xs i 1), .ref 0]) rfl ?_
  refine gl_bool (pc := 1913) (pj := 1921) dL_law_1913 dL_law_1916 dL_law_1917 dL_law_1920 (by decide) (by decide) rfl rfl ?_
  refine gl_re (st2 := [.int (bA xs i 4), .int (bA xs i 3), .int (bA xs i 2), .int (sA xs i 1), .ref 0]) rfl ?_
  refine gl_callCI (pc := 1921) (is := [(sA xs i 1), (bA xs i 2), (bA xs i 3), (bA xs i 4)]) (st := []) hn9 dL_law_1921 kL_217 vL_217 (Nat.le_of_ble_eq_true rfl) rfl rfl rfl (Nat.le_of_ble_eq_true rfl) ?_
  refine ClI.mono (fun x1 wc' hP => ?_) hP
  refine gl_aload_n (pc := 1924) dL_law_1924 rfl 2 rfl ?_
  refine gl_aload_n (pc := 1925) dL_law_1925 rfl 0 rfl ?_
  refine gl_iload (pc := 1926) dL_law_1926 4 rfl ?_
  refine gl_iconst (pc := 1928) dL_law_1928 c_1 ?_
  refine gl_iadd (pc := 1929) dL_law_1929 ?_
  refine gl_sld (pc := 1930) dL_law_1930 (hI 1 (by decide)) ?_
  refine gl_re (st2 := [.int (sA xs i 1), .ref 1, .int x1]) rfl ?_
  refine gl_aload_n (pc := 1931) dL_law_1931 rfl 0 rfl ?_
  refine gl_iload (pc := 1932) dL_law_1932 4 rfl ?_
  refine gl_iconst (pc := 1934) dL_law_1934 c_2 ?_
  refine gl_iadd (pc := 1935) dL_law_1935 ?_
  refine gl_sld (pc := 1936) dL_law_1936 (hI 2 (by decide)) ?_
  refine gl_re (st2 := [.int (sA xs i 2), .int (sA xs i 1), .ref 1, .int x1]) rfl ?_
  refine gl_bool (pc := 1937) (pj := 1945) dL_law_1937 dL_law_1940 dL_law_1941 dL_law_1944 (by decide) (by decide) rfl rfl ?_
  refine gl_re (st2 := [.int (bA xs i 2), .int (sA xs i 1), .ref 1, .int x1]) rfl ?_
  refine gl_aload_n (pc := 1945) dL_law_1945 rfl 0 rfl ?_
  refine gl_iload (pc := 1946) dL_law_1946 4 rfl ?_
  refine gl_iconst (pc := 1948) dL_law_1948 c_3 ?_
  refine gl_iadd (pc := 1949) dL_law_1949 ?_
  refine gl_sld (pc := 1950) dL_law_1950 (hI 3 (by decide)) ?_
  refine gl_re (st2 := [.int (sA xs i 3), .int (bA xs i 2), .int (sA xs i 1), .ref 1, .int x1]) rfl ?_
  refine gl_bool (pc := 1951) (pj := 1959) dL_law_1951 dL_law_1954 dL_law_1955 dL_law_1958 (by decide) (by decide) rfl rfl ?_
  refine gl_re (st2 := [.int (bA xs i 3), .int (bA xs i 2), .int (sA xs i 1), .ref 1, .int x1]) rfl ?_
  refine gl_aload_n (pc := 1959) dL_law_1959 rfl 0 rfl ?_
  refine gl_iload (pc := 1960) dL_law_1960 4 rfl ?_
  refine gl_iconst (pc := 1962) dL_law_1962 c_4 ?_
  refine gl_iadd (pc := 1963) dL_law_1963 ?_
  refine gl_sld (pc := 1964) dL_law_1964 (hI 4 (by decide)) ?_
  refine gl_re (st2 := [.int (sA xs i 4), .int (bA xs i 3), .int (bA xs i 2), .int (sA xs i 1), .ref 1, .int x1]) rfl ?_
  refine gl_bool (pc := 1965) (pj := 1973) dL_law_1965 dL_law_1968 dL_law_1969 dL_law_1972 (by decide) (by decide) rfl rfl ?_
  refine gl_re (st2 := [.int (bA xs i 4), .int (bA xs i 3), .int (bA xs i 2), .int (sA xs i 1), .ref 1, .int x1]) rfl ?_
  refine gl_callRI (pc := 1973) (is := [(sA xs i 1), (bA xs i 2), (bA xs i 3), (bA xs i 4)]) (st := [.int x1]) hn9 dL_law_1973 kL_221 vL_221 (Nat.le_of_ble_eq_true rfl) rfl rfl rfl (Nat.le_of_ble_eq_true rfl) ?_
  refine ClI.mono (fun x2 wr' hP => ?_) hP
  refine gl_icmp_eq (pc := 1976) (tgt := 2620) dL_law_1976 (by decide) (fun _ => k _ _ hP.2) (fun q => absurd hP.1 q)
theorem lc_49 {L n : Nat} {xs : Nat → Int32} {wc wr : Wd} {o : Int64} {i : Int32} (hn9 : n ≤ 1000) (hI : ∀ j : Nat, j < 6 → vp_in (i + Int32.ofNat j) L) (hP : PairI mX10_rests mX11_rests [(sA xs i 1)] wc wr) (k : ∀ wc' wr', RelE wc' wr' → GoL L xs 2620 [(0, .ref 3), (1, .ref 0), (2, .ref 1), (3, .ref 2), (4, .int i)] [] n wc' wr' o) : GoL L xs 1981 [(0, .ref 3), (1, .ref 0), (2, .ref 1), (3, .ref 2), (4, .int i)] [] n wc wr o := by
  unfold PairI at hP
  refine gl_aload_n (pc := 1981) dL_law_1981 rfl 1 rfl ?_
  refine gl_aload_n (pc := 1982) dL_law_1982 rfl 0 rfl ?_
  refine gl_iload (pc := 1983) dL_law_1983 4 rfl ?_
  refine gl_iconst (pc := 1985) dL_law_1985 c_1 ?_
  refine gl_iadd (pc := 1986) dL_law_1986 ?_
  refine gl_sld (pc := 1987) dL_law_1987 (hI 1 (by decide)) ?_
  refine gl_re (st2 := [.int (sA xs i 1), .ref 0]) rfl ?_
  refine gl_callCI (pc := 1988) (is := [(sA xs i 1)]) (st := []) hn9 dL_law_1988 kL_222 vL_222 (Nat.le_of_ble_eq_true rfl) rfl rfl rfl (Nat.le_of_ble_eq_true rfl) ?_
  refine ClI.mono (fun x1 wc' hP => ?_) hP
  refine gl_aload_n (pc := 1991) dL_law_1991 rfl 2 rfl ?_
  refine gl_aload_n (pc := 1992) dL_law_1992 rfl 0 rfl ?_
  refine gl_iload (pc := 1993) dL_law_1993 4 rfl ?_
  refine gl_iconst (pc := 1995) dL_law_1995 c_1 ?_
  refine gl_iadd (pc := 1996) dL_law_1996 ?_
  refine gl_sld (pc := 1997) dL_law_1997 (hI 1 (by decide)) ?_
  refine gl_re (st2 := [.int (sA xs i 1), .ref 1, .int x1]) rfl ?_
  refine gl_callRI (pc := 1998) (is := [(sA xs i 1)]) (st := [.int x1]) hn9 dL_law_1998 kL_225 vL_225 (Nat.le_of_ble_eq_true rfl) rfl rfl rfl (Nat.le_of_ble_eq_true rfl) ?_
  refine ClI.mono (fun x2 wr' hP => ?_) hP
  refine gl_icmp_eq (pc := 2001) (tgt := 2620) dL_law_2001 (by decide) (fun _ => k _ _ hP.2) (fun q => absurd hP.1 q)
theorem lc_50 {L n : Nat} {xs : Nat → Int32} {wc wr : Wd} {o : Int64} {i : Int32} (hn9 : n ≤ 1000) (hI : ∀ j : Nat, j < 6 → vp_in (i + Int32.ofNat j) L) (hP : PairI mX10_rest mX11_rest [(sA xs i 1)] wc wr) (k : ∀ wc' wr', RelE wc' wr' → GoL L xs 2620 [(0, .ref 3), (1, .ref 0), (2, .ref 1), (3, .ref 2), (4, .int i)] [] n wc' wr' o) : GoL L xs 2006 [(0, .ref 3), (1, .ref 0), (2, .ref 1), (3, .ref 2), (4, .int i)] [] n wc wr o := by
  unfold PairI at hP
  refine gl_aload_n (pc := 2006) dL_law_2006 rfl 1 rfl ?_
  refine gl_aload_n (pc := 2007) dL_law_2007 rfl 0 rfl ?_
  refine gl_iload (pc := 2008) dL_law_2008 4 rfl ?_
  refine gl_iconst (pc := 2010) dL_law_2010 c_1 ?_
  refine gl_iadd (pc := 2011) dL_law_2011 ?_
  refine gl_sld (pc := 2012) dL_law_2012 (hI 1 (by decide)) ?_
  refine gl_re (st2 := [.int (sA xs i 1), .ref 0]) rfl ?_
  refine gl_callCI (pc := 2013) (is := [(sA xs i 1)]) (st := []) hn9 dL_law_2013 kL_226 vL_226 (Nat.le_of_ble_eq_true rfl) rfl rfl rfl (Nat.le_of_ble_eq_true rfl) ?_
  refine ClI.mono (fun x1 wc' hP => ?_) hP
  refine gl_aload_n (pc := 2016) dL_law_2016 rfl 2 rfl ?_
  refine gl_aload_n (pc := 2017) dL_law_2017 rfl 0 rfl ?_
  refine gl_iload (pc := 2018) dL_law_2018 4 rfl ?_
  refine gl_iconst (pc := 2020) dL_law_2020 c_1 ?_
  refine gl_iadd (pc := 2021) dL_law_2021 ?_
  refine gl_sld (pc := 2022) dL_law_2022 (hI 1 (by decide)) ?_
  refine gl_re (st2 := [.int (sA xs i 1), .ref 1, .int x1]) rfl ?_
  refine gl_callRI (pc := 2023) (is := [(sA xs i 1)]) (st := [.int x1]) hn9 dL_law_2023 kL_229 vL_229 (Nat.le_of_ble_eq_true rfl) rfl rfl rfl (Nat.le_of_ble_eq_true rfl) ?_
  refine ClI.mono (fun x2 wr' hP => ?_) hP
  refine gl_icmp_eq (pc := 2026) (tgt := 2620) dL_law_2026 (by decide) (fun _ => k _ _ hP.2) (fun q => absurd hP.1 q)
theorem lc_51 {L n : Nat} {xs : Nat → Int32} {wc wr : Wd} {o : Int64} {i : Int32} (hn9 : n ≤ 1000) (hI : ∀ j : Nat, j < 6 → vp_in (i + Int32.ofNat j) L) (hP : PairL mX10_odds mX11_odds [(sA xs i 1), (sA xs i 2), (sA xs i 3), (sA xs i 4), (bA xs i 5)] wc wr) (k : ∀ wc' wr', RelE wc' wr' → GoL L xs 2620 [(0, .ref 3), (1, .ref 0), (2, .ref 1), (3, .ref 2), (4, .int i)] [] n wc' wr' o) : GoL L xs 2031 [(0, .ref 3), (1, .ref 0), (2, .ref 1), (3, .ref 2), (4, .int i)] [] n wc wr o := by
  unfold PairL at hP
  refine gl_aload_n (pc := 2031) dL_law_2031 rfl 1 rfl ?_
  refine gl_aload_n (pc := 2032) dL_law_2032 rfl 0 rfl ?_
  refine gl_iload (pc := 2033) dL_law_2033 4 rfl ?_
  refine gl_iconst (pc := 2035) dL_law_2035 c_1 ?_
  refine gl_iadd (pc := 2036) dL_law_2036 ?_
  refine gl_sld (pc := 2037) dL_law_2037 (hI 1 (by decide)) ?_
  refine gl_re (st2 := [.int (sA xs i 1), .ref 0]) rfl ?_
  refine gl_aload_n (pc := 2038) dL_law_2038 rfl 0 rfl ?_
  refine gl_iload (pc := 2039) dL_law_2039 4 rfl ?_
  refine gl_iconst (pc := 2041) dL_law_2041 c_2 ?_
  refine gl_iadd (pc := 2042) dL_law_2042 ?_
  refine gl_sld (pc := 2043) dL_law_2043 (hI 2 (by decide)) ?_
  refine gl_re (st2 := [.int (sA xs i 2), .int (sA xs i 1), .ref 0]) rfl ?_
  refine gl_aload_n (pc := 2044) dL_law_2044 rfl 0 rfl ?_
  refine gl_iload (pc := 2045) dL_law_2045 4 rfl ?_
  refine gl_iconst (pc := 2047) dL_law_2047 c_3 ?_
  refine gl_iadd (pc := 2048) dL_law_2048 ?_
  refine gl_sld (pc := 2049) dL_law_2049 (hI 3 (by decide)) ?_
  refine gl_re (st2 := [.int (sA xs i 3), .int (sA xs i 2), .int (sA xs i 1), .ref 0]) rfl ?_
  refine gl_aload_n (pc := 2050) dL_law_2050 rfl 0 rfl ?_
  refine gl_iload (pc := 2051) dL_law_2051 4 rfl ?_
  refine gl_iconst (pc := 2053) dL_law_2053 c_4 ?_
  refine gl_iadd (pc := 2054) dL_law_2054 ?_
  refine gl_sld (pc := 2055) dL_law_2055 (hI 4 (by decide)) ?_
  refine gl_re (st2 := [.int (sA xs i 4), .int (sA xs i 3), .int (sA xs i 2), .int (sA xs i 1), .ref 0]) rfl ?_
  refine gl_aload_n (pc := 2056) dL_law_2056 rfl 0 rfl ?_
  refine gl_iload (pc := 2057) dL_law_2057 4 rfl ?_
  refine gl_iconst (pc := 2059) dL_law_2059 c_5 ?_
  refine gl_iadd (pc := 2060) dL_law_2060 ?_
  refine gl_sld (pc := 2061) dL_law_2061 (hI 5 (by decide)) ?_
  refine gl_re (st2 := [.int (sA xs i 5), .int (sA xs i 4), .int (sA xs i 3), .int (sA xs i 2), .int (sA xs i 1), .ref 0]) rfl ?_
  refine gl_bool (pc := 2062) (pj := 2070) dL_law_2062 dL_law_2065 dL_law_2066 dL_law_2069 (by decide) (by decide) rfl rfl ?_
  refine gl_re (st2 := [.int (bA xs i 5), .int (sA xs i 4), .int (sA xs i 3), .int (sA xs i 2), .int (sA xs i 1), .ref 0]) rfl ?_
  refine gl_callCL (pc := 2070) (is := [(sA xs i 1), (sA xs i 2), (sA xs i 3), (sA xs i 4), (bA xs i 5)]) (st := []) hn9 dL_law_2070 kL_230 vL_230 (Nat.le_of_ble_eq_true rfl) rfl rfl rfl (Nat.le_of_ble_eq_true rfl) ?_
  refine ClL.mono (fun x1 wc' hP => ?_) hP
  refine gl_aload_n (pc := 2073) dL_law_2073 rfl 2 rfl ?_
  refine gl_aload_n (pc := 2074) dL_law_2074 rfl 0 rfl ?_
  refine gl_iload (pc := 2075) dL_law_2075 4 rfl ?_
  refine gl_iconst (pc := 2077) dL_law_2077 c_1 ?_
  refine gl_iadd (pc := 2078) dL_law_2078 ?_
  refine gl_sld (pc := 2079) dL_law_2079 (hI 1 (by decide)) ?_
  refine gl_re (st2 := [.int (sA xs i 1), .ref 1, .long x1]) rfl ?_
  refine gl_aload_n (pc := 2080) dL_law_2080 rfl 0 rfl ?_
  refine gl_iload (pc := 2081) dL_law_2081 4 rfl ?_
  refine gl_iconst (pc := 2083) dL_law_2083 c_2 ?_
  refine gl_iadd (pc := 2084) dL_law_2084 ?_
  refine gl_sld (pc := 2085) dL_law_2085 (hI 2 (by decide)) ?_
  refine gl_re (st2 := [.int (sA xs i 2), .int (sA xs i 1), .ref 1, .long x1]) rfl ?_
  refine gl_aload_n (pc := 2086) dL_law_2086 rfl 0 rfl ?_
  refine gl_iload (pc := 2087) dL_law_2087 4 rfl ?_
  refine gl_iconst (pc := 2089) dL_law_2089 c_3 ?_
  refine gl_iadd (pc := 2090) dL_law_2090 ?_
  refine gl_sld (pc := 2091) dL_law_2091 (hI 3 (by decide)) ?_
  refine gl_re (st2 := [.int (sA xs i 3), .int (sA xs i 2), .int (sA xs i 1), .ref 1, .long x1]) rfl ?_
  refine gl_aload_n (pc := 2092) dL_law_2092 rfl 0 rfl ?_
  refine gl_iload (pc := 2093) dL_law_2093 4 rfl ?_
  refine gl_iconst (pc := 2095) dL_law_2095 c_4 ?_
  refine gl_iadd (pc := 2096) dL_law_2096 ?_
  refine gl_sld (pc := 2097) dL_law_2097 (hI 4 (by decide)) ?_
  refine gl_re (st2 := [.int (sA xs i 4), .int (sA xs i 3), .int (sA xs i 2), .int (sA xs i 1), .ref 1, .long x1]) rfl ?_
  refine gl_aload_n (pc := 2098) dL_law_2098 rfl 0 rfl ?_
  refine gl_iload (pc := 2099) dL_law_2099 4 rfl ?_
  refine gl_iconst (pc := 2101) dL_law_2101 c_5 ?_
  refine gl_iadd (pc := 2102) dL_law_2102 ?_
  refine gl_sld (pc := 2103) dL_law_2103 (hI 5 (by decide)) ?_
  refine gl_re (st2 := [.int (sA xs i 5), .int (sA xs i 4), .int (sA xs i 3), .int (sA xs i 2), .int (sA xs i 1), .ref 1, .long x1]) rfl ?_
  refine gl_bool (pc := 2104) (pj := 2112) dL_law_2104 dL_law_2107 dL_law_2108 dL_law_2111 (by decide) (by decide) rfl rfl ?_
  refine gl_re (st2 := [.int (bA xs i 5), .int (sA xs i 4), .int (sA xs i 3), .int (sA xs i 2), .int (sA xs i 1), .ref 1, .long x1]) rfl ?_
  refine gl_callRL (pc := 2112) (is := [(sA xs i 1), (sA xs i 2), (sA xs i 3), (sA xs i 4), (bA xs i 5)]) (st := [.long x1]) hn9 dL_law_2112 kL_234 vL_234 (Nat.le_of_ble_eq_true rfl) rfl rfl rfl (Nat.le_of_ble_eq_true rfl) ?_
  refine ClL.mono (fun x2 wr' hP => ?_) hP
  refine gl_lcmp (pc := 2115) dL_law_2115 ?_
  refine gl_if_eq (pc := 2116) (tgt := 2620) dL_law_2116 (by decide) (fun _ => k _ _ hP.2) (fun q => absurd (lg_eq0 hP.1) q)
theorem lc_52 {L n : Nat} {xs : Nat → Int32} {wc wr : Wd} {o : Int64} {i : Int32} (hn9 : n ≤ 1000) (hI : ∀ j : Nat, j < 6 → vp_in (i + Int32.ofNat j) L) (hP : PairL mX10_untied mX11_untied [(sA xs i 1), (sA xs i 2), (bA xs i 3)] wc wr) (k : ∀ wc' wr', RelE wc' wr' → GoL L xs 2620 [(0, .ref 3), (1, .ref 0), (2, .ref 1), (3, .ref 2), (4, .int i)] [] n wc' wr' o) : GoL L xs 2121 [(0, .ref 3), (1, .ref 0), (2, .ref 1), (3, .ref 2), (4, .int i)] [] n wc wr o := by
  unfold PairL at hP
  refine gl_aload_n (pc := 2121) dL_law_2121 rfl 1 rfl ?_
  refine gl_aload_n (pc := 2122) dL_law_2122 rfl 0 rfl ?_
  refine gl_iload (pc := 2123) dL_law_2123 4 rfl ?_
  refine gl_iconst (pc := 2125) dL_law_2125 c_1 ?_
  refine gl_iadd (pc := 2126) dL_law_2126 ?_
  refine gl_sld (pc := 2127) dL_law_2127 (hI 1 (by decide)) ?_
  refine gl_re (st2 := [.int (sA xs i 1), .ref 0]) rfl ?_
  refine gl_aload_n (pc := 2128) dL_law_2128 rfl 0 rfl ?_
  refine gl_iload (pc := 2129) dL_law_2129 4 rfl ?_
  refine gl_iconst (pc := 2131) dL_law_2131 c_2 ?_
  refine gl_iadd (pc := 2132) dL_law_2132 ?_
  refine gl_sld (pc := 2133) dL_law_2133 (hI 2 (by decide)) ?_
  refine gl_re (st2 := [.int (sA xs i 2), .int (sA xs i 1), .ref 0]) rfl ?_
  refine gl_aload_n (pc := 2134) dL_law_2134 rfl 0 rfl ?_
  refine gl_iload (pc := 2135) dL_law_2135 4 rfl ?_
  refine gl_iconst (pc := 2137) dL_law_2137 c_3 ?_
  refine gl_iadd (pc := 2138) dL_law_2138 ?_
  refine gl_sld (pc := 2139) dL_law_2139 (hI 3 (by decide)) ?_
  refine gl_re (st2 := [.int (sA xs i 3), .int (sA xs i 2), .int (sA xs i 1), .ref 0]) rfl ?_
  refine gl_bool (pc := 2140) (pj := 2148) dL_law_2140 dL_law_2143 dL_law_2144 dL_law_2147 (by decide) (by decide) rfl rfl ?_
  refine gl_re (st2 := [.int (bA xs i 3), .int (sA xs i 2), .int (sA xs i 1), .ref 0]) rfl ?_
  refine gl_callCL (pc := 2148) (is := [(sA xs i 1), (sA xs i 2), (bA xs i 3)]) (st := []) hn9 dL_law_2148 kL_235 vL_235 (Nat.le_of_ble_eq_true rfl) rfl rfl rfl (Nat.le_of_ble_eq_true rfl) ?_
  refine ClL.mono (fun x1 wc' hP => ?_) hP
  refine gl_aload_n (pc := 2151) dL_law_2151 rfl 2 rfl ?_
  refine gl_aload_n (pc := 2152) dL_law_2152 rfl 0 rfl ?_
  refine gl_iload (pc := 2153) dL_law_2153 4 rfl ?_
  refine gl_iconst (pc := 2155) dL_law_2155 c_1 ?_
  refine gl_iadd (pc := 2156) dL_law_2156 ?_
  refine gl_sld (pc := 2157) dL_law_2157 (hI 1 (by decide)) ?_
  refine gl_re (st2 := [.int (sA xs i 1), .ref 1, .long x1]) rfl ?_
  refine gl_aload_n (pc := 2158) dL_law_2158 rfl 0 rfl ?_
  refine gl_iload (pc := 2159) dL_law_2159 4 rfl ?_
  refine gl_iconst (pc := 2161) dL_law_2161 c_2 ?_
  refine gl_iadd (pc := 2162) dL_law_2162 ?_
  refine gl_sld (pc := 2163) dL_law_2163 (hI 2 (by decide)) ?_
  refine gl_re (st2 := [.int (sA xs i 2), .int (sA xs i 1), .ref 1, .long x1]) rfl ?_
  refine gl_aload_n (pc := 2164) dL_law_2164 rfl 0 rfl ?_
  refine gl_iload (pc := 2165) dL_law_2165 4 rfl ?_
  refine gl_iconst (pc := 2167) dL_law_2167 c_3 ?_
  refine gl_iadd (pc := 2168) dL_law_2168 ?_
  refine gl_sld (pc := 2169) dL_law_2169 (hI 3 (by decide)) ?_
  refine gl_re (st2 := [.int (sA xs i 3), .int (sA xs i 2), .int (sA xs i 1), .ref 1, .long x1]) rfl ?_
  refine gl_bool (pc := 2170) (pj := 2178) dL_law_2170 dL_law_2173 dL_law_2174 dL_law_2177 (by decide) (by decide) rfl rfl ?_
  refine gl_re (st2 := [.int (bA xs i 3), .int (sA xs i 2), .int (sA xs i 1), .ref 1, .long x1]) rfl ?_
  refine gl_callRL (pc := 2178) (is := [(sA xs i 1), (sA xs i 2), (bA xs i 3)]) (st := [.long x1]) hn9 dL_law_2178 kL_239 vL_239 (Nat.le_of_ble_eq_true rfl) rfl rfl rfl (Nat.le_of_ble_eq_true rfl) ?_
  refine ClL.mono (fun x2 wr' hP => ?_) hP
  refine gl_lcmp (pc := 2181) dL_law_2181 ?_
  refine gl_if_eq (pc := 2182) (tgt := 2620) dL_law_2182 (by decide) (fun _ => k _ _ hP.2) (fun q => absurd (lg_eq0 hP.1) q)
theorem lc_53 {L n : Nat} {xs : Nat → Int32} {wc wr : Wd} {o : Int64} {i : Int32} (hn9 : n ≤ 1000) (hI : ∀ j : Nat, j < 6 → vp_in (i + Int32.ofNat j) L) (hP : PairL mX10_mean mX11_mean [(sA xs i 1), (sA xs i 2), (bA xs i 3)] wc wr) (k : ∀ wc' wr', RelE wc' wr' → GoL L xs 2620 [(0, .ref 3), (1, .ref 0), (2, .ref 1), (3, .ref 2), (4, .int i)] [] n wc' wr' o) : GoL L xs 2187 [(0, .ref 3), (1, .ref 0), (2, .ref 1), (3, .ref 2), (4, .int i)] [] n wc wr o := by
  unfold PairL at hP
  refine gl_aload_n (pc := 2187) dL_law_2187 rfl 1 rfl ?_
  refine gl_aload_n (pc := 2188) dL_law_2188 rfl 0 rfl ?_
  refine gl_iload (pc := 2189) dL_law_2189 4 rfl ?_
  refine gl_iconst (pc := 2191) dL_law_2191 c_1 ?_
  refine gl_iadd (pc := 2192) dL_law_2192 ?_
  refine gl_sld (pc := 2193) dL_law_2193 (hI 1 (by decide)) ?_
  refine gl_re (st2 := [.int (sA xs i 1), .ref 0]) rfl ?_
  refine gl_aload_n (pc := 2194) dL_law_2194 rfl 0 rfl ?_
  refine gl_iload (pc := 2195) dL_law_2195 4 rfl ?_
  refine gl_iconst (pc := 2197) dL_law_2197 c_2 ?_
  refine gl_iadd (pc := 2198) dL_law_2198 ?_
  refine gl_sld (pc := 2199) dL_law_2199 (hI 2 (by decide)) ?_
  refine gl_re (st2 := [.int (sA xs i 2), .int (sA xs i 1), .ref 0]) rfl ?_
  refine gl_aload_n (pc := 2200) dL_law_2200 rfl 0 rfl ?_
  refine gl_iload (pc := 2201) dL_law_2201 4 rfl ?_
  refine gl_iconst (pc := 2203) dL_law_2203 c_3 ?_
  refine gl_iadd (pc := 2204) dL_law_2204 ?_
  refine gl_sld (pc := 2205) dL_law_2205 (hI 3 (by decide)) ?_
  refine gl_re (st2 := [.int (sA xs i 3), .int (sA xs i 2), .int (sA xs i 1), .ref 0]) rfl ?_
  refine gl_bool (pc := 2206) (pj := 2214) dL_law_2206 dL_law_2209 dL_law_2210 dL_law_2213 (by decide) (by decide) rfl rfl ?_
  refine gl_re (st2 := [.int (bA xs i 3), .int (sA xs i 2), .int (sA xs i 1), .ref 0]) rfl ?_
  refine gl_callCL (pc := 2214) (is := [(sA xs i 1), (sA xs i 2), (bA xs i 3)]) (st := []) hn9 dL_law_2214 kL_240 vL_240 (Nat.le_of_ble_eq_true rfl) rfl rfl rfl (Nat.le_of_ble_eq_true rfl) ?_
  refine ClL.mono (fun x1 wc' hP => ?_) hP
  refine gl_aload_n (pc := 2217) dL_law_2217 rfl 2 rfl ?_
  refine gl_aload_n (pc := 2218) dL_law_2218 rfl 0 rfl ?_
  refine gl_iload (pc := 2219) dL_law_2219 4 rfl ?_
  refine gl_iconst (pc := 2221) dL_law_2221 c_1 ?_
  refine gl_iadd (pc := 2222) dL_law_2222 ?_
  refine gl_sld (pc := 2223) dL_law_2223 (hI 1 (by decide)) ?_
  refine gl_re (st2 := [.int (sA xs i 1), .ref 1, .long x1]) rfl ?_
  refine gl_aload_n (pc := 2224) dL_law_2224 rfl 0 rfl ?_
  refine gl_iload (pc := 2225) dL_law_2225 4 rfl ?_
  refine gl_iconst (pc := 2227) dL_law_2227 c_2 ?_
  refine gl_iadd (pc := 2228) dL_law_2228 ?_
  refine gl_sld (pc := 2229) dL_law_2229 (hI 2 (by decide)) ?_
  refine gl_re (st2 := [.int (sA xs i 2), .int (sA xs i 1), .ref 1, .long x1]) rfl ?_
  refine gl_aload_n (pc := 2230) dL_law_2230 rfl 0 rfl ?_
  refine gl_iload (pc := 2231) dL_law_2231 4 rfl ?_
  refine gl_iconst (pc := 2233) dL_law_2233 c_3 ?_
  refine gl_iadd (pc := 2234) dL_law_2234 ?_
  refine gl_sld (pc := 2235) dL_law_2235 (hI 3 (by decide)) ?_
  refine gl_re (st2 := [.int (sA xs i 3), .int (sA xs i 2), .int (sA xs i 1), .ref 1, .long x1]) rfl ?_
  refine gl_bool (pc := 2236) (pj := 2244) dL_law_2236 dL_law_2239 dL_law_2240 dL_law_2243 (by decide) (by decide) rfl rfl ?_
  refine gl_re (st2 := [.int (bA xs i 3), .int (sA xs i 2), .int (sA xs i 1), .ref 1, .long x1]) rfl ?_
  refine gl_callRL (pc := 2244) (is := [(sA xs i 1), (sA xs i 2), (bA xs i 3)]) (st := [.long x1]) hn9 dL_law_2244 kL_243 vL_243 (Nat.le_of_ble_eq_true rfl) rfl rfl rfl (Nat.le_of_ble_eq_true rfl) ?_
  refine ClL.mono (fun x2 wr' hP => ?_) hP
  refine gl_lcmp (pc := 2247) dL_law_2247 ?_
  refine gl_if_eq (pc := 2248) (tgt := 2620) dL_law_2248 (by decide) (fun _ => k _ _ hP.2) (fun q => absurd (lg_eq0 hP.1) q)
theorem lc_54 {L n : Nat} {xs : Nat → Int32} {wc wr : Wd} {o : Int64} {i : Int32} (hn9 : n ≤ 1000) (hI : ∀ j : Nat, j < 6 → vp_in (i + Int32.ofNat j) L) (hP : PairI mX10_drawnUpper mX11_drawnUpper [(sA xs i 1), (sA xs i 2), (sA xs i 3)] wc wr) (k : ∀ wc' wr', RelE wc' wr' → GoL L xs 2620 [(0, .ref 3), (1, .ref 0), (2, .ref 1), (3, .ref 2), (4, .int i)] [] n wc' wr' o) : GoL L xs 2253 [(0, .ref 3), (1, .ref 0), (2, .ref 1), (3, .ref 2), (4, .int i)] [] n wc wr o := by
  unfold PairI at hP
  refine gl_aload_n (pc := 2253) dL_law_2253 rfl 1 rfl ?_
  refine gl_aload_n (pc := 2254) dL_law_2254 rfl 0 rfl ?_
  refine gl_iload (pc := 2255) dL_law_2255 4 rfl ?_
  refine gl_iconst (pc := 2257) dL_law_2257 c_1 ?_
  refine gl_iadd (pc := 2258) dL_law_2258 ?_
  refine gl_sld (pc := 2259) dL_law_2259 (hI 1 (by decide)) ?_
  refine gl_re (st2 := [.int (sA xs i 1), .ref 0]) rfl ?_
  refine gl_aload_n (pc := 2260) dL_law_2260 rfl 0 rfl ?_
  refine gl_iload (pc := 2261) dL_law_2261 4 rfl ?_
  refine gl_iconst (pc := 2263) dL_law_2263 c_2 ?_
  refine gl_iadd (pc := 2264) dL_law_2264 ?_
  refine gl_sld (pc := 2265) dL_law_2265 (hI 2 (by decide)) ?_
  refine gl_re (st2 := [.int (sA xs i 2), .int (sA xs i 1), .ref 0]) rfl ?_
  refine gl_aload_n (pc := 2266) dL_law_2266 rfl 0 rfl ?_
  refine gl_iload (pc := 2267) dL_law_2267 4 rfl ?_
  refine gl_iconst (pc := 2269) dL_law_2269 c_3 ?_
  refine gl_iadd (pc := 2270) dL_law_2270 ?_
  refine gl_sld (pc := 2271) dL_law_2271 (hI 3 (by decide)) ?_
  refine gl_re (st2 := [.int (sA xs i 3), .int (sA xs i 2), .int (sA xs i 1), .ref 0]) rfl ?_
  refine gl_callCI (pc := 2272) (is := [(sA xs i 1), (sA xs i 2), (sA xs i 3)]) (st := []) hn9 dL_law_2272 kL_244 vL_244 (Nat.le_of_ble_eq_true rfl) rfl rfl rfl (Nat.le_of_ble_eq_true rfl) ?_
  refine ClI.mono (fun x1 wc' hP => ?_) hP
  refine gl_aload_n (pc := 2275) dL_law_2275 rfl 2 rfl ?_
  refine gl_aload_n (pc := 2276) dL_law_2276 rfl 0 rfl ?_
  refine gl_iload (pc := 2277) dL_law_2277 4 rfl ?_
  refine gl_iconst (pc := 2279) dL_law_2279 c_1 ?_
  refine gl_iadd (pc := 2280) dL_law_2280 ?_
  refine gl_sld (pc := 2281) dL_law_2281 (hI 1 (by decide)) ?_
  refine gl_re (st2 := [.int (sA xs i 1), .ref 1, .int x1]) rfl ?_
  refine gl_aload_n (pc := 2282) dL_law_2282 rfl 0 rfl ?_
  refine gl_iload (pc := 2283) dL_law_2283 4 rfl ?_
  refine gl_iconst (pc := 2285) dL_law_2285 c_2 ?_
  refine gl_iadd (pc := 2286) dL_law_2286 ?_
  refine gl_sld (pc := 2287) dL_law_2287 (hI 2 (by decide)) ?_
  refine gl_re (st2 := [.int (sA xs i 2), .int (sA xs i 1), .ref 1, .int x1]) rfl ?_
  refine gl_aload_n (pc := 2288) dL_law_2288 rfl 0 rfl ?_
  refine gl_iload (pc := 2289) dL_law_2289 4 rfl ?_
  refine gl_iconst (pc := 2291) dL_law_2291 c_3 ?_
  refine gl_iadd (pc := 2292) dL_law_2292 ?_
  refine gl_sld (pc := 2293) dL_law_2293 (hI 3 (by decide)) ?_
  refine gl_re (st2 := [.int (sA xs i 3), .int (sA xs i 2), .int (sA xs i 1), .ref 1, .int x1]) rfl ?_
  refine gl_callRI (pc := 2294) (is := [(sA xs i 1), (sA xs i 2), (sA xs i 3)]) (st := [.int x1]) hn9 dL_law_2294 kL_247 vL_247 (Nat.le_of_ble_eq_true rfl) rfl rfl rfl (Nat.le_of_ble_eq_true rfl) ?_
  refine ClI.mono (fun x2 wr' hP => ?_) hP
  refine gl_icmp_eq (pc := 2297) (tgt := 2620) dL_law_2297 (by decide) (fun _ => k _ _ hP.2) (fun q => absurd hP.1 q)
theorem lc_55 {L n : Nat} {xs : Nat → Int32} {wc wr : Wd} {o : Int64} {i : Int32} (hn9 : n ≤ 1000) (hI : ∀ j : Nat, j < 6 → vp_in (i + Int32.ofNat j) L) (hP : PairI mX10_drawnLower mX11_drawnLower [(sA xs i 1), (sA xs i 2), (sA xs i 3)] wc wr) (k : ∀ wc' wr', RelE wc' wr' → GoL L xs 2620 [(0, .ref 3), (1, .ref 0), (2, .ref 1), (3, .ref 2), (4, .int i)] [] n wc' wr' o) : GoL L xs 2302 [(0, .ref 3), (1, .ref 0), (2, .ref 1), (3, .ref 2), (4, .int i)] [] n wc wr o := by
  unfold PairI at hP
  refine gl_aload_n (pc := 2302) dL_law_2302 rfl 1 rfl ?_
  refine gl_aload_n (pc := 2303) dL_law_2303 rfl 0 rfl ?_
  refine gl_iload (pc := 2304) dL_law_2304 4 rfl ?_
  refine gl_iconst (pc := 2306) dL_law_2306 c_1 ?_
  refine gl_iadd (pc := 2307) dL_law_2307 ?_
  refine gl_sld (pc := 2308) dL_law_2308 (hI 1 (by decide)) ?_
  refine gl_re (st2 := [.int (sA xs i 1), .ref 0]) rfl ?_
  refine gl_aload_n (pc := 2309) dL_law_2309 rfl 0 rfl ?_
  refine gl_iload (pc := 2310) dL_law_2310 4 rfl ?_
  refine gl_iconst (pc := 2312) dL_law_2312 c_2 ?_
  refine gl_iadd (pc := 2313) dL_law_2313 ?_
  refine gl_sld (pc := 2314) dL_law_2314 (hI 2 (by decide)) ?_
  refine gl_re (st2 := [.int (sA xs i 2), .int (sA xs i 1), .ref 0]) rfl ?_
  refine gl_aload_n (pc := 2315) dL_law_2315 rfl 0 rfl ?_
  refine gl_iload (pc := 2316) dL_law_2316 4 rfl ?_
  refine gl_iconst (pc := 2318) dL_law_2318 c_3 ?_
  refine gl_iadd (pc := 2319) dL_law_2319 ?_
  refine gl_sld (pc := 2320) dL_law_2320 (hI 3 (by decide)) ?_
  refine gl_re (st2 := [.int (sA xs i 3), .int (sA xs i 2), .int (sA xs i 1), .ref 0]) rfl ?_
  refine gl_callCI (pc := 2321) (is := [(sA xs i 1), (sA xs i 2), (sA xs i 3)]) (st := []) hn9 dL_law_2321 kL_248 vL_248 (Nat.le_of_ble_eq_true rfl) rfl rfl rfl (Nat.le_of_ble_eq_true rfl) ?_
  refine ClI.mono (fun x1 wc' hP => ?_) hP
  refine gl_aload_n (pc := 2324) dL_law_2324 rfl 2 rfl ?_
  refine gl_aload_n (pc := 2325) dL_law_2325 rfl 0 rfl ?_
  refine gl_iload (pc := 2326) dL_law_2326 4 rfl ?_
  refine gl_iconst (pc := 2328) dL_law_2328 c_1 ?_
  refine gl_iadd (pc := 2329) dL_law_2329 ?_
  refine gl_sld (pc := 2330) dL_law_2330 (hI 1 (by decide)) ?_
  refine gl_re (st2 := [.int (sA xs i 1), .ref 1, .int x1]) rfl ?_
  refine gl_aload_n (pc := 2331) dL_law_2331 rfl 0 rfl ?_
  refine gl_iload (pc := 2332) dL_law_2332 4 rfl ?_
  refine gl_iconst (pc := 2334) dL_law_2334 c_2 ?_
  refine gl_iadd (pc := 2335) dL_law_2335 ?_
  refine gl_sld (pc := 2336) dL_law_2336 (hI 2 (by decide)) ?_
  refine gl_re (st2 := [.int (sA xs i 2), .int (sA xs i 1), .ref 1, .int x1]) rfl ?_
  refine gl_aload_n (pc := 2337) dL_law_2337 rfl 0 rfl ?_
  refine gl_iload (pc := 2338) dL_law_2338 4 rfl ?_
  refine gl_iconst (pc := 2340) dL_law_2340 c_3 ?_
  refine gl_iadd (pc := 2341) dL_law_2341 ?_
  refine gl_sld (pc := 2342) dL_law_2342 (hI 3 (by decide)) ?_
  refine gl_re (st2 := [.int (sA xs i 3), .int (sA xs i 2), .int (sA xs i 1), .ref 1, .int x1]) rfl ?_
  refine gl_callRI (pc := 2343) (is := [(sA xs i 1), (sA xs i 2), (sA xs i 3)]) (st := [.int x1]) hn9 dL_law_2343 kL_251 vL_251 (Nat.le_of_ble_eq_true rfl) rfl rfl rfl (Nat.le_of_ble_eq_true rfl) ?_
  refine ClI.mono (fun x2 wr' hP => ?_) hP
  refine gl_icmp_eq (pc := 2346) (tgt := 2620) dL_law_2346 (by decide) (fun _ => k _ _ hP.2) (fun q => absurd hP.1 q)
theorem lc_56 {L n : Nat} {xs : Nat → Int32} {wc wr : Wd} {o : Int64} {i : Int32} (hn9 : n ≤ 1000) (hI : ∀ j : Nat, j < 6 → vp_in (i + Int32.ofNat j) L) (hP : PairI mX10_call mX11_call [(sA xs i 1), (sA xs i 2)] wc wr) (k : ∀ wc' wr', RelE wc' wr' → GoL L xs 2620 [(0, .ref 3), (1, .ref 0), (2, .ref 1), (3, .ref 2), (4, .int i)] [] n wc' wr' o) : GoL L xs 2351 [(0, .ref 3), (1, .ref 0), (2, .ref 1), (3, .ref 2), (4, .int i)] [] n wc wr o := by
  unfold PairI at hP
  refine gl_aload_n (pc := 2351) dL_law_2351 rfl 1 rfl ?_
  refine gl_aload_n (pc := 2352) dL_law_2352 rfl 0 rfl ?_
  refine gl_iload (pc := 2353) dL_law_2353 4 rfl ?_
  refine gl_iconst (pc := 2355) dL_law_2355 c_1 ?_
  refine gl_iadd (pc := 2356) dL_law_2356 ?_
  refine gl_sld (pc := 2357) dL_law_2357 (hI 1 (by decide)) ?_
  refine gl_re (st2 := [.int (sA xs i 1), .ref 0]) rfl ?_
  refine gl_aload_n (pc := 2358) dL_law_2358 rfl 0 rfl ?_
  refine gl_iload (pc := 2359) dL_law_2359 4 rfl ?_
  refine gl_iconst (pc := 2361) dL_law_2361 c_2 ?_
  refine gl_iadd (pc := 2362) dL_law_2362 ?_
  refine gl_sld (pc := 2363) dL_law_2363 (hI 2 (by decide)) ?_
  refine gl_re (st2 := [.int (sA xs i 2), .int (sA xs i 1), .ref 0]) rfl ?_
  refine gl_callCI (pc := 2364) (is := [(sA xs i 1), (sA xs i 2)]) (st := []) hn9 dL_law_2364 kL_252 vL_252 (Nat.le_of_ble_eq_true rfl) rfl rfl rfl (Nat.le_of_ble_eq_true rfl) ?_
  refine ClI.mono (fun x1 wc' hP => ?_) hP
  refine gl_aload_n (pc := 2367) dL_law_2367 rfl 2 rfl ?_
  refine gl_aload_n (pc := 2368) dL_law_2368 rfl 0 rfl ?_
  refine gl_iload (pc := 2369) dL_law_2369 4 rfl ?_
  refine gl_iconst (pc := 2371) dL_law_2371 c_1 ?_
  refine gl_iadd (pc := 2372) dL_law_2372 ?_
  refine gl_sld (pc := 2373) dL_law_2373 (hI 1 (by decide)) ?_
  refine gl_re (st2 := [.int (sA xs i 1), .ref 1, .int x1]) rfl ?_
  refine gl_aload_n (pc := 2374) dL_law_2374 rfl 0 rfl ?_
  refine gl_iload (pc := 2375) dL_law_2375 4 rfl ?_
  refine gl_iconst (pc := 2377) dL_law_2377 c_2 ?_
  refine gl_iadd (pc := 2378) dL_law_2378 ?_
  refine gl_sld (pc := 2379) dL_law_2379 (hI 2 (by decide)) ?_
  refine gl_re (st2 := [.int (sA xs i 2), .int (sA xs i 1), .ref 1, .int x1]) rfl ?_
  refine gl_callRI (pc := 2380) (is := [(sA xs i 1), (sA xs i 2)]) (st := [.int x1]) hn9 dL_law_2380 kL_255 vL_255 (Nat.le_of_ble_eq_true rfl) rfl rfl rfl (Nat.le_of_ble_eq_true rfl) ?_
  refine ClI.mono (fun x2 wr' hP => ?_) hP
  refine gl_icmp_eq (pc := 2383) (tgt := 2620) dL_law_2383 (by decide) (fun _ => k _ _ hP.2) (fun q => absurd hP.1 q)
theorem lc_57 {L n : Nat} {xs : Nat → Int32} {wc wr : Wd} {o : Int64} {i : Int32} (hn9 : n ≤ 1000) (hI : ∀ j : Nat, j < 6 → vp_in (i + Int32.ofNat j) L) (hP : PairI mX10_flip mX11_flip [(sA xs i 1)] wc wr) (k : ∀ wc' wr', RelE wc' wr' → GoL L xs 2620 [(0, .ref 3), (1, .ref 0), (2, .ref 1), (3, .ref 2), (4, .int i)] [] n wc' wr' o) : GoL L xs 2388 [(0, .ref 3), (1, .ref 0), (2, .ref 1), (3, .ref 2), (4, .int i)] [] n wc wr o := by
  unfold PairI at hP
  refine gl_aload_n (pc := 2388) dL_law_2388 rfl 1 rfl ?_
  refine gl_aload_n (pc := 2389) dL_law_2389 rfl 0 rfl ?_
  refine gl_iload (pc := 2390) dL_law_2390 4 rfl ?_
  refine gl_iconst (pc := 2392) dL_law_2392 c_1 ?_
  refine gl_iadd (pc := 2393) dL_law_2393 ?_
  refine gl_sld (pc := 2394) dL_law_2394 (hI 1 (by decide)) ?_
  refine gl_re (st2 := [.int (sA xs i 1), .ref 0]) rfl ?_
  refine gl_callCI (pc := 2395) (is := [(sA xs i 1)]) (st := []) hn9 dL_law_2395 kL_256 vL_256 (Nat.le_of_ble_eq_true rfl) rfl rfl rfl (Nat.le_of_ble_eq_true rfl) ?_
  refine ClI.mono (fun x1 wc' hP => ?_) hP
  refine gl_aload_n (pc := 2398) dL_law_2398 rfl 2 rfl ?_
  refine gl_aload_n (pc := 2399) dL_law_2399 rfl 0 rfl ?_
  refine gl_iload (pc := 2400) dL_law_2400 4 rfl ?_
  refine gl_iconst (pc := 2402) dL_law_2402 c_1 ?_
  refine gl_iadd (pc := 2403) dL_law_2403 ?_
  refine gl_sld (pc := 2404) dL_law_2404 (hI 1 (by decide)) ?_
  refine gl_re (st2 := [.int (sA xs i 1), .ref 1, .int x1]) rfl ?_
  refine gl_callRI (pc := 2405) (is := [(sA xs i 1)]) (st := [.int x1]) hn9 dL_law_2405 kL_260 vL_260 (Nat.le_of_ble_eq_true rfl) rfl rfl rfl (Nat.le_of_ble_eq_true rfl) ?_
  refine ClI.mono (fun x2 wr' hP => ?_) hP
  refine gl_icmp_eq (pc := 2408) (tgt := 2620) dL_law_2408 (by decide) (fun _ => k _ _ hP.2) (fun q => absurd hP.1 q)
theorem lc_58 {L n : Nat} {xs : Nat → Int32} {wc wr : Wd} {o : Int64} {i : Int32} (hn9 : n ≤ 1000) (hI : ∀ j : Nat, j < 6 → vp_in (i + Int32.ofNat j) L) (hP : PairI mX10_reset mX11_reset [(sA xs i 1)] wc wr) (k : ∀ wc' wr', RelE wc' wr' → GoL L xs 2620 [(0, .ref 3), (1, .ref 0), (2, .ref 1), (3, .ref 2), (4, .int i)] [] n wc' wr' o) : GoL L xs 2413 [(0, .ref 3), (1, .ref 0), (2, .ref 1), (3, .ref 2), (4, .int i)] [] n wc wr o := by
  unfold PairI at hP
  refine gl_aload_n (pc := 2413) dL_law_2413 rfl 1 rfl ?_
  refine gl_aload_n (pc := 2414) dL_law_2414 rfl 0 rfl ?_
  refine gl_iload (pc := 2415) dL_law_2415 4 rfl ?_
  refine gl_iconst (pc := 2417) dL_law_2417 c_1 ?_
  refine gl_iadd (pc := 2418) dL_law_2418 ?_
  refine gl_sld (pc := 2419) dL_law_2419 (hI 1 (by decide)) ?_
  refine gl_re (st2 := [.int (sA xs i 1), .ref 0]) rfl ?_
  refine gl_callCI (pc := 2420) (is := [(sA xs i 1)]) (st := []) hn9 dL_law_2420 kL_261 vL_261 (Nat.le_of_ble_eq_true rfl) rfl rfl rfl (Nat.le_of_ble_eq_true rfl) ?_
  refine ClI.mono (fun x1 wc' hP => ?_) hP
  refine gl_aload_n (pc := 2423) dL_law_2423 rfl 2 rfl ?_
  refine gl_aload_n (pc := 2424) dL_law_2424 rfl 0 rfl ?_
  refine gl_iload (pc := 2425) dL_law_2425 4 rfl ?_
  refine gl_iconst (pc := 2427) dL_law_2427 c_1 ?_
  refine gl_iadd (pc := 2428) dL_law_2428 ?_
  refine gl_sld (pc := 2429) dL_law_2429 (hI 1 (by decide)) ?_
  refine gl_re (st2 := [.int (sA xs i 1), .ref 1, .int x1]) rfl ?_
  refine gl_callRI (pc := 2430) (is := [(sA xs i 1)]) (st := [.int x1]) hn9 dL_law_2430 kL_264 vL_264 (Nat.le_of_ble_eq_true rfl) rfl rfl rfl (Nat.le_of_ble_eq_true rfl) ?_
  refine ClI.mono (fun x2 wr' hP => ?_) hP
  refine gl_icmp_eq (pc := 2433) (tgt := 2620) dL_law_2433 (by decide) (fun _ => k _ _ hP.2) (fun q => absurd hP.1 q)
theorem lc_59 {L n : Nat} {xs : Nat → Int32} {wc wr : Wd} {o : Int64} {i : Int32} (hn9 : n ≤ 1000) (hI : ∀ j : Nat, j < 6 → vp_in (i + Int32.ofNat j) L) (hP : PairI mX10_join mX11_join [(sA xs i 1), (sA xs i 2)] wc wr) (k : ∀ wc' wr', RelE wc' wr' → GoL L xs 2620 [(0, .ref 3), (1, .ref 0), (2, .ref 1), (3, .ref 2), (4, .int i)] [] n wc' wr' o) : GoL L xs 2438 [(0, .ref 3), (1, .ref 0), (2, .ref 1), (3, .ref 2), (4, .int i)] [] n wc wr o := by
  unfold PairI at hP
  refine gl_aload_n (pc := 2438) dL_law_2438 rfl 1 rfl ?_
  refine gl_aload_n (pc := 2439) dL_law_2439 rfl 0 rfl ?_
  refine gl_iload (pc := 2440) dL_law_2440 4 rfl ?_
  refine gl_iconst (pc := 2442) dL_law_2442 c_1 ?_
  refine gl_iadd (pc := 2443) dL_law_2443 ?_
  refine gl_sld (pc := 2444) dL_law_2444 (hI 1 (by decide)) ?_
  refine gl_re (st2 := [.int (sA xs i 1), .ref 0]) rfl ?_
  refine gl_aload_n (pc := 2445) dL_law_2445 rfl 0 rfl ?_
  refine gl_iload (pc := 2446) dL_law_2446 4 rfl ?_
  refine gl_iconst (pc := 2448) dL_law_2448 c_2 ?_
  refine gl_iadd (pc := 2449) dL_law_2449 ?_
  refine gl_sld (pc := 2450) dL_law_2450 (hI 2 (by decide)) ?_
  refine gl_re (st2 := [.int (sA xs i 2), .int (sA xs i 1), .ref 0]) rfl ?_
  refine gl_callCI (pc := 2451) (is := [(sA xs i 1), (sA xs i 2)]) (st := []) hn9 dL_law_2451 kL_265 vL_265 (Nat.le_of_ble_eq_true rfl) rfl rfl rfl (Nat.le_of_ble_eq_true rfl) ?_
  refine ClI.mono (fun x1 wc' hP => ?_) hP
  refine gl_aload_n (pc := 2454) dL_law_2454 rfl 2 rfl ?_
  refine gl_aload_n (pc := 2455) dL_law_2455 rfl 0 rfl ?_
  refine gl_iload (pc := 2456) dL_law_2456 4 rfl ?_
  refine gl_iconst (pc := 2458) dL_law_2458 c_1 ?_
  refine gl_iadd (pc := 2459) dL_law_2459 ?_
  refine gl_sld (pc := 2460) dL_law_2460 (hI 1 (by decide)) ?_
  refine gl_re (st2 := [.int (sA xs i 1), .ref 1, .int x1]) rfl ?_
  refine gl_aload_n (pc := 2461) dL_law_2461 rfl 0 rfl ?_
  refine gl_iload (pc := 2462) dL_law_2462 4 rfl ?_
  refine gl_iconst (pc := 2464) dL_law_2464 c_2 ?_
  refine gl_iadd (pc := 2465) dL_law_2465 ?_
  refine gl_sld (pc := 2466) dL_law_2466 (hI 2 (by decide)) ?_
  refine gl_re (st2 := [.int (sA xs i 2), .int (sA xs i 1), .ref 1, .int x1]) rfl ?_
  refine gl_callRI (pc := 2467) (is := [(sA xs i 1), (sA xs i 2)]) (st := [.int x1]) hn9 dL_law_2467 kL_268 vL_268 (Nat.le_of_ble_eq_true rfl) rfl rfl rfl (Nat.le_of_ble_eq_true rfl) ?_
  refine ClI.mono (fun x2 wr' hP => ?_) hP
  refine gl_icmp_eq (pc := 2470) (tgt := 2620) dL_law_2470 (by decide) (fun _ => k _ _ hP.2) (fun q => absurd hP.1 q)
theorem lc_60 {L n : Nat} {xs : Nat → Int32} {wc wr : Wd} {o : Int64} {i : Int32} (hn9 : n ≤ 1000) (hI : ∀ j : Nat, j < 6 → vp_in (i + Int32.ofNat j) L) (hP : PairI mX10_undo mX11_undo [] wc wr) (k : ∀ wc' wr', RelE wc' wr' → GoL L xs 2620 [(0, .ref 3), (1, .ref 0), (2, .ref 1), (3, .ref 2), (4, .int i)] [] n wc' wr' o) : GoL L xs 2475 [(0, .ref 3), (1, .ref 0), (2, .ref 1), (3, .ref 2), (4, .int i)] [] n wc wr o := by
  unfold PairI at hP
  refine gl_aload_n (pc := 2475) dL_law_2475 rfl 1 rfl ?_
  refine gl_callCI (pc := 2476) (is := []) (st := []) hn9 dL_law_2476 kL_269 vL_269 (Nat.le_of_ble_eq_true rfl) rfl rfl rfl (Nat.le_of_ble_eq_true rfl) ?_
  refine ClI.mono (fun x1 wc' hP => ?_) hP
  refine gl_aload_n (pc := 2479) dL_law_2479 rfl 2 rfl ?_
  refine gl_callRI (pc := 2480) (is := []) (st := [.int x1]) hn9 dL_law_2480 kL_273 vL_273 (Nat.le_of_ble_eq_true rfl) rfl rfl rfl (Nat.le_of_ble_eq_true rfl) ?_
  refine ClI.mono (fun x2 wr' hP => ?_) hP
  refine gl_icmp_eq (pc := 2483) (tgt := 2620) dL_law_2483 (by decide) (fun _ => k _ _ hP.2) (fun q => absurd hP.1 q)
theorem lc_61 {L n : Nat} {xs : Nat → Int32} {wc wr : Wd} {o : Int64} {i : Int32} (hn9 : n ≤ 1000) (hI : ∀ j : Nat, j < 6 → vp_in (i + Int32.ofNat j) L) (hP : PairI mX10_image mX11_image [] wc wr) (k : ∀ wc' wr', RelE wc' wr' → GoL L xs 2620 [(0, .ref 3), (1, .ref 0), (2, .ref 1), (3, .ref 2), (4, .int i)] [] n wc' wr' o) : GoL L xs 2488 [(0, .ref 3), (1, .ref 0), (2, .ref 1), (3, .ref 2), (4, .int i)] [] n wc wr o := by
  unfold PairI at hP
  refine gl_aload_n (pc := 2488) dL_law_2488 rfl 1 rfl ?_
  refine gl_callCI (pc := 2489) (is := []) (st := []) hn9 dL_law_2489 kL_274 vL_274 (Nat.le_of_ble_eq_true rfl) rfl rfl rfl (Nat.le_of_ble_eq_true rfl) ?_
  refine ClI.mono (fun x1 wc' hP => ?_) hP
  refine gl_aload_n (pc := 2492) dL_law_2492 rfl 2 rfl ?_
  refine gl_callRI (pc := 2493) (is := []) (st := [.int x1]) hn9 dL_law_2493 kL_277 vL_277 (Nat.le_of_ble_eq_true rfl) rfl rfl rfl (Nat.le_of_ble_eq_true rfl) ?_
  refine ClI.mono (fun x2 wr' hP => ?_) hP
  refine gl_icmp_eq (pc := 2496) (tgt := 2620) dL_law_2496 (by decide) (fun _ => k _ _ hP.2) (fun q => absurd hP.1 q)
theorem lc_62 {L n : Nat} {xs : Nat → Int32} {wc wr : Wd} {o : Int64} {i : Int32} (hn9 : n ≤ 1000) (hI : ∀ j : Nat, j < 6 → vp_in (i + Int32.ofNat j) L) (hP : PairI mX10_back mX11_back [(sA xs i 1)] wc wr) (k : ∀ wc' wr', RelE wc' wr' → GoL L xs 2620 [(0, .ref 3), (1, .ref 0), (2, .ref 1), (3, .ref 2), (4, .int i)] [] n wc' wr' o) : GoL L xs 2501 [(0, .ref 3), (1, .ref 0), (2, .ref 1), (3, .ref 2), (4, .int i)] [] n wc wr o := by
  unfold PairI at hP
  refine gl_aload_n (pc := 2501) dL_law_2501 rfl 1 rfl ?_
  refine gl_aload_n (pc := 2502) dL_law_2502 rfl 0 rfl ?_
  refine gl_iload (pc := 2503) dL_law_2503 4 rfl ?_
  refine gl_iconst (pc := 2505) dL_law_2505 c_1 ?_
  refine gl_iadd (pc := 2506) dL_law_2506 ?_
  refine gl_sld (pc := 2507) dL_law_2507 (hI 1 (by decide)) ?_
  refine gl_re (st2 := [.int (sA xs i 1), .ref 0]) rfl ?_
  refine gl_callCI (pc := 2508) (is := [(sA xs i 1)]) (st := []) hn9 dL_law_2508 kL_278 vL_278 (Nat.le_of_ble_eq_true rfl) rfl rfl rfl (Nat.le_of_ble_eq_true rfl) ?_
  refine ClI.mono (fun x1 wc' hP => ?_) hP
  refine gl_aload_n (pc := 2511) dL_law_2511 rfl 2 rfl ?_
  refine gl_aload_n (pc := 2512) dL_law_2512 rfl 0 rfl ?_
  refine gl_iload (pc := 2513) dL_law_2513 4 rfl ?_
  refine gl_iconst (pc := 2515) dL_law_2515 c_1 ?_
  refine gl_iadd (pc := 2516) dL_law_2516 ?_
  refine gl_sld (pc := 2517) dL_law_2517 (hI 1 (by decide)) ?_
  refine gl_re (st2 := [.int (sA xs i 1), .ref 1, .int x1]) rfl ?_
  refine gl_callRI (pc := 2518) (is := [(sA xs i 1)]) (st := [.int x1]) hn9 dL_law_2518 kL_281 vL_281 (Nat.le_of_ble_eq_true rfl) rfl rfl rfl (Nat.le_of_ble_eq_true rfl) ?_
  refine ClI.mono (fun x2 wr' hP => ?_) hP
  refine gl_icmp_eq (pc := 2521) (tgt := 2620) dL_law_2521 (by decide) (fun _ => k _ _ hP.2) (fun q => absurd hP.1 q)
theorem lc_64 {L n : Nat} {xs : Nat → Int32} {wc wr : Wd} {o : Int64} {i : Int32} (hn9 : n ≤ 1000) (hI : ∀ j : Nat, j < 6 → vp_in (i + Int32.ofNat j) L) (hP : PairI mX10_size mX11_size [(sA xs i 1)] wc wr) (k : ∀ wc' wr', RelE wc' wr' → GoL L xs 2620 [(0, .ref 3), (1, .ref 0), (2, .ref 1), (3, .ref 2), (4, .int i)] [] n wc' wr' o) : GoL L xs 2582 [(0, .ref 3), (1, .ref 0), (2, .ref 1), (3, .ref 2), (4, .int i)] [] n wc wr o := by
  unfold PairI at hP
  refine gl_aload_n (pc := 2582) dL_law_2582 rfl 1 rfl ?_
  refine gl_aload_n (pc := 2583) dL_law_2583 rfl 0 rfl ?_
  refine gl_iload (pc := 2584) dL_law_2584 4 rfl ?_
  refine gl_iconst (pc := 2586) dL_law_2586 c_1 ?_
  refine gl_iadd (pc := 2587) dL_law_2587 ?_
  refine gl_sld (pc := 2588) dL_law_2588 (hI 1 (by decide)) ?_
  refine gl_re (st2 := [.int (sA xs i 1), .ref 0]) rfl ?_
  refine gl_callCI (pc := 2589) (is := [(sA xs i 1)]) (st := []) hn9 dL_law_2589 kL_291 vL_291 (Nat.le_of_ble_eq_true rfl) rfl rfl rfl (Nat.le_of_ble_eq_true rfl) ?_
  refine ClI.mono (fun x1 wc' hP => ?_) hP
  refine gl_aload_n (pc := 2592) dL_law_2592 rfl 2 rfl ?_
  refine gl_aload_n (pc := 2593) dL_law_2593 rfl 0 rfl ?_
  refine gl_iload (pc := 2594) dL_law_2594 4 rfl ?_
  refine gl_iconst (pc := 2596) dL_law_2596 c_1 ?_
  refine gl_iadd (pc := 2597) dL_law_2597 ?_
  refine gl_sld (pc := 2598) dL_law_2598 (hI 1 (by decide)) ?_
  refine gl_re (st2 := [.int (sA xs i 1), .ref 1, .int x1]) rfl ?_
  refine gl_callRI (pc := 2599) (is := [(sA xs i 1)]) (st := [.int x1]) hn9 dL_law_2599 kL_294 vL_294 (Nat.le_of_ble_eq_true rfl) rfl rfl rfl (Nat.le_of_ble_eq_true rfl) ?_
  refine ClI.mono (fun x2 wr' hP => ?_) hP
  refine gl_icmp_eq (pc := 2602) (tgt := 2620) dL_law_2602 (by decide) (fun _ => k _ _ hP.2) (fun q => absurd hP.1 q)
theorem lc_65 {L n : Nat} {xs : Nat → Int32} {wc wr : Wd} {o : Int64} {i : Int32} (hn9 : n ≤ 1000) (hI : ∀ j : Nat, j < 6 → vp_in (i + Int32.ofNat j) L) (hP : PairI mX10_trouble mX11_trouble [] wc wr) (k : ∀ wc' wr', RelE wc' wr' → GoL L xs 2620 [(0, .ref 3), (1, .ref 0), (2, .ref 1), (3, .ref 2), (4, .int i)] [] n wc' wr' o) : GoL L xs 2607 [(0, .ref 3), (1, .ref 0), (2, .ref 1), (3, .ref 2), (4, .int i)] [] n wc wr o := by
  unfold PairI at hP
  refine gl_aload_n (pc := 2607) dL_law_2607 rfl 1 rfl ?_
  refine gl_callCI (pc := 2608) (is := []) (st := []) hn9 dL_law_2608 kL_295 vL_295 (Nat.le_of_ble_eq_true rfl) rfl rfl rfl (Nat.le_of_ble_eq_true rfl) ?_
  refine ClI.mono (fun x1 wc' hP => ?_) hP
  refine gl_aload_n (pc := 2611) dL_law_2611 rfl 2 rfl ?_
  refine gl_callRI (pc := 2612) (is := []) (st := [.int x1]) hn9 dL_law_2612 kL_298 vL_298 (Nat.le_of_ble_eq_true rfl) rfl rfl rfl (Nat.le_of_ble_eq_true rfl) ?_
  refine ClI.mono (fun x2 wr' hP => ?_) hP
  refine gl_icmp_eq (pc := 2615) (tgt := 2620) dL_law_2615 (by decide) (fun _ => k _ _ hP.2) (fun q => absurd hP.1 q)
