theorem qw_6 : Cond.constantLong RL 13 (4294967295) ∈ wsL_law := bk_1 _ (List.mem_of_getElem? (i := 6) rfl)
theorem qw_175 : Cond.methodLink RL 15 yX9_feed ∈ wsL_law := bk_8 _ (List.mem_of_getElem? (i := 7) rfl)
theorem qw_176 : Cond.instanceMethod yX9_feed ∈ wsL_law := bk_8 _ (List.mem_of_getElem? (i := 8) rfl)
theorem qw_177 : Cond.selects RX9 yX9_feed yX9_feed ∈ wsL_law := bk_8 _ (List.mem_of_getElem? (i := 9) rfl)
theorem qw_178 : Cond.code yX9_feed cX9_feed 3 (some .int) ∈ wsL_law := bk_8 _ (List.mem_of_getElem? (i := 10) rfl)
theorem qw_183 : Cond.methodLink RL 19 yX10_feed ∈ wsL_law := bk_8 _ (List.mem_of_getElem? (i := 15) rfl)
theorem qw_184 : Cond.instanceMethod yX10_feed ∈ wsL_law := bk_8 _ (List.mem_of_getElem? (i := 16) rfl)
theorem qw_185 : Cond.selects RX10 yX10_feed yX10_feed ∈ wsL_law := bk_8 _ (List.mem_of_getElem? (i := 17) rfl)
theorem qw_186 : Cond.code yX10_feed cX10_feed 4 (some .int) ∈ wsL_law := bk_8 _ (List.mem_of_getElem? (i := 18) rfl)
theorem qw_189 : Cond.methodLink RL 20 yX9_end ∈ wsL_law := bk_8 _ (List.mem_of_getElem? (i := 21) rfl)
theorem qw_190 : Cond.instanceMethod yX9_end ∈ wsL_law := bk_8 _ (List.mem_of_getElem? (i := 22) rfl)
theorem qw_191 : Cond.selects RX9 yX9_end yX9_end ∈ wsL_law := bk_8 _ (List.mem_of_getElem? (i := 23) rfl)
theorem qw_192 : Cond.code yX9_end cX9_end 3 (some .int) ∈ wsL_law := bk_9 _ (List.mem_of_getElem? (i := 0) rfl)
theorem qw_194 : Cond.methodLink RL 24 yX10_end ∈ wsL_law := bk_9 _ (List.mem_of_getElem? (i := 2) rfl)
theorem qw_195 : Cond.instanceMethod yX10_end ∈ wsL_law := bk_9 _ (List.mem_of_getElem? (i := 3) rfl)
theorem qw_196 : Cond.selects RX10 yX10_end yX10_end ∈ wsL_law := bk_9 _ (List.mem_of_getElem? (i := 4) rfl)
theorem qw_197 : Cond.code yX10_end cX10_end 3 (some .int) ∈ wsL_law := bk_9 _ (List.mem_of_getElem? (i := 5) rfl)
theorem qw_201 : Cond.methodLink RL 25 yX9_text ∈ wsL_law := bk_9 _ (List.mem_of_getElem? (i := 9) rfl)
theorem qw_202 : Cond.instanceMethod yX9_text ∈ wsL_law := bk_9 _ (List.mem_of_getElem? (i := 10) rfl)
theorem qw_203 : Cond.selects RX9 yX9_text yX9_text ∈ wsL_law := bk_9 _ (List.mem_of_getElem? (i := 11) rfl)
theorem qw_204 : Cond.code yX9_text cX9_text 2 (some .int) ∈ wsL_law := bk_9 _ (List.mem_of_getElem? (i := 12) rfl)
theorem qw_384 : Cond.methodLink RL 29 yX10_text ∈ wsL_law := bk_17 _ (List.mem_of_getElem? (i := 0) rfl)
theorem qw_385 : Cond.instanceMethod yX10_text ∈ wsL_law := bk_17 _ (List.mem_of_getElem? (i := 1) rfl)
theorem qw_386 : Cond.selects RX10 yX10_text yX10_text ∈ wsL_law := bk_17 _ (List.mem_of_getElem? (i := 2) rfl)
theorem qw_387 : Cond.code yX10_text cX10_text 2 (some .int) ∈ wsL_law := bk_17 _ (List.mem_of_getElem? (i := 3) rfl)
theorem qw_458 : Cond.methodLink RL 30 yX9_fault ∈ wsL_law := bk_20 _ (List.mem_of_getElem? (i := 2) rfl)
theorem qw_459 : Cond.instanceMethod yX9_fault ∈ wsL_law := bk_20 _ (List.mem_of_getElem? (i := 3) rfl)
theorem qw_460 : Cond.selects RX9 yX9_fault yX9_fault ∈ wsL_law := bk_20 _ (List.mem_of_getElem? (i := 4) rfl)
theorem qw_461 : Cond.code yX9_fault cX9_fault 1 (some .int) ∈ wsL_law := bk_20 _ (List.mem_of_getElem? (i := 5) rfl)
theorem qw_463 : Cond.methodLink RL 33 yX10_fault ∈ wsL_law := bk_20 _ (List.mem_of_getElem? (i := 7) rfl)
theorem qw_464 : Cond.instanceMethod yX10_fault ∈ wsL_law := bk_20 _ (List.mem_of_getElem? (i := 8) rfl)
theorem qw_465 : Cond.selects RX10 yX10_fault yX10_fault ∈ wsL_law := bk_20 _ (List.mem_of_getElem? (i := 9) rfl)
theorem qw_466 : Cond.code yX10_fault cX10_fault 1 (some .int) ∈ wsL_law := bk_20 _ (List.mem_of_getElem? (i := 10) rfl)
theorem qw_467 : Cond.methodLink RL 34 yX9_rule ∈ wsL_law := bk_20 _ (List.mem_of_getElem? (i := 11) rfl)
theorem qw_468 : Cond.instanceMethod yX9_rule ∈ wsL_law := bk_20 _ (List.mem_of_getElem? (i := 12) rfl)
theorem qw_469 : Cond.selects RX9 yX9_rule yX9_rule ∈ wsL_law := bk_20 _ (List.mem_of_getElem? (i := 13) rfl)
theorem qw_470 : Cond.code yX9_rule cX9_rule 2 (some .int) ∈ wsL_law := bk_20 _ (List.mem_of_getElem? (i := 14) rfl)
theorem qw_473 : Cond.methodLink RL 37 yX10_rule ∈ wsL_law := bk_20 _ (List.mem_of_getElem? (i := 17) rfl)
theorem qw_474 : Cond.instanceMethod yX10_rule ∈ wsL_law := bk_20 _ (List.mem_of_getElem? (i := 18) rfl)
theorem qw_475 : Cond.selects RX10 yX10_rule yX10_rule ∈ wsL_law := bk_20 _ (List.mem_of_getElem? (i := 19) rfl)
theorem qw_476 : Cond.code yX10_rule cX10_rule 2 (some .int) ∈ wsL_law := bk_20 _ (List.mem_of_getElem? (i := 20) rfl)
theorem qw_477 : Cond.methodLink RL 38 yX9_sister ∈ wsL_law := bk_20 _ (List.mem_of_getElem? (i := 21) rfl)
theorem qw_478 : Cond.instanceMethod yX9_sister ∈ wsL_law := bk_20 _ (List.mem_of_getElem? (i := 22) rfl)
theorem qw_479 : Cond.selects RX9 yX9_sister yX9_sister ∈ wsL_law := bk_20 _ (List.mem_of_getElem? (i := 23) rfl)
theorem qw_480 : Cond.code yX9_sister cX9_sister 3 (some .int) ∈ wsL_law := bk_21 _ (List.mem_of_getElem? (i := 0) rfl)
theorem qw_490 : Cond.methodLink RL 42 yX10_sister ∈ wsL_law := bk_21 _ (List.mem_of_getElem? (i := 10) rfl)
theorem qw_491 : Cond.instanceMethod yX10_sister ∈ wsL_law := bk_21 _ (List.mem_of_getElem? (i := 11) rfl)
theorem qw_492 : Cond.selects RX10 yX10_sister yX10_sister ∈ wsL_law := bk_21 _ (List.mem_of_getElem? (i := 12) rfl)
theorem qw_493 : Cond.code yX10_sister cX10_sister 3 (some .int) ∈ wsL_law := bk_21 _ (List.mem_of_getElem? (i := 13) rfl)
theorem qw_498 : Cond.methodLink RL 43 yX9_eye ∈ wsL_law := bk_21 _ (List.mem_of_getElem? (i := 18) rfl)
theorem qw_499 : Cond.instanceMethod yX9_eye ∈ wsL_law := bk_21 _ (List.mem_of_getElem? (i := 19) rfl)
theorem qw_500 : Cond.selects RX9 yX9_eye yX9_eye ∈ wsL_law := bk_21 _ (List.mem_of_getElem? (i := 20) rfl)
theorem qw_501 : Cond.code yX9_eye cX9_eye 3 (some .int) ∈ wsL_law := bk_21 _ (List.mem_of_getElem? (i := 21) rfl)
theorem qw_525 : Cond.methodLink RL 46 yX10_eye ∈ wsL_law := bk_22 _ (List.mem_of_getElem? (i := 21) rfl)
theorem qw_526 : Cond.instanceMethod yX10_eye ∈ wsL_law := bk_22 _ (List.mem_of_getElem? (i := 22) rfl)
theorem qw_527 : Cond.selects RX10 yX10_eye yX10_eye ∈ wsL_law := bk_22 _ (List.mem_of_getElem? (i := 23) rfl)
theorem qw_528 : Cond.code yX10_eye cX10_eye 3 (some .int) ∈ wsL_law := bk_23 _ (List.mem_of_getElem? (i := 0) rfl)
theorem qw_537 : Cond.methodLink RL 47 yX9_needed ∈ wsL_law := bk_23 _ (List.mem_of_getElem? (i := 9) rfl)
theorem qw_538 : Cond.instanceMethod yX9_needed ∈ wsL_law := bk_23 _ (List.mem_of_getElem? (i := 10) rfl)
theorem qw_539 : Cond.selects RX9 yX9_needed yX9_needed ∈ wsL_law := bk_23 _ (List.mem_of_getElem? (i := 11) rfl)
theorem qw_540 : Cond.code yX9_needed cX9_needed 3 (some .int) ∈ wsL_law := bk_23 _ (List.mem_of_getElem? (i := 12) rfl)
theorem qw_550 : Cond.methodLink RL 50 yX10_needed ∈ wsL_law := bk_23 _ (List.mem_of_getElem? (i := 22) rfl)
theorem qw_551 : Cond.instanceMethod yX10_needed ∈ wsL_law := bk_23 _ (List.mem_of_getElem? (i := 23) rfl)
theorem qw_552 : Cond.selects RX10 yX10_needed yX10_needed ∈ wsL_law := bk_24 _ (List.mem_of_getElem? (i := 0) rfl)
theorem qw_553 : Cond.code yX10_needed cX10_needed 3 (some .int) ∈ wsL_law := bk_24 _ (List.mem_of_getElem? (i := 1) rfl)
theorem qw_566 : Cond.methodLink RL 51 yX9_watch ∈ wsL_law := bk_24 _ (List.mem_of_getElem? (i := 14) rfl)
theorem qw_567 : Cond.instanceMethod yX9_watch ∈ wsL_law := bk_24 _ (List.mem_of_getElem? (i := 15) rfl)
theorem qw_568 : Cond.selects RX9 yX9_watch yX9_watch ∈ wsL_law := bk_24 _ (List.mem_of_getElem? (i := 16) rfl)
theorem qw_569 : Cond.code yX9_watch cX9_watch 2 (some .int) ∈ wsL_law := bk_24 _ (List.mem_of_getElem? (i := 17) rfl)
theorem qw_571 : Cond.methodLink RL 54 yX10_watch ∈ wsL_law := bk_24 _ (List.mem_of_getElem? (i := 19) rfl)
theorem qw_572 : Cond.instanceMethod yX10_watch ∈ wsL_law := bk_24 _ (List.mem_of_getElem? (i := 20) rfl)
theorem qw_573 : Cond.selects RX10 yX10_watch yX10_watch ∈ wsL_law := bk_24 _ (List.mem_of_getElem? (i := 21) rfl)
theorem qw_574 : Cond.code yX10_watch cX10_watch 2 (some .int) ∈ wsL_law := bk_24 _ (List.mem_of_getElem? (i := 22) rfl)
theorem qw_575 : Cond.methodLink RL 55 yX9_tell ∈ wsL_law := bk_24 _ (List.mem_of_getElem? (i := 23) rfl)
theorem qw_576 : Cond.instanceMethod yX9_tell ∈ wsL_law := bk_25 _ (List.mem_of_getElem? (i := 0) rfl)
theorem qw_577 : Cond.selects RX9 yX9_tell yX9_tell ∈ wsL_law := bk_25 _ (List.mem_of_getElem? (i := 1) rfl)
theorem qw_578 : Cond.code yX9_tell cX9_tell 4 (some .int) ∈ wsL_law := bk_25 _ (List.mem_of_getElem? (i := 2) rfl)
theorem qw_584 : Cond.methodLink RL 58 yX10_tell ∈ wsL_law := bk_25 _ (List.mem_of_getElem? (i := 8) rfl)
theorem qw_592 : Cond.methodLink RL 59 yX9_need ∈ wsL_law := bk_25 _ (List.mem_of_getElem? (i := 16) rfl)
theorem qw_593 : Cond.instanceMethod yX9_need ∈ wsL_law := bk_25 _ (List.mem_of_getElem? (i := 17) rfl)
theorem qw_594 : Cond.selects RX9 yX9_need yX9_need ∈ wsL_law := bk_25 _ (List.mem_of_getElem? (i := 18) rfl)
theorem qw_595 : Cond.code yX9_need cX9_need 4 (some .int) ∈ wsL_law := bk_25 _ (List.mem_of_getElem? (i := 19) rfl)
theorem qw_596 : Cond.methodLink RL 62 yX10_need ∈ wsL_law := bk_25 _ (List.mem_of_getElem? (i := 20) rfl)
theorem qw_597 : Cond.instanceMethod yX10_need ∈ wsL_law := bk_25 _ (List.mem_of_getElem? (i := 21) rfl)
theorem qw_598 : Cond.selects RX10 yX10_need yX10_need ∈ wsL_law := bk_25 _ (List.mem_of_getElem? (i := 22) rfl)
theorem qw_599 : Cond.code yX10_need cX10_need 4 (some .int) ∈ wsL_law := bk_25 _ (List.mem_of_getElem? (i := 23) rfl)
theorem qw_601 : Cond.methodLink RL 63 yX9_storm ∈ wsL_law := bk_26 _ (List.mem_of_getElem? (i := 1) rfl)
theorem qw_602 : Cond.instanceMethod yX9_storm ∈ wsL_law := bk_26 _ (List.mem_of_getElem? (i := 2) rfl)
theorem qw_603 : Cond.selects RX9 yX9_storm yX9_storm ∈ wsL_law := bk_26 _ (List.mem_of_getElem? (i := 3) rfl)
theorem qw_604 : Cond.code yX9_storm cX9_storm 5 (some .int) ∈ wsL_law := bk_26 _ (List.mem_of_getElem? (i := 4) rfl)
theorem qw_605 : Cond.methodLink RL 67 yX10_storm ∈ wsL_law := bk_26 _ (List.mem_of_getElem? (i := 5) rfl)
theorem qw_606 : Cond.instanceMethod yX10_storm ∈ wsL_law := bk_26 _ (List.mem_of_getElem? (i := 6) rfl)
theorem qw_607 : Cond.selects RX10 yX10_storm yX10_storm ∈ wsL_law := bk_26 _ (List.mem_of_getElem? (i := 7) rfl)
theorem qw_608 : Cond.code yX10_storm cX10_storm 5 (some .int) ∈ wsL_law := bk_26 _ (List.mem_of_getElem? (i := 8) rfl)
theorem qw_609 : Cond.methodLink RL 68 yX9_turn ∈ wsL_law := bk_26 _ (List.mem_of_getElem? (i := 9) rfl)
theorem qw_610 : Cond.instanceMethod yX9_turn ∈ wsL_law := bk_26 _ (List.mem_of_getElem? (i := 10) rfl)
theorem qw_611 : Cond.selects RX9 yX9_turn yX9_turn ∈ wsL_law := bk_26 _ (List.mem_of_getElem? (i := 11) rfl)
theorem qw_612 : Cond.code yX9_turn cX9_turn 4 (some .int) ∈ wsL_law := bk_26 _ (List.mem_of_getElem? (i := 12) rfl)
theorem qw_613 : Cond.methodLink RL 71 yX10_turn ∈ wsL_law := bk_26 _ (List.mem_of_getElem? (i := 13) rfl)
theorem qw_614 : Cond.instanceMethod yX10_turn ∈ wsL_law := bk_26 _ (List.mem_of_getElem? (i := 14) rfl)
theorem qw_615 : Cond.selects RX10 yX10_turn yX10_turn ∈ wsL_law := bk_26 _ (List.mem_of_getElem? (i := 15) rfl)
theorem qw_616 : Cond.code yX10_turn cX10_turn 4 (some .int) ∈ wsL_law := bk_26 _ (List.mem_of_getElem? (i := 16) rfl)
theorem qw_617 : Cond.methodLink RL 72 yX9_tire ∈ wsL_law := bk_26 _ (List.mem_of_getElem? (i := 17) rfl)
theorem qw_618 : Cond.instanceMethod yX9_tire ∈ wsL_law := bk_26 _ (List.mem_of_getElem? (i := 18) rfl)
theorem qw_619 : Cond.selects RX9 yX9_tire yX9_tire ∈ wsL_law := bk_26 _ (List.mem_of_getElem? (i := 19) rfl)
theorem qw_620 : Cond.code yX9_tire cX9_tire 4 (some .int) ∈ wsL_law := bk_26 _ (List.mem_of_getElem? (i := 20) rfl)
theorem qw_622 : Cond.methodLink RL 75 yX10_tire ∈ wsL_law := bk_26 _ (List.mem_of_getElem? (i := 22) rfl)
theorem qw_623 : Cond.instanceMethod yX10_tire ∈ wsL_law := bk_26 _ (List.mem_of_getElem? (i := 23) rfl)
theorem qw_624 : Cond.selects RX10 yX10_tire yX10_tire ∈ wsL_law := bk_27 _ (List.mem_of_getElem? (i := 0) rfl)
theorem qw_625 : Cond.code yX10_tire cX10_tire 4 (some .int) ∈ wsL_law := bk_27 _ (List.mem_of_getElem? (i := 1) rfl)
theorem qw_631 : Cond.methodLink RL 76 yX9_sees ∈ wsL_law := bk_27 _ (List.mem_of_getElem? (i := 7) rfl)
theorem qw_632 : Cond.instanceMethod yX9_sees ∈ wsL_law := bk_27 _ (List.mem_of_getElem? (i := 8) rfl)
theorem qw_633 : Cond.selects RX9 yX9_sees yX9_sees ∈ wsL_law := bk_27 _ (List.mem_of_getElem? (i := 9) rfl)
theorem qw_634 : Cond.code yX9_sees cX9_sees 3 (some .int) ∈ wsL_law := bk_27 _ (List.mem_of_getElem? (i := 10) rfl)
theorem qw_643 : Cond.methodLink RL 79 yX10_sees ∈ wsL_law := bk_27 _ (List.mem_of_getElem? (i := 19) rfl)
theorem qw_644 : Cond.instanceMethod yX10_sees ∈ wsL_law := bk_27 _ (List.mem_of_getElem? (i := 20) rfl)
theorem qw_645 : Cond.selects RX10 yX10_sees yX10_sees ∈ wsL_law := bk_27 _ (List.mem_of_getElem? (i := 21) rfl)
theorem qw_646 : Cond.code yX10_sees cX10_sees 3 (some .int) ∈ wsL_law := bk_27 _ (List.mem_of_getElem? (i := 22) rfl)
theorem qw_663 : Cond.methodLink RL 80 yX9_lawful ∈ wsL_law := bk_28 _ (List.mem_of_getElem? (i := 15) rfl)
theorem qw_664 : Cond.instanceMethod yX9_lawful ∈ wsL_law := bk_28 _ (List.mem_of_getElem? (i := 16) rfl)
theorem qw_665 : Cond.selects RX9 yX9_lawful yX9_lawful ∈ wsL_law := bk_28 _ (List.mem_of_getElem? (i := 17) rfl)
theorem qw_666 : Cond.code yX9_lawful cX9_lawful 3 (some .int) ∈ wsL_law := bk_28 _ (List.mem_of_getElem? (i := 18) rfl)
theorem qw_676 : Cond.methodLink RL 83 yX10_lawful ∈ wsL_law := bk_29 _ (List.mem_of_getElem? (i := 4) rfl)
theorem qw_677 : Cond.instanceMethod yX10_lawful ∈ wsL_law := bk_29 _ (List.mem_of_getElem? (i := 5) rfl)
theorem qw_678 : Cond.selects RX10 yX10_lawful yX10_lawful ∈ wsL_law := bk_29 _ (List.mem_of_getElem? (i := 6) rfl)
theorem qw_679 : Cond.code yX10_lawful cX10_lawful 3 (some .int) ∈ wsL_law := bk_29 _ (List.mem_of_getElem? (i := 7) rfl)
theorem qw_688 : Cond.methodLink RL 84 yX9_asleep ∈ wsL_law := bk_29 _ (List.mem_of_getElem? (i := 16) rfl)
theorem qw_689 : Cond.instanceMethod yX9_asleep ∈ wsL_law := bk_29 _ (List.mem_of_getElem? (i := 17) rfl)
theorem qw_690 : Cond.selects RX9 yX9_asleep yX9_asleep ∈ wsL_law := bk_29 _ (List.mem_of_getElem? (i := 18) rfl)
theorem qw_691 : Cond.code yX9_asleep cX9_asleep 7 (some .int) ∈ wsL_law := bk_29 _ (List.mem_of_getElem? (i := 19) rfl)
theorem qw_702 : Cond.methodLink RL 87 yX10_asleep ∈ wsL_law := bk_30 _ (List.mem_of_getElem? (i := 6) rfl)
theorem qw_703 : Cond.instanceMethod yX10_asleep ∈ wsL_law := bk_30 _ (List.mem_of_getElem? (i := 7) rfl)
theorem qw_704 : Cond.selects RX10 yX10_asleep yX10_asleep ∈ wsL_law := bk_30 _ (List.mem_of_getElem? (i := 8) rfl)
theorem qw_705 : Cond.code yX10_asleep cX10_asleep 7 (some .int) ∈ wsL_law := bk_30 _ (List.mem_of_getElem? (i := 9) rfl)
theorem qw_716 : Cond.methodLink RL 88 yX9_tired ∈ wsL_law := bk_30 _ (List.mem_of_getElem? (i := 20) rfl)
theorem qw_717 : Cond.instanceMethod yX9_tired ∈ wsL_law := bk_30 _ (List.mem_of_getElem? (i := 21) rfl)
theorem qw_718 : Cond.selects RX9 yX9_tired yX9_tired ∈ wsL_law := bk_30 _ (List.mem_of_getElem? (i := 22) rfl)
theorem qw_719 : Cond.code yX9_tired cX9_tired 3 (some .int) ∈ wsL_law := bk_30 _ (List.mem_of_getElem? (i := 23) rfl)
theorem qw_746 : Cond.methodLink RL 91 yX10_tired ∈ wsL_law := bk_32 _ (List.mem_of_getElem? (i := 2) rfl)
theorem qw_747 : Cond.instanceMethod yX10_tired ∈ wsL_law := bk_32 _ (List.mem_of_getElem? (i := 3) rfl)
theorem qw_748 : Cond.selects RX10 yX10_tired yX10_tired ∈ wsL_law := bk_32 _ (List.mem_of_getElem? (i := 4) rfl)
theorem qw_749 : Cond.code yX10_tired cX10_tired 3 (some .int) ∈ wsL_law := bk_32 _ (List.mem_of_getElem? (i := 5) rfl)
theorem qw_762 : Cond.methodLink RL 92 yX9_open ∈ wsL_law := bk_32 _ (List.mem_of_getElem? (i := 18) rfl)
theorem qw_763 : Cond.instanceMethod yX9_open ∈ wsL_law := bk_32 _ (List.mem_of_getElem? (i := 19) rfl)
theorem qw_764 : Cond.selects RX9 yX9_open yX9_open ∈ wsL_law := bk_32 _ (List.mem_of_getElem? (i := 20) rfl)
theorem qw_765 : Cond.code yX9_open cX9_open 2 (some .int) ∈ wsL_law := bk_32 _ (List.mem_of_getElem? (i := 21) rfl)
theorem qw_767 : Cond.methodLink RL 95 yX10_open ∈ wsL_law := bk_32 _ (List.mem_of_getElem? (i := 23) rfl)
theorem qw_768 : Cond.instanceMethod yX10_open ∈ wsL_law := bk_33 _ (List.mem_of_getElem? (i := 0) rfl)
theorem qw_769 : Cond.selects RX10 yX10_open yX10_open ∈ wsL_law := bk_33 _ (List.mem_of_getElem? (i := 1) rfl)
theorem qw_770 : Cond.code yX10_open cX10_open 2 (some .int) ∈ wsL_law := bk_33 _ (List.mem_of_getElem? (i := 2) rfl)
theorem qw_775 : Cond.methodLink RL 96 yX9_missed ∈ wsL_law := bk_33 _ (List.mem_of_getElem? (i := 7) rfl)
theorem qw_776 : Cond.instanceMethod yX9_missed ∈ wsL_law := bk_33 _ (List.mem_of_getElem? (i := 8) rfl)
theorem qw_777 : Cond.selects RX9 yX9_missed yX9_missed ∈ wsL_law := bk_33 _ (List.mem_of_getElem? (i := 9) rfl)
theorem qw_778 : Cond.code yX9_missed cX9_missed 2 (some .int) ∈ wsL_law := bk_33 _ (List.mem_of_getElem? (i := 10) rfl)
theorem qw_783 : Cond.methodLink RL 99 yX10_missed ∈ wsL_law := bk_33 _ (List.mem_of_getElem? (i := 15) rfl)
theorem qw_784 : Cond.instanceMethod yX10_missed ∈ wsL_law := bk_33 _ (List.mem_of_getElem? (i := 16) rfl)
theorem qw_785 : Cond.selects RX10 yX10_missed yX10_missed ∈ wsL_law := bk_33 _ (List.mem_of_getElem? (i := 17) rfl)
theorem qw_786 : Cond.code yX10_missed cX10_missed 2 (some .int) ∈ wsL_law := bk_33 _ (List.mem_of_getElem? (i := 18) rfl)
theorem qw_791 : Cond.methodLink RL 100 yX9_wreck ∈ wsL_law := bk_33 _ (List.mem_of_getElem? (i := 23) rfl)
theorem qw_792 : Cond.instanceMethod yX9_wreck ∈ wsL_law := bk_34 _ (List.mem_of_getElem? (i := 0) rfl)
theorem qw_793 : Cond.selects RX9 yX9_wreck yX9_wreck ∈ wsL_law := bk_34 _ (List.mem_of_getElem? (i := 1) rfl)
theorem qw_794 : Cond.code yX9_wreck cX9_wreck 2 (some .int) ∈ wsL_law := bk_34 _ (List.mem_of_getElem? (i := 2) rfl)
theorem qw_795 : Cond.methodLink RL 103 yX10_wreck ∈ wsL_law := bk_34 _ (List.mem_of_getElem? (i := 3) rfl)
theorem qw_796 : Cond.instanceMethod yX10_wreck ∈ wsL_law := bk_34 _ (List.mem_of_getElem? (i := 4) rfl)
theorem qw_797 : Cond.selects RX10 yX10_wreck yX10_wreck ∈ wsL_law := bk_34 _ (List.mem_of_getElem? (i := 5) rfl)
theorem qw_798 : Cond.code yX10_wreck cX10_wreck 2 (some .int) ∈ wsL_law := bk_34 _ (List.mem_of_getElem? (i := 6) rfl)
theorem qw_799 : Cond.methodLink RL 104 yX9_rest ∈ wsL_law := bk_34 _ (List.mem_of_getElem? (i := 7) rfl)
theorem qw_800 : Cond.instanceMethod yX9_rest ∈ wsL_law := bk_34 _ (List.mem_of_getElem? (i := 8) rfl)
theorem qw_801 : Cond.selects RX9 yX9_rest yX9_rest ∈ wsL_law := bk_34 _ (List.mem_of_getElem? (i := 9) rfl)
theorem qw_802 : Cond.code yX9_rest cX9_rest 4 (some .int) ∈ wsL_law := bk_34 _ (List.mem_of_getElem? (i := 10) rfl)
theorem qw_803 : Cond.methodLink RL 107 yX10_rest ∈ wsL_law := bk_34 _ (List.mem_of_getElem? (i := 11) rfl)
theorem qw_804 : Cond.instanceMethod yX10_rest ∈ wsL_law := bk_34 _ (List.mem_of_getElem? (i := 12) rfl)
theorem qw_805 : Cond.selects RX10 yX10_rest yX10_rest ∈ wsL_law := bk_34 _ (List.mem_of_getElem? (i := 13) rfl)
theorem qw_806 : Cond.code yX10_rest cX10_rest 4 (some .int) ∈ wsL_law := bk_34 _ (List.mem_of_getElem? (i := 14) rfl)
theorem qw_807 : Cond.methodLink RL 108 yX9_round ∈ wsL_law := bk_34 _ (List.mem_of_getElem? (i := 15) rfl)
theorem qw_808 : Cond.instanceMethod yX9_round ∈ wsL_law := bk_34 _ (List.mem_of_getElem? (i := 16) rfl)
theorem qw_809 : Cond.selects RX9 yX9_round yX9_round ∈ wsL_law := bk_34 _ (List.mem_of_getElem? (i := 17) rfl)
theorem qw_810 : Cond.code yX9_round cX9_round 3 (some .int) ∈ wsL_law := bk_34 _ (List.mem_of_getElem? (i := 18) rfl)
theorem qw_823 : Cond.methodLink RL 111 yX10_round ∈ wsL_law := bk_35 _ (List.mem_of_getElem? (i := 7) rfl)
theorem qw_824 : Cond.instanceMethod yX10_round ∈ wsL_law := bk_35 _ (List.mem_of_getElem? (i := 8) rfl)
theorem qw_825 : Cond.selects RX10 yX10_round yX10_round ∈ wsL_law := bk_35 _ (List.mem_of_getElem? (i := 9) rfl)
theorem qw_826 : Cond.code yX10_round cX10_round 5 (some .int) ∈ wsL_law := bk_35 _ (List.mem_of_getElem? (i := 10) rfl)
theorem qw_856 : Cond.methodLink RL 112 yX9_best ∈ wsL_law := bk_36 _ (List.mem_of_getElem? (i := 16) rfl)
theorem qw_857 : Cond.instanceMethod yX9_best ∈ wsL_law := bk_36 _ (List.mem_of_getElem? (i := 17) rfl)
theorem qw_858 : Cond.selects RX9 yX9_best yX9_best ∈ wsL_law := bk_36 _ (List.mem_of_getElem? (i := 18) rfl)
theorem qw_859 : Cond.code yX9_best cX9_best 3 (some .int) ∈ wsL_law := bk_36 _ (List.mem_of_getElem? (i := 19) rfl)
theorem qw_905 : Cond.methodLink RL 115 yX10_best ∈ wsL_law := bk_38 _ (List.mem_of_getElem? (i := 17) rfl)
theorem qw_906 : Cond.instanceMethod yX10_best ∈ wsL_law := bk_38 _ (List.mem_of_getElem? (i := 18) rfl)
theorem qw_907 : Cond.selects RX10 yX10_best yX10_best ∈ wsL_law := bk_38 _ (List.mem_of_getElem? (i := 19) rfl)
theorem qw_908 : Cond.code yX10_best cX10_best 3 (some .int) ∈ wsL_law := bk_38 _ (List.mem_of_getElem? (i := 20) rfl)
theorem qw_917 : Cond.methodLink RL 116 yX9_without ∈ wsL_law := bk_39 _ (List.mem_of_getElem? (i := 5) rfl)
theorem qw_918 : Cond.instanceMethod yX9_without ∈ wsL_law := bk_39 _ (List.mem_of_getElem? (i := 6) rfl)
theorem qw_919 : Cond.selects RX9 yX9_without yX9_without ∈ wsL_law := bk_39 _ (List.mem_of_getElem? (i := 7) rfl)
theorem qw_920 : Cond.code yX9_without cX9_without 3 (some .int) ∈ wsL_law := bk_39 _ (List.mem_of_getElem? (i := 8) rfl)
theorem qw_921 : Cond.methodLink RL 119 yX10_without ∈ wsL_law := bk_39 _ (List.mem_of_getElem? (i := 9) rfl)
theorem qw_922 : Cond.instanceMethod yX10_without ∈ wsL_law := bk_39 _ (List.mem_of_getElem? (i := 10) rfl)
theorem qw_923 : Cond.selects RX10 yX10_without yX10_without ∈ wsL_law := bk_39 _ (List.mem_of_getElem? (i := 11) rfl)
theorem qw_924 : Cond.code yX10_without cX10_without 3 (some .int) ∈ wsL_law := bk_39 _ (List.mem_of_getElem? (i := 12) rfl)
theorem qw_925 : Cond.methodLink RL 120 yX9_beds ∈ wsL_law := bk_39 _ (List.mem_of_getElem? (i := 13) rfl)
theorem qw_926 : Cond.instanceMethod yX9_beds ∈ wsL_law := bk_39 _ (List.mem_of_getElem? (i := 14) rfl)
theorem qw_927 : Cond.selects RX9 yX9_beds yX9_beds ∈ wsL_law := bk_39 _ (List.mem_of_getElem? (i := 15) rfl)
theorem qw_928 : Cond.code yX9_beds cX9_beds 7 (some .int) ∈ wsL_law := bk_39 _ (List.mem_of_getElem? (i := 16) rfl)
theorem qw_933 : Cond.methodLink RL 123 yX10_beds ∈ wsL_law := bk_39 _ (List.mem_of_getElem? (i := 21) rfl)
theorem qw_934 : Cond.instanceMethod yX10_beds ∈ wsL_law := bk_39 _ (List.mem_of_getElem? (i := 22) rfl)
theorem qw_935 : Cond.selects RX10 yX10_beds yX10_beds ∈ wsL_law := bk_39 _ (List.mem_of_getElem? (i := 23) rfl)
theorem qw_936 : Cond.code yX10_beds cX10_beds 6 (some .int) ∈ wsL_law := bk_40 _ (List.mem_of_getElem? (i := 0) rfl)
theorem qw_937 : Cond.methodLink RL 124 yX9_late ∈ wsL_law := bk_40 _ (List.mem_of_getElem? (i := 1) rfl)
theorem qw_938 : Cond.instanceMethod yX9_late ∈ wsL_law := bk_40 _ (List.mem_of_getElem? (i := 2) rfl)
theorem qw_939 : Cond.selects RX9 yX9_late yX9_late ∈ wsL_law := bk_40 _ (List.mem_of_getElem? (i := 3) rfl)
theorem qw_940 : Cond.code yX9_late cX9_late 10 (some .int) ∈ wsL_law := bk_40 _ (List.mem_of_getElem? (i := 4) rfl)
theorem qw_945 : Cond.methodLink RL 128 yX10_late ∈ wsL_law := bk_40 _ (List.mem_of_getElem? (i := 9) rfl)
theorem qw_946 : Cond.instanceMethod yX10_late ∈ wsL_law := bk_40 _ (List.mem_of_getElem? (i := 10) rfl)
theorem qw_947 : Cond.selects RX10 yX10_late yX10_late ∈ wsL_law := bk_40 _ (List.mem_of_getElem? (i := 11) rfl)
theorem qw_948 : Cond.code yX10_late cX10_late 9 (some .int) ∈ wsL_law := bk_40 _ (List.mem_of_getElem? (i := 12) rfl)
theorem qw_953 : Cond.methodLink RL 129 yX9_odds ∈ wsL_law := bk_40 _ (List.mem_of_getElem? (i := 17) rfl)
theorem qw_954 : Cond.instanceMethod yX9_odds ∈ wsL_law := bk_40 _ (List.mem_of_getElem? (i := 18) rfl)
theorem qw_955 : Cond.selects RX9 yX9_odds yX9_odds ∈ wsL_law := bk_40 _ (List.mem_of_getElem? (i := 19) rfl)
theorem qw_956 : Cond.code yX9_odds cX9_odds 4 (some .long) ∈ wsL_law := bk_40 _ (List.mem_of_getElem? (i := 20) rfl)
theorem qw_981 : Cond.methodLink RL 133 yX10_odds ∈ wsL_law := bk_41 _ (List.mem_of_getElem? (i := 21) rfl)
theorem qw_982 : Cond.instanceMethod yX10_odds ∈ wsL_law := bk_41 _ (List.mem_of_getElem? (i := 22) rfl)
theorem qw_983 : Cond.selects RX10 yX10_odds yX10_odds ∈ wsL_law := bk_41 _ (List.mem_of_getElem? (i := 23) rfl)
theorem qw_984 : Cond.code yX10_odds cX10_odds 4 (some .long) ∈ wsL_law := bk_42 _ (List.mem_of_getElem? (i := 0) rfl)
theorem qw_997 : Cond.methodLink RL 134 yX9_mean ∈ wsL_law := bk_42 _ (List.mem_of_getElem? (i := 13) rfl)
theorem qw_998 : Cond.instanceMethod yX9_mean ∈ wsL_law := bk_42 _ (List.mem_of_getElem? (i := 14) rfl)
theorem qw_999 : Cond.selects RX9 yX9_mean yX9_mean ∈ wsL_law := bk_42 _ (List.mem_of_getElem? (i := 15) rfl)
theorem qw_1000 : Cond.code yX9_mean cX9_mean 6 (some .long) ∈ wsL_law := bk_42 _ (List.mem_of_getElem? (i := 16) rfl)
theorem qw_1001 : Cond.methodLink RL 138 yX10_mean ∈ wsL_law := bk_42 _ (List.mem_of_getElem? (i := 17) rfl)
theorem qw_1002 : Cond.instanceMethod yX10_mean ∈ wsL_law := bk_42 _ (List.mem_of_getElem? (i := 18) rfl)
theorem qw_1003 : Cond.selects RX10 yX10_mean yX10_mean ∈ wsL_law := bk_42 _ (List.mem_of_getElem? (i := 19) rfl)
theorem qw_1004 : Cond.code yX10_mean cX10_mean 6 (some .long) ∈ wsL_law := bk_42 _ (List.mem_of_getElem? (i := 20) rfl)
theorem qw_1005 : Cond.methodLink RL 139 yX9_hear ∈ wsL_law := bk_42 _ (List.mem_of_getElem? (i := 21) rfl)
theorem qw_1006 : Cond.instanceMethod yX9_hear ∈ wsL_law := bk_42 _ (List.mem_of_getElem? (i := 22) rfl)
theorem qw_1007 : Cond.selects RX9 yX9_hear yX9_hear ∈ wsL_law := bk_42 _ (List.mem_of_getElem? (i := 23) rfl)
theorem qw_1008 : Cond.code yX9_hear cX9_hear 4 (some .int) ∈ wsL_law := bk_43 _ (List.mem_of_getElem? (i := 0) rfl)
theorem qw_1011 : Cond.methodLink RL 142 yX10_hear ∈ wsL_law := bk_43 _ (List.mem_of_getElem? (i := 3) rfl)
theorem qw_1012 : Cond.instanceMethod yX10_hear ∈ wsL_law := bk_43 _ (List.mem_of_getElem? (i := 4) rfl)
theorem qw_1013 : Cond.selects RX10 yX10_hear yX10_hear ∈ wsL_law := bk_43 _ (List.mem_of_getElem? (i := 5) rfl)
theorem qw_1014 : Cond.code yX10_hear cX10_hear 5 (some .int) ∈ wsL_law := bk_43 _ (List.mem_of_getElem? (i := 6) rfl)
theorem qw_1015 : Cond.methodLink RL 143 yX9_forget ∈ wsL_law := bk_43 _ (List.mem_of_getElem? (i := 7) rfl)
theorem qw_1016 : Cond.instanceMethod yX9_forget ∈ wsL_law := bk_43 _ (List.mem_of_getElem? (i := 8) rfl)
theorem qw_1017 : Cond.selects RX9 yX9_forget yX9_forget ∈ wsL_law := bk_43 _ (List.mem_of_getElem? (i := 9) rfl)
theorem qw_1018 : Cond.code yX9_forget cX9_forget 3 (some .int) ∈ wsL_law := bk_43 _ (List.mem_of_getElem? (i := 10) rfl)
theorem qw_1019 : Cond.methodLink RL 146 yX10_forget ∈ wsL_law := bk_43 _ (List.mem_of_getElem? (i := 11) rfl)
theorem qw_1020 : Cond.instanceMethod yX10_forget ∈ wsL_law := bk_43 _ (List.mem_of_getElem? (i := 12) rfl)
theorem qw_1021 : Cond.selects RX10 yX10_forget yX10_forget ∈ wsL_law := bk_43 _ (List.mem_of_getElem? (i := 13) rfl)
theorem qw_1022 : Cond.code yX10_forget cX10_forget 3 (some .int) ∈ wsL_law := bk_43 _ (List.mem_of_getElem? (i := 14) rfl)
theorem qw_1023 : Cond.methodLink RL 147 yX9_fits ∈ wsL_law := bk_43 _ (List.mem_of_getElem? (i := 15) rfl)
theorem qw_1024 : Cond.instanceMethod yX9_fits ∈ wsL_law := bk_43 _ (List.mem_of_getElem? (i := 16) rfl)
theorem qw_1025 : Cond.selects RX9 yX9_fits yX9_fits ∈ wsL_law := bk_43 _ (List.mem_of_getElem? (i := 17) rfl)
theorem qw_1026 : Cond.code yX9_fits cX9_fits 8 (some .int) ∈ wsL_law := bk_43 _ (List.mem_of_getElem? (i := 18) rfl)
theorem qw_1032 : Cond.methodLink RL 150 yX10_fits ∈ wsL_law := bk_44 _ (List.mem_of_getElem? (i := 0) rfl)
theorem qw_1033 : Cond.instanceMethod yX10_fits ∈ wsL_law := bk_44 _ (List.mem_of_getElem? (i := 1) rfl)
theorem qw_1034 : Cond.selects RX10 yX10_fits yX10_fits ∈ wsL_law := bk_44 _ (List.mem_of_getElem? (i := 2) rfl)
theorem qw_1035 : Cond.code yX10_fits cX10_fits 8 (some .int) ∈ wsL_law := bk_44 _ (List.mem_of_getElem? (i := 3) rfl)
theorem qw_1040 : Cond.methodLink RL 151 yX9_keep ∈ wsL_law := bk_44 _ (List.mem_of_getElem? (i := 8) rfl)
theorem qw_1041 : Cond.instanceMethod yX9_keep ∈ wsL_law := bk_44 _ (List.mem_of_getElem? (i := 9) rfl)
theorem qw_1042 : Cond.selects RX9 yX9_keep yX9_keep ∈ wsL_law := bk_44 _ (List.mem_of_getElem? (i := 10) rfl)
theorem qw_1043 : Cond.code yX9_keep cX9_keep 3 (some .int) ∈ wsL_law := bk_44 _ (List.mem_of_getElem? (i := 11) rfl)
theorem qw_1047 : Cond.methodLink RL 154 yX10_keep ∈ wsL_law := bk_44 _ (List.mem_of_getElem? (i := 15) rfl)
theorem qw_1048 : Cond.instanceMethod yX10_keep ∈ wsL_law := bk_44 _ (List.mem_of_getElem? (i := 16) rfl)
theorem qw_1049 : Cond.selects RX10 yX10_keep yX10_keep ∈ wsL_law := bk_44 _ (List.mem_of_getElem? (i := 17) rfl)
theorem qw_1050 : Cond.code yX10_keep cX10_keep 3 (some .int) ∈ wsL_law := bk_44 _ (List.mem_of_getElem? (i := 18) rfl)
theorem qw_1055 : Cond.methodLink RL 155 yX9_back ∈ wsL_law := bk_44 _ (List.mem_of_getElem? (i := 23) rfl)
theorem qw_1056 : Cond.instanceMethod yX9_back ∈ wsL_law := bk_45 _ (List.mem_of_getElem? (i := 0) rfl)
theorem qw_1057 : Cond.selects RX9 yX9_back yX9_back ∈ wsL_law := bk_45 _ (List.mem_of_getElem? (i := 1) rfl)
theorem qw_1058 : Cond.code yX9_back cX9_back 2 (some .int) ∈ wsL_law := bk_45 _ (List.mem_of_getElem? (i := 2) rfl)
theorem qw_1059 : Cond.methodLink RL 158 yX10_back ∈ wsL_law := bk_45 _ (List.mem_of_getElem? (i := 3) rfl)
theorem qw_1060 : Cond.instanceMethod yX10_back ∈ wsL_law := bk_45 _ (List.mem_of_getElem? (i := 4) rfl)
theorem qw_1061 : Cond.selects RX10 yX10_back yX10_back ∈ wsL_law := bk_45 _ (List.mem_of_getElem? (i := 5) rfl)
theorem qw_1062 : Cond.code yX10_back cX10_back 2 (some .int) ∈ wsL_law := bk_45 _ (List.mem_of_getElem? (i := 6) rfl)
theorem qw_1063 : Cond.methodLink RL 159 yX9_sheet ∈ wsL_law := bk_45 _ (List.mem_of_getElem? (i := 7) rfl)
theorem qw_1064 : Cond.instanceMethod yX9_sheet ∈ wsL_law := bk_45 _ (List.mem_of_getElem? (i := 8) rfl)
theorem qw_1065 : Cond.selects RX9 yX9_sheet yX9_sheet ∈ wsL_law := bk_45 _ (List.mem_of_getElem? (i := 9) rfl)
theorem qw_1066 : Cond.code yX9_sheet cX9_sheet 4 (some .int) ∈ wsL_law := bk_45 _ (List.mem_of_getElem? (i := 10) rfl)
theorem qw_1078 : Cond.methodLink RL 162 yX10_sheet ∈ wsL_law := bk_45 _ (List.mem_of_getElem? (i := 22) rfl)
theorem qw_1079 : Cond.instanceMethod yX10_sheet ∈ wsL_law := bk_45 _ (List.mem_of_getElem? (i := 23) rfl)
theorem qw_1080 : Cond.selects RX10 yX10_sheet yX10_sheet ∈ wsL_law := bk_46 _ (List.mem_of_getElem? (i := 0) rfl)
theorem qw_1081 : Cond.code yX10_sheet cX10_sheet 5 (some .int) ∈ wsL_law := bk_46 _ (List.mem_of_getElem? (i := 1) rfl)
theorem qw_1086 : Cond.methodLink RL 163 yX9_lay ∈ wsL_law := bk_46 _ (List.mem_of_getElem? (i := 6) rfl)
theorem qw_1087 : Cond.instanceMethod yX9_lay ∈ wsL_law := bk_46 _ (List.mem_of_getElem? (i := 7) rfl)
theorem qw_1088 : Cond.selects RX9 yX9_lay yX9_lay ∈ wsL_law := bk_46 _ (List.mem_of_getElem? (i := 8) rfl)
theorem qw_1089 : Cond.code yX9_lay cX9_lay 5 (some .int) ∈ wsL_law := bk_46 _ (List.mem_of_getElem? (i := 9) rfl)
theorem qw_1102 : Cond.methodLink RL 166 yX10_lay ∈ wsL_law := bk_46 _ (List.mem_of_getElem? (i := 22) rfl)
theorem qw_1103 : Cond.instanceMethod yX10_lay ∈ wsL_law := bk_46 _ (List.mem_of_getElem? (i := 23) rfl)
theorem qw_1104 : Cond.selects RX10 yX10_lay yX10_lay ∈ wsL_law := bk_47 _ (List.mem_of_getElem? (i := 0) rfl)
theorem qw_1105 : Cond.code yX10_lay cX10_lay 4 (some .int) ∈ wsL_law := bk_47 _ (List.mem_of_getElem? (i := 1) rfl)
theorem qw_1106 : Cond.methodLink RL 167 yX9_read ∈ wsL_law := bk_47 _ (List.mem_of_getElem? (i := 2) rfl)
theorem qw_1107 : Cond.instanceMethod yX9_read ∈ wsL_law := bk_47 _ (List.mem_of_getElem? (i := 3) rfl)
theorem qw_1108 : Cond.selects RX9 yX9_read yX9_read ∈ wsL_law := bk_47 _ (List.mem_of_getElem? (i := 4) rfl)
theorem qw_1109 : Cond.code yX9_read cX9_read 9 (some .int) ∈ wsL_law := bk_47 _ (List.mem_of_getElem? (i := 5) rfl)
theorem qw_1117 : Cond.methodLink RL 171 yX10_read ∈ wsL_law := bk_47 _ (List.mem_of_getElem? (i := 13) rfl)
theorem qw_1118 : Cond.instanceMethod yX10_read ∈ wsL_law := bk_47 _ (List.mem_of_getElem? (i := 14) rfl)
theorem qw_1119 : Cond.selects RX10 yX10_read yX10_read ∈ wsL_law := bk_47 _ (List.mem_of_getElem? (i := 15) rfl)
theorem qw_1120 : Cond.code yX10_read cX10_read 11 (some .int) ∈ wsL_law := bk_47 _ (List.mem_of_getElem? (i := 16) rfl)
theorem qw_1124 : Cond.methodLink RL 172 yX9_torn ∈ wsL_law := bk_47 _ (List.mem_of_getElem? (i := 20) rfl)
theorem qw_1125 : Cond.instanceMethod yX9_torn ∈ wsL_law := bk_47 _ (List.mem_of_getElem? (i := 21) rfl)
theorem qw_1126 : Cond.selects RX9 yX9_torn yX9_torn ∈ wsL_law := bk_47 _ (List.mem_of_getElem? (i := 22) rfl)
theorem qw_1127 : Cond.code yX9_torn cX9_torn 1 (some .int) ∈ wsL_law := bk_47 _ (List.mem_of_getElem? (i := 23) rfl)
theorem qw_1128 : Cond.methodLink RL 175 yX10_torn ∈ wsL_law := bk_48 _ (List.mem_of_getElem? (i := 0) rfl)
theorem qw_1129 : Cond.instanceMethod yX10_torn ∈ wsL_law := bk_48 _ (List.mem_of_getElem? (i := 1) rfl)
theorem qw_1130 : Cond.selects RX10 yX10_torn yX10_torn ∈ wsL_law := bk_48 _ (List.mem_of_getElem? (i := 2) rfl)
theorem qw_1131 : Cond.code yX10_torn cX10_torn 1 (some .int) ∈ wsL_law := bk_48 _ (List.mem_of_getElem? (i := 3) rfl)
theorem qw_1132 : Cond.methodLink RL 176 yX9_count ∈ wsL_law := bk_48 _ (List.mem_of_getElem? (i := 4) rfl)
theorem qw_1133 : Cond.instanceMethod yX9_count ∈ wsL_law := bk_48 _ (List.mem_of_getElem? (i := 5) rfl)
theorem qw_1134 : Cond.selects RX9 yX9_count yX9_count ∈ wsL_law := bk_48 _ (List.mem_of_getElem? (i := 6) rfl)
theorem qw_1135 : Cond.code yX9_count cX9_count 2 (some .int) ∈ wsL_law := bk_48 _ (List.mem_of_getElem? (i := 7) rfl)
theorem qw_1143 : Cond.methodLink RL 179 yX10_count ∈ wsL_law := bk_48 _ (List.mem_of_getElem? (i := 15) rfl)
theorem qw_1144 : Cond.instanceMethod yX10_count ∈ wsL_law := bk_48 _ (List.mem_of_getElem? (i := 16) rfl)
theorem qw_1145 : Cond.selects RX10 yX10_count yX10_count ∈ wsL_law := bk_48 _ (List.mem_of_getElem? (i := 17) rfl)
theorem qw_1146 : Cond.code yX10_count cX10_count 4 (some .int) ∈ wsL_law := bk_48 _ (List.mem_of_getElem? (i := 18) rfl)
theorem mk_X10_asleep : MK yX10_asleep cX10_asleep 7 (some .int) 2 := ⟨qw_705, qw_5, by decide +kernel⟩
theorem mv_X10_asleep : MV yX10_asleep := ⟨qw_703, qw_704⟩
theorem mk_X10_back : MK yX10_back cX10_back 2 (some .int) 1 := ⟨qw_1062, qw_5, by decide +kernel⟩
theorem mv_X10_back : MV yX10_back := ⟨qw_1060, qw_1061⟩
theorem mk_X10_beds : MK yX10_beds cX10_beds 6 (some .int) 1 := ⟨qw_936, qw_5, by decide +kernel⟩
theorem mv_X10_beds : MV yX10_beds := ⟨qw_934, qw_935⟩
theorem mk_X10_best : MK yX10_best cX10_best 3 (some .int) 1 := ⟨qw_908, qw_5, by decide +kernel⟩
theorem mv_X10_best : MV yX10_best := ⟨qw_906, qw_907⟩
theorem mk_X10_count : MK yX10_count cX10_count 4 (some .int) 1 := ⟨qw_1146, qw_5, by decide +kernel⟩
theorem mv_X10_count : MV yX10_count := ⟨qw_1144, qw_1145⟩
theorem mk_X10_end : MK yX10_end cX10_end 3 (some .int) 1 := ⟨qw_197, qw_5, by decide +kernel⟩
theorem mv_X10_end : MV yX10_end := ⟨qw_195, qw_196⟩
theorem mk_X10_eye : MK yX10_eye cX10_eye 3 (some .int) 2 := ⟨qw_528, qw_5, by decide +kernel⟩
theorem mv_X10_eye : MV yX10_eye := ⟨qw_526, qw_527⟩
theorem mk_X10_fault : MK yX10_fault cX10_fault 1 (some .int) 0 := ⟨qw_466, qw_5, by decide +kernel⟩
theorem mv_X10_fault : MV yX10_fault := ⟨qw_464, qw_465⟩
theorem mk_X10_feed : MK yX10_feed cX10_feed 4 (some .int) 1 := ⟨qw_186, qw_5, by decide +kernel⟩
theorem mv_X10_feed : MV yX10_feed := ⟨qw_184, qw_185⟩
theorem mk_X10_fits : MK yX10_fits cX10_fits 8 (some .int) 2 := ⟨qw_1035, qw_5, by decide +kernel⟩
theorem mv_X10_fits : MV yX10_fits := ⟨qw_1033, qw_1034⟩
theorem mk_X10_forget : MK yX10_forget cX10_forget 3 (some .int) 1 := ⟨qw_1022, qw_5, by decide +kernel⟩
theorem mv_X10_forget : MV yX10_forget := ⟨qw_1020, qw_1021⟩
theorem mk_X10_hear : MK yX10_hear cX10_hear 5 (some .int) 3 := ⟨qw_1014, qw_5, by decide +kernel⟩
theorem mv_X10_hear : MV yX10_hear := ⟨qw_1012, qw_1013⟩
theorem mk_X10_keep : MK yX10_keep cX10_keep 3 (some .int) 1 := ⟨qw_1050, qw_5, by decide +kernel⟩
theorem mv_X10_keep : MV yX10_keep := ⟨qw_1048, qw_1049⟩
theorem mk_X10_late : MK yX10_late cX10_late 9 (some .int) 3 := ⟨qw_948, qw_5, by decide +kernel⟩
theorem mv_X10_late : MV yX10_late := ⟨qw_946, qw_947⟩
theorem mk_X10_lawful : MK yX10_lawful cX10_lawful 3 (some .int) 2 := ⟨qw_679, qw_5, by decide +kernel⟩
theorem mv_X10_lawful : MV yX10_lawful := ⟨qw_677, qw_678⟩
theorem mk_X10_lay : MK yX10_lay cX10_lay 4 (some .int) 3 := ⟨qw_1105, qw_5, by decide +kernel⟩
theorem mv_X10_lay : MV yX10_lay := ⟨qw_1103, qw_1104⟩
theorem mk_X10_mean : MK yX10_mean cX10_mean 6 (some .long) 2 := ⟨qw_1004, qw_5, by decide +kernel⟩
theorem mv_X10_mean : MV yX10_mean := ⟨qw_1002, qw_1003⟩
theorem mk_X10_missed : MK yX10_missed cX10_missed 2 (some .int) 1 := ⟨qw_786, qw_5, by decide +kernel⟩
theorem mv_X10_missed : MV yX10_missed := ⟨qw_784, qw_785⟩
theorem mk_X10_need : MK yX10_need cX10_need 4 (some .int) 2 := ⟨qw_599, qw_5, by decide +kernel⟩
theorem mv_X10_need : MV yX10_need := ⟨qw_597, qw_598⟩
theorem mk_X10_needed : MK yX10_needed cX10_needed 3 (some .int) 2 := ⟨qw_553, qw_5, by decide +kernel⟩
theorem mv_X10_needed : MV yX10_needed := ⟨qw_551, qw_552⟩
theorem mk_X10_odds : MK yX10_odds cX10_odds 4 (some .long) 3 := ⟨qw_984, qw_5, by decide +kernel⟩
theorem mv_X10_odds : MV yX10_odds := ⟨qw_982, qw_983⟩
theorem mk_X10_open : MK yX10_open cX10_open 2 (some .int) 1 := ⟨qw_770, qw_5, by decide +kernel⟩
theorem mv_X10_open : MV yX10_open := ⟨qw_768, qw_769⟩
theorem mk_X10_read : MK yX10_read cX10_read 11 (some .int) 4 := ⟨qw_1120, qw_5, by decide +kernel⟩
theorem mv_X10_read : MV yX10_read := ⟨qw_1118, qw_1119⟩
theorem mk_X10_rest : MK yX10_rest cX10_rest 4 (some .int) 1 := ⟨qw_806, qw_5, by decide +kernel⟩
theorem mv_X10_rest : MV yX10_rest := ⟨qw_804, qw_805⟩
theorem mk_X10_round : MK yX10_round cX10_round 5 (some .int) 1 := ⟨qw_826, qw_5, by decide +kernel⟩
theorem mv_X10_round : MV yX10_round := ⟨qw_824, qw_825⟩
theorem mk_X10_rule : MK yX10_rule cX10_rule 2 (some .int) 1 := ⟨qw_476, qw_5, by decide +kernel⟩
theorem mv_X10_rule : MV yX10_rule := ⟨qw_474, qw_475⟩
theorem mk_X10_sees : MK yX10_sees cX10_sees 3 (some .int) 2 := ⟨qw_646, qw_5, by decide +kernel⟩
theorem mv_X10_sees : MV yX10_sees := ⟨qw_644, qw_645⟩
theorem mk_X10_sheet : MK yX10_sheet cX10_sheet 5 (some .int) 3 := ⟨qw_1081, qw_5, by decide +kernel⟩
theorem mv_X10_sheet : MV yX10_sheet := ⟨qw_1079, qw_1080⟩
theorem mk_X10_sister : MK yX10_sister cX10_sister 3 (some .int) 2 := ⟨qw_493, qw_5, by decide +kernel⟩
theorem mv_X10_sister : MV yX10_sister := ⟨qw_491, qw_492⟩
theorem mk_X10_storm : MK yX10_storm cX10_storm 5 (some .int) 3 := ⟨qw_608, qw_5, by decide +kernel⟩
theorem mv_X10_storm : MV yX10_storm := ⟨qw_606, qw_607⟩
theorem mk_X10_text : MK yX10_text cX10_text 2 (some .int) 0 := ⟨qw_387, qw_5, by decide +kernel⟩
theorem mv_X10_text : MV yX10_text := ⟨qw_385, qw_386⟩
theorem mk_X10_tire : MK yX10_tire cX10_tire 4 (some .int) 2 := ⟨qw_625, qw_5, by decide +kernel⟩
theorem mv_X10_tire : MV yX10_tire := ⟨qw_623, qw_624⟩
theorem mk_X10_tired : MK yX10_tired cX10_tired 3 (some .int) 2 := ⟨qw_749, qw_5, by decide +kernel⟩
theorem mv_X10_tired : MV yX10_tired := ⟨qw_747, qw_748⟩
theorem mk_X10_torn : MK yX10_torn cX10_torn 1 (some .int) 0 := ⟨qw_1131, qw_5, by decide +kernel⟩
theorem mv_X10_torn : MV yX10_torn := ⟨qw_1129, qw_1130⟩
theorem mk_X10_turn : MK yX10_turn cX10_turn 4 (some .int) 2 := ⟨qw_616, qw_5, by decide +kernel⟩
theorem mv_X10_turn : MV yX10_turn := ⟨qw_614, qw_615⟩
theorem mk_X10_watch : MK yX10_watch cX10_watch 2 (some .int) 1 := ⟨qw_574, qw_5, by decide +kernel⟩
theorem mv_X10_watch : MV yX10_watch := ⟨qw_572, qw_573⟩
theorem mk_X10_without : MK yX10_without cX10_without 3 (some .int) 1 := ⟨qw_924, qw_5, by decide +kernel⟩
theorem mv_X10_without : MV yX10_without := ⟨qw_922, qw_923⟩
theorem mk_X10_wreck : MK yX10_wreck cX10_wreck 2 (some .int) 0 := ⟨qw_798, qw_5, by decide +kernel⟩
theorem mv_X10_wreck : MV yX10_wreck := ⟨qw_796, qw_797⟩
theorem mk_X9_asleep : MK yX9_asleep cX9_asleep 7 (some .int) 2 := ⟨qw_691, qw_2, by decide +kernel⟩
theorem mv_X9_asleep : MV yX9_asleep := ⟨qw_689, qw_690⟩
theorem mk_X9_back : MK yX9_back cX9_back 2 (some .int) 1 := ⟨qw_1058, qw_2, by decide +kernel⟩
theorem mv_X9_back : MV yX9_back := ⟨qw_1056, qw_1057⟩
theorem mk_X9_beds : MK yX9_beds cX9_beds 7 (some .int) 1 := ⟨qw_928, qw_2, by decide +kernel⟩
theorem mv_X9_beds : MV yX9_beds := ⟨qw_926, qw_927⟩
theorem mk_X9_best : MK yX9_best cX9_best 3 (some .int) 1 := ⟨qw_859, qw_2, by decide +kernel⟩
theorem mv_X9_best : MV yX9_best := ⟨qw_857, qw_858⟩
theorem mk_X9_count : MK yX9_count cX9_count 2 (some .int) 1 := ⟨qw_1135, qw_2, by decide +kernel⟩
theorem mv_X9_count : MV yX9_count := ⟨qw_1133, qw_1134⟩
theorem mk_X9_end : MK yX9_end cX9_end 3 (some .int) 1 := ⟨qw_192, qw_2, by decide +kernel⟩
theorem mv_X9_end : MV yX9_end := ⟨qw_190, qw_191⟩
theorem mk_X9_eye : MK yX9_eye cX9_eye 3 (some .int) 2 := ⟨qw_501, qw_2, by decide +kernel⟩
theorem mv_X9_eye : MV yX9_eye := ⟨qw_499, qw_500⟩
theorem mk_X9_fault : MK yX9_fault cX9_fault 1 (some .int) 0 := ⟨qw_461, qw_2, by decide +kernel⟩
theorem mv_X9_fault : MV yX9_fault := ⟨qw_459, qw_460⟩
theorem mk_X9_feed : MK yX9_feed cX9_feed 3 (some .int) 1 := ⟨qw_178, qw_2, by decide +kernel⟩
theorem mv_X9_feed : MV yX9_feed := ⟨qw_176, qw_177⟩
theorem mk_X9_fits : MK yX9_fits cX9_fits 8 (some .int) 2 := ⟨qw_1026, qw_2, by decide +kernel⟩
theorem mv_X9_fits : MV yX9_fits := ⟨qw_1024, qw_1025⟩
theorem mk_X9_forget : MK yX9_forget cX9_forget 3 (some .int) 1 := ⟨qw_1018, qw_2, by decide +kernel⟩
theorem mv_X9_forget : MV yX9_forget := ⟨qw_1016, qw_1017⟩
theorem mk_X9_hear : MK yX9_hear cX9_hear 4 (some .int) 3 := ⟨qw_1008, qw_2, by decide +kernel⟩
theorem mv_X9_hear : MV yX9_hear := ⟨qw_1006, qw_1007⟩
theorem mk_X9_keep : MK yX9_keep cX9_keep 3 (some .int) 1 := ⟨qw_1043, qw_2, by decide +kernel⟩
theorem mv_X9_keep : MV yX9_keep := ⟨qw_1041, qw_1042⟩
theorem mk_X9_late : MK yX9_late cX9_late 10 (some .int) 3 := ⟨qw_940, qw_2, by decide +kernel⟩
theorem mv_X9_late : MV yX9_late := ⟨qw_938, qw_939⟩
theorem mk_X9_lawful : MK yX9_lawful cX9_lawful 3 (some .int) 2 := ⟨qw_666, qw_2, by decide +kernel⟩
theorem mv_X9_lawful : MV yX9_lawful := ⟨qw_664, qw_665⟩
theorem mk_X9_lay : MK yX9_lay cX9_lay 5 (some .int) 3 := ⟨qw_1089, qw_2, by decide +kernel⟩
theorem mv_X9_lay : MV yX9_lay := ⟨qw_1087, qw_1088⟩
theorem mk_X9_mean : MK yX9_mean cX9_mean 6 (some .long) 2 := ⟨qw_1000, qw_2, by decide +kernel⟩
theorem mv_X9_mean : MV yX9_mean := ⟨qw_998, qw_999⟩
theorem mk_X9_missed : MK yX9_missed cX9_missed 2 (some .int) 1 := ⟨qw_778, qw_2, by decide +kernel⟩
theorem mv_X9_missed : MV yX9_missed := ⟨qw_776, qw_777⟩
theorem mk_X9_need : MK yX9_need cX9_need 4 (some .int) 2 := ⟨qw_595, qw_2, by decide +kernel⟩
theorem mv_X9_need : MV yX9_need := ⟨qw_593, qw_594⟩
theorem mk_X9_needed : MK yX9_needed cX9_needed 3 (some .int) 2 := ⟨qw_540, qw_2, by decide +kernel⟩
theorem mv_X9_needed : MV yX9_needed := ⟨qw_538, qw_539⟩
theorem mk_X9_odds : MK yX9_odds cX9_odds 4 (some .long) 3 := ⟨qw_956, qw_2, by decide +kernel⟩
theorem mv_X9_odds : MV yX9_odds := ⟨qw_954, qw_955⟩
theorem mk_X9_open : MK yX9_open cX9_open 2 (some .int) 1 := ⟨qw_765, qw_2, by decide +kernel⟩
theorem mv_X9_open : MV yX9_open := ⟨qw_763, qw_764⟩
theorem mk_X9_read : MK yX9_read cX9_read 9 (some .int) 4 := ⟨qw_1109, qw_2, by decide +kernel⟩
theorem mv_X9_read : MV yX9_read := ⟨qw_1107, qw_1108⟩
theorem mk_X9_rest : MK yX9_rest cX9_rest 4 (some .int) 1 := ⟨qw_802, qw_2, by decide +kernel⟩
theorem mv_X9_rest : MV yX9_rest := ⟨qw_800, qw_801⟩
theorem mk_X9_round : MK yX9_round cX9_round 3 (some .int) 1 := ⟨qw_810, qw_2, by decide +kernel⟩
theorem mv_X9_round : MV yX9_round := ⟨qw_808, qw_809⟩
theorem mk_X9_rule : MK yX9_rule cX9_rule 2 (some .int) 1 := ⟨qw_470, qw_2, by decide +kernel⟩
theorem mv_X9_rule : MV yX9_rule := ⟨qw_468, qw_469⟩
theorem mk_X9_sees : MK yX9_sees cX9_sees 3 (some .int) 2 := ⟨qw_634, qw_2, by decide +kernel⟩
theorem mv_X9_sees : MV yX9_sees := ⟨qw_632, qw_633⟩
theorem mk_X9_sheet : MK yX9_sheet cX9_sheet 4 (some .int) 3 := ⟨qw_1066, qw_2, by decide +kernel⟩
theorem mv_X9_sheet : MV yX9_sheet := ⟨qw_1064, qw_1065⟩
theorem mk_X9_sister : MK yX9_sister cX9_sister 3 (some .int) 2 := ⟨qw_480, qw_2, by decide +kernel⟩
theorem mv_X9_sister : MV yX9_sister := ⟨qw_478, qw_479⟩
theorem mk_X9_storm : MK yX9_storm cX9_storm 5 (some .int) 3 := ⟨qw_604, qw_2, by decide +kernel⟩
theorem mv_X9_storm : MV yX9_storm := ⟨qw_602, qw_603⟩
theorem mk_X9_tell : MK yX9_tell cX9_tell 4 (some .int) 2 := ⟨qw_578, qw_2, by decide +kernel⟩
theorem mv_X9_tell : MV yX9_tell := ⟨qw_576, qw_577⟩
theorem mk_X9_text : MK yX9_text cX9_text 2 (some .int) 0 := ⟨qw_204, qw_2, by decide +kernel⟩
theorem mv_X9_text : MV yX9_text := ⟨qw_202, qw_203⟩
theorem mk_X9_tire : MK yX9_tire cX9_tire 4 (some .int) 2 := ⟨qw_620, qw_2, by decide +kernel⟩
theorem mv_X9_tire : MV yX9_tire := ⟨qw_618, qw_619⟩
theorem mk_X9_tired : MK yX9_tired cX9_tired 3 (some .int) 2 := ⟨qw_719, qw_2, by decide +kernel⟩
theorem mv_X9_tired : MV yX9_tired := ⟨qw_717, qw_718⟩
theorem mk_X9_torn : MK yX9_torn cX9_torn 1 (some .int) 0 := ⟨qw_1127, qw_2, by decide +kernel⟩
theorem mv_X9_torn : MV yX9_torn := ⟨qw_1125, qw_1126⟩
theorem mk_X9_turn : MK yX9_turn cX9_turn 4 (some .int) 2 := ⟨qw_612, qw_2, by decide +kernel⟩
theorem mv_X9_turn : MV yX9_turn := ⟨qw_610, qw_611⟩
theorem mk_X9_watch : MK yX9_watch cX9_watch 2 (some .int) 1 := ⟨qw_569, qw_2, by decide +kernel⟩
theorem mv_X9_watch : MV yX9_watch := ⟨qw_567, qw_568⟩
theorem mk_X9_without : MK yX9_without cX9_without 3 (some .int) 1 := ⟨qw_920, qw_2, by decide +kernel⟩
theorem mv_X9_without : MV yX9_without := ⟨qw_918, qw_919⟩
theorem mk_X9_wreck : MK yX9_wreck cX9_wreck 2 (some .int) 0 := ⟨qw_794, qw_2, by decide +kernel⟩
theorem mv_X9_wreck : MV yX9_wreck := ⟨qw_792, qw_793⟩
def SCR (ad : Nat → Nat) (A : Nat → Prop) (s : State) (Ln : Nat) (xs : Nat → Int32) : Prop := va_X (ad 103) Ln xs s s.heap ∧ ad 103 < s.heap.size ∧ ¬ A (ad 103)
theorem wa_sclen {R : Room} {A : Nat → Prop} {kc ks : Nat} {Z : State → Prop} {p : Program} {l : Launch} {e : Env} {s : State} {m : MethodId} {args : Array Value} {below : List Frame} {meth : Method} {c : Code} {D : va_G} {cy : Nat → ClassId} {ad : Nat → Nat} {cc : ByteArray} {nL : Nat} {own : String} {ret : Option FieldType} {μ : Mem} {ls : List (Nat × Value)} {pc : Nat} {rest : List Value} (C : CX p s m args meth c cc nL own ret D cy ad A) {xs : Nat → Int32} {Ln : Nat} (hX : SCR ad A s Ln xs) (hdg : decode cc pc = .ok (.arraylength, 1)) (kk : WA p l e R s m args below meth c nL D cy ad A kc ks Z μ ls (pc + 1) (.int (nI Ln) :: rest)) : WA p l e R s m args below meth c nL D cy ad A kc ks Z μ ls pc (.ref 103 :: rest) := fun H locs la hP hS hl => va_slen C.1 C.2.1 hX.1 hX.2.1 hX.2.2 hS hdg (kk H locs la hP hS hl)
theorem wa_scld {R : Room} {A : Nat → Prop} {kc ks : Nat} {Z : State → Prop} {p : Program} {l : Launch} {e : Env} {s : State} {m : MethodId} {args : Array Value} {below : List Frame} {meth : Method} {c : Code} {D : va_G} {cy : Nat → ClassId} {ad : Nat → Nat} {cc : ByteArray} {nL : Nat} {own : String} {ret : Option FieldType} {μ : Mem} {ls : List (Nat × Value)} {pc : Nat} {rest : List Value} (C : CX p s m args meth c cc nL own ret D cy ad A) {xs : Nat → Int32} {Ln : Nat} (hX : SCR ad A s Ln xs) {i : Int32} (hin : inb i Ln = true) (hdg : decode cc pc = .ok (.iaload, 1)) (kk : WA p l e R s m args below meth c nL D cy ad A kc ks Z μ ls (pc + 1) (.int (xs i.toNatClampNeg) :: rest)) : WA p l e R s m args below meth c nL D cy ad A kc ks Z μ ls pc (.int i :: .ref 103 :: rest) := fun H locs la hP hS hl => va_sld C.1 C.2.1 hX.1 hX.2.1 hX.2.2 hS (inb_in hin) hdg (kk H locs la hP hS hl)
def f_X10_init_L141 (k141 : Int32 → Mem → Option Mem) (a1 : Int32) (μ : Mem) : Option Mem :=
    if (4 : Int32) ≤ a1 then
      (f_X10_firstDraft_62 μ).bind fun q2 =>
      (f_X10_keepDraft_62 q2).bind fun q3 =>
      some q3
    else
      if inb a1 4 = false then none else
      k141 (a1 + 1) (pI μ 76 (a1.toNatClampNeg) (-4 : Int32))
def f_X10_initR (μ : Mem) : Option Mem :=
  it2 (f_X10_init_L141) FU (0 : Int32) μ
set_option maxRecDepth 100000 in
set_option maxHeartbeats 8000000 in
theorem r_X10_init_L141 {p : Program} {l : Launch} {e : Env} {s : State} {m : MethodId} {args : Array Value} {below : List Frame} {meth : Method} {c : Code} {D : va_G} {cy : Nat → ClassId} {ad : Nat → Nat} {R : Room} {A : Nat → Prop} {kc ks : Nat} {Z : State → Prop} (C : CX p s m args meth c cX10_init 2 RX10 none D cy ad A) {ρ : Mem} (hRr : 100 ≤ R.frames ∧ 6000 ≤ R.locals) (hcs : kc ≤ R.cells ∧ ks ≤ R.slots) (hret : ∀ (ls : List (Nat × Value)), WA p l e R s m args below meth c 2 D cy ad A kc ks Z ρ ls 168 []) : ∀ (n : Nat) (a1 : Int32) (μ : Mem), it2 (f_X10_init_L141) n a1 μ = some ρ → WA p l e R s m args below meth c 2 D cy ad A kc ks Z μ [(0, .ref 62), (1, .int a1)] 141 [] := by
  intro n
  induction n with
  | zero =>
    intro a1 μ h
    exact absurd h (fun h => by cases h)
  | succ n ih =>
    intro a1 μ h
    replace h : f_X10_init_L141 (it2 (f_X10_init_L141) n) a1 μ = some ρ := h
    unfold f_X10_init_L141 at h
    refine wa_iload_n C dX10_init_141 rfl ?_
    refine wa_iconst (v := 4) C dX10_init_142 (by decide) ?_
    refine wa_icmp_ge (tgt := 160) C dX10_init_143 (by decide) (fun c1 => ?_) (fun c1 => ?_)
    · replace h := (if_pos c1).symm.trans h
      refine wa_aload_n C dX10_init_160 rfl ?_
      obtain ⟨q2, hq2, h⟩ := bd h
      refine wa_callV C (r_X10_firstDraft_62 hq2) mk_X10_firstDraft mv_X10_firstDraft qw_153 rfl (by decide) rfl rfl ⟨Nat.le_trans (Nat.le_of_ble_eq_true rfl) hRr.1, Nat.le_trans (Nat.le_of_ble_eq_true rfl) hRr.2⟩ hcs (Nat.le_of_ble_eq_true rfl) dX10_init_161 rfl ?_
      refine wa_aload_n C dX10_init_164 rfl ?_
      obtain ⟨q3, hq3, h⟩ := bd h
      refine wa_callV C (r_X10_keepDraft_62 hq3) mk_X10_keepDraft mv_X10_keepDraft qw_165 rfl (by decide) rfl rfl ⟨Nat.le_trans (Nat.le_of_ble_eq_true rfl) hRr.1, Nat.le_trans (Nat.le_of_ble_eq_true rfl) hRr.2⟩ hcs (Nat.le_of_ble_eq_true rfl) dX10_init_165 rfl ?_
      obtain rfl := Option.some.inj h
      exact hret _
    · replace h := (if_neg c1).symm.trans h
      refine wa_aload_n C dX10_init_146 rfl ?_
      refine wa_getr C fl_RX10_50 rfl rfl (by decide) dX10_init_147 ?_
      refine wa_iload_n C dX10_init_150 rfl ?_
      refine wa_bipush (v := -4) C dX10_init_151 (by decide) ?_
      obtain ⟨g4, h⟩ := gd h
      refine wa_iast (j := (a1.toNatClampNeg)) C rfl (by decide) g4 rfl dX10_init_153 ?_
      refine wa_iinc (v := (a1 + 1)) C dX10_init_154 rfl rfl (by decide) ?_
      refine wa_goto (tgt := 141) C dX10_init_157 (by decide) ?_
      exact WA.sub (lsub_c rfl (lsub_c rfl lsub_n)) (ih _ _ h)
set_option maxRecDepth 100000 in
set_option maxHeartbeats 8000000 in
theorem r_X10_initR {p : Program} {l : Launch} {e : Env} {s : State} {m : MethodId} {args : Array Value} {below : List Frame} {meth : Method} {c : Code} {D : va_G} {cy : Nat → ClassId} {ad : Nat → Nat} {R : Room} {A : Nat → Prop} {kc ks : Nat} {Z : State → Prop} (C : CX p s m args meth c cX10_init 2 RX10 none D cy ad A) {μ : Mem} {ρ : Mem} (hRr : 100 ≤ R.frames ∧ 6000 ≤ R.locals) (hcs : kc ≤ R.cells ∧ ks ≤ R.slots) (hret : ∀ (ls : List (Nat × Value)), WA p l e R s m args below meth c 2 D cy ad A kc ks Z ρ ls 168 []) (h : f_X10_initR μ = some ρ) : WA p l e R s m args below meth c 2 D cy ad A kc ks Z μ [(0, .ref 62)] 139 [] := by
  unfold f_X10_initR at h
  refine wa_iconst (v := 0) C dX10_init_139 (by decide) ?_
  refine wa_istore_n C dX10_init_140 (by decide) ?_
  exact WA.sub (lsub_c rfl (lsub_c rfl lsub_n)) (r_X10_init_L141 C  hRr hcs hret _ _ _ h)
def f_L_law_J1405 (xs : Nat → Int32) (Ln : Nat) (k18 : Int32 → Mem → Option (Int32 × Mem)) (a3 : Int32) (μ : Mem) : Option (Int32 × Mem) :=
  k18 (a3 + 5) μ
def f_L_law_J568 (xs : Nat → Int32) (Ln : Nat) (k18 : Int32 → Mem → Option (Int32 × Mem)) (a3 : Int32) (t0 : Int32) (t2 : Int32) (t3 : Int32) (t4 : Int32) (μ : Mem) : Option (Int32 × Mem) :=
  (f_X10_storm_62 t2 t3 t4 μ).bind fun q87 =>
  if t0 = q87.1 then
    f_L_law_J1405 xs Ln k18 a3 q87.2
  else
    some ((0 : Int32), q87.2)
def f_L_law_J541 (xs : Nat → Int32) (Ln : Nat) (k18 : Int32 → Mem → Option (Int32 × Mem)) (a3 : Int32) (t1 : Int32) (t2 : Int32) (t3 : Int32) (μ : Mem) : Option (Int32 × Mem) :=
  (f_X9_storm_0 t1 t2 t3 μ).bind fun q82 =>
  if inb (a3 + (1 : Int32)) Ln = false then none else
  if inb (a3 + (2 : Int32)) Ln = false then none else
  if inb (a3 + (3 : Int32)) Ln = false then none else
  if (xs ((a3 + (3 : Int32)).toNatClampNeg)) = 0 then
    f_L_law_J568 xs Ln k18 a3 q82.1 (xs ((a3 + (1 : Int32)).toNatClampNeg)) (xs ((a3 + (2 : Int32)).toNatClampNeg)) (0 : Int32) q82.2
  else
    f_L_law_J568 xs Ln k18 a3 q82.1 (xs ((a3 + (1 : Int32)).toNatClampNeg)) (xs ((a3 + (2 : Int32)).toNatClampNeg)) (1 : Int32) q82.2
def f_L_law_J1120 (xs : Nat → Int32) (Ln : Nat) (k18 : Int32 → Mem → Option (Int32 × Mem)) (a3 : Int32) (t0 : Int32) (t2 : Int32) (t3 : Int32) (t4 : Int32) (μ : Mem) : Option (Int32 × Mem) :=
  (f_X10_hear_62 t2 t3 t4 μ).bind fun q221 =>
  if t0 = q221.1 then
    f_L_law_J1405 xs Ln k18 a3 q221.2
  else
    some ((0 : Int32), q221.2)
def f_L_law_J1093 (xs : Nat → Int32) (Ln : Nat) (k18 : Int32 → Mem → Option (Int32 × Mem)) (a3 : Int32) (t1 : Int32) (t2 : Int32) (t3 : Int32) (μ : Mem) : Option (Int32 × Mem) :=
  (f_X9_hear_0 t1 t2 t3 μ).bind fun q216 =>
  if inb (a3 + (1 : Int32)) Ln = false then none else
  if inb (a3 + (2 : Int32)) Ln = false then none else
  if inb (a3 + (3 : Int32)) Ln = false then none else
  if (xs ((a3 + (3 : Int32)).toNatClampNeg)) = 0 then
    f_L_law_J1120 xs Ln k18 a3 q216.1 (xs ((a3 + (1 : Int32)).toNatClampNeg)) (xs ((a3 + (2 : Int32)).toNatClampNeg)) (0 : Int32) q216.2
  else
    f_L_law_J1120 xs Ln k18 a3 q216.1 (xs ((a3 + (1 : Int32)).toNatClampNeg)) (xs ((a3 + (2 : Int32)).toNatClampNeg)) (1 : Int32) q216.2
def f_L_law_L18 (xs : Nat → Int32) (Ln : Nat) (k18 : Int32 → Mem → Option (Int32 × Mem)) (a3 : Int32) (μ : Mem) : Option (Int32 × Mem) :=
    if ((nI Ln) - (5 : Int32)) < a3 then
      some ((1 : Int32), μ)
    else
      if inb a3 Ln = false then none else
      if ((xs (a3.toNatClampNeg)) &&& (63 : Int32)) = 0 then
        if inb (a3 + (1 : Int32)) Ln = false then none else
        if inb (a3 + (2 : Int32)) Ln = false then none else
        (f_X9_feed_0 ((((xs ((a3 + (1 : Int32)).toNatClampNeg)).toInt64) <<< ((32 : Int32).toInt64 &&& 63)) ||| (((xs ((a3 + (2 : Int32)).toNatClampNeg)).toInt64) &&& (4294967295 : Int64))) μ).bind fun q6 =>
        if inb (a3 + (1 : Int32)) Ln = false then none else
        if inb (a3 + (2 : Int32)) Ln = false then none else
        (f_X10_feed_62 ((((xs ((a3 + (1 : Int32)).toNatClampNeg)).toInt64) <<< ((32 : Int32).toInt64 &&& 63)) ||| (((xs ((a3 + (2 : Int32)).toNatClampNeg)).toInt64) &&& (4294967295 : Int64))) q6.2).bind fun q9 =>
        if q6.1 = q9.1 then
          f_L_law_J1405 xs Ln k18 a3 q9.2
        else
          some ((0 : Int32), q9.2)
      else
      if ((xs (a3.toNatClampNeg)) &&& (63 : Int32)) = 1 then
        if inb (a3 + (1 : Int32)) Ln = false then none else
        (f_X9_end_0 (xs ((a3 + (1 : Int32)).toNatClampNeg)) μ).bind fun q13 =>
        if inb (a3 + (1 : Int32)) Ln = false then none else
        (f_X10_end_62 (xs ((a3 + (1 : Int32)).toNatClampNeg)) q13.2).bind fun q15 =>
        if q13.1 = q15.1 then
          f_L_law_J1405 xs Ln k18 a3 q15.2
        else
          some ((0 : Int32), q15.2)
      else
      if ((xs (a3.toNatClampNeg)) &&& (63 : Int32)) = 2 then
        (f_X9_text_0 μ).bind fun q18 =>
        (f_X10_text_62 q18.2).bind fun q19 =>
        if q18.1 = q19.1 then
          f_L_law_J1405 xs Ln k18 a3 q19.2
        else
          some ((0 : Int32), q19.2)
      else
      if ((xs (a3.toNatClampNeg)) &&& (63 : Int32)) = 3 then
        (f_X9_fault_0 μ).bind fun q22 =>
        (f_X10_fault_62 q22.2).bind fun q23 =>
        if q22.1 = q23.1 then
          f_L_law_J1405 xs Ln k18 a3 q23.2
        else
          some ((0 : Int32), q23.2)
      else
      if ((xs (a3.toNatClampNeg)) &&& (63 : Int32)) = 4 then
        if inb (a3 + (1 : Int32)) Ln = false then none else
        (f_X9_rule_0 (xs ((a3 + (1 : Int32)).toNatClampNeg)) μ).bind fun q27 =>
        if inb (a3 + (1 : Int32)) Ln = false then none else
        (f_X10_rule_62 (xs ((a3 + (1 : Int32)).toNatClampNeg)) q27.2).bind fun q29 =>
        if q27.1 = q29.1 then
          f_L_law_J1405 xs Ln k18 a3 q29.2
        else
          some ((0 : Int32), q29.2)
      else
      if ((xs (a3.toNatClampNeg)) &&& (63 : Int32)) = 5 then
        if inb (a3 + (1 : Int32)) Ln = false then none else
        if inb (a3 + (2 : Int32)) Ln = false then none else
        (f_X9_sister_0 (xs ((a3 + (1 : Int32)).toNatClampNeg)) (xs ((a3 + (2 : Int32)).toNatClampNeg)) μ).bind fun q34 =>
        if inb (a3 + (1 : Int32)) Ln = false then none else
        if inb (a3 + (2 : Int32)) Ln = false then none else
        (f_X10_sister_62 (xs ((a3 + (1 : Int32)).toNatClampNeg)) (xs ((a3 + (2 : Int32)).toNatClampNeg)) q34.2).bind fun q37 =>
        if q34.1 = q37.1 then
          f_L_law_J1405 xs Ln k18 a3 q37.2
        else
          some ((0 : Int32), q37.2)
      else
      if ((xs (a3.toNatClampNeg)) &&& (63 : Int32)) = 6 then
        if inb (a3 + (1 : Int32)) Ln = false then none else
        if inb (a3 + (2 : Int32)) Ln = false then none else
        (f_X9_eye_0 (xs ((a3 + (1 : Int32)).toNatClampNeg)) (xs ((a3 + (2 : Int32)).toNatClampNeg)) μ).bind fun q42 =>
        if inb (a3 + (1 : Int32)) Ln = false then none else
        if inb (a3 + (2 : Int32)) Ln = false then none else
        (f_X10_eye_62 (xs ((a3 + (1 : Int32)).toNatClampNeg)) (xs ((a3 + (2 : Int32)).toNatClampNeg)) q42.2).bind fun q45 =>
        if q42.1 = q45.1 then
          f_L_law_J1405 xs Ln k18 a3 q45.2
        else
          some ((0 : Int32), q45.2)
      else
      if ((xs (a3.toNatClampNeg)) &&& (63 : Int32)) = 7 then
        if inb (a3 + (1 : Int32)) Ln = false then none else
        if inb (a3 + (2 : Int32)) Ln = false then none else
        (f_X9_needed_0 (xs ((a3 + (1 : Int32)).toNatClampNeg)) (xs ((a3 + (2 : Int32)).toNatClampNeg)) μ).bind fun q50 =>
        if inb (a3 + (1 : Int32)) Ln = false then none else
        if inb (a3 + (2 : Int32)) Ln = false then none else
        (f_X10_needed_62 (xs ((a3 + (1 : Int32)).toNatClampNeg)) (xs ((a3 + (2 : Int32)).toNatClampNeg)) q50.2).bind fun q53 =>
        if q50.1 = q53.1 then
          f_L_law_J1405 xs Ln k18 a3 q53.2
        else
          some ((0 : Int32), q53.2)
      else
      if ((xs (a3.toNatClampNeg)) &&& (63 : Int32)) = 8 then
        if inb (a3 + (1 : Int32)) Ln = false then none else
        (f_X9_watch_0 (xs ((a3 + (1 : Int32)).toNatClampNeg)) μ).bind fun q57 =>
        if inb (a3 + (1 : Int32)) Ln = false then none else
        (f_X10_watch_62 (xs ((a3 + (1 : Int32)).toNatClampNeg)) q57.2).bind fun q59 =>
        if q57.1 = q59.1 then
          f_L_law_J1405 xs Ln k18 a3 q59.2
        else
          some ((0 : Int32), q59.2)
      else
      if ((xs (a3.toNatClampNeg)) &&& (63 : Int32)) = 9 then
        if inb (a3 + (1 : Int32)) Ln = false then none else
        if inb (a3 + (2 : Int32)) Ln = false then none else
        (f_X9_tell_0 (xs ((a3 + (1 : Int32)).toNatClampNeg)) (xs ((a3 + (2 : Int32)).toNatClampNeg)) μ).bind fun q64 =>
        if inb (a3 + (1 : Int32)) Ln = false then none else
        if inb (a3 + (2 : Int32)) Ln = false then none else
        (f_X10_tell_62 (xs ((a3 + (1 : Int32)).toNatClampNeg)) (xs ((a3 + (2 : Int32)).toNatClampNeg)) q64.2).bind fun q67 =>
        if q64.1 = q67.1 then
          f_L_law_J1405 xs Ln k18 a3 q67.2
        else
          some ((0 : Int32), q67.2)
      else
      if ((xs (a3.toNatClampNeg)) &&& (63 : Int32)) = 10 then
        if inb (a3 + (1 : Int32)) Ln = false then none else
        if inb (a3 + (2 : Int32)) Ln = false then none else
        (f_X9_need_0 (xs ((a3 + (1 : Int32)).toNatClampNeg)) (xs ((a3 + (2 : Int32)).toNatClampNeg)) μ).bind fun q72 =>
        if inb (a3 + (1 : Int32)) Ln = false then none else
        if inb (a3 + (2 : Int32)) Ln = false then none else
        (f_X10_need_62 (xs ((a3 + (1 : Int32)).toNatClampNeg)) (xs ((a3 + (2 : Int32)).toNatClampNeg)) q72.2).bind fun q75 =>
        if q72.1 = q75.1 then
          f_L_law_J1405 xs Ln k18 a3 q75.2
        else
          some ((0 : Int32), q75.2)
      else
      if ((xs (a3.toNatClampNeg)) &&& (63 : Int32)) = 11 then
        if inb (a3 + (1 : Int32)) Ln = false then none else
        if inb (a3 + (2 : Int32)) Ln = false then none else
        if inb (a3 + (3 : Int32)) Ln = false then none else
        if (xs ((a3 + (3 : Int32)).toNatClampNeg)) = 0 then
          f_L_law_J541 xs Ln k18 a3 (xs ((a3 + (1 : Int32)).toNatClampNeg)) (xs ((a3 + (2 : Int32)).toNatClampNeg)) (0 : Int32) μ
        else
          f_L_law_J541 xs Ln k18 a3 (xs ((a3 + (1 : Int32)).toNatClampNeg)) (xs ((a3 + (2 : Int32)).toNatClampNeg)) (1 : Int32) μ
      else
      if ((xs (a3.toNatClampNeg)) &&& (63 : Int32)) = 12 then
        if inb (a3 + (1 : Int32)) Ln = false then none else
        if inb (a3 + (2 : Int32)) Ln = false then none else
        (f_X9_turn_0 (xs ((a3 + (1 : Int32)).toNatClampNeg)) (xs ((a3 + (2 : Int32)).toNatClampNeg)) μ).bind fun q92 =>
        if inb (a3 + (1 : Int32)) Ln = false then none else
        if inb (a3 + (2 : Int32)) Ln = false then none else
        (f_X10_turn_62 (xs ((a3 + (1 : Int32)).toNatClampNeg)) (xs ((a3 + (2 : Int32)).toNatClampNeg)) q92.2).bind fun q95 =>
        if q92.1 = q95.1 then
          f_L_law_J1405 xs Ln k18 a3 q95.2
        else
          some ((0 : Int32), q95.2)
      else
      if ((xs (a3.toNatClampNeg)) &&& (63 : Int32)) = 13 then
        if inb (a3 + (1 : Int32)) Ln = false then none else
        if inb (a3 + (2 : Int32)) Ln = false then none else
        (f_X9_tire_0 (xs ((a3 + (1 : Int32)).toNatClampNeg)) (xs ((a3 + (2 : Int32)).toNatClampNeg)) μ).bind fun q100 =>
        if inb (a3 + (1 : Int32)) Ln = false then none else
        if inb (a3 + (2 : Int32)) Ln = false then none else
        (f_X10_tire_62 (xs ((a3 + (1 : Int32)).toNatClampNeg)) (xs ((a3 + (2 : Int32)).toNatClampNeg)) q100.2).bind fun q103 =>
        if q100.1 = q103.1 then
          f_L_law_J1405 xs Ln k18 a3 q103.2
        else
          some ((0 : Int32), q103.2)
      else
      if ((xs (a3.toNatClampNeg)) &&& (63 : Int32)) = 14 then
        if inb (a3 + (1 : Int32)) Ln = false then none else
        if inb (a3 + (2 : Int32)) Ln = false then none else
        (f_X9_sees_0 (xs ((a3 + (1 : Int32)).toNatClampNeg)) (xs ((a3 + (2 : Int32)).toNatClampNeg)) μ).bind fun q108 =>
        if inb (a3 + (1 : Int32)) Ln = false then none else
        if inb (a3 + (2 : Int32)) Ln = false then none else
        (f_X10_sees_62 (xs ((a3 + (1 : Int32)).toNatClampNeg)) (xs ((a3 + (2 : Int32)).toNatClampNeg)) q108.2).bind fun q111 =>
        if q108.1 = q111.1 then
          f_L_law_J1405 xs Ln k18 a3 q111.2
        else
          some ((0 : Int32), q111.2)
      else
      if ((xs (a3.toNatClampNeg)) &&& (63 : Int32)) = 15 then
        if inb (a3 + (1 : Int32)) Ln = false then none else
        if inb (a3 + (2 : Int32)) Ln = false then none else
        (f_X9_lawful_0 (xs ((a3 + (1 : Int32)).toNatClampNeg)) (xs ((a3 + (2 : Int32)).toNatClampNeg)) μ).bind fun q116 =>
        if inb (a3 + (1 : Int32)) Ln = false then none else
        if inb (a3 + (2 : Int32)) Ln = false then none else
        (f_X10_lawful_62 (xs ((a3 + (1 : Int32)).toNatClampNeg)) (xs ((a3 + (2 : Int32)).toNatClampNeg)) q116.2).bind fun q119 =>
        if q116.1 = q119.1 then
          f_L_law_J1405 xs Ln k18 a3 q119.2
        else
          some ((0 : Int32), q119.2)
      else
      if ((xs (a3.toNatClampNeg)) &&& (63 : Int32)) = 16 then
        if inb (a3 + (1 : Int32)) Ln = false then none else
        if inb (a3 + (2 : Int32)) Ln = false then none else
        (f_X9_asleep_0 (xs ((a3 + (1 : Int32)).toNatClampNeg)) (xs ((a3 + (2 : Int32)).toNatClampNeg)) μ).bind fun q124 =>
        if inb (a3 + (1 : Int32)) Ln = false then none else
        if inb (a3 + (2 : Int32)) Ln = false then none else
        (f_X10_asleep_62 (xs ((a3 + (1 : Int32)).toNatClampNeg)) (xs ((a3 + (2 : Int32)).toNatClampNeg)) q124.2).bind fun q127 =>
        if q124.1 = q127.1 then
          f_L_law_J1405 xs Ln k18 a3 q127.2
        else
          some ((0 : Int32), q127.2)
      else
      if ((xs (a3.toNatClampNeg)) &&& (63 : Int32)) = 17 then
        if inb (a3 + (1 : Int32)) Ln = false then none else
        if inb (a3 + (2 : Int32)) Ln = false then none else
        (f_X9_tired_0 (xs ((a3 + (1 : Int32)).toNatClampNeg)) (xs ((a3 + (2 : Int32)).toNatClampNeg)) μ).bind fun q132 =>
        if inb (a3 + (1 : Int32)) Ln = false then none else
        if inb (a3 + (2 : Int32)) Ln = false then none else
        (f_X10_tired_62 (xs ((a3 + (1 : Int32)).toNatClampNeg)) (xs ((a3 + (2 : Int32)).toNatClampNeg)) q132.2).bind fun q135 =>
        if q132.1 = q135.1 then
          f_L_law_J1405 xs Ln k18 a3 q135.2
        else
          some ((0 : Int32), q135.2)
      else
      if ((xs (a3.toNatClampNeg)) &&& (63 : Int32)) = 18 then
        if inb (a3 + (1 : Int32)) Ln = false then none else
        (f_X9_open_0 (xs ((a3 + (1 : Int32)).toNatClampNeg)) μ).bind fun q139 =>
        if inb (a3 + (1 : Int32)) Ln = false then none else
        (f_X10_open_62 (xs ((a3 + (1 : Int32)).toNatClampNeg)) q139.2).bind fun q141 =>
        if q139.1 = q141.1 then
          f_L_law_J1405 xs Ln k18 a3 q141.2
        else
          some ((0 : Int32), q141.2)
      else
      if ((xs (a3.toNatClampNeg)) &&& (63 : Int32)) = 19 then
        if inb (a3 + (1 : Int32)) Ln = false then none else
        (f_X9_missed_0 (xs ((a3 + (1 : Int32)).toNatClampNeg)) μ).bind fun q145 =>
        if inb (a3 + (1 : Int32)) Ln = false then none else
        (f_X10_missed_62 (xs ((a3 + (1 : Int32)).toNatClampNeg)) q145.2).bind fun q147 =>
        if q145.1 = q147.1 then
          f_L_law_J1405 xs Ln k18 a3 q147.2
        else
          some ((0 : Int32), q147.2)
      else
      if ((xs (a3.toNatClampNeg)) &&& (63 : Int32)) = 20 then
        (f_X9_wreck_0 μ).bind fun q150 =>
        (f_X10_wreck_62 q150.2).bind fun q151 =>
        if q150.1 = q151.1 then
          f_L_law_J1405 xs Ln k18 a3 q151.2
        else
          some ((0 : Int32), q151.2)
      else
      if ((xs (a3.toNatClampNeg)) &&& (63 : Int32)) = 21 then
        if inb (a3 + (1 : Int32)) Ln = false then none else
        (f_X9_rest_0 (xs ((a3 + (1 : Int32)).toNatClampNeg)) μ).bind fun q155 =>
        if inb (a3 + (1 : Int32)) Ln = false then none else
        (f_X10_rest_62 (xs ((a3 + (1 : Int32)).toNatClampNeg)) q155.2).bind fun q157 =>
        if q155.1 = q157.1 then
          f_L_law_J1405 xs Ln k18 a3 q157.2
        else
          some ((0 : Int32), q157.2)
      else
      if ((xs (a3.toNatClampNeg)) &&& (63 : Int32)) = 22 then
        if inb (a3 + (1 : Int32)) Ln = false then none else
        (f_X9_round_0 (xs ((a3 + (1 : Int32)).toNatClampNeg)) μ).bind fun q161 =>
        if inb (a3 + (1 : Int32)) Ln = false then none else
        (f_X10_round_62 (xs ((a3 + (1 : Int32)).toNatClampNeg)) q161.2).bind fun q163 =>
        if q161.1 = q163.1 then
          f_L_law_J1405 xs Ln k18 a3 q163.2
        else
          some ((0 : Int32), q163.2)
      else
      if ((xs (a3.toNatClampNeg)) &&& (63 : Int32)) = 23 then
        if inb (a3 + (1 : Int32)) Ln = false then none else
        (f_X9_best_0 (xs ((a3 + (1 : Int32)).toNatClampNeg)) μ).bind fun q167 =>
        if inb (a3 + (1 : Int32)) Ln = false then none else
        (f_X10_best_62 (xs ((a3 + (1 : Int32)).toNatClampNeg)) q167.2).bind fun q169 =>
        if q167.1 = q169.1 then
          f_L_law_J1405 xs Ln k18 a3 q169.2
        else
          some ((0 : Int32), q169.2)
      else
      if ((xs (a3.toNatClampNeg)) &&& (63 : Int32)) = 24 then
        if inb (a3 + (1 : Int32)) Ln = false then none else
        (f_X9_without_0 (xs ((a3 + (1 : Int32)).toNatClampNeg)) μ).bind fun q173 =>
        if inb (a3 + (1 : Int32)) Ln = false then none else
        (f_X10_without_62 (xs ((a3 + (1 : Int32)).toNatClampNeg)) q173.2).bind fun q175 =>
        if q173.1 = q175.1 then
          f_L_law_J1405 xs Ln k18 a3 q175.2
        else
          some ((0 : Int32), q175.2)
      else
      if ((xs (a3.toNatClampNeg)) &&& (63 : Int32)) = 25 then
        if inb (a3 + (1 : Int32)) Ln = false then none else
        (f_X9_beds_0 (xs ((a3 + (1 : Int32)).toNatClampNeg)) μ).bind fun q179 =>
        if inb (a3 + (1 : Int32)) Ln = false then none else
        (f_X10_beds_62 (xs ((a3 + (1 : Int32)).toNatClampNeg)) q179.2).bind fun q181 =>
        if q179.1 = q181.1 then
          f_L_law_J1405 xs Ln k18 a3 q181.2
        else
          some ((0 : Int32), q181.2)
      else
      if ((xs (a3.toNatClampNeg)) &&& (63 : Int32)) = 26 then
        if inb (a3 + (1 : Int32)) Ln = false then none else
        if inb (a3 + (2 : Int32)) Ln = false then none else
        if inb (a3 + (3 : Int32)) Ln = false then none else
        (f_X9_late_0 (xs ((a3 + (1 : Int32)).toNatClampNeg)) (xs ((a3 + (2 : Int32)).toNatClampNeg)) (xs ((a3 + (3 : Int32)).toNatClampNeg)) μ).bind fun q187 =>
        if inb (a3 + (1 : Int32)) Ln = false then none else
        if inb (a3 + (2 : Int32)) Ln = false then none else
        if inb (a3 + (3 : Int32)) Ln = false then none else
        (f_X10_late_62 (xs ((a3 + (1 : Int32)).toNatClampNeg)) (xs ((a3 + (2 : Int32)).toNatClampNeg)) (xs ((a3 + (3 : Int32)).toNatClampNeg)) q187.2).bind fun q191 =>
        if q187.1 = q191.1 then
          f_L_law_J1405 xs Ln k18 a3 q191.2
        else
          some ((0 : Int32), q191.2)
      else
      if ((xs (a3.toNatClampNeg)) &&& (63 : Int32)) = 27 then
        if inb (a3 + (1 : Int32)) Ln = false then none else
        if inb (a3 + (2 : Int32)) Ln = false then none else
        if inb (a3 + (3 : Int32)) Ln = false then none else
        (f_X9_odds_0 (xs ((a3 + (1 : Int32)).toNatClampNeg)) (xs ((a3 + (2 : Int32)).toNatClampNeg)) (xs ((a3 + (3 : Int32)).toNatClampNeg)) μ).bind fun q197 =>
        if inb (a3 + (1 : Int32)) Ln = false then none else
        if inb (a3 + (2 : Int32)) Ln = false then none else
        if inb (a3 + (3 : Int32)) Ln = false then none else
        (f_X10_odds_62 (xs ((a3 + (1 : Int32)).toNatClampNeg)) (xs ((a3 + (2 : Int32)).toNatClampNeg)) (xs ((a3 + (3 : Int32)).toNatClampNeg)) q197.2).bind fun q201 =>
        if (lg_cmp q197.1 q201.1) = 0 then
          f_L_law_J1405 xs Ln k18 a3 q201.2
        else
          some ((0 : Int32), q201.2)
      else
      if ((xs (a3.toNatClampNeg)) &&& (63 : Int32)) = 28 then
        if inb (a3 + (1 : Int32)) Ln = false then none else
        if inb (a3 + (2 : Int32)) Ln = false then none else
        (f_X9_mean_0 (xs ((a3 + (1 : Int32)).toNatClampNeg)) (xs ((a3 + (2 : Int32)).toNatClampNeg)) μ).bind fun q206 =>
        if inb (a3 + (1 : Int32)) Ln = false then none else
        if inb (a3 + (2 : Int32)) Ln = false then none else
        (f_X10_mean_62 (xs ((a3 + (1 : Int32)).toNatClampNeg)) (xs ((a3 + (2 : Int32)).toNatClampNeg)) q206.2).bind fun q209 =>
        if (lg_cmp q206.1 q209.1) = 0 then
          f_L_law_J1405 xs Ln k18 a3 q209.2
        else
          some ((0 : Int32), q209.2)
      else
      if ((xs (a3.toNatClampNeg)) &&& (63 : Int32)) = 29 then
        if inb (a3 + (1 : Int32)) Ln = false then none else
        if inb (a3 + (2 : Int32)) Ln = false then none else
        if inb (a3 + (3 : Int32)) Ln = false then none else
        if (xs ((a3 + (3 : Int32)).toNatClampNeg)) = 0 then
          f_L_law_J1093 xs Ln k18 a3 (xs ((a3 + (1 : Int32)).toNatClampNeg)) (xs ((a3 + (2 : Int32)).toNatClampNeg)) (0 : Int32) μ
        else
          f_L_law_J1093 xs Ln k18 a3 (xs ((a3 + (1 : Int32)).toNatClampNeg)) (xs ((a3 + (2 : Int32)).toNatClampNeg)) (1 : Int32) μ
      else
      if ((xs (a3.toNatClampNeg)) &&& (63 : Int32)) = 30 then
        if inb (a3 + (1 : Int32)) Ln = false then none else
        (f_X9_forget_0 (xs ((a3 + (1 : Int32)).toNatClampNeg)) μ).bind fun q225 =>
        if inb (a3 + (1 : Int32)) Ln = false then none else
        (f_X10_forget_62 (xs ((a3 + (1 : Int32)).toNatClampNeg)) q225.2).bind fun q227 =>
        if q225.1 = q227.1 then
          f_L_law_J1405 xs Ln k18 a3 q227.2
        else
          some ((0 : Int32), q227.2)
      else
      if ((xs (a3.toNatClampNeg)) &&& (63 : Int32)) = 31 then
        if inb (a3 + (1 : Int32)) Ln = false then none else
        if inb (a3 + (2 : Int32)) Ln = false then none else
        (f_X9_fits_0 (xs ((a3 + (1 : Int32)).toNatClampNeg)) (xs ((a3 + (2 : Int32)).toNatClampNeg)) μ).bind fun q232 =>
        if inb (a3 + (1 : Int32)) Ln = false then none else
        if inb (a3 + (2 : Int32)) Ln = false then none else
        (f_X10_fits_62 (xs ((a3 + (1 : Int32)).toNatClampNeg)) (xs ((a3 + (2 : Int32)).toNatClampNeg)) q232.2).bind fun q235 =>
        if q232.1 = q235.1 then
          f_L_law_J1405 xs Ln k18 a3 q235.2
        else
          some ((0 : Int32), q235.2)
      else
      if ((xs (a3.toNatClampNeg)) &&& (63 : Int32)) = 32 then
        if inb (a3 + (1 : Int32)) Ln = false then none else
        (f_X9_keep_0 (xs ((a3 + (1 : Int32)).toNatClampNeg)) μ).bind fun q239 =>
        if inb (a3 + (1 : Int32)) Ln = false then none else
        (f_X10_keep_62 (xs ((a3 + (1 : Int32)).toNatClampNeg)) q239.2).bind fun q241 =>
        if q239.1 = q241.1 then
          f_L_law_J1405 xs Ln k18 a3 q241.2
        else
          some ((0 : Int32), q241.2)
      else
      if ((xs (a3.toNatClampNeg)) &&& (63 : Int32)) = 33 then
        if inb (a3 + (1 : Int32)) Ln = false then none else
        (f_X9_back_0 (xs ((a3 + (1 : Int32)).toNatClampNeg)) μ).bind fun q245 =>
        if inb (a3 + (1 : Int32)) Ln = false then none else
        (f_X10_back_62 (xs ((a3 + (1 : Int32)).toNatClampNeg)) q245.2).bind fun q247 =>
        if q245.1 = q247.1 then
          f_L_law_J1405 xs Ln k18 a3 q247.2
        else
          some ((0 : Int32), q247.2)
      else
      if ((xs (a3.toNatClampNeg)) &&& (63 : Int32)) = 34 then
        if inb (a3 + (1 : Int32)) Ln = false then none else
        if inb (a3 + (2 : Int32)) Ln = false then none else
        if inb (a3 + (3 : Int32)) Ln = false then none else
        (f_X9_sheet_0 (xs ((a3 + (1 : Int32)).toNatClampNeg)) (xs ((a3 + (2 : Int32)).toNatClampNeg)) (xs ((a3 + (3 : Int32)).toNatClampNeg)) μ).bind fun q253 =>
        if inb (a3 + (1 : Int32)) Ln = false then none else
        if inb (a3 + (2 : Int32)) Ln = false then none else
        if inb (a3 + (3 : Int32)) Ln = false then none else
        (f_X10_sheet_62 (xs ((a3 + (1 : Int32)).toNatClampNeg)) (xs ((a3 + (2 : Int32)).toNatClampNeg)) (xs ((a3 + (3 : Int32)).toNatClampNeg)) q253.2).bind fun q257 =>
        if q253.1 = q257.1 then
          f_L_law_J1405 xs Ln k18 a3 q257.2
        else
          some ((0 : Int32), q257.2)
      else
      if ((xs (a3.toNatClampNeg)) &&& (63 : Int32)) = 35 then
        if inb (a3 + (1 : Int32)) Ln = false then none else
        if inb (a3 + (2 : Int32)) Ln = false then none else
        if inb (a3 + (3 : Int32)) Ln = false then none else
        (f_X9_lay_0 (xs ((a3 + (1 : Int32)).toNatClampNeg)) (xs ((a3 + (2 : Int32)).toNatClampNeg)) (xs ((a3 + (3 : Int32)).toNatClampNeg)) μ).bind fun q263 =>
        if inb (a3 + (1 : Int32)) Ln = false then none else
        if inb (a3 + (2 : Int32)) Ln = false then none else
        if inb (a3 + (3 : Int32)) Ln = false then none else
        (f_X10_lay_62 (xs ((a3 + (1 : Int32)).toNatClampNeg)) (xs ((a3 + (2 : Int32)).toNatClampNeg)) (xs ((a3 + (3 : Int32)).toNatClampNeg)) q263.2).bind fun q267 =>
        if q263.1 = q267.1 then
          f_L_law_J1405 xs Ln k18 a3 q267.2
        else
          some ((0 : Int32), q267.2)
      else
      if ((xs (a3.toNatClampNeg)) &&& (63 : Int32)) = 36 then
        if inb (a3 + (1 : Int32)) Ln = false then none else
        if inb (a3 + (2 : Int32)) Ln = false then none else
        if inb (a3 + (3 : Int32)) Ln = false then none else
        if inb (a3 + (4 : Int32)) Ln = false then none else
        (f_X9_read_0 (xs ((a3 + (1 : Int32)).toNatClampNeg)) (xs ((a3 + (2 : Int32)).toNatClampNeg)) (xs ((a3 + (3 : Int32)).toNatClampNeg)) (xs ((a3 + (4 : Int32)).toNatClampNeg)) μ).bind fun q274 =>
        if inb (a3 + (1 : Int32)) Ln = false then none else
        if inb (a3 + (2 : Int32)) Ln = false then none else
        if inb (a3 + (3 : Int32)) Ln = false then none else
        if inb (a3 + (4 : Int32)) Ln = false then none else
        (f_X10_read_62 (xs ((a3 + (1 : Int32)).toNatClampNeg)) (xs ((a3 + (2 : Int32)).toNatClampNeg)) (xs ((a3 + (3 : Int32)).toNatClampNeg)) (xs ((a3 + (4 : Int32)).toNatClampNeg)) q274.2).bind fun q279 =>
        if q274.1 = q279.1 then
          f_L_law_J1405 xs Ln k18 a3 q279.2
        else
          some ((0 : Int32), q279.2)
      else
      if ((xs (a3.toNatClampNeg)) &&& (63 : Int32)) = 37 then
        (f_X9_torn_0 μ).bind fun q282 =>
        (f_X10_torn_62 q282.2).bind fun q283 =>
        if q282.1 = q283.1 then
          f_L_law_J1405 xs Ln k18 a3 q283.2
        else
          some ((0 : Int32), q283.2)
      else
      if ((xs (a3.toNatClampNeg)) &&& (63 : Int32)) = 38 then
        if inb (a3 + (1 : Int32)) Ln = false then none else
        (f_X9_count_0 (xs ((a3 + (1 : Int32)).toNatClampNeg)) μ).bind fun q287 =>
        if inb (a3 + (1 : Int32)) Ln = false then none else
        (f_X10_count_62 (xs ((a3 + (1 : Int32)).toNatClampNeg)) q287.2).bind fun q289 =>
        if q287.1 = q289.1 then
          f_L_law_J1405 xs Ln k18 a3 q289.2
        else
          some ((0 : Int32), q289.2)
      else
      f_L_law_J1405 xs Ln k18 a3 μ
def f_L_lawR (xs : Nat → Int32) (Ln : Nat) (μ : Mem) : Option (Int32 × Mem) :=
  it2 (f_L_law_L18 xs Ln) FU (0 : Int32) μ
set_option maxRecDepth 100000 in
set_option maxHeartbeats 8000000 in
theorem r_L_law_J1405 {p : Program} {l : Launch} {e : Env} {s : State} {m : MethodId} {args : Array Value} {below : List Frame} {meth : Method} {c : Code} {D : va_G} {cy : Nat → ClassId} {ad : Nat → Nat} {R : Room} {A : Nat → Prop} {kc ks : Nat} {Z : State → Prop} (C : CX p s m args meth c cL_law 4 RL (some .boolean) D cy ad A) {xs : Nat → Int32} {Ln : Nat} (hX : SCR ad A s Ln xs) {a3 : Int32} {μ : Mem} {ρ : (Int32 × Mem)} (hRr : 100 ≤ R.frames ∧ 6000 ≤ R.locals) (hcs : kc ≤ R.cells ∧ ks ≤ R.slots) (hret : ∀ (ls : List (Nat × Value)) (pc : Nat), decode cL_law pc = .ok (.ireturn, 1) → WA p l e R s m args below meth c 4 D cy ad A kc ks Z ρ.2 ls pc [.int ρ.1]) (k18 : Int32 → Mem → Option (Int32 × Mem)) (hk18 : ∀ (a3 : Int32) (μ : Mem), k18 a3 μ = some ρ → WA p l e R s m args below meth c 4 D cy ad A kc ks Z μ [(0, .ref 103), (1, .ref 0), (2, .ref 62), (3, .int a3)] 18 []) (h : f_L_law_J1405 xs Ln k18 a3 μ = some ρ) : WA p l e R s m args below meth c 4 D cy ad A kc ks Z μ [(0, .ref 103), (1, .ref 0), (2, .ref 62), (3, .int a3)] 1405 [] := by
  unfold f_L_law_J1405 at h
  refine wa_iinc (v := (a3 + 5)) C dL_law_1405 rfl rfl (by decide) ?_
  refine wa_goto (tgt := 18) C dL_law_1408 (by decide) ?_
  exact WA.sub (lsub_c rfl (lsub_c rfl (lsub_c rfl (lsub_c rfl lsub_n)))) (hk18 _ _ h)
set_option maxRecDepth 100000 in
set_option maxHeartbeats 8000000 in
theorem r_L_law_J568 {p : Program} {l : Launch} {e : Env} {s : State} {m : MethodId} {args : Array Value} {below : List Frame} {meth : Method} {c : Code} {D : va_G} {cy : Nat → ClassId} {ad : Nat → Nat} {R : Room} {A : Nat → Prop} {kc ks : Nat} {Z : State → Prop} (C : CX p s m args meth c cL_law 4 RL (some .boolean) D cy ad A) {xs : Nat → Int32} {Ln : Nat} (hX : SCR ad A s Ln xs) {a3 : Int32} {t0 : Int32} {t2 : Int32} {t3 : Int32} {t4 : Int32} {μ : Mem} {ρ : (Int32 × Mem)} (hRr : 100 ≤ R.frames ∧ 6000 ≤ R.locals) (hcs : kc ≤ R.cells ∧ ks ≤ R.slots) (hret : ∀ (ls : List (Nat × Value)) (pc : Nat), decode cL_law pc = .ok (.ireturn, 1) → WA p l e R s m args below meth c 4 D cy ad A kc ks Z ρ.2 ls pc [.int ρ.1]) (k18 : Int32 → Mem → Option (Int32 × Mem)) (hk18 : ∀ (a3 : Int32) (μ : Mem), k18 a3 μ = some ρ → WA p l e R s m args below meth c 4 D cy ad A kc ks Z μ [(0, .ref 103), (1, .ref 0), (2, .ref 62), (3, .int a3)] 18 []) (h : f_L_law_J568 xs Ln k18 a3 t0 t2 t3 t4 μ = some ρ) : WA p l e R s m args below meth c 4 D cy ad A kc ks Z μ [(0, .ref 103), (1, .ref 0), (2, .ref 62), (3, .int a3)] 568 [.int t4, .int t3, .int t2, .ref 62, .int t0] := by
  unfold f_L_law_J568 at h
  obtain ⟨q87, hq87, h⟩ := bd h
  refine wa_callV C (r_X10_storm_62 hq87) mk_X10_storm mv_X10_storm qw_605 rfl (by decide) rfl rfl ⟨Nat.le_trans (Nat.le_of_ble_eq_true rfl) hRr.1, Nat.le_trans (Nat.le_of_ble_eq_true rfl) hRr.2⟩ hcs (Nat.le_of_ble_eq_true rfl) dL_law_568 rfl ?_
  refine wa_icmp_eq (tgt := 1405) C dL_law_571 (by decide) (fun c88 => ?_) (fun c88 => ?_)
  · replace h := (if_pos c88).symm.trans h
    exact WA.sub (lsub_c rfl (lsub_c rfl (lsub_c rfl (lsub_c rfl lsub_n)))) (r_L_law_J1405 C hX hRr hcs hret _ hk18 h)
  · replace h := (if_neg c88).symm.trans h
    refine wa_iconst (v := 0) C dL_law_574 (by decide) ?_
    obtain rfl := Option.some.inj h
    exact hret _ _ dL_law_575
set_option maxRecDepth 100000 in
set_option maxHeartbeats 8000000 in
theorem r_L_law_J541 {p : Program} {l : Launch} {e : Env} {s : State} {m : MethodId} {args : Array Value} {below : List Frame} {meth : Method} {c : Code} {D : va_G} {cy : Nat → ClassId} {ad : Nat → Nat} {R : Room} {A : Nat → Prop} {kc ks : Nat} {Z : State → Prop} (C : CX p s m args meth c cL_law 4 RL (some .boolean) D cy ad A) {xs : Nat → Int32} {Ln : Nat} (hX : SCR ad A s Ln xs) {a3 : Int32} {t1 : Int32} {t2 : Int32} {t3 : Int32} {μ : Mem} {ρ : (Int32 × Mem)} (hRr : 100 ≤ R.frames ∧ 6000 ≤ R.locals) (hcs : kc ≤ R.cells ∧ ks ≤ R.slots) (hret : ∀ (ls : List (Nat × Value)) (pc : Nat), decode cL_law pc = .ok (.ireturn, 1) → WA p l e R s m args below meth c 4 D cy ad A kc ks Z ρ.2 ls pc [.int ρ.1]) (k18 : Int32 → Mem → Option (Int32 × Mem)) (hk18 : ∀ (a3 : Int32) (μ : Mem), k18 a3 μ = some ρ → WA p l e R s m args below meth c 4 D cy ad A kc ks Z μ [(0, .ref 103), (1, .ref 0), (2, .ref 62), (3, .int a3)] 18 []) (h : f_L_law_J541 xs Ln k18 a3 t1 t2 t3 μ = some ρ) : WA p l e R s m args below meth c 4 D cy ad A kc ks Z μ [(0, .ref 103), (1, .ref 0), (2, .ref 62), (3, .int a3)] 541 [.int t3, .int t2, .int t1, .ref 0] := by
  unfold f_L_law_J541 at h
  obtain ⟨q82, hq82, h⟩ := bd h
  refine wa_callV C (r_X9_storm_0 hq82) mk_X9_storm mv_X9_storm qw_601 rfl (by decide) rfl rfl ⟨Nat.le_trans (Nat.le_of_ble_eq_true rfl) hRr.1, Nat.le_trans (Nat.le_of_ble_eq_true rfl) hRr.2⟩ hcs (Nat.le_of_ble_eq_true rfl) dL_law_541 rfl ?_
  refine wa_aload_n C dL_law_544 rfl ?_
  refine wa_aload_n C dL_law_545 rfl ?_
  refine wa_iload_n C dL_law_546 rfl ?_
  refine wa_iconst (v := 1) C dL_law_547 (by decide) ?_
  refine wa_iadd C dL_law_548 ?_
  obtain ⟨g83, h⟩ := gd h
  refine wa_scld C hX g83 dL_law_549 ?_
  refine wa_aload_n C dL_law_550 rfl ?_
  refine wa_iload_n C dL_law_551 rfl ?_
  refine wa_iconst (v := 2) C dL_law_552 (by decide) ?_
  refine wa_iadd C dL_law_553 ?_
  obtain ⟨g84, h⟩ := gd h
  refine wa_scld C hX g84 dL_law_554 ?_
  refine wa_aload_n C dL_law_555 rfl ?_
  refine wa_iload_n C dL_law_556 rfl ?_
  refine wa_iconst (v := 3) C dL_law_557 (by decide) ?_
  refine wa_iadd C dL_law_558 ?_
  obtain ⟨g85, h⟩ := gd h
  refine wa_scld C hX g85 dL_law_559 ?_
  refine wa_if_eq (tgt := 567) C dL_law_560 (by decide) (fun c86 => ?_) (fun c86 => ?_)
  · replace h := (if_pos c86).symm.trans h
    refine wa_iconst (v := 0) C dL_law_567 (by decide) ?_
    exact WA.sub (lsub_c rfl (lsub_c rfl (lsub_c rfl (lsub_c rfl lsub_n)))) (r_L_law_J568 C hX hRr hcs hret _ hk18 h)
  · replace h := (if_neg c86).symm.trans h
    refine wa_iconst (v := 1) C dL_law_563 (by decide) ?_
    refine wa_goto (tgt := 568) C dL_law_564 (by decide) ?_
    exact WA.sub (lsub_c rfl (lsub_c rfl (lsub_c rfl (lsub_c rfl lsub_n)))) (r_L_law_J568 C hX hRr hcs hret _ hk18 h)
set_option maxRecDepth 100000 in
set_option maxHeartbeats 8000000 in
theorem r_L_law_J1120 {p : Program} {l : Launch} {e : Env} {s : State} {m : MethodId} {args : Array Value} {below : List Frame} {meth : Method} {c : Code} {D : va_G} {cy : Nat → ClassId} {ad : Nat → Nat} {R : Room} {A : Nat → Prop} {kc ks : Nat} {Z : State → Prop} (C : CX p s m args meth c cL_law 4 RL (some .boolean) D cy ad A) {xs : Nat → Int32} {Ln : Nat} (hX : SCR ad A s Ln xs) {a3 : Int32} {t0 : Int32} {t2 : Int32} {t3 : Int32} {t4 : Int32} {μ : Mem} {ρ : (Int32 × Mem)} (hRr : 100 ≤ R.frames ∧ 6000 ≤ R.locals) (hcs : kc ≤ R.cells ∧ ks ≤ R.slots) (hret : ∀ (ls : List (Nat × Value)) (pc : Nat), decode cL_law pc = .ok (.ireturn, 1) → WA p l e R s m args below meth c 4 D cy ad A kc ks Z ρ.2 ls pc [.int ρ.1]) (k18 : Int32 → Mem → Option (Int32 × Mem)) (hk18 : ∀ (a3 : Int32) (μ : Mem), k18 a3 μ = some ρ → WA p l e R s m args below meth c 4 D cy ad A kc ks Z μ [(0, .ref 103), (1, .ref 0), (2, .ref 62), (3, .int a3)] 18 []) (h : f_L_law_J1120 xs Ln k18 a3 t0 t2 t3 t4 μ = some ρ) : WA p l e R s m args below meth c 4 D cy ad A kc ks Z μ [(0, .ref 103), (1, .ref 0), (2, .ref 62), (3, .int a3)] 1120 [.int t4, .int t3, .int t2, .ref 62, .int t0] := by
  unfold f_L_law_J1120 at h
  obtain ⟨q221, hq221, h⟩ := bd h
  refine wa_callV C (r_X10_hear_62 hq221) mk_X10_hear mv_X10_hear qw_1011 rfl (by decide) rfl rfl ⟨Nat.le_trans (Nat.le_of_ble_eq_true rfl) hRr.1, Nat.le_trans (Nat.le_of_ble_eq_true rfl) hRr.2⟩ hcs (Nat.le_of_ble_eq_true rfl) dL_law_1120 rfl ?_
  refine wa_icmp_eq (tgt := 1405) C dL_law_1123 (by decide) (fun c222 => ?_) (fun c222 => ?_)
  · replace h := (if_pos c222).symm.trans h
    exact WA.sub (lsub_c rfl (lsub_c rfl (lsub_c rfl (lsub_c rfl lsub_n)))) (r_L_law_J1405 C hX hRr hcs hret _ hk18 h)
  · replace h := (if_neg c222).symm.trans h
    refine wa_iconst (v := 0) C dL_law_1126 (by decide) ?_
    obtain rfl := Option.some.inj h
    exact hret _ _ dL_law_1127
set_option maxRecDepth 100000 in
set_option maxHeartbeats 8000000 in
theorem r_L_law_J1093 {p : Program} {l : Launch} {e : Env} {s : State} {m : MethodId} {args : Array Value} {below : List Frame} {meth : Method} {c : Code} {D : va_G} {cy : Nat → ClassId} {ad : Nat → Nat} {R : Room} {A : Nat → Prop} {kc ks : Nat} {Z : State → Prop} (C : CX p s m args meth c cL_law 4 RL (some .boolean) D cy ad A) {xs : Nat → Int32} {Ln : Nat} (hX : SCR ad A s Ln xs) {a3 : Int32} {t1 : Int32} {t2 : Int32} {t3 : Int32} {μ : Mem} {ρ : (Int32 × Mem)} (hRr : 100 ≤ R.frames ∧ 6000 ≤ R.locals) (hcs : kc ≤ R.cells ∧ ks ≤ R.slots) (hret : ∀ (ls : List (Nat × Value)) (pc : Nat), decode cL_law pc = .ok (.ireturn, 1) → WA p l e R s m args below meth c 4 D cy ad A kc ks Z ρ.2 ls pc [.int ρ.1]) (k18 : Int32 → Mem → Option (Int32 × Mem)) (hk18 : ∀ (a3 : Int32) (μ : Mem), k18 a3 μ = some ρ → WA p l e R s m args below meth c 4 D cy ad A kc ks Z μ [(0, .ref 103), (1, .ref 0), (2, .ref 62), (3, .int a3)] 18 []) (h : f_L_law_J1093 xs Ln k18 a3 t1 t2 t3 μ = some ρ) : WA p l e R s m args below meth c 4 D cy ad A kc ks Z μ [(0, .ref 103), (1, .ref 0), (2, .ref 62), (3, .int a3)] 1093 [.int t3, .int t2, .int t1, .ref 0] := by
  unfold f_L_law_J1093 at h
  obtain ⟨q216, hq216, h⟩ := bd h
  refine wa_callV C (r_X9_hear_0 hq216) mk_X9_hear mv_X9_hear qw_1005 rfl (by decide) rfl rfl ⟨Nat.le_trans (Nat.le_of_ble_eq_true rfl) hRr.1, Nat.le_trans (Nat.le_of_ble_eq_true rfl) hRr.2⟩ hcs (Nat.le_of_ble_eq_true rfl) dL_law_1093 rfl ?_
  refine wa_aload_n C dL_law_1096 rfl ?_
  refine wa_aload_n C dL_law_1097 rfl ?_
  refine wa_iload_n C dL_law_1098 rfl ?_
  refine wa_iconst (v := 1) C dL_law_1099 (by decide) ?_
  refine wa_iadd C dL_law_1100 ?_
  obtain ⟨g217, h⟩ := gd h
  refine wa_scld C hX g217 dL_law_1101 ?_
  refine wa_aload_n C dL_law_1102 rfl ?_
  refine wa_iload_n C dL_law_1103 rfl ?_
  refine wa_iconst (v := 2) C dL_law_1104 (by decide) ?_
  refine wa_iadd C dL_law_1105 ?_
  obtain ⟨g218, h⟩ := gd h
  refine wa_scld C hX g218 dL_law_1106 ?_
  refine wa_aload_n C dL_law_1107 rfl ?_
  refine wa_iload_n C dL_law_1108 rfl ?_
  refine wa_iconst (v := 3) C dL_law_1109 (by decide) ?_
  refine wa_iadd C dL_law_1110 ?_
  obtain ⟨g219, h⟩ := gd h
  refine wa_scld C hX g219 dL_law_1111 ?_
  refine wa_if_eq (tgt := 1119) C dL_law_1112 (by decide) (fun c220 => ?_) (fun c220 => ?_)
  · replace h := (if_pos c220).symm.trans h
    refine wa_iconst (v := 0) C dL_law_1119 (by decide) ?_
    exact WA.sub (lsub_c rfl (lsub_c rfl (lsub_c rfl (lsub_c rfl lsub_n)))) (r_L_law_J1120 C hX hRr hcs hret _ hk18 h)
  · replace h := (if_neg c220).symm.trans h
    refine wa_iconst (v := 1) C dL_law_1115 (by decide) ?_
    refine wa_goto (tgt := 1120) C dL_law_1116 (by decide) ?_
    exact WA.sub (lsub_c rfl (lsub_c rfl (lsub_c rfl (lsub_c rfl lsub_n)))) (r_L_law_J1120 C hX hRr hcs hret _ hk18 h)
set_option maxRecDepth 100000 in
set_option maxHeartbeats 8000000 in
theorem r_L_law_L18 {p : Program} {l : Launch} {e : Env} {s : State} {m : MethodId} {args : Array Value} {below : List Frame} {meth : Method} {c : Code} {D : va_G} {cy : Nat → ClassId} {ad : Nat → Nat} {R : Room} {A : Nat → Prop} {kc ks : Nat} {Z : State → Prop} (C : CX p s m args meth c cL_law 4 RL (some .boolean) D cy ad A) {xs : Nat → Int32} {Ln : Nat} (hX : SCR ad A s Ln xs) {ρ : (Int32 × Mem)} (hRr : 100 ≤ R.frames ∧ 6000 ≤ R.locals) (hcs : kc ≤ R.cells ∧ ks ≤ R.slots) (hret : ∀ (ls : List (Nat × Value)) (pc : Nat), decode cL_law pc = .ok (.ireturn, 1) → WA p l e R s m args below meth c 4 D cy ad A kc ks Z ρ.2 ls pc [.int ρ.1]) : ∀ (n : Nat) (a3 : Int32) (μ : Mem), it2 (f_L_law_L18 xs Ln) n a3 μ = some ρ → WA p l e R s m args below meth c 4 D cy ad A kc ks Z μ [(0, .ref 103), (1, .ref 0), (2, .ref 62), (3, .int a3)] 18 [] := by
  intro n
  induction n with
  | zero =>
    intro a3 μ h
    exact absurd h (fun h => by cases h)
  | succ n ih =>
    intro a3 μ h
    replace h : f_L_law_L18 xs Ln (it2 (f_L_law_L18 xs Ln) n) a3 μ = some ρ := h
    unfold f_L_law_L18 at h
    refine wa_iload_n C dL_law_18 rfl ?_
    refine wa_aload_n C dL_law_19 rfl ?_
    refine wa_sclen C hX dL_law_20 ?_
    refine wa_iconst (v := 5) C dL_law_21 (by decide) ?_
    refine wa_isub C dL_law_22 ?_
    refine wa_icmp_gt (tgt := 1411) C dL_law_23 (by decide) (fun c1 => ?_) (fun c1 => ?_)
    · replace h := (if_pos c1).symm.trans h
      refine wa_iconst (v := 1) C dL_law_1411 (by decide) ?_
      obtain rfl := Option.some.inj h
      exact hret _ _ dL_law_1412
    · replace h := (if_neg c1).symm.trans h
      refine wa_aload_n C dL_law_26 rfl ?_
      refine wa_iload_n C dL_law_27 rfl ?_
      obtain ⟨g2, h⟩ := gd h
      refine wa_scld C hX g2 dL_law_28 ?_
      refine wa_bipush (v := 63) C dL_law_29 (by decide) ?_
      refine wa_iand C dL_law_31 ?_
      by_cases c3 : ((xs (a3.toNatClampNeg)) &&& (63 : Int32)) = 0
      · replace h := (if_pos c3).symm.trans h
        rw [c3]
        refine wa_tableIn (tgt := 204) C dL_law_32 (by decide) (by decide) rfl (by decide) ?_
        refine wa_aload_n C dL_law_204 rfl ?_
        refine wa_aload_n C dL_law_205 rfl ?_
        refine wa_iload_n C dL_law_206 rfl ?_
        refine wa_iconst (v := 1) C dL_law_207 (by decide) ?_
        refine wa_iadd C dL_law_208 ?_
        obtain ⟨g4, h⟩ := gd h
        refine wa_scld C hX g4 dL_law_209 ?_
        refine wa_i2l (v := ((xs ((a3 + (1 : Int32)).toNatClampNeg)).toInt64)) C dL_law_210 rfl ?_
        refine wa_bipush (v := 32) C dL_law_211 (by decide) ?_
        refine wa_lshl (v := (((xs ((a3 + (1 : Int32)).toNatClampNeg)).toInt64) <<< ((32 : Int32).toInt64 &&& 63))) C dL_law_213 rfl ?_
        refine wa_aload_n C dL_law_214 rfl ?_
        refine wa_iload_n C dL_law_215 rfl ?_
        refine wa_iconst (v := 2) C dL_law_216 (by decide) ?_
        refine wa_iadd C dL_law_217 ?_
        obtain ⟨g5, h⟩ := gd h
        refine wa_scld C hX g5 dL_law_218 ?_
        refine wa_i2l (v := ((xs ((a3 + (2 : Int32)).toNatClampNeg)).toInt64)) C dL_law_219 rfl ?_
        refine wa_ldc2 (v := 4294967295) C qw_6 dL_law_220 ?_
        refine wa_land C dL_law_223 ?_
        refine wa_lor C dL_law_224 ?_
        obtain ⟨q6, hq6, h⟩ := bd h
        refine wa_callV C (r_X9_feed_0 hq6) mk_X9_feed mv_X9_feed qw_175 rfl (by decide) rfl rfl ⟨Nat.le_trans (Nat.le_of_ble_eq_true rfl) hRr.1, Nat.le_trans (Nat.le_of_ble_eq_true rfl) hRr.2⟩ hcs (Nat.le_of_ble_eq_true rfl) dL_law_225 rfl ?_
        refine wa_aload_n C dL_law_228 rfl ?_
        refine wa_aload_n C dL_law_229 rfl ?_
        refine wa_iload_n C dL_law_230 rfl ?_
        refine wa_iconst (v := 1) C dL_law_231 (by decide) ?_
        refine wa_iadd C dL_law_232 ?_
        obtain ⟨g7, h⟩ := gd h
        refine wa_scld C hX g7 dL_law_233 ?_
        refine wa_i2l (v := ((xs ((a3 + (1 : Int32)).toNatClampNeg)).toInt64)) C dL_law_234 rfl ?_
        refine wa_bipush (v := 32) C dL_law_235 (by decide) ?_
        refine wa_lshl (v := (((xs ((a3 + (1 : Int32)).toNatClampNeg)).toInt64) <<< ((32 : Int32).toInt64 &&& 63))) C dL_law_237 rfl ?_
        refine wa_aload_n C dL_law_238 rfl ?_
        refine wa_iload_n C dL_law_239 rfl ?_
        refine wa_iconst (v := 2) C dL_law_240 (by decide) ?_
        refine wa_iadd C dL_law_241 ?_
        obtain ⟨g8, h⟩ := gd h
        refine wa_scld C hX g8 dL_law_242 ?_
        refine wa_i2l (v := ((xs ((a3 + (2 : Int32)).toNatClampNeg)).toInt64)) C dL_law_243 rfl ?_
        refine wa_ldc2 (v := 4294967295) C qw_6 dL_law_244 ?_
        refine wa_land C dL_law_247 ?_
        refine wa_lor C dL_law_248 ?_
        obtain ⟨q9, hq9, h⟩ := bd h
        refine wa_callV C (r_X10_feed_62 hq9) mk_X10_feed mv_X10_feed qw_183 rfl (by decide) rfl rfl ⟨Nat.le_trans (Nat.le_of_ble_eq_true rfl) hRr.1, Nat.le_trans (Nat.le_of_ble_eq_true rfl) hRr.2⟩ hcs (Nat.le_of_ble_eq_true rfl) dL_law_249 rfl ?_
        refine wa_icmp_eq (tgt := 1405) C dL_law_252 (by decide) (fun c10 => ?_) (fun c10 => ?_)
        · replace h := (if_pos c10).symm.trans h
          exact WA.sub (lsub_c rfl (lsub_c rfl (lsub_c rfl (lsub_c rfl lsub_n)))) (r_L_law_J1405 C hX hRr hcs hret _ (fun _ _ h => ih _ _ h) h)
        · replace h := (if_neg c10).symm.trans h
          refine wa_iconst (v := 0) C dL_law_255 (by decide) ?_
          obtain rfl := Option.some.inj h
          exact hret _ _ dL_law_256
      replace h := (if_neg c3).symm.trans h
      by_cases c11 : ((xs (a3.toNatClampNeg)) &&& (63 : Int32)) = 1
      · replace h := (if_pos c11).symm.trans h
        rw [c11]
        refine wa_tableIn (tgt := 257) C dL_law_32 (by decide) (by decide) rfl (by decide) ?_
        refine wa_aload_n C dL_law_257 rfl ?_
        refine wa_aload_n C dL_law_258 rfl ?_
        refine wa_iload_n C dL_law_259 rfl ?_
        refine wa_iconst (v := 1) C dL_law_260 (by decide) ?_
        refine wa_iadd C dL_law_261 ?_
        obtain ⟨g12, h⟩ := gd h
        refine wa_scld C hX g12 dL_law_262 ?_
        obtain ⟨q13, hq13, h⟩ := bd h
        refine wa_callV C (r_X9_end_0 hq13) mk_X9_end mv_X9_end qw_189 rfl (by decide) rfl rfl ⟨Nat.le_trans (Nat.le_of_ble_eq_true rfl) hRr.1, Nat.le_trans (Nat.le_of_ble_eq_true rfl) hRr.2⟩ hcs (Nat.le_of_ble_eq_true rfl) dL_law_263 rfl ?_
        refine wa_aload_n C dL_law_266 rfl ?_
        refine wa_aload_n C dL_law_267 rfl ?_
        refine wa_iload_n C dL_law_268 rfl ?_
        refine wa_iconst (v := 1) C dL_law_269 (by decide) ?_
        refine wa_iadd C dL_law_270 ?_
        obtain ⟨g14, h⟩ := gd h
        refine wa_scld C hX g14 dL_law_271 ?_
        obtain ⟨q15, hq15, h⟩ := bd h
        refine wa_callV C (r_X10_end_62 hq15) mk_X10_end mv_X10_end qw_194 rfl (by decide) rfl rfl ⟨Nat.le_trans (Nat.le_of_ble_eq_true rfl) hRr.1, Nat.le_trans (Nat.le_of_ble_eq_true rfl) hRr.2⟩ hcs (Nat.le_of_ble_eq_true rfl) dL_law_272 rfl ?_
        refine wa_icmp_eq (tgt := 1405) C dL_law_275 (by decide) (fun c16 => ?_) (fun c16 => ?_)
        · replace h := (if_pos c16).symm.trans h
          exact WA.sub (lsub_c rfl (lsub_c rfl (lsub_c rfl (lsub_c rfl lsub_n)))) (r_L_law_J1405 C hX hRr hcs hret _ (fun _ _ h => ih _ _ h) h)
        · replace h := (if_neg c16).symm.trans h
          refine wa_iconst (v := 0) C dL_law_278 (by decide) ?_
          obtain rfl := Option.some.inj h
          exact hret _ _ dL_law_279
      replace h := (if_neg c11).symm.trans h
      by_cases c17 : ((xs (a3.toNatClampNeg)) &&& (63 : Int32)) = 2
      · replace h := (if_pos c17).symm.trans h
        rw [c17]
        refine wa_tableIn (tgt := 280) C dL_law_32 (by decide) (by decide) rfl (by decide) ?_
        refine wa_aload_n C dL_law_280 rfl ?_
        obtain ⟨q18, hq18, h⟩ := bd h
        refine wa_callV C (r_X9_text_0 hq18) mk_X9_text mv_X9_text qw_201 rfl (by decide) rfl rfl ⟨Nat.le_trans (Nat.le_of_ble_eq_true rfl) hRr.1, Nat.le_trans (Nat.le_of_ble_eq_true rfl) hRr.2⟩ hcs (Nat.le_of_ble_eq_true rfl) dL_law_281 rfl ?_
        refine wa_aload_n C dL_law_284 rfl ?_
        obtain ⟨q19, hq19, h⟩ := bd h
        refine wa_callV C (r_X10_text_62 hq19) mk_X10_text mv_X10_text qw_384 rfl (by decide) rfl rfl ⟨Nat.le_trans (Nat.le_of_ble_eq_true rfl) hRr.1, Nat.le_trans (Nat.le_of_ble_eq_true rfl) hRr.2⟩ hcs (Nat.le_of_ble_eq_true rfl) dL_law_285 rfl ?_
        refine wa_icmp_eq (tgt := 1405) C dL_law_288 (by decide) (fun c20 => ?_) (fun c20 => ?_)
        · replace h := (if_pos c20).symm.trans h
          exact WA.sub (lsub_c rfl (lsub_c rfl (lsub_c rfl (lsub_c rfl lsub_n)))) (r_L_law_J1405 C hX hRr hcs hret _ (fun _ _ h => ih _ _ h) h)
        · replace h := (if_neg c20).symm.trans h
          refine wa_iconst (v := 0) C dL_law_291 (by decide) ?_
          obtain rfl := Option.some.inj h
          exact hret _ _ dL_law_292
      replace h := (if_neg c17).symm.trans h
      by_cases c21 : ((xs (a3.toNatClampNeg)) &&& (63 : Int32)) = 3
      · replace h := (if_pos c21).symm.trans h
        rw [c21]
        refine wa_tableIn (tgt := 293) C dL_law_32 (by decide) (by decide) rfl (by decide) ?_
        refine wa_aload_n C dL_law_293 rfl ?_
        obtain ⟨q22, hq22, h⟩ := bd h
        refine wa_callV C (r_X9_fault_0 hq22) mk_X9_fault mv_X9_fault qw_458 rfl (by decide) rfl rfl ⟨Nat.le_trans (Nat.le_of_ble_eq_true rfl) hRr.1, Nat.le_trans (Nat.le_of_ble_eq_true rfl) hRr.2⟩ hcs (Nat.le_of_ble_eq_true rfl) dL_law_294 rfl ?_
        refine wa_aload_n C dL_law_297 rfl ?_
        obtain ⟨q23, hq23, h⟩ := bd h
        refine wa_callV C (r_X10_fault_62 hq23) mk_X10_fault mv_X10_fault qw_463 rfl (by decide) rfl rfl ⟨Nat.le_trans (Nat.le_of_ble_eq_true rfl) hRr.1, Nat.le_trans (Nat.le_of_ble_eq_true rfl) hRr.2⟩ hcs (Nat.le_of_ble_eq_true rfl) dL_law_298 rfl ?_
        refine wa_icmp_eq (tgt := 1405) C dL_law_301 (by decide) (fun c24 => ?_) (fun c24 => ?_)
        · replace h := (if_pos c24).symm.trans h
          exact WA.sub (lsub_c rfl (lsub_c rfl (lsub_c rfl (lsub_c rfl lsub_n)))) (r_L_law_J1405 C hX hRr hcs hret _ (fun _ _ h => ih _ _ h) h)
        · replace h := (if_neg c24).symm.trans h
          refine wa_iconst (v := 0) C dL_law_304 (by decide) ?_
          obtain rfl := Option.some.inj h
          exact hret _ _ dL_law_305
      replace h := (if_neg c21).symm.trans h
      by_cases c25 : ((xs (a3.toNatClampNeg)) &&& (63 : Int32)) = 4
      · replace h := (if_pos c25).symm.trans h
        rw [c25]
        refine wa_tableIn (tgt := 306) C dL_law_32 (by decide) (by decide) rfl (by decide) ?_
        refine wa_aload_n C dL_law_306 rfl ?_
        refine wa_aload_n C dL_law_307 rfl ?_
        refine wa_iload_n C dL_law_308 rfl ?_
        refine wa_iconst (v := 1) C dL_law_309 (by decide) ?_
        refine wa_iadd C dL_law_310 ?_
        obtain ⟨g26, h⟩ := gd h
        refine wa_scld C hX g26 dL_law_311 ?_
        obtain ⟨q27, hq27, h⟩ := bd h
        refine wa_callV C (r_X9_rule_0 hq27) mk_X9_rule mv_X9_rule qw_467 rfl (by decide) rfl rfl ⟨Nat.le_trans (Nat.le_of_ble_eq_true rfl) hRr.1, Nat.le_trans (Nat.le_of_ble_eq_true rfl) hRr.2⟩ hcs (Nat.le_of_ble_eq_true rfl) dL_law_312 rfl ?_
        refine wa_aload_n C dL_law_315 rfl ?_
        refine wa_aload_n C dL_law_316 rfl ?_
        refine wa_iload_n C dL_law_317 rfl ?_
        refine wa_iconst (v := 1) C dL_law_318 (by decide) ?_
        refine wa_iadd C dL_law_319 ?_
        obtain ⟨g28, h⟩ := gd h
        refine wa_scld C hX g28 dL_law_320 ?_
        obtain ⟨q29, hq29, h⟩ := bd h
        refine wa_callV C (r_X10_rule_62 hq29) mk_X10_rule mv_X10_rule qw_473 rfl (by decide) rfl rfl ⟨Nat.le_trans (Nat.le_of_ble_eq_true rfl) hRr.1, Nat.le_trans (Nat.le_of_ble_eq_true rfl) hRr.2⟩ hcs (Nat.le_of_ble_eq_true rfl) dL_law_321 rfl ?_
        refine wa_icmp_eq (tgt := 1405) C dL_law_324 (by decide) (fun c30 => ?_) (fun c30 => ?_)
        · replace h := (if_pos c30).symm.trans h
          exact WA.sub (lsub_c rfl (lsub_c rfl (lsub_c rfl (lsub_c rfl lsub_n)))) (r_L_law_J1405 C hX hRr hcs hret _ (fun _ _ h => ih _ _ h) h)
        · replace h := (if_neg c30).symm.trans h
          refine wa_iconst (v := 0) C dL_law_327 (by decide) ?_
          obtain rfl := Option.some.inj h
          exact hret _ _ dL_law_328
      replace h := (if_neg c25).symm.trans h
      by_cases c31 : ((xs (a3.toNatClampNeg)) &&& (63 : Int32)) = 5
      · replace h := (if_pos c31).symm.trans h
        rw [c31]
        refine wa_tableIn (tgt := 329) C dL_law_32 (by decide) (by decide) rfl (by decide) ?_
        refine wa_aload_n C dL_law_329 rfl ?_
        refine wa_aload_n C dL_law_330 rfl ?_
        refine wa_iload_n C dL_law_331 rfl ?_
        refine wa_iconst (v := 1) C dL_law_332 (by decide) ?_
        refine wa_iadd C dL_law_333 ?_
        obtain ⟨g32, h⟩ := gd h
        refine wa_scld C hX g32 dL_law_334 ?_
        refine wa_aload_n C dL_law_335 rfl ?_
        refine wa_iload_n C dL_law_336 rfl ?_
        refine wa_iconst (v := 2) C dL_law_337 (by decide) ?_
        refine wa_iadd C dL_law_338 ?_
        obtain ⟨g33, h⟩ := gd h
        refine wa_scld C hX g33 dL_law_339 ?_
        obtain ⟨q34, hq34, h⟩ := bd h
        refine wa_callV C (r_X9_sister_0 hq34) mk_X9_sister mv_X9_sister qw_477 rfl (by decide) rfl rfl ⟨Nat.le_trans (Nat.le_of_ble_eq_true rfl) hRr.1, Nat.le_trans (Nat.le_of_ble_eq_true rfl) hRr.2⟩ hcs (Nat.le_of_ble_eq_true rfl) dL_law_340 rfl ?_
        refine wa_aload_n C dL_law_343 rfl ?_
        refine wa_aload_n C dL_law_344 rfl ?_
        refine wa_iload_n C dL_law_345 rfl ?_
        refine wa_iconst (v := 1) C dL_law_346 (by decide) ?_
        refine wa_iadd C dL_law_347 ?_
        obtain ⟨g35, h⟩ := gd h
        refine wa_scld C hX g35 dL_law_348 ?_
        refine wa_aload_n C dL_law_349 rfl ?_
        refine wa_iload_n C dL_law_350 rfl ?_
        refine wa_iconst (v := 2) C dL_law_351 (by decide) ?_
        refine wa_iadd C dL_law_352 ?_
        obtain ⟨g36, h⟩ := gd h
        refine wa_scld C hX g36 dL_law_353 ?_
        obtain ⟨q37, hq37, h⟩ := bd h
        refine wa_callV C (r_X10_sister_62 hq37) mk_X10_sister mv_X10_sister qw_490 rfl (by decide) rfl rfl ⟨Nat.le_trans (Nat.le_of_ble_eq_true rfl) hRr.1, Nat.le_trans (Nat.le_of_ble_eq_true rfl) hRr.2⟩ hcs (Nat.le_of_ble_eq_true rfl) dL_law_354 rfl ?_
        refine wa_icmp_eq (tgt := 1405) C dL_law_357 (by decide) (fun c38 => ?_) (fun c38 => ?_)
        · replace h := (if_pos c38).symm.trans h
          exact WA.sub (lsub_c rfl (lsub_c rfl (lsub_c rfl (lsub_c rfl lsub_n)))) (r_L_law_J1405 C hX hRr hcs hret _ (fun _ _ h => ih _ _ h) h)
        · replace h := (if_neg c38).symm.trans h
          refine wa_iconst (v := 0) C dL_law_360 (by decide) ?_
          obtain rfl := Option.some.inj h
          exact hret _ _ dL_law_361
      replace h := (if_neg c31).symm.trans h
      by_cases c39 : ((xs (a3.toNatClampNeg)) &&& (63 : Int32)) = 6
      · replace h := (if_pos c39).symm.trans h
        rw [c39]
        refine wa_tableIn (tgt := 362) C dL_law_32 (by decide) (by decide) rfl (by decide) ?_
        refine wa_aload_n C dL_law_362 rfl ?_
        refine wa_aload_n C dL_law_363 rfl ?_
        refine wa_iload_n C dL_law_364 rfl ?_
        refine wa_iconst (v := 1) C dL_law_365 (by decide) ?_
        refine wa_iadd C dL_law_366 ?_
        obtain ⟨g40, h⟩ := gd h
        refine wa_scld C hX g40 dL_law_367 ?_
        refine wa_aload_n C dL_law_368 rfl ?_
        refine wa_iload_n C dL_law_369 rfl ?_
        refine wa_iconst (v := 2) C dL_law_370 (by decide) ?_
        refine wa_iadd C dL_law_371 ?_
        obtain ⟨g41, h⟩ := gd h
        refine wa_scld C hX g41 dL_law_372 ?_
        obtain ⟨q42, hq42, h⟩ := bd h
        refine wa_callV C (r_X9_eye_0 hq42) mk_X9_eye mv_X9_eye qw_498 rfl (by decide) rfl rfl ⟨Nat.le_trans (Nat.le_of_ble_eq_true rfl) hRr.1, Nat.le_trans (Nat.le_of_ble_eq_true rfl) hRr.2⟩ hcs (Nat.le_of_ble_eq_true rfl) dL_law_373 rfl ?_
        refine wa_aload_n C dL_law_376 rfl ?_
        refine wa_aload_n C dL_law_377 rfl ?_
        refine wa_iload_n C dL_law_378 rfl ?_
        refine wa_iconst (v := 1) C dL_law_379 (by decide) ?_
        refine wa_iadd C dL_law_380 ?_
        obtain ⟨g43, h⟩ := gd h
        refine wa_scld C hX g43 dL_law_381 ?_
        refine wa_aload_n C dL_law_382 rfl ?_
        refine wa_iload_n C dL_law_383 rfl ?_
        refine wa_iconst (v := 2) C dL_law_384 (by decide) ?_
        refine wa_iadd C dL_law_385 ?_
        obtain ⟨g44, h⟩ := gd h
        refine wa_scld C hX g44 dL_law_386 ?_
        obtain ⟨q45, hq45, h⟩ := bd h
        refine wa_callV C (r_X10_eye_62 hq45) mk_X10_eye mv_X10_eye qw_525 rfl (by decide) rfl rfl ⟨Nat.le_trans (Nat.le_of_ble_eq_true rfl) hRr.1, Nat.le_trans (Nat.le_of_ble_eq_true rfl) hRr.2⟩ hcs (Nat.le_of_ble_eq_true rfl) dL_law_387 rfl ?_
        refine wa_icmp_eq (tgt := 1405) C dL_law_390 (by decide) (fun c46 => ?_) (fun c46 => ?_)
        · replace h := (if_pos c46).symm.trans h
          exact WA.sub (lsub_c rfl (lsub_c rfl (lsub_c rfl (lsub_c rfl lsub_n)))) (r_L_law_J1405 C hX hRr hcs hret _ (fun _ _ h => ih _ _ h) h)
        · replace h := (if_neg c46).symm.trans h
          refine wa_iconst (v := 0) C dL_law_393 (by decide) ?_
          obtain rfl := Option.some.inj h
          exact hret _ _ dL_law_394
      replace h := (if_neg c39).symm.trans h
      by_cases c47 : ((xs (a3.toNatClampNeg)) &&& (63 : Int32)) = 7
      · replace h := (if_pos c47).symm.trans h
        rw [c47]
        refine wa_tableIn (tgt := 395) C dL_law_32 (by decide) (by decide) rfl (by decide) ?_
        refine wa_aload_n C dL_law_395 rfl ?_
        refine wa_aload_n C dL_law_396 rfl ?_
        refine wa_iload_n C dL_law_397 rfl ?_
        refine wa_iconst (v := 1) C dL_law_398 (by decide) ?_
        refine wa_iadd C dL_law_399 ?_
        obtain ⟨g48, h⟩ := gd h
        refine wa_scld C hX g48 dL_law_400 ?_
        refine wa_aload_n C dL_law_401 rfl ?_
        refine wa_iload_n C dL_law_402 rfl ?_
        refine wa_iconst (v := 2) C dL_law_403 (by decide) ?_
        refine wa_iadd C dL_law_404 ?_
        obtain ⟨g49, h⟩ := gd h
        refine wa_scld C hX g49 dL_law_405 ?_
        obtain ⟨q50, hq50, h⟩ := bd h
        refine wa_callV C (r_X9_needed_0 hq50) mk_X9_needed mv_X9_needed qw_537 rfl (by decide) rfl rfl ⟨Nat.le_trans (Nat.le_of_ble_eq_true rfl) hRr.1, Nat.le_trans (Nat.le_of_ble_eq_true rfl) hRr.2⟩ hcs (Nat.le_of_ble_eq_true rfl) dL_law_406 rfl ?_
        refine wa_aload_n C dL_law_409 rfl ?_
        refine wa_aload_n C dL_law_410 rfl ?_
        refine wa_iload_n C dL_law_411 rfl ?_
        refine wa_iconst (v := 1) C dL_law_412 (by decide) ?_
        refine wa_iadd C dL_law_413 ?_
        obtain ⟨g51, h⟩ := gd h
        refine wa_scld C hX g51 dL_law_414 ?_
        refine wa_aload_n C dL_law_415 rfl ?_
        refine wa_iload_n C dL_law_416 rfl ?_
        refine wa_iconst (v := 2) C dL_law_417 (by decide) ?_
        refine wa_iadd C dL_law_418 ?_
        obtain ⟨g52, h⟩ := gd h
        refine wa_scld C hX g52 dL_law_419 ?_
        obtain ⟨q53, hq53, h⟩ := bd h
        refine wa_callV C (r_X10_needed_62 hq53) mk_X10_needed mv_X10_needed qw_550 rfl (by decide) rfl rfl ⟨Nat.le_trans (Nat.le_of_ble_eq_true rfl) hRr.1, Nat.le_trans (Nat.le_of_ble_eq_true rfl) hRr.2⟩ hcs (Nat.le_of_ble_eq_true rfl) dL_law_420 rfl ?_
        refine wa_icmp_eq (tgt := 1405) C dL_law_423 (by decide) (fun c54 => ?_) (fun c54 => ?_)
        · replace h := (if_pos c54).symm.trans h
          exact WA.sub (lsub_c rfl (lsub_c rfl (lsub_c rfl (lsub_c rfl lsub_n)))) (r_L_law_J1405 C hX hRr hcs hret _ (fun _ _ h => ih _ _ h) h)
        · replace h := (if_neg c54).symm.trans h
          refine wa_iconst (v := 0) C dL_law_426 (by decide) ?_
          obtain rfl := Option.some.inj h
          exact hret _ _ dL_law_427
      replace h := (if_neg c47).symm.trans h
      by_cases c55 : ((xs (a3.toNatClampNeg)) &&& (63 : Int32)) = 8
      · replace h := (if_pos c55).symm.trans h
        rw [c55]
        refine wa_tableIn (tgt := 428) C dL_law_32 (by decide) (by decide) rfl (by decide) ?_
        refine wa_aload_n C dL_law_428 rfl ?_
        refine wa_aload_n C dL_law_429 rfl ?_
        refine wa_iload_n C dL_law_430 rfl ?_
        refine wa_iconst (v := 1) C dL_law_431 (by decide) ?_
        refine wa_iadd C dL_law_432 ?_
        obtain ⟨g56, h⟩ := gd h
        refine wa_scld C hX g56 dL_law_433 ?_
        obtain ⟨q57, hq57, h⟩ := bd h
        refine wa_callV C (r_X9_watch_0 hq57) mk_X9_watch mv_X9_watch qw_566 rfl (by decide) rfl rfl ⟨Nat.le_trans (Nat.le_of_ble_eq_true rfl) hRr.1, Nat.le_trans (Nat.le_of_ble_eq_true rfl) hRr.2⟩ hcs (Nat.le_of_ble_eq_true rfl) dL_law_434 rfl ?_
        refine wa_aload_n C dL_law_437 rfl ?_
        refine wa_aload_n C dL_law_438 rfl ?_
        refine wa_iload_n C dL_law_439 rfl ?_
        refine wa_iconst (v := 1) C dL_law_440 (by decide) ?_
        refine wa_iadd C dL_law_441 ?_
        obtain ⟨g58, h⟩ := gd h
        refine wa_scld C hX g58 dL_law_442 ?_
        obtain ⟨q59, hq59, h⟩ := bd h
        refine wa_callV C (r_X10_watch_62 hq59) mk_X10_watch mv_X10_watch qw_571 rfl (by decide) rfl rfl ⟨Nat.le_trans (Nat.le_of_ble_eq_true rfl) hRr.1, Nat.le_trans (Nat.le_of_ble_eq_true rfl) hRr.2⟩ hcs (Nat.le_of_ble_eq_true rfl) dL_law_443 rfl ?_
        refine wa_icmp_eq (tgt := 1405) C dL_law_446 (by decide) (fun c60 => ?_) (fun c60 => ?_)
        · replace h := (if_pos c60).symm.trans h
          exact WA.sub (lsub_c rfl (lsub_c rfl (lsub_c rfl (lsub_c rfl lsub_n)))) (r_L_law_J1405 C hX hRr hcs hret _ (fun _ _ h => ih _ _ h) h)
        · replace h := (if_neg c60).symm.trans h
          refine wa_iconst (v := 0) C dL_law_449 (by decide) ?_
          obtain rfl := Option.some.inj h
          exact hret _ _ dL_law_450
      replace h := (if_neg c55).symm.trans h
      by_cases c61 : ((xs (a3.toNatClampNeg)) &&& (63 : Int32)) = 9
      · replace h := (if_pos c61).symm.trans h
        rw [c61]
        refine wa_tableIn (tgt := 451) C dL_law_32 (by decide) (by decide) rfl (by decide) ?_
        refine wa_aload_n C dL_law_451 rfl ?_
        refine wa_aload_n C dL_law_452 rfl ?_
        refine wa_iload_n C dL_law_453 rfl ?_
        refine wa_iconst (v := 1) C dL_law_454 (by decide) ?_
        refine wa_iadd C dL_law_455 ?_
        obtain ⟨g62, h⟩ := gd h
        refine wa_scld C hX g62 dL_law_456 ?_
        refine wa_aload_n C dL_law_457 rfl ?_
        refine wa_iload_n C dL_law_458 rfl ?_
        refine wa_iconst (v := 2) C dL_law_459 (by decide) ?_
        refine wa_iadd C dL_law_460 ?_
        obtain ⟨g63, h⟩ := gd h
        refine wa_scld C hX g63 dL_law_461 ?_
        obtain ⟨q64, hq64, h⟩ := bd h
        refine wa_callV C (r_X9_tell_0 hq64) mk_X9_tell mv_X9_tell qw_575 rfl (by decide) rfl rfl ⟨Nat.le_trans (Nat.le_of_ble_eq_true rfl) hRr.1, Nat.le_trans (Nat.le_of_ble_eq_true rfl) hRr.2⟩ hcs (Nat.le_of_ble_eq_true rfl) dL_law_462 rfl ?_
        refine wa_aload_n C dL_law_465 rfl ?_
        refine wa_aload_n C dL_law_466 rfl ?_
        refine wa_iload_n C dL_law_467 rfl ?_
        refine wa_iconst (v := 1) C dL_law_468 (by decide) ?_
        refine wa_iadd C dL_law_469 ?_
        obtain ⟨g65, h⟩ := gd h
        refine wa_scld C hX g65 dL_law_470 ?_
        refine wa_aload_n C dL_law_471 rfl ?_
        refine wa_iload_n C dL_law_472 rfl ?_
        refine wa_iconst (v := 2) C dL_law_473 (by decide) ?_
        refine wa_iadd C dL_law_474 ?_
        obtain ⟨g66, h⟩ := gd h
        refine wa_scld C hX g66 dL_law_475 ?_
        obtain ⟨q67, hq67, h⟩ := bd h
        refine wa_callV C (r_X10_tell_62 hq67) mk_X10_tell mv_X10_tell qw_584 rfl (by decide) rfl rfl ⟨Nat.le_trans (Nat.le_of_ble_eq_true rfl) hRr.1, Nat.le_trans (Nat.le_of_ble_eq_true rfl) hRr.2⟩ hcs (Nat.le_of_ble_eq_true rfl) dL_law_476 rfl ?_
        refine wa_icmp_eq (tgt := 1405) C dL_law_479 (by decide) (fun c68 => ?_) (fun c68 => ?_)
        · replace h := (if_pos c68).symm.trans h
          exact WA.sub (lsub_c rfl (lsub_c rfl (lsub_c rfl (lsub_c rfl lsub_n)))) (r_L_law_J1405 C hX hRr hcs hret _ (fun _ _ h => ih _ _ h) h)
        · replace h := (if_neg c68).symm.trans h
          refine wa_iconst (v := 0) C dL_law_482 (by decide) ?_
          obtain rfl := Option.some.inj h
          exact hret _ _ dL_law_483
      replace h := (if_neg c61).symm.trans h
      by_cases c69 : ((xs (a3.toNatClampNeg)) &&& (63 : Int32)) = 10
      · replace h := (if_pos c69).symm.trans h
        rw [c69]
        refine wa_tableIn (tgt := 484) C dL_law_32 (by decide) (by decide) rfl (by decide) ?_
        refine wa_aload_n C dL_law_484 rfl ?_
        refine wa_aload_n C dL_law_485 rfl ?_
        refine wa_iload_n C dL_law_486 rfl ?_
        refine wa_iconst (v := 1) C dL_law_487 (by decide) ?_
        refine wa_iadd C dL_law_488 ?_
        obtain ⟨g70, h⟩ := gd h
        refine wa_scld C hX g70 dL_law_489 ?_
        refine wa_aload_n C dL_law_490 rfl ?_
        refine wa_iload_n C dL_law_491 rfl ?_
        refine wa_iconst (v := 2) C dL_law_492 (by decide) ?_
        refine wa_iadd C dL_law_493 ?_
        obtain ⟨g71, h⟩ := gd h
        refine wa_scld C hX g71 dL_law_494 ?_
        obtain ⟨q72, hq72, h⟩ := bd h
        refine wa_callV C (r_X9_need_0 hq72) mk_X9_need mv_X9_need qw_592 rfl (by decide) rfl rfl ⟨Nat.le_trans (Nat.le_of_ble_eq_true rfl) hRr.1, Nat.le_trans (Nat.le_of_ble_eq_true rfl) hRr.2⟩ hcs (Nat.le_of_ble_eq_true rfl) dL_law_495 rfl ?_
        refine wa_aload_n C dL_law_498 rfl ?_
        refine wa_aload_n C dL_law_499 rfl ?_
        refine wa_iload_n C dL_law_500 rfl ?_
        refine wa_iconst (v := 1) C dL_law_501 (by decide) ?_
        refine wa_iadd C dL_law_502 ?_
        obtain ⟨g73, h⟩ := gd h
        refine wa_scld C hX g73 dL_law_503 ?_
        refine wa_aload_n C dL_law_504 rfl ?_
        refine wa_iload_n C dL_law_505 rfl ?_
        refine wa_iconst (v := 2) C dL_law_506 (by decide) ?_
        refine wa_iadd C dL_law_507 ?_
        obtain ⟨g74, h⟩ := gd h
        refine wa_scld C hX g74 dL_law_508 ?_
        obtain ⟨q75, hq75, h⟩ := bd h
        refine wa_callV C (r_X10_need_62 hq75) mk_X10_need mv_X10_need qw_596 rfl (by decide) rfl rfl ⟨Nat.le_trans (Nat.le_of_ble_eq_true rfl) hRr.1, Nat.le_trans (Nat.le_of_ble_eq_true rfl) hRr.2⟩ hcs (Nat.le_of_ble_eq_true rfl) dL_law_509 rfl ?_
        refine wa_icmp_eq (tgt := 1405) C dL_law_512 (by decide) (fun c76 => ?_) (fun c76 => ?_)
        · replace h := (if_pos c76).symm.trans h
          exact WA.sub (lsub_c rfl (lsub_c rfl (lsub_c rfl (lsub_c rfl lsub_n)))) (r_L_law_J1405 C hX hRr hcs hret _ (fun _ _ h => ih _ _ h) h)
        · replace h := (if_neg c76).symm.trans h
          refine wa_iconst (v := 0) C dL_law_515 (by decide) ?_
          obtain rfl := Option.some.inj h
          exact hret _ _ dL_law_516
      replace h := (if_neg c69).symm.trans h
      by_cases c77 : ((xs (a3.toNatClampNeg)) &&& (63 : Int32)) = 11
      · replace h := (if_pos c77).symm.trans h
        rw [c77]
        refine wa_tableIn (tgt := 517) C dL_law_32 (by decide) (by decide) rfl (by decide) ?_
        refine wa_aload_n C dL_law_517 rfl ?_
        refine wa_aload_n C dL_law_518 rfl ?_
        refine wa_iload_n C dL_law_519 rfl ?_
        refine wa_iconst (v := 1) C dL_law_520 (by decide) ?_
        refine wa_iadd C dL_law_521 ?_
        obtain ⟨g78, h⟩ := gd h
        refine wa_scld C hX g78 dL_law_522 ?_
        refine wa_aload_n C dL_law_523 rfl ?_
        refine wa_iload_n C dL_law_524 rfl ?_
        refine wa_iconst (v := 2) C dL_law_525 (by decide) ?_
        refine wa_iadd C dL_law_526 ?_
        obtain ⟨g79, h⟩ := gd h
        refine wa_scld C hX g79 dL_law_527 ?_
        refine wa_aload_n C dL_law_528 rfl ?_
        refine wa_iload_n C dL_law_529 rfl ?_
        refine wa_iconst (v := 3) C dL_law_530 (by decide) ?_
        refine wa_iadd C dL_law_531 ?_
        obtain ⟨g80, h⟩ := gd h
        refine wa_scld C hX g80 dL_law_532 ?_
        refine wa_if_eq (tgt := 540) C dL_law_533 (by decide) (fun c81 => ?_) (fun c81 => ?_)
        · replace h := (if_pos c81).symm.trans h
          refine wa_iconst (v := 0) C dL_law_540 (by decide) ?_
          exact WA.sub (lsub_c rfl (lsub_c rfl (lsub_c rfl (lsub_c rfl lsub_n)))) (r_L_law_J541 C hX hRr hcs hret _ (fun _ _ h => ih _ _ h) h)
        · replace h := (if_neg c81).symm.trans h
          refine wa_iconst (v := 1) C dL_law_536 (by decide) ?_
          refine wa_goto (tgt := 541) C dL_law_537 (by decide) ?_
          exact WA.sub (lsub_c rfl (lsub_c rfl (lsub_c rfl (lsub_c rfl lsub_n)))) (r_L_law_J541 C hX hRr hcs hret _ (fun _ _ h => ih _ _ h) h)
      replace h := (if_neg c77).symm.trans h
      by_cases c89 : ((xs (a3.toNatClampNeg)) &&& (63 : Int32)) = 12
      · replace h := (if_pos c89).symm.trans h
        rw [c89]
        refine wa_tableIn (tgt := 576) C dL_law_32 (by decide) (by decide) rfl (by decide) ?_
        refine wa_aload_n C dL_law_576 rfl ?_
        refine wa_aload_n C dL_law_577 rfl ?_
        refine wa_iload_n C dL_law_578 rfl ?_
        refine wa_iconst (v := 1) C dL_law_579 (by decide) ?_
        refine wa_iadd C dL_law_580 ?_
        obtain ⟨g90, h⟩ := gd h
        refine wa_scld C hX g90 dL_law_581 ?_
        refine wa_aload_n C dL_law_582 rfl ?_
        refine wa_iload_n C dL_law_583 rfl ?_
        refine wa_iconst (v := 2) C dL_law_584 (by decide) ?_
        refine wa_iadd C dL_law_585 ?_
        obtain ⟨g91, h⟩ := gd h
        refine wa_scld C hX g91 dL_law_586 ?_
        obtain ⟨q92, hq92, h⟩ := bd h
        refine wa_callV C (r_X9_turn_0 hq92) mk_X9_turn mv_X9_turn qw_609 rfl (by decide) rfl rfl ⟨Nat.le_trans (Nat.le_of_ble_eq_true rfl) hRr.1, Nat.le_trans (Nat.le_of_ble_eq_true rfl) hRr.2⟩ hcs (Nat.le_of_ble_eq_true rfl) dL_law_587 rfl ?_
        refine wa_aload_n C dL_law_590 rfl ?_
        refine wa_aload_n C dL_law_591 rfl ?_
        refine wa_iload_n C dL_law_592 rfl ?_
        refine wa_iconst (v := 1) C dL_law_593 (by decide) ?_
        refine wa_iadd C dL_law_594 ?_
        obtain ⟨g93, h⟩ := gd h
        refine wa_scld C hX g93 dL_law_595 ?_
        refine wa_aload_n C dL_law_596 rfl ?_
        refine wa_iload_n C dL_law_597 rfl ?_
        refine wa_iconst (v := 2) C dL_law_598 (by decide) ?_
        refine wa_iadd C dL_law_599 ?_
        obtain ⟨g94, h⟩ := gd h
        refine wa_scld C hX g94 dL_law_600 ?_
        obtain ⟨q95, hq95, h⟩ := bd h
        refine wa_callV C (r_X10_turn_62 hq95) mk_X10_turn mv_X10_turn qw_613 rfl (by decide) rfl rfl ⟨Nat.le_trans (Nat.le_of_ble_eq_true rfl) hRr.1, Nat.le_trans (Nat.le_of_ble_eq_true rfl) hRr.2⟩ hcs (Nat.le_of_ble_eq_true rfl) dL_law_601 rfl ?_
        refine wa_icmp_eq (tgt := 1405) C dL_law_604 (by decide) (fun c96 => ?_) (fun c96 => ?_)
        · replace h := (if_pos c96).symm.trans h
          exact WA.sub (lsub_c rfl (lsub_c rfl (lsub_c rfl (lsub_c rfl lsub_n)))) (r_L_law_J1405 C hX hRr hcs hret _ (fun _ _ h => ih _ _ h) h)
        · replace h := (if_neg c96).symm.trans h
          refine wa_iconst (v := 0) C dL_law_607 (by decide) ?_
          obtain rfl := Option.some.inj h
          exact hret _ _ dL_law_608
      replace h := (if_neg c89).symm.trans h
      by_cases c97 : ((xs (a3.toNatClampNeg)) &&& (63 : Int32)) = 13
      · replace h := (if_pos c97).symm.trans h
        rw [c97]
        refine wa_tableIn (tgt := 609) C dL_law_32 (by decide) (by decide) rfl (by decide) ?_
        refine wa_aload_n C dL_law_609 rfl ?_
        refine wa_aload_n C dL_law_610 rfl ?_
        refine wa_iload_n C dL_law_611 rfl ?_
        refine wa_iconst (v := 1) C dL_law_612 (by decide) ?_
        refine wa_iadd C dL_law_613 ?_
        obtain ⟨g98, h⟩ := gd h
        refine wa_scld C hX g98 dL_law_614 ?_
        refine wa_aload_n C dL_law_615 rfl ?_
        refine wa_iload_n C dL_law_616 rfl ?_
        refine wa_iconst (v := 2) C dL_law_617 (by decide) ?_
        refine wa_iadd C dL_law_618 ?_
        obtain ⟨g99, h⟩ := gd h
        refine wa_scld C hX g99 dL_law_619 ?_
        obtain ⟨q100, hq100, h⟩ := bd h
        refine wa_callV C (r_X9_tire_0 hq100) mk_X9_tire mv_X9_tire qw_617 rfl (by decide) rfl rfl ⟨Nat.le_trans (Nat.le_of_ble_eq_true rfl) hRr.1, Nat.le_trans (Nat.le_of_ble_eq_true rfl) hRr.2⟩ hcs (Nat.le_of_ble_eq_true rfl) dL_law_620 rfl ?_
        refine wa_aload_n C dL_law_623 rfl ?_
        refine wa_aload_n C dL_law_624 rfl ?_
        refine wa_iload_n C dL_law_625 rfl ?_
        refine wa_iconst (v := 1) C dL_law_626 (by decide) ?_
        refine wa_iadd C dL_law_627 ?_
        obtain ⟨g101, h⟩ := gd h
        refine wa_scld C hX g101 dL_law_628 ?_
        refine wa_aload_n C dL_law_629 rfl ?_
        refine wa_iload_n C dL_law_630 rfl ?_
        refine wa_iconst (v := 2) C dL_law_631 (by decide) ?_
        refine wa_iadd C dL_law_632 ?_
        obtain ⟨g102, h⟩ := gd h
        refine wa_scld C hX g102 dL_law_633 ?_
        obtain ⟨q103, hq103, h⟩ := bd h
        refine wa_callV C (r_X10_tire_62 hq103) mk_X10_tire mv_X10_tire qw_622 rfl (by decide) rfl rfl ⟨Nat.le_trans (Nat.le_of_ble_eq_true rfl) hRr.1, Nat.le_trans (Nat.le_of_ble_eq_true rfl) hRr.2⟩ hcs (Nat.le_of_ble_eq_true rfl) dL_law_634 rfl ?_
        refine wa_icmp_eq (tgt := 1405) C dL_law_637 (by decide) (fun c104 => ?_) (fun c104 => ?_)
        · replace h := (if_pos c104).symm.trans h
          exact WA.sub (lsub_c rfl (lsub_c rfl (lsub_c rfl (lsub_c rfl lsub_n)))) (r_L_law_J1405 C hX hRr hcs hret _ (fun _ _ h => ih _ _ h) h)
        · replace h := (if_neg c104).symm.trans h
          refine wa_iconst (v := 0) C dL_law_640 (by decide) ?_
          obtain rfl := Option.some.inj h
          exact hret _ _ dL_law_641
      replace h := (if_neg c97).symm.trans h
      by_cases c105 : ((xs (a3.toNatClampNeg)) &&& (63 : Int32)) = 14
      · replace h := (if_pos c105).symm.trans h
        rw [c105]
        refine wa_tableIn (tgt := 642) C dL_law_32 (by decide) (by decide) rfl (by decide) ?_
        refine wa_aload_n C dL_law_642 rfl ?_
        refine wa_aload_n C dL_law_643 rfl ?_
        refine wa_iload_n C dL_law_644 rfl ?_
        refine wa_iconst (v := 1) C dL_law_645 (by decide) ?_
        refine wa_iadd C dL_law_646 ?_
        obtain ⟨g106, h⟩ := gd h
        refine wa_scld C hX g106 dL_law_647 ?_
        refine wa_aload_n C dL_law_648 rfl ?_
        refine wa_iload_n C dL_law_649 rfl ?_
        refine wa_iconst (v := 2) C dL_law_650 (by decide) ?_
        refine wa_iadd C dL_law_651 ?_
        obtain ⟨g107, h⟩ := gd h
        refine wa_scld C hX g107 dL_law_652 ?_
        obtain ⟨q108, hq108, h⟩ := bd h
        refine wa_callV C (r_X9_sees_0 hq108) mk_X9_sees mv_X9_sees qw_631 rfl (by decide) rfl rfl ⟨Nat.le_trans (Nat.le_of_ble_eq_true rfl) hRr.1, Nat.le_trans (Nat.le_of_ble_eq_true rfl) hRr.2⟩ hcs (Nat.le_of_ble_eq_true rfl) dL_law_653 rfl ?_
        refine wa_aload_n C dL_law_656 rfl ?_
        refine wa_aload_n C dL_law_657 rfl ?_
        refine wa_iload_n C dL_law_658 rfl ?_
        refine wa_iconst (v := 1) C dL_law_659 (by decide) ?_
        refine wa_iadd C dL_law_660 ?_
        obtain ⟨g109, h⟩ := gd h
        refine wa_scld C hX g109 dL_law_661 ?_
        refine wa_aload_n C dL_law_662 rfl ?_
        refine wa_iload_n C dL_law_663 rfl ?_
        refine wa_iconst (v := 2) C dL_law_664 (by decide) ?_
        refine wa_iadd C dL_law_665 ?_
        obtain ⟨g110, h⟩ := gd h
        refine wa_scld C hX g110 dL_law_666 ?_
        obtain ⟨q111, hq111, h⟩ := bd h
        refine wa_callV C (r_X10_sees_62 hq111) mk_X10_sees mv_X10_sees qw_643 rfl (by decide) rfl rfl ⟨Nat.le_trans (Nat.le_of_ble_eq_true rfl) hRr.1, Nat.le_trans (Nat.le_of_ble_eq_true rfl) hRr.2⟩ hcs (Nat.le_of_ble_eq_true rfl) dL_law_667 rfl ?_
        refine wa_icmp_eq (tgt := 1405) C dL_law_670 (by decide) (fun c112 => ?_) (fun c112 => ?_)
        · replace h := (if_pos c112).symm.trans h
          exact WA.sub (lsub_c rfl (lsub_c rfl (lsub_c rfl (lsub_c rfl lsub_n)))) (r_L_law_J1405 C hX hRr hcs hret _ (fun _ _ h => ih _ _ h) h)
        · replace h := (if_neg c112).symm.trans h
          refine wa_iconst (v := 0) C dL_law_673 (by decide) ?_
          obtain rfl := Option.some.inj h
          exact hret _ _ dL_law_674
      replace h := (if_neg c105).symm.trans h
      by_cases c113 : ((xs (a3.toNatClampNeg)) &&& (63 : Int32)) = 15
      · replace h := (if_pos c113).symm.trans h
        rw [c113]
        refine wa_tableIn (tgt := 675) C dL_law_32 (by decide) (by decide) rfl (by decide) ?_
        refine wa_aload_n C dL_law_675 rfl ?_
        refine wa_aload_n C dL_law_676 rfl ?_
        refine wa_iload_n C dL_law_677 rfl ?_
        refine wa_iconst (v := 1) C dL_law_678 (by decide) ?_
        refine wa_iadd C dL_law_679 ?_
        obtain ⟨g114, h⟩ := gd h
        refine wa_scld C hX g114 dL_law_680 ?_
        refine wa_aload_n C dL_law_681 rfl ?_
        refine wa_iload_n C dL_law_682 rfl ?_
        refine wa_iconst (v := 2) C dL_law_683 (by decide) ?_
        refine wa_iadd C dL_law_684 ?_
        obtain ⟨g115, h⟩ := gd h
        refine wa_scld C hX g115 dL_law_685 ?_
        obtain ⟨q116, hq116, h⟩ := bd h
        refine wa_callV C (r_X9_lawful_0 hq116) mk_X9_lawful mv_X9_lawful qw_663 rfl (by decide) rfl rfl ⟨Nat.le_trans (Nat.le_of_ble_eq_true rfl) hRr.1, Nat.le_trans (Nat.le_of_ble_eq_true rfl) hRr.2⟩ hcs (Nat.le_of_ble_eq_true rfl) dL_law_686 rfl ?_
        refine wa_aload_n C dL_law_689 rfl ?_
        refine wa_aload_n C dL_law_690 rfl ?_
        refine wa_iload_n C dL_law_691 rfl ?_
        refine wa_iconst (v := 1) C dL_law_692 (by decide) ?_
        refine wa_iadd C dL_law_693 ?_
        obtain ⟨g117, h⟩ := gd h
        refine wa_scld C hX g117 dL_law_694 ?_
        refine wa_aload_n C dL_law_695 rfl ?_
        refine wa_iload_n C dL_law_696 rfl ?_
        refine wa_iconst (v := 2) C dL_law_697 (by decide) ?_
        refine wa_iadd C dL_law_698 ?_
        obtain ⟨g118, h⟩ := gd h
        refine wa_scld C hX g118 dL_law_699 ?_
        obtain ⟨q119, hq119, h⟩ := bd h
        refine wa_callV C (r_X10_lawful_62 hq119) mk_X10_lawful mv_X10_lawful qw_676 rfl (by decide) rfl rfl ⟨Nat.le_trans (Nat.le_of_ble_eq_true rfl) hRr.1, Nat.le_trans (Nat.le_of_ble_eq_true rfl) hRr.2⟩ hcs (Nat.le_of_ble_eq_true rfl) dL_law_700 rfl ?_
        refine wa_icmp_eq (tgt := 1405) C dL_law_703 (by decide) (fun c120 => ?_) (fun c120 => ?_)
        · replace h := (if_pos c120).symm.trans h
          exact WA.sub (lsub_c rfl (lsub_c rfl (lsub_c rfl (lsub_c rfl lsub_n)))) (r_L_law_J1405 C hX hRr hcs hret _ (fun _ _ h => ih _ _ h) h)
        · replace h := (if_neg c120).symm.trans h
          refine wa_iconst (v := 0) C dL_law_706 (by decide) ?_
          obtain rfl := Option.some.inj h
          exact hret _ _ dL_law_707
      replace h := (if_neg c113).symm.trans h
      by_cases c121 : ((xs (a3.toNatClampNeg)) &&& (63 : Int32)) = 16
      · replace h := (if_pos c121).symm.trans h
        rw [c121]
        refine wa_tableIn (tgt := 708) C dL_law_32 (by decide) (by decide) rfl (by decide) ?_
        refine wa_aload_n C dL_law_708 rfl ?_
        refine wa_aload_n C dL_law_709 rfl ?_
        refine wa_iload_n C dL_law_710 rfl ?_
        refine wa_iconst (v := 1) C dL_law_711 (by decide) ?_
        refine wa_iadd C dL_law_712 ?_
        obtain ⟨g122, h⟩ := gd h
        refine wa_scld C hX g122 dL_law_713 ?_
        refine wa_aload_n C dL_law_714 rfl ?_
        refine wa_iload_n C dL_law_715 rfl ?_
        refine wa_iconst (v := 2) C dL_law_716 (by decide) ?_
        refine wa_iadd C dL_law_717 ?_
        obtain ⟨g123, h⟩ := gd h
        refine wa_scld C hX g123 dL_law_718 ?_
        obtain ⟨q124, hq124, h⟩ := bd h
        refine wa_callV C (r_X9_asleep_0 hq124) mk_X9_asleep mv_X9_asleep qw_688 rfl (by decide) rfl rfl ⟨Nat.le_trans (Nat.le_of_ble_eq_true rfl) hRr.1, Nat.le_trans (Nat.le_of_ble_eq_true rfl) hRr.2⟩ hcs (Nat.le_of_ble_eq_true rfl) dL_law_719 rfl ?_
        refine wa_aload_n C dL_law_722 rfl ?_
        refine wa_aload_n C dL_law_723 rfl ?_
        refine wa_iload_n C dL_law_724 rfl ?_
        refine wa_iconst (v := 1) C dL_law_725 (by decide) ?_
        refine wa_iadd C dL_law_726 ?_
        obtain ⟨g125, h⟩ := gd h
        refine wa_scld C hX g125 dL_law_727 ?_
        refine wa_aload_n C dL_law_728 rfl ?_
        refine wa_iload_n C dL_law_729 rfl ?_
        refine wa_iconst (v := 2) C dL_law_730 (by decide) ?_
        refine wa_iadd C dL_law_731 ?_
        obtain ⟨g126, h⟩ := gd h
        refine wa_scld C hX g126 dL_law_732 ?_
        obtain ⟨q127, hq127, h⟩ := bd h
        refine wa_callV C (r_X10_asleep_62 hq127) mk_X10_asleep mv_X10_asleep qw_702 rfl (by decide) rfl rfl ⟨Nat.le_trans (Nat.le_of_ble_eq_true rfl) hRr.1, Nat.le_trans (Nat.le_of_ble_eq_true rfl) hRr.2⟩ hcs (Nat.le_of_ble_eq_true rfl) dL_law_733 rfl ?_
        refine wa_icmp_eq (tgt := 1405) C dL_law_736 (by decide) (fun c128 => ?_) (fun c128 => ?_)
        · replace h := (if_pos c128).symm.trans h
          exact WA.sub (lsub_c rfl (lsub_c rfl (lsub_c rfl (lsub_c rfl lsub_n)))) (r_L_law_J1405 C hX hRr hcs hret _ (fun _ _ h => ih _ _ h) h)
        · replace h := (if_neg c128).symm.trans h
          refine wa_iconst (v := 0) C dL_law_739 (by decide) ?_
          obtain rfl := Option.some.inj h
          exact hret _ _ dL_law_740
      replace h := (if_neg c121).symm.trans h
      by_cases c129 : ((xs (a3.toNatClampNeg)) &&& (63 : Int32)) = 17
      · replace h := (if_pos c129).symm.trans h
        rw [c129]
        refine wa_tableIn (tgt := 741) C dL_law_32 (by decide) (by decide) rfl (by decide) ?_
        refine wa_aload_n C dL_law_741 rfl ?_
        refine wa_aload_n C dL_law_742 rfl ?_
        refine wa_iload_n C dL_law_743 rfl ?_
        refine wa_iconst (v := 1) C dL_law_744 (by decide) ?_
        refine wa_iadd C dL_law_745 ?_
        obtain ⟨g130, h⟩ := gd h
        refine wa_scld C hX g130 dL_law_746 ?_
        refine wa_aload_n C dL_law_747 rfl ?_
        refine wa_iload_n C dL_law_748 rfl ?_
        refine wa_iconst (v := 2) C dL_law_749 (by decide) ?_
        refine wa_iadd C dL_law_750 ?_
        obtain ⟨g131, h⟩ := gd h
        refine wa_scld C hX g131 dL_law_751 ?_
        obtain ⟨q132, hq132, h⟩ := bd h
        refine wa_callV C (r_X9_tired_0 hq132) mk_X9_tired mv_X9_tired qw_716 rfl (by decide) rfl rfl ⟨Nat.le_trans (Nat.le_of_ble_eq_true rfl) hRr.1, Nat.le_trans (Nat.le_of_ble_eq_true rfl) hRr.2⟩ hcs (Nat.le_of_ble_eq_true rfl) dL_law_752 rfl ?_
        refine wa_aload_n C dL_law_755 rfl ?_
        refine wa_aload_n C dL_law_756 rfl ?_
        refine wa_iload_n C dL_law_757 rfl ?_
        refine wa_iconst (v := 1) C dL_law_758 (by decide) ?_
        refine wa_iadd C dL_law_759 ?_
        obtain ⟨g133, h⟩ := gd h
        refine wa_scld C hX g133 dL_law_760 ?_
        refine wa_aload_n C dL_law_761 rfl ?_
        refine wa_iload_n C dL_law_762 rfl ?_
        refine wa_iconst (v := 2) C dL_law_763 (by decide) ?_
        refine wa_iadd C dL_law_764 ?_
        obtain ⟨g134, h⟩ := gd h
        refine wa_scld C hX g134 dL_law_765 ?_
        obtain ⟨q135, hq135, h⟩ := bd h
        refine wa_callV C (r_X10_tired_62 hq135) mk_X10_tired mv_X10_tired qw_746 rfl (by decide) rfl rfl ⟨Nat.le_trans (Nat.le_of_ble_eq_true rfl) hRr.1, Nat.le_trans (Nat.le_of_ble_eq_true rfl) hRr.2⟩ hcs (Nat.le_of_ble_eq_true rfl) dL_law_766 rfl ?_
        refine wa_icmp_eq (tgt := 1405) C dL_law_769 (by decide) (fun c136 => ?_) (fun c136 => ?_)
        · replace h := (if_pos c136).symm.trans h
          exact WA.sub (lsub_c rfl (lsub_c rfl (lsub_c rfl (lsub_c rfl lsub_n)))) (r_L_law_J1405 C hX hRr hcs hret _ (fun _ _ h => ih _ _ h) h)
        · replace h := (if_neg c136).symm.trans h
          refine wa_iconst (v := 0) C dL_law_772 (by decide) ?_
          obtain rfl := Option.some.inj h
          exact hret _ _ dL_law_773
      replace h := (if_neg c129).symm.trans h
      by_cases c137 : ((xs (a3.toNatClampNeg)) &&& (63 : Int32)) = 18
      · replace h := (if_pos c137).symm.trans h
        rw [c137]
        refine wa_tableIn (tgt := 774) C dL_law_32 (by decide) (by decide) rfl (by decide) ?_
        refine wa_aload_n C dL_law_774 rfl ?_
        refine wa_aload_n C dL_law_775 rfl ?_
        refine wa_iload_n C dL_law_776 rfl ?_
        refine wa_iconst (v := 1) C dL_law_777 (by decide) ?_
        refine wa_iadd C dL_law_778 ?_
        obtain ⟨g138, h⟩ := gd h
        refine wa_scld C hX g138 dL_law_779 ?_
        obtain ⟨q139, hq139, h⟩ := bd h
        refine wa_callV C (r_X9_open_0 hq139) mk_X9_open mv_X9_open qw_762 rfl (by decide) rfl rfl ⟨Nat.le_trans (Nat.le_of_ble_eq_true rfl) hRr.1, Nat.le_trans (Nat.le_of_ble_eq_true rfl) hRr.2⟩ hcs (Nat.le_of_ble_eq_true rfl) dL_law_780 rfl ?_
        refine wa_aload_n C dL_law_783 rfl ?_
        refine wa_aload_n C dL_law_784 rfl ?_
        refine wa_iload_n C dL_law_785 rfl ?_
        refine wa_iconst (v := 1) C dL_law_786 (by decide) ?_
        refine wa_iadd C dL_law_787 ?_
        obtain ⟨g140, h⟩ := gd h
        refine wa_scld C hX g140 dL_law_788 ?_
        obtain ⟨q141, hq141, h⟩ := bd h
        refine wa_callV C (r_X10_open_62 hq141) mk_X10_open mv_X10_open qw_767 rfl (by decide) rfl rfl ⟨Nat.le_trans (Nat.le_of_ble_eq_true rfl) hRr.1, Nat.le_trans (Nat.le_of_ble_eq_true rfl) hRr.2⟩ hcs (Nat.le_of_ble_eq_true rfl) dL_law_789 rfl ?_
        refine wa_icmp_eq (tgt := 1405) C dL_law_792 (by decide) (fun c142 => ?_) (fun c142 => ?_)
        · replace h := (if_pos c142).symm.trans h
          exact WA.sub (lsub_c rfl (lsub_c rfl (lsub_c rfl (lsub_c rfl lsub_n)))) (r_L_law_J1405 C hX hRr hcs hret _ (fun _ _ h => ih _ _ h) h)
        · replace h := (if_neg c142).symm.trans h
          refine wa_iconst (v := 0) C dL_law_795 (by decide) ?_
          obtain rfl := Option.some.inj h
          exact hret _ _ dL_law_796
      replace h := (if_neg c137).symm.trans h
      by_cases c143 : ((xs (a3.toNatClampNeg)) &&& (63 : Int32)) = 19
      · replace h := (if_pos c143).symm.trans h
        rw [c143]
        refine wa_tableIn (tgt := 797) C dL_law_32 (by decide) (by decide) rfl (by decide) ?_
        refine wa_aload_n C dL_law_797 rfl ?_
        refine wa_aload_n C dL_law_798 rfl ?_
        refine wa_iload_n C dL_law_799 rfl ?_
        refine wa_iconst (v := 1) C dL_law_800 (by decide) ?_
        refine wa_iadd C dL_law_801 ?_
        obtain ⟨g144, h⟩ := gd h
        refine wa_scld C hX g144 dL_law_802 ?_
        obtain ⟨q145, hq145, h⟩ := bd h
        refine wa_callV C (r_X9_missed_0 hq145) mk_X9_missed mv_X9_missed qw_775 rfl (by decide) rfl rfl ⟨Nat.le_trans (Nat.le_of_ble_eq_true rfl) hRr.1, Nat.le_trans (Nat.le_of_ble_eq_true rfl) hRr.2⟩ hcs (Nat.le_of_ble_eq_true rfl) dL_law_803 rfl ?_
        refine wa_aload_n C dL_law_806 rfl ?_
        refine wa_aload_n C dL_law_807 rfl ?_
        refine wa_iload_n C dL_law_808 rfl ?_
        refine wa_iconst (v := 1) C dL_law_809 (by decide) ?_
        refine wa_iadd C dL_law_810 ?_
        obtain ⟨g146, h⟩ := gd h
        refine wa_scld C hX g146 dL_law_811 ?_
        obtain ⟨q147, hq147, h⟩ := bd h
        refine wa_callV C (r_X10_missed_62 hq147) mk_X10_missed mv_X10_missed qw_783 rfl (by decide) rfl rfl ⟨Nat.le_trans (Nat.le_of_ble_eq_true rfl) hRr.1, Nat.le_trans (Nat.le_of_ble_eq_true rfl) hRr.2⟩ hcs (Nat.le_of_ble_eq_true rfl) dL_law_812 rfl ?_
        refine wa_icmp_eq (tgt := 1405) C dL_law_815 (by decide) (fun c148 => ?_) (fun c148 => ?_)
        · replace h := (if_pos c148).symm.trans h
          exact WA.sub (lsub_c rfl (lsub_c rfl (lsub_c rfl (lsub_c rfl lsub_n)))) (r_L_law_J1405 C hX hRr hcs hret _ (fun _ _ h => ih _ _ h) h)
        · replace h := (if_neg c148).symm.trans h
          refine wa_iconst (v := 0) C dL_law_818 (by decide) ?_
          obtain rfl := Option.some.inj h
          exact hret _ _ dL_law_819
      replace h := (if_neg c143).symm.trans h
      by_cases c149 : ((xs (a3.toNatClampNeg)) &&& (63 : Int32)) = 20
      · replace h := (if_pos c149).symm.trans h
        rw [c149]
        refine wa_tableIn (tgt := 820) C dL_law_32 (by decide) (by decide) rfl (by decide) ?_
        refine wa_aload_n C dL_law_820 rfl ?_
        obtain ⟨q150, hq150, h⟩ := bd h
        refine wa_callV C (r_X9_wreck_0 hq150) mk_X9_wreck mv_X9_wreck qw_791 rfl (by decide) rfl rfl ⟨Nat.le_trans (Nat.le_of_ble_eq_true rfl) hRr.1, Nat.le_trans (Nat.le_of_ble_eq_true rfl) hRr.2⟩ hcs (Nat.le_of_ble_eq_true rfl) dL_law_821 rfl ?_
        refine wa_aload_n C dL_law_824 rfl ?_
        obtain ⟨q151, hq151, h⟩ := bd h
        refine wa_callV C (r_X10_wreck_62 hq151) mk_X10_wreck mv_X10_wreck qw_795 rfl (by decide) rfl rfl ⟨Nat.le_trans (Nat.le_of_ble_eq_true rfl) hRr.1, Nat.le_trans (Nat.le_of_ble_eq_true rfl) hRr.2⟩ hcs (Nat.le_of_ble_eq_true rfl) dL_law_825 rfl ?_
        refine wa_icmp_eq (tgt := 1405) C dL_law_828 (by decide) (fun c152 => ?_) (fun c152 => ?_)
        · replace h := (if_pos c152).symm.trans h
          exact WA.sub (lsub_c rfl (lsub_c rfl (lsub_c rfl (lsub_c rfl lsub_n)))) (r_L_law_J1405 C hX hRr hcs hret _ (fun _ _ h => ih _ _ h) h)
        · replace h := (if_neg c152).symm.trans h
          refine wa_iconst (v := 0) C dL_law_831 (by decide) ?_
          obtain rfl := Option.some.inj h
          exact hret _ _ dL_law_832
      replace h := (if_neg c149).symm.trans h
      by_cases c153 : ((xs (a3.toNatClampNeg)) &&& (63 : Int32)) = 21
      · replace h := (if_pos c153).symm.trans h
        rw [c153]
        refine wa_tableIn (tgt := 833) C dL_law_32 (by decide) (by decide) rfl (by decide) ?_
        refine wa_aload_n C dL_law_833 rfl ?_
        refine wa_aload_n C dL_law_834 rfl ?_
        refine wa_iload_n C dL_law_835 rfl ?_
        refine wa_iconst (v := 1) C dL_law_836 (by decide) ?_
        refine wa_iadd C dL_law_837 ?_
        obtain ⟨g154, h⟩ := gd h
        refine wa_scld C hX g154 dL_law_838 ?_
        obtain ⟨q155, hq155, h⟩ := bd h
        refine wa_callV C (r_X9_rest_0 hq155) mk_X9_rest mv_X9_rest qw_799 rfl (by decide) rfl rfl ⟨Nat.le_trans (Nat.le_of_ble_eq_true rfl) hRr.1, Nat.le_trans (Nat.le_of_ble_eq_true rfl) hRr.2⟩ hcs (Nat.le_of_ble_eq_true rfl) dL_law_839 rfl ?_
        refine wa_aload_n C dL_law_842 rfl ?_
        refine wa_aload_n C dL_law_843 rfl ?_
        refine wa_iload_n C dL_law_844 rfl ?_
        refine wa_iconst (v := 1) C dL_law_845 (by decide) ?_
        refine wa_iadd C dL_law_846 ?_
        obtain ⟨g156, h⟩ := gd h
        refine wa_scld C hX g156 dL_law_847 ?_
        obtain ⟨q157, hq157, h⟩ := bd h
        refine wa_callV C (r_X10_rest_62 hq157) mk_X10_rest mv_X10_rest qw_803 rfl (by decide) rfl rfl ⟨Nat.le_trans (Nat.le_of_ble_eq_true rfl) hRr.1, Nat.le_trans (Nat.le_of_ble_eq_true rfl) hRr.2⟩ hcs (Nat.le_of_ble_eq_true rfl) dL_law_848 rfl ?_
        refine wa_icmp_eq (tgt := 1405) C dL_law_851 (by decide) (fun c158 => ?_) (fun c158 => ?_)
        · replace h := (if_pos c158).symm.trans h
          exact WA.sub (lsub_c rfl (lsub_c rfl (lsub_c rfl (lsub_c rfl lsub_n)))) (r_L_law_J1405 C hX hRr hcs hret _ (fun _ _ h => ih _ _ h) h)
        · replace h := (if_neg c158).symm.trans h
          refine wa_iconst (v := 0) C dL_law_854 (by decide) ?_
          obtain rfl := Option.some.inj h
          exact hret _ _ dL_law_855
      replace h := (if_neg c153).symm.trans h
      by_cases c159 : ((xs (a3.toNatClampNeg)) &&& (63 : Int32)) = 22
      · replace h := (if_pos c159).symm.trans h
        rw [c159]
        refine wa_tableIn (tgt := 856) C dL_law_32 (by decide) (by decide) rfl (by decide) ?_
        refine wa_aload_n C dL_law_856 rfl ?_
        refine wa_aload_n C dL_law_857 rfl ?_
        refine wa_iload_n C dL_law_858 rfl ?_
        refine wa_iconst (v := 1) C dL_law_859 (by decide) ?_
        refine wa_iadd C dL_law_860 ?_
        obtain ⟨g160, h⟩ := gd h
        refine wa_scld C hX g160 dL_law_861 ?_
        obtain ⟨q161, hq161, h⟩ := bd h
        refine wa_callV C (r_X9_round_0 hq161) mk_X9_round mv_X9_round qw_807 rfl (by decide) rfl rfl ⟨Nat.le_trans (Nat.le_of_ble_eq_true rfl) hRr.1, Nat.le_trans (Nat.le_of_ble_eq_true rfl) hRr.2⟩ hcs (Nat.le_of_ble_eq_true rfl) dL_law_862 rfl ?_
        refine wa_aload_n C dL_law_865 rfl ?_
        refine wa_aload_n C dL_law_866 rfl ?_
        refine wa_iload_n C dL_law_867 rfl ?_
        refine wa_iconst (v := 1) C dL_law_868 (by decide) ?_
        refine wa_iadd C dL_law_869 ?_
        obtain ⟨g162, h⟩ := gd h
        refine wa_scld C hX g162 dL_law_870 ?_
        obtain ⟨q163, hq163, h⟩ := bd h
        refine wa_callV C (r_X10_round_62 hq163) mk_X10_round mv_X10_round qw_823 rfl (by decide) rfl rfl ⟨Nat.le_trans (Nat.le_of_ble_eq_true rfl) hRr.1, Nat.le_trans (Nat.le_of_ble_eq_true rfl) hRr.2⟩ hcs (Nat.le_of_ble_eq_true rfl) dL_law_871 rfl ?_
        refine wa_icmp_eq (tgt := 1405) C dL_law_874 (by decide) (fun c164 => ?_) (fun c164 => ?_)
        · replace h := (if_pos c164).symm.trans h
          exact WA.sub (lsub_c rfl (lsub_c rfl (lsub_c rfl (lsub_c rfl lsub_n)))) (r_L_law_J1405 C hX hRr hcs hret _ (fun _ _ h => ih _ _ h) h)
        · replace h := (if_neg c164).symm.trans h
          refine wa_iconst (v := 0) C dL_law_877 (by decide) ?_
          obtain rfl := Option.some.inj h
          exact hret _ _ dL_law_878
      replace h := (if_neg c159).symm.trans h
      by_cases c165 : ((xs (a3.toNatClampNeg)) &&& (63 : Int32)) = 23
      · replace h := (if_pos c165).symm.trans h
        rw [c165]
        refine wa_tableIn (tgt := 879) C dL_law_32 (by decide) (by decide) rfl (by decide) ?_
        refine wa_aload_n C dL_law_879 rfl ?_
        refine wa_aload_n C dL_law_880 rfl ?_
        refine wa_iload_n C dL_law_881 rfl ?_
        refine wa_iconst (v := 1) C dL_law_882 (by decide) ?_
        refine wa_iadd C dL_law_883 ?_
        obtain ⟨g166, h⟩ := gd h
        refine wa_scld C hX g166 dL_law_884 ?_
        obtain ⟨q167, hq167, h⟩ := bd h
        refine wa_callV C (r_X9_best_0 hq167) mk_X9_best mv_X9_best qw_856 rfl (by decide) rfl rfl ⟨Nat.le_trans (Nat.le_of_ble_eq_true rfl) hRr.1, Nat.le_trans (Nat.le_of_ble_eq_true rfl) hRr.2⟩ hcs (Nat.le_of_ble_eq_true rfl) dL_law_885 rfl ?_
        refine wa_aload_n C dL_law_888 rfl ?_
        refine wa_aload_n C dL_law_889 rfl ?_
        refine wa_iload_n C dL_law_890 rfl ?_
        refine wa_iconst (v := 1) C dL_law_891 (by decide) ?_
        refine wa_iadd C dL_law_892 ?_
        obtain ⟨g168, h⟩ := gd h
        refine wa_scld C hX g168 dL_law_893 ?_
        obtain ⟨q169, hq169, h⟩ := bd h
        refine wa_callV C (r_X10_best_62 hq169) mk_X10_best mv_X10_best qw_905 rfl (by decide) rfl rfl ⟨Nat.le_trans (Nat.le_of_ble_eq_true rfl) hRr.1, Nat.le_trans (Nat.le_of_ble_eq_true rfl) hRr.2⟩ hcs (Nat.le_of_ble_eq_true rfl) dL_law_894 rfl ?_
        refine wa_icmp_eq (tgt := 1405) C dL_law_897 (by decide) (fun c170 => ?_) (fun c170 => ?_)
        · replace h := (if_pos c170).symm.trans h
          exact WA.sub (lsub_c rfl (lsub_c rfl (lsub_c rfl (lsub_c rfl lsub_n)))) (r_L_law_J1405 C hX hRr hcs hret _ (fun _ _ h => ih _ _ h) h)
        · replace h := (if_neg c170).symm.trans h
          refine wa_iconst (v := 0) C dL_law_900 (by decide) ?_
          obtain rfl := Option.some.inj h
          exact hret _ _ dL_law_901
      replace h := (if_neg c165).symm.trans h
      by_cases c171 : ((xs (a3.toNatClampNeg)) &&& (63 : Int32)) = 24
      · replace h := (if_pos c171).symm.trans h
        rw [c171]
        refine wa_tableIn (tgt := 902) C dL_law_32 (by decide) (by decide) rfl (by decide) ?_
        refine wa_aload_n C dL_law_902 rfl ?_
        refine wa_aload_n C dL_law_903 rfl ?_
        refine wa_iload_n C dL_law_904 rfl ?_
        refine wa_iconst (v := 1) C dL_law_905 (by decide) ?_
        refine wa_iadd C dL_law_906 ?_
        obtain ⟨g172, h⟩ := gd h
        refine wa_scld C hX g172 dL_law_907 ?_
        obtain ⟨q173, hq173, h⟩ := bd h
        refine wa_callV C (r_X9_without_0 hq173) mk_X9_without mv_X9_without qw_917 rfl (by decide) rfl rfl ⟨Nat.le_trans (Nat.le_of_ble_eq_true rfl) hRr.1, Nat.le_trans (Nat.le_of_ble_eq_true rfl) hRr.2⟩ hcs (Nat.le_of_ble_eq_true rfl) dL_law_908 rfl ?_
        refine wa_aload_n C dL_law_911 rfl ?_
        refine wa_aload_n C dL_law_912 rfl ?_
        refine wa_iload_n C dL_law_913 rfl ?_
        refine wa_iconst (v := 1) C dL_law_914 (by decide) ?_
        refine wa_iadd C dL_law_915 ?_
        obtain ⟨g174, h⟩ := gd h
        refine wa_scld C hX g174 dL_law_916 ?_
        obtain ⟨q175, hq175, h⟩ := bd h
        refine wa_callV C (r_X10_without_62 hq175) mk_X10_without mv_X10_without qw_921 rfl (by decide) rfl rfl ⟨Nat.le_trans (Nat.le_of_ble_eq_true rfl) hRr.1, Nat.le_trans (Nat.le_of_ble_eq_true rfl) hRr.2⟩ hcs (Nat.le_of_ble_eq_true rfl) dL_law_917 rfl ?_
        refine wa_icmp_eq (tgt := 1405) C dL_law_920 (by decide) (fun c176 => ?_) (fun c176 => ?_)
        · replace h := (if_pos c176).symm.trans h
          exact WA.sub (lsub_c rfl (lsub_c rfl (lsub_c rfl (lsub_c rfl lsub_n)))) (r_L_law_J1405 C hX hRr hcs hret _ (fun _ _ h => ih _ _ h) h)
        · replace h := (if_neg c176).symm.trans h
          refine wa_iconst (v := 0) C dL_law_923 (by decide) ?_
          obtain rfl := Option.some.inj h
          exact hret _ _ dL_law_924
      replace h := (if_neg c171).symm.trans h
      by_cases c177 : ((xs (a3.toNatClampNeg)) &&& (63 : Int32)) = 25
      · replace h := (if_pos c177).symm.trans h
        rw [c177]
        refine wa_tableIn (tgt := 925) C dL_law_32 (by decide) (by decide) rfl (by decide) ?_
        refine wa_aload_n C dL_law_925 rfl ?_
        refine wa_aload_n C dL_law_926 rfl ?_
        refine wa_iload_n C dL_law_927 rfl ?_
        refine wa_iconst (v := 1) C dL_law_928 (by decide) ?_
        refine wa_iadd C dL_law_929 ?_
        obtain ⟨g178, h⟩ := gd h
        refine wa_scld C hX g178 dL_law_930 ?_
        obtain ⟨q179, hq179, h⟩ := bd h
        refine wa_callV C (r_X9_beds_0 hq179) mk_X9_beds mv_X9_beds qw_925 rfl (by decide) rfl rfl ⟨Nat.le_trans (Nat.le_of_ble_eq_true rfl) hRr.1, Nat.le_trans (Nat.le_of_ble_eq_true rfl) hRr.2⟩ hcs (Nat.le_of_ble_eq_true rfl) dL_law_931 rfl ?_
        refine wa_aload_n C dL_law_934 rfl ?_
        refine wa_aload_n C dL_law_935 rfl ?_
        refine wa_iload_n C dL_law_936 rfl ?_
        refine wa_iconst (v := 1) C dL_law_937 (by decide) ?_
        refine wa_iadd C dL_law_938 ?_
        obtain ⟨g180, h⟩ := gd h
        refine wa_scld C hX g180 dL_law_939 ?_
        obtain ⟨q181, hq181, h⟩ := bd h
        refine wa_callV C (r_X10_beds_62 hq181) mk_X10_beds mv_X10_beds qw_933 rfl (by decide) rfl rfl ⟨Nat.le_trans (Nat.le_of_ble_eq_true rfl) hRr.1, Nat.le_trans (Nat.le_of_ble_eq_true rfl) hRr.2⟩ hcs (Nat.le_of_ble_eq_true rfl) dL_law_940 rfl ?_
        refine wa_icmp_eq (tgt := 1405) C dL_law_943 (by decide) (fun c182 => ?_) (fun c182 => ?_)
        · replace h := (if_pos c182).symm.trans h
          exact WA.sub (lsub_c rfl (lsub_c rfl (lsub_c rfl (lsub_c rfl lsub_n)))) (r_L_law_J1405 C hX hRr hcs hret _ (fun _ _ h => ih _ _ h) h)
        · replace h := (if_neg c182).symm.trans h
          refine wa_iconst (v := 0) C dL_law_946 (by decide) ?_
          obtain rfl := Option.some.inj h
          exact hret _ _ dL_law_947
      replace h := (if_neg c177).symm.trans h
      by_cases c183 : ((xs (a3.toNatClampNeg)) &&& (63 : Int32)) = 26
      · replace h := (if_pos c183).symm.trans h
        rw [c183]
        refine wa_tableIn (tgt := 948) C dL_law_32 (by decide) (by decide) rfl (by decide) ?_
        refine wa_aload_n C dL_law_948 rfl ?_
        refine wa_aload_n C dL_law_949 rfl ?_
        refine wa_iload_n C dL_law_950 rfl ?_
        refine wa_iconst (v := 1) C dL_law_951 (by decide) ?_
        refine wa_iadd C dL_law_952 ?_
        obtain ⟨g184, h⟩ := gd h
        refine wa_scld C hX g184 dL_law_953 ?_
        refine wa_aload_n C dL_law_954 rfl ?_
        refine wa_iload_n C dL_law_955 rfl ?_
        refine wa_iconst (v := 2) C dL_law_956 (by decide) ?_
        refine wa_iadd C dL_law_957 ?_
        obtain ⟨g185, h⟩ := gd h
        refine wa_scld C hX g185 dL_law_958 ?_
        refine wa_aload_n C dL_law_959 rfl ?_
        refine wa_iload_n C dL_law_960 rfl ?_
        refine wa_iconst (v := 3) C dL_law_961 (by decide) ?_
        refine wa_iadd C dL_law_962 ?_
        obtain ⟨g186, h⟩ := gd h
        refine wa_scld C hX g186 dL_law_963 ?_
        obtain ⟨q187, hq187, h⟩ := bd h
        refine wa_callV C (r_X9_late_0 hq187) mk_X9_late mv_X9_late qw_937 rfl (by decide) rfl rfl ⟨Nat.le_trans (Nat.le_of_ble_eq_true rfl) hRr.1, Nat.le_trans (Nat.le_of_ble_eq_true rfl) hRr.2⟩ hcs (Nat.le_of_ble_eq_true rfl) dL_law_964 rfl ?_
        refine wa_aload_n C dL_law_967 rfl ?_
        refine wa_aload_n C dL_law_968 rfl ?_
        refine wa_iload_n C dL_law_969 rfl ?_
        refine wa_iconst (v := 1) C dL_law_970 (by decide) ?_
        refine wa_iadd C dL_law_971 ?_
        obtain ⟨g188, h⟩ := gd h
        refine wa_scld C hX g188 dL_law_972 ?_
        refine wa_aload_n C dL_law_973 rfl ?_
        refine wa_iload_n C dL_law_974 rfl ?_
        refine wa_iconst (v := 2) C dL_law_975 (by decide) ?_
        refine wa_iadd C dL_law_976 ?_
        obtain ⟨g189, h⟩ := gd h
        refine wa_scld C hX g189 dL_law_977 ?_
        refine wa_aload_n C dL_law_978 rfl ?_
        refine wa_iload_n C dL_law_979 rfl ?_
        refine wa_iconst (v := 3) C dL_law_980 (by decide) ?_
        refine wa_iadd C dL_law_981 ?_
        obtain ⟨g190, h⟩ := gd h
        refine wa_scld C hX g190 dL_law_982 ?_
        obtain ⟨q191, hq191, h⟩ := bd h
        refine wa_callV C (r_X10_late_62 hq191) mk_X10_late mv_X10_late qw_945 rfl (by decide) rfl rfl ⟨Nat.le_trans (Nat.le_of_ble_eq_true rfl) hRr.1, Nat.le_trans (Nat.le_of_ble_eq_true rfl) hRr.2⟩ hcs (Nat.le_of_ble_eq_true rfl) dL_law_983 rfl ?_
        refine wa_icmp_eq (tgt := 1405) C dL_law_986 (by decide) (fun c192 => ?_) (fun c192 => ?_)
        · replace h := (if_pos c192).symm.trans h
          exact WA.sub (lsub_c rfl (lsub_c rfl (lsub_c rfl (lsub_c rfl lsub_n)))) (r_L_law_J1405 C hX hRr hcs hret _ (fun _ _ h => ih _ _ h) h)
        · replace h := (if_neg c192).symm.trans h
          refine wa_iconst (v := 0) C dL_law_989 (by decide) ?_
          obtain rfl := Option.some.inj h
          exact hret _ _ dL_law_990
      replace h := (if_neg c183).symm.trans h
      by_cases c193 : ((xs (a3.toNatClampNeg)) &&& (63 : Int32)) = 27
      · replace h := (if_pos c193).symm.trans h
        rw [c193]
        refine wa_tableIn (tgt := 991) C dL_law_32 (by decide) (by decide) rfl (by decide) ?_
        refine wa_aload_n C dL_law_991 rfl ?_
        refine wa_aload_n C dL_law_992 rfl ?_
        refine wa_iload_n C dL_law_993 rfl ?_
        refine wa_iconst (v := 1) C dL_law_994 (by decide) ?_
        refine wa_iadd C dL_law_995 ?_
        obtain ⟨g194, h⟩ := gd h
        refine wa_scld C hX g194 dL_law_996 ?_
        refine wa_aload_n C dL_law_997 rfl ?_
        refine wa_iload_n C dL_law_998 rfl ?_
        refine wa_iconst (v := 2) C dL_law_999 (by decide) ?_
        refine wa_iadd C dL_law_1000 ?_
        obtain ⟨g195, h⟩ := gd h
        refine wa_scld C hX g195 dL_law_1001 ?_
        refine wa_aload_n C dL_law_1002 rfl ?_
        refine wa_iload_n C dL_law_1003 rfl ?_
        refine wa_iconst (v := 3) C dL_law_1004 (by decide) ?_
        refine wa_iadd C dL_law_1005 ?_
        obtain ⟨g196, h⟩ := gd h
        refine wa_scld C hX g196 dL_law_1006 ?_
        obtain ⟨q197, hq197, h⟩ := bd h
        refine wa_callV C (r_X9_odds_0 hq197) mk_X9_odds mv_X9_odds qw_953 rfl (by decide) rfl rfl ⟨Nat.le_trans (Nat.le_of_ble_eq_true rfl) hRr.1, Nat.le_trans (Nat.le_of_ble_eq_true rfl) hRr.2⟩ hcs (Nat.le_of_ble_eq_true rfl) dL_law_1007 rfl ?_
        refine wa_aload_n C dL_law_1010 rfl ?_
        refine wa_aload_n C dL_law_1011 rfl ?_
        refine wa_iload_n C dL_law_1012 rfl ?_
        refine wa_iconst (v := 1) C dL_law_1013 (by decide) ?_
        refine wa_iadd C dL_law_1014 ?_
        obtain ⟨g198, h⟩ := gd h
        refine wa_scld C hX g198 dL_law_1015 ?_
        refine wa_aload_n C dL_law_1016 rfl ?_
        refine wa_iload_n C dL_law_1017 rfl ?_
        refine wa_iconst (v := 2) C dL_law_1018 (by decide) ?_
        refine wa_iadd C dL_law_1019 ?_
        obtain ⟨g199, h⟩ := gd h
        refine wa_scld C hX g199 dL_law_1020 ?_
        refine wa_aload_n C dL_law_1021 rfl ?_
        refine wa_iload_n C dL_law_1022 rfl ?_
        refine wa_iconst (v := 3) C dL_law_1023 (by decide) ?_
        refine wa_iadd C dL_law_1024 ?_
        obtain ⟨g200, h⟩ := gd h
        refine wa_scld C hX g200 dL_law_1025 ?_
        obtain ⟨q201, hq201, h⟩ := bd h
        refine wa_callV C (r_X10_odds_62 hq201) mk_X10_odds mv_X10_odds qw_981 rfl (by decide) rfl rfl ⟨Nat.le_trans (Nat.le_of_ble_eq_true rfl) hRr.1, Nat.le_trans (Nat.le_of_ble_eq_true rfl) hRr.2⟩ hcs (Nat.le_of_ble_eq_true rfl) dL_law_1026 rfl ?_
        refine wa_lcmp C dL_law_1029 ?_
        refine wa_if_eq (tgt := 1405) C dL_law_1030 (by decide) (fun c202 => ?_) (fun c202 => ?_)
        · replace h := (if_pos c202).symm.trans h
          exact WA.sub (lsub_c rfl (lsub_c rfl (lsub_c rfl (lsub_c rfl lsub_n)))) (r_L_law_J1405 C hX hRr hcs hret _ (fun _ _ h => ih _ _ h) h)
        · replace h := (if_neg c202).symm.trans h
          refine wa_iconst (v := 0) C dL_law_1033 (by decide) ?_
          obtain rfl := Option.some.inj h
          exact hret _ _ dL_law_1034
      replace h := (if_neg c193).symm.trans h
      by_cases c203 : ((xs (a3.toNatClampNeg)) &&& (63 : Int32)) = 28
      · replace h := (if_pos c203).symm.trans h
        rw [c203]
        refine wa_tableIn (tgt := 1035) C dL_law_32 (by decide) (by decide) rfl (by decide) ?_
        refine wa_aload_n C dL_law_1035 rfl ?_
        refine wa_aload_n C dL_law_1036 rfl ?_
        refine wa_iload_n C dL_law_1037 rfl ?_
        refine wa_iconst (v := 1) C dL_law_1038 (by decide) ?_
        refine wa_iadd C dL_law_1039 ?_
        obtain ⟨g204, h⟩ := gd h
        refine wa_scld C hX g204 dL_law_1040 ?_
        refine wa_aload_n C dL_law_1041 rfl ?_
        refine wa_iload_n C dL_law_1042 rfl ?_
        refine wa_iconst (v := 2) C dL_law_1043 (by decide) ?_
        refine wa_iadd C dL_law_1044 ?_
        obtain ⟨g205, h⟩ := gd h
        refine wa_scld C hX g205 dL_law_1045 ?_
        obtain ⟨q206, hq206, h⟩ := bd h
        refine wa_callV C (r_X9_mean_0 hq206) mk_X9_mean mv_X9_mean qw_997 rfl (by decide) rfl rfl ⟨Nat.le_trans (Nat.le_of_ble_eq_true rfl) hRr.1, Nat.le_trans (Nat.le_of_ble_eq_true rfl) hRr.2⟩ hcs (Nat.le_of_ble_eq_true rfl) dL_law_1046 rfl ?_
        refine wa_aload_n C dL_law_1049 rfl ?_
        refine wa_aload_n C dL_law_1050 rfl ?_
        refine wa_iload_n C dL_law_1051 rfl ?_
        refine wa_iconst (v := 1) C dL_law_1052 (by decide) ?_
        refine wa_iadd C dL_law_1053 ?_
        obtain ⟨g207, h⟩ := gd h
        refine wa_scld C hX g207 dL_law_1054 ?_
        refine wa_aload_n C dL_law_1055 rfl ?_
        refine wa_iload_n C dL_law_1056 rfl ?_
        refine wa_iconst (v := 2) C dL_law_1057 (by decide) ?_
        refine wa_iadd C dL_law_1058 ?_
        obtain ⟨g208, h⟩ := gd h
        refine wa_scld C hX g208 dL_law_1059 ?_
        obtain ⟨q209, hq209, h⟩ := bd h
        refine wa_callV C (r_X10_mean_62 hq209) mk_X10_mean mv_X10_mean qw_1001 rfl (by decide) rfl rfl ⟨Nat.le_trans (Nat.le_of_ble_eq_true rfl) hRr.1, Nat.le_trans (Nat.le_of_ble_eq_true rfl) hRr.2⟩ hcs (Nat.le_of_ble_eq_true rfl) dL_law_1060 rfl ?_
        refine wa_lcmp C dL_law_1063 ?_
        refine wa_if_eq (tgt := 1405) C dL_law_1064 (by decide) (fun c210 => ?_) (fun c210 => ?_)
        · replace h := (if_pos c210).symm.trans h
          exact WA.sub (lsub_c rfl (lsub_c rfl (lsub_c rfl (lsub_c rfl lsub_n)))) (r_L_law_J1405 C hX hRr hcs hret _ (fun _ _ h => ih _ _ h) h)
        · replace h := (if_neg c210).symm.trans h
          refine wa_iconst (v := 0) C dL_law_1067 (by decide) ?_
          obtain rfl := Option.some.inj h
          exact hret _ _ dL_law_1068
      replace h := (if_neg c203).symm.trans h
      by_cases c211 : ((xs (a3.toNatClampNeg)) &&& (63 : Int32)) = 29
      · replace h := (if_pos c211).symm.trans h
        rw [c211]
        refine wa_tableIn (tgt := 1069) C dL_law_32 (by decide) (by decide) rfl (by decide) ?_
        refine wa_aload_n C dL_law_1069 rfl ?_
        refine wa_aload_n C dL_law_1070 rfl ?_
        refine wa_iload_n C dL_law_1071 rfl ?_
        refine wa_iconst (v := 1) C dL_law_1072 (by decide) ?_
        refine wa_iadd C dL_law_1073 ?_
        obtain ⟨g212, h⟩ := gd h
        refine wa_scld C hX g212 dL_law_1074 ?_
        refine wa_aload_n C dL_law_1075 rfl ?_
        refine wa_iload_n C dL_law_1076 rfl ?_
        refine wa_iconst (v := 2) C dL_law_1077 (by decide) ?_
        refine wa_iadd C dL_law_1078 ?_
        obtain ⟨g213, h⟩ := gd h
        refine wa_scld C hX g213 dL_law_1079 ?_
        refine wa_aload_n C dL_law_1080 rfl ?_
        refine wa_iload_n C dL_law_1081 rfl ?_
        refine wa_iconst (v := 3) C dL_law_1082 (by decide) ?_
        refine wa_iadd C dL_law_1083 ?_
        obtain ⟨g214, h⟩ := gd h
        refine wa_scld C hX g214 dL_law_1084 ?_
        refine wa_if_eq (tgt := 1092) C dL_law_1085 (by decide) (fun c215 => ?_) (fun c215 => ?_)
        · replace h := (if_pos c215).symm.trans h
          refine wa_iconst (v := 0) C dL_law_1092 (by decide) ?_
          exact WA.sub (lsub_c rfl (lsub_c rfl (lsub_c rfl (lsub_c rfl lsub_n)))) (r_L_law_J1093 C hX hRr hcs hret _ (fun _ _ h => ih _ _ h) h)
        · replace h := (if_neg c215).symm.trans h
          refine wa_iconst (v := 1) C dL_law_1088 (by decide) ?_
          refine wa_goto (tgt := 1093) C dL_law_1089 (by decide) ?_
          exact WA.sub (lsub_c rfl (lsub_c rfl (lsub_c rfl (lsub_c rfl lsub_n)))) (r_L_law_J1093 C hX hRr hcs hret _ (fun _ _ h => ih _ _ h) h)
      replace h := (if_neg c211).symm.trans h
      by_cases c223 : ((xs (a3.toNatClampNeg)) &&& (63 : Int32)) = 30
      · replace h := (if_pos c223).symm.trans h
        rw [c223]
        refine wa_tableIn (tgt := 1128) C dL_law_32 (by decide) (by decide) rfl (by decide) ?_
        refine wa_aload_n C dL_law_1128 rfl ?_
        refine wa_aload_n C dL_law_1129 rfl ?_
        refine wa_iload_n C dL_law_1130 rfl ?_
        refine wa_iconst (v := 1) C dL_law_1131 (by decide) ?_
        refine wa_iadd C dL_law_1132 ?_
        obtain ⟨g224, h⟩ := gd h
        refine wa_scld C hX g224 dL_law_1133 ?_
        obtain ⟨q225, hq225, h⟩ := bd h
        refine wa_callV C (r_X9_forget_0 hq225) mk_X9_forget mv_X9_forget qw_1015 rfl (by decide) rfl rfl ⟨Nat.le_trans (Nat.le_of_ble_eq_true rfl) hRr.1, Nat.le_trans (Nat.le_of_ble_eq_true rfl) hRr.2⟩ hcs (Nat.le_of_ble_eq_true rfl) dL_law_1134 rfl ?_
        refine wa_aload_n C dL_law_1137 rfl ?_
        refine wa_aload_n C dL_law_1138 rfl ?_
        refine wa_iload_n C dL_law_1139 rfl ?_
        refine wa_iconst (v := 1) C dL_law_1140 (by decide) ?_
        refine wa_iadd C dL_law_1141 ?_
        obtain ⟨g226, h⟩ := gd h
        refine wa_scld C hX g226 dL_law_1142 ?_
        obtain ⟨q227, hq227, h⟩ := bd h
        refine wa_callV C (r_X10_forget_62 hq227) mk_X10_forget mv_X10_forget qw_1019 rfl (by decide) rfl rfl ⟨Nat.le_trans (Nat.le_of_ble_eq_true rfl) hRr.1, Nat.le_trans (Nat.le_of_ble_eq_true rfl) hRr.2⟩ hcs (Nat.le_of_ble_eq_true rfl) dL_law_1143 rfl ?_
        refine wa_icmp_eq (tgt := 1405) C dL_law_1146 (by decide) (fun c228 => ?_) (fun c228 => ?_)
        · replace h := (if_pos c228).symm.trans h
          exact WA.sub (lsub_c rfl (lsub_c rfl (lsub_c rfl (lsub_c rfl lsub_n)))) (r_L_law_J1405 C hX hRr hcs hret _ (fun _ _ h => ih _ _ h) h)
        · replace h := (if_neg c228).symm.trans h
          refine wa_iconst (v := 0) C dL_law_1149 (by decide) ?_
          obtain rfl := Option.some.inj h
          exact hret _ _ dL_law_1150
      replace h := (if_neg c223).symm.trans h
      by_cases c229 : ((xs (a3.toNatClampNeg)) &&& (63 : Int32)) = 31
      · replace h := (if_pos c229).symm.trans h
        rw [c229]
        refine wa_tableIn (tgt := 1151) C dL_law_32 (by decide) (by decide) rfl (by decide) ?_
        refine wa_aload_n C dL_law_1151 rfl ?_
        refine wa_aload_n C dL_law_1152 rfl ?_
        refine wa_iload_n C dL_law_1153 rfl ?_
        refine wa_iconst (v := 1) C dL_law_1154 (by decide) ?_
        refine wa_iadd C dL_law_1155 ?_
        obtain ⟨g230, h⟩ := gd h
        refine wa_scld C hX g230 dL_law_1156 ?_
        refine wa_aload_n C dL_law_1157 rfl ?_
        refine wa_iload_n C dL_law_1158 rfl ?_
        refine wa_iconst (v := 2) C dL_law_1159 (by decide) ?_
        refine wa_iadd C dL_law_1160 ?_
        obtain ⟨g231, h⟩ := gd h
        refine wa_scld C hX g231 dL_law_1161 ?_
        obtain ⟨q232, hq232, h⟩ := bd h
        refine wa_callV C (r_X9_fits_0 hq232) mk_X9_fits mv_X9_fits qw_1023 rfl (by decide) rfl rfl ⟨Nat.le_trans (Nat.le_of_ble_eq_true rfl) hRr.1, Nat.le_trans (Nat.le_of_ble_eq_true rfl) hRr.2⟩ hcs (Nat.le_of_ble_eq_true rfl) dL_law_1162 rfl ?_
        refine wa_aload_n C dL_law_1165 rfl ?_
        refine wa_aload_n C dL_law_1166 rfl ?_
        refine wa_iload_n C dL_law_1167 rfl ?_
        refine wa_iconst (v := 1) C dL_law_1168 (by decide) ?_
        refine wa_iadd C dL_law_1169 ?_
        obtain ⟨g233, h⟩ := gd h
        refine wa_scld C hX g233 dL_law_1170 ?_
        refine wa_aload_n C dL_law_1171 rfl ?_
        refine wa_iload_n C dL_law_1172 rfl ?_
        refine wa_iconst (v := 2) C dL_law_1173 (by decide) ?_
        refine wa_iadd C dL_law_1174 ?_
        obtain ⟨g234, h⟩ := gd h
        refine wa_scld C hX g234 dL_law_1175 ?_
        obtain ⟨q235, hq235, h⟩ := bd h
        refine wa_callV C (r_X10_fits_62 hq235) mk_X10_fits mv_X10_fits qw_1032 rfl (by decide) rfl rfl ⟨Nat.le_trans (Nat.le_of_ble_eq_true rfl) hRr.1, Nat.le_trans (Nat.le_of_ble_eq_true rfl) hRr.2⟩ hcs (Nat.le_of_ble_eq_true rfl) dL_law_1176 rfl ?_
        refine wa_icmp_eq (tgt := 1405) C dL_law_1179 (by decide) (fun c236 => ?_) (fun c236 => ?_)
        · replace h := (if_pos c236).symm.trans h
          exact WA.sub (lsub_c rfl (lsub_c rfl (lsub_c rfl (lsub_c rfl lsub_n)))) (r_L_law_J1405 C hX hRr hcs hret _ (fun _ _ h => ih _ _ h) h)
        · replace h := (if_neg c236).symm.trans h
          refine wa_iconst (v := 0) C dL_law_1182 (by decide) ?_
          obtain rfl := Option.some.inj h
          exact hret _ _ dL_law_1183
      replace h := (if_neg c229).symm.trans h
      by_cases c237 : ((xs (a3.toNatClampNeg)) &&& (63 : Int32)) = 32
      · replace h := (if_pos c237).symm.trans h
        rw [c237]
        refine wa_tableIn (tgt := 1184) C dL_law_32 (by decide) (by decide) rfl (by decide) ?_
        refine wa_aload_n C dL_law_1184 rfl ?_
        refine wa_aload_n C dL_law_1185 rfl ?_
        refine wa_iload_n C dL_law_1186 rfl ?_
        refine wa_iconst (v := 1) C dL_law_1187 (by decide) ?_
        refine wa_iadd C dL_law_1188 ?_
        obtain ⟨g238, h⟩ := gd h
        refine wa_scld C hX g238 dL_law_1189 ?_
        obtain ⟨q239, hq239, h⟩ := bd h
        refine wa_callV C (r_X9_keep_0 hq239) mk_X9_keep mv_X9_keep qw_1040 rfl (by decide) rfl rfl ⟨Nat.le_trans (Nat.le_of_ble_eq_true rfl) hRr.1, Nat.le_trans (Nat.le_of_ble_eq_true rfl) hRr.2⟩ hcs (Nat.le_of_ble_eq_true rfl) dL_law_1190 rfl ?_
        refine wa_aload_n C dL_law_1193 rfl ?_
        refine wa_aload_n C dL_law_1194 rfl ?_
        refine wa_iload_n C dL_law_1195 rfl ?_
        refine wa_iconst (v := 1) C dL_law_1196 (by decide) ?_
        refine wa_iadd C dL_law_1197 ?_
        obtain ⟨g240, h⟩ := gd h
        refine wa_scld C hX g240 dL_law_1198 ?_
        obtain ⟨q241, hq241, h⟩ := bd h
        refine wa_callV C (r_X10_keep_62 hq241) mk_X10_keep mv_X10_keep qw_1047 rfl (by decide) rfl rfl ⟨Nat.le_trans (Nat.le_of_ble_eq_true rfl) hRr.1, Nat.le_trans (Nat.le_of_ble_eq_true rfl) hRr.2⟩ hcs (Nat.le_of_ble_eq_true rfl) dL_law_1199 rfl ?_
        refine wa_icmp_eq (tgt := 1405) C dL_law_1202 (by decide) (fun c242 => ?_) (fun c242 => ?_)
        · replace h := (if_pos c242).symm.trans h
          exact WA.sub (lsub_c rfl (lsub_c rfl (lsub_c rfl (lsub_c rfl lsub_n)))) (r_L_law_J1405 C hX hRr hcs hret _ (fun _ _ h => ih _ _ h) h)
        · replace h := (if_neg c242).symm.trans h
          refine wa_iconst (v := 0) C dL_law_1205 (by decide) ?_
          obtain rfl := Option.some.inj h
          exact hret _ _ dL_law_1206
      replace h := (if_neg c237).symm.trans h
      by_cases c243 : ((xs (a3.toNatClampNeg)) &&& (63 : Int32)) = 33
      · replace h := (if_pos c243).symm.trans h
        rw [c243]
        refine wa_tableIn (tgt := 1207) C dL_law_32 (by decide) (by decide) rfl (by decide) ?_
        refine wa_aload_n C dL_law_1207 rfl ?_
        refine wa_aload_n C dL_law_1208 rfl ?_
        refine wa_iload_n C dL_law_1209 rfl ?_
        refine wa_iconst (v := 1) C dL_law_1210 (by decide) ?_
        refine wa_iadd C dL_law_1211 ?_
        obtain ⟨g244, h⟩ := gd h
        refine wa_scld C hX g244 dL_law_1212 ?_
        obtain ⟨q245, hq245, h⟩ := bd h
        refine wa_callV C (r_X9_back_0 hq245) mk_X9_back mv_X9_back qw_1055 rfl (by decide) rfl rfl ⟨Nat.le_trans (Nat.le_of_ble_eq_true rfl) hRr.1, Nat.le_trans (Nat.le_of_ble_eq_true rfl) hRr.2⟩ hcs (Nat.le_of_ble_eq_true rfl) dL_law_1213 rfl ?_
        refine wa_aload_n C dL_law_1216 rfl ?_
        refine wa_aload_n C dL_law_1217 rfl ?_
        refine wa_iload_n C dL_law_1218 rfl ?_
        refine wa_iconst (v := 1) C dL_law_1219 (by decide) ?_
        refine wa_iadd C dL_law_1220 ?_
        obtain ⟨g246, h⟩ := gd h
        refine wa_scld C hX g246 dL_law_1221 ?_
        obtain ⟨q247, hq247, h⟩ := bd h
        refine wa_callV C (r_X10_back_62 hq247) mk_X10_back mv_X10_back qw_1059 rfl (by decide) rfl rfl ⟨Nat.le_trans (Nat.le_of_ble_eq_true rfl) hRr.1, Nat.le_trans (Nat.le_of_ble_eq_true rfl) hRr.2⟩ hcs (Nat.le_of_ble_eq_true rfl) dL_law_1222 rfl ?_
        refine wa_icmp_eq (tgt := 1405) C dL_law_1225 (by decide) (fun c248 => ?_) (fun c248 => ?_)
        · replace h := (if_pos c248).symm.trans h
          exact WA.sub (lsub_c rfl (lsub_c rfl (lsub_c rfl (lsub_c rfl lsub_n)))) (r_L_law_J1405 C hX hRr hcs hret _ (fun _ _ h => ih _ _ h) h)
        · replace h := (if_neg c248).symm.trans h
          refine wa_iconst (v := 0) C dL_law_1228 (by decide) ?_
          obtain rfl := Option.some.inj h
          exact hret _ _ dL_law_1229
      replace h := (if_neg c243).symm.trans h
      by_cases c249 : ((xs (a3.toNatClampNeg)) &&& (63 : Int32)) = 34
      · replace h := (if_pos c249).symm.trans h
        rw [c249]
        refine wa_tableIn (tgt := 1230) C dL_law_32 (by decide) (by decide) rfl (by decide) ?_
        refine wa_aload_n C dL_law_1230 rfl ?_
        refine wa_aload_n C dL_law_1231 rfl ?_
        refine wa_iload_n C dL_law_1232 rfl ?_
        refine wa_iconst (v := 1) C dL_law_1233 (by decide) ?_
        refine wa_iadd C dL_law_1234 ?_
        obtain ⟨g250, h⟩ := gd h
        refine wa_scld C hX g250 dL_law_1235 ?_
        refine wa_aload_n C dL_law_1236 rfl ?_
        refine wa_iload_n C dL_law_1237 rfl ?_
        refine wa_iconst (v := 2) C dL_law_1238 (by decide) ?_
        refine wa_iadd C dL_law_1239 ?_
        obtain ⟨g251, h⟩ := gd h
        refine wa_scld C hX g251 dL_law_1240 ?_
        refine wa_aload_n C dL_law_1241 rfl ?_
        refine wa_iload_n C dL_law_1242 rfl ?_
        refine wa_iconst (v := 3) C dL_law_1243 (by decide) ?_
        refine wa_iadd C dL_law_1244 ?_
        obtain ⟨g252, h⟩ := gd h
        refine wa_scld C hX g252 dL_law_1245 ?_
        obtain ⟨q253, hq253, h⟩ := bd h
        refine wa_callV C (r_X9_sheet_0 hq253) mk_X9_sheet mv_X9_sheet qw_1063 rfl (by decide) rfl rfl ⟨Nat.le_trans (Nat.le_of_ble_eq_true rfl) hRr.1, Nat.le_trans (Nat.le_of_ble_eq_true rfl) hRr.2⟩ hcs (Nat.le_of_ble_eq_true rfl) dL_law_1246 rfl ?_
        refine wa_aload_n C dL_law_1249 rfl ?_
        refine wa_aload_n C dL_law_1250 rfl ?_
        refine wa_iload_n C dL_law_1251 rfl ?_
        refine wa_iconst (v := 1) C dL_law_1252 (by decide) ?_
        refine wa_iadd C dL_law_1253 ?_
        obtain ⟨g254, h⟩ := gd h
        refine wa_scld C hX g254 dL_law_1254 ?_
        refine wa_aload_n C dL_law_1255 rfl ?_
        refine wa_iload_n C dL_law_1256 rfl ?_
        refine wa_iconst (v := 2) C dL_law_1257 (by decide) ?_
        refine wa_iadd C dL_law_1258 ?_
        obtain ⟨g255, h⟩ := gd h
        refine wa_scld C hX g255 dL_law_1259 ?_
        refine wa_aload_n C dL_law_1260 rfl ?_
        refine wa_iload_n C dL_law_1261 rfl ?_
        refine wa_iconst (v := 3) C dL_law_1262 (by decide) ?_
        refine wa_iadd C dL_law_1263 ?_
        obtain ⟨g256, h⟩ := gd h
        refine wa_scld C hX g256 dL_law_1264 ?_
        obtain ⟨q257, hq257, h⟩ := bd h
        refine wa_callV C (r_X10_sheet_62 hq257) mk_X10_sheet mv_X10_sheet qw_1078 rfl (by decide) rfl rfl ⟨Nat.le_trans (Nat.le_of_ble_eq_true rfl) hRr.1, Nat.le_trans (Nat.le_of_ble_eq_true rfl) hRr.2⟩ hcs (Nat.le_of_ble_eq_true rfl) dL_law_1265 rfl ?_
        refine wa_icmp_eq (tgt := 1405) C dL_law_1268 (by decide) (fun c258 => ?_) (fun c258 => ?_)
        · replace h := (if_pos c258).symm.trans h
          exact WA.sub (lsub_c rfl (lsub_c rfl (lsub_c rfl (lsub_c rfl lsub_n)))) (r_L_law_J1405 C hX hRr hcs hret _ (fun _ _ h => ih _ _ h) h)
        · replace h := (if_neg c258).symm.trans h
          refine wa_iconst (v := 0) C dL_law_1271 (by decide) ?_
          obtain rfl := Option.some.inj h
          exact hret _ _ dL_law_1272
      replace h := (if_neg c249).symm.trans h
      by_cases c259 : ((xs (a3.toNatClampNeg)) &&& (63 : Int32)) = 35
      · replace h := (if_pos c259).symm.trans h
        rw [c259]
        refine wa_tableIn (tgt := 1273) C dL_law_32 (by decide) (by decide) rfl (by decide) ?_
        refine wa_aload_n C dL_law_1273 rfl ?_
        refine wa_aload_n C dL_law_1274 rfl ?_
        refine wa_iload_n C dL_law_1275 rfl ?_
        refine wa_iconst (v := 1) C dL_law_1276 (by decide) ?_
        refine wa_iadd C dL_law_1277 ?_
        obtain ⟨g260, h⟩ := gd h
        refine wa_scld C hX g260 dL_law_1278 ?_
        refine wa_aload_n C dL_law_1279 rfl ?_
        refine wa_iload_n C dL_law_1280 rfl ?_
        refine wa_iconst (v := 2) C dL_law_1281 (by decide) ?_
        refine wa_iadd C dL_law_1282 ?_
        obtain ⟨g261, h⟩ := gd h
        refine wa_scld C hX g261 dL_law_1283 ?_
        refine wa_aload_n C dL_law_1284 rfl ?_
        refine wa_iload_n C dL_law_1285 rfl ?_
        refine wa_iconst (v := 3) C dL_law_1286 (by decide) ?_
        refine wa_iadd C dL_law_1287 ?_
        obtain ⟨g262, h⟩ := gd h
        refine wa_scld C hX g262 dL_law_1288 ?_
        obtain ⟨q263, hq263, h⟩ := bd h
        refine wa_callV C (r_X9_lay_0 hq263) mk_X9_lay mv_X9_lay qw_1086 rfl (by decide) rfl rfl ⟨Nat.le_trans (Nat.le_of_ble_eq_true rfl) hRr.1, Nat.le_trans (Nat.le_of_ble_eq_true rfl) hRr.2⟩ hcs (Nat.le_of_ble_eq_true rfl) dL_law_1289 rfl ?_
        refine wa_aload_n C dL_law_1292 rfl ?_
        refine wa_aload_n C dL_law_1293 rfl ?_
        refine wa_iload_n C dL_law_1294 rfl ?_
        refine wa_iconst (v := 1) C dL_law_1295 (by decide) ?_
        refine wa_iadd C dL_law_1296 ?_
        obtain ⟨g264, h⟩ := gd h
        refine wa_scld C hX g264 dL_law_1297 ?_
        refine wa_aload_n C dL_law_1298 rfl ?_
        refine wa_iload_n C dL_law_1299 rfl ?_
        refine wa_iconst (v := 2) C dL_law_1300 (by decide) ?_
        refine wa_iadd C dL_law_1301 ?_
        obtain ⟨g265, h⟩ := gd h
        refine wa_scld C hX g265 dL_law_1302 ?_
        refine wa_aload_n C dL_law_1303 rfl ?_
        refine wa_iload_n C dL_law_1304 rfl ?_
        refine wa_iconst (v := 3) C dL_law_1305 (by decide) ?_
        refine wa_iadd C dL_law_1306 ?_
        obtain ⟨g266, h⟩ := gd h
        refine wa_scld C hX g266 dL_law_1307 ?_
        obtain ⟨q267, hq267, h⟩ := bd h
        refine wa_callV C (r_X10_lay_62 hq267) mk_X10_lay mv_X10_lay qw_1102 rfl (by decide) rfl rfl ⟨Nat.le_trans (Nat.le_of_ble_eq_true rfl) hRr.1, Nat.le_trans (Nat.le_of_ble_eq_true rfl) hRr.2⟩ hcs (Nat.le_of_ble_eq_true rfl) dL_law_1308 rfl ?_
        refine wa_icmp_eq (tgt := 1405) C dL_law_1311 (by decide) (fun c268 => ?_) (fun c268 => ?_)
        · replace h := (if_pos c268).symm.trans h
          exact WA.sub (lsub_c rfl (lsub_c rfl (lsub_c rfl (lsub_c rfl lsub_n)))) (r_L_law_J1405 C hX hRr hcs hret _ (fun _ _ h => ih _ _ h) h)
        · replace h := (if_neg c268).symm.trans h
          refine wa_iconst (v := 0) C dL_law_1314 (by decide) ?_
          obtain rfl := Option.some.inj h
          exact hret _ _ dL_law_1315
      replace h := (if_neg c259).symm.trans h
      by_cases c269 : ((xs (a3.toNatClampNeg)) &&& (63 : Int32)) = 36
      · replace h := (if_pos c269).symm.trans h
        rw [c269]
        refine wa_tableIn (tgt := 1316) C dL_law_32 (by decide) (by decide) rfl (by decide) ?_
        refine wa_aload_n C dL_law_1316 rfl ?_
        refine wa_aload_n C dL_law_1317 rfl ?_
        refine wa_iload_n C dL_law_1318 rfl ?_
        refine wa_iconst (v := 1) C dL_law_1319 (by decide) ?_
        refine wa_iadd C dL_law_1320 ?_
        obtain ⟨g270, h⟩ := gd h
        refine wa_scld C hX g270 dL_law_1321 ?_
        refine wa_aload_n C dL_law_1322 rfl ?_
        refine wa_iload_n C dL_law_1323 rfl ?_
        refine wa_iconst (v := 2) C dL_law_1324 (by decide) ?_
        refine wa_iadd C dL_law_1325 ?_
        obtain ⟨g271, h⟩ := gd h
        refine wa_scld C hX g271 dL_law_1326 ?_
        refine wa_aload_n C dL_law_1327 rfl ?_
        refine wa_iload_n C dL_law_1328 rfl ?_
        refine wa_iconst (v := 3) C dL_law_1329 (by decide) ?_
        refine wa_iadd C dL_law_1330 ?_
        obtain ⟨g272, h⟩ := gd h
        refine wa_scld C hX g272 dL_law_1331 ?_
        refine wa_aload_n C dL_law_1332 rfl ?_
        refine wa_iload_n C dL_law_1333 rfl ?_
        refine wa_iconst (v := 4) C dL_law_1334 (by decide) ?_
        refine wa_iadd C dL_law_1335 ?_
        obtain ⟨g273, h⟩ := gd h
        refine wa_scld C hX g273 dL_law_1336 ?_
        obtain ⟨q274, hq274, h⟩ := bd h
        refine wa_callV C (r_X9_read_0 hq274) mk_X9_read mv_X9_read qw_1106 rfl (by decide) rfl rfl ⟨Nat.le_trans (Nat.le_of_ble_eq_true rfl) hRr.1, Nat.le_trans (Nat.le_of_ble_eq_true rfl) hRr.2⟩ hcs (Nat.le_of_ble_eq_true rfl) dL_law_1337 rfl ?_
        refine wa_aload_n C dL_law_1340 rfl ?_
        refine wa_aload_n C dL_law_1341 rfl ?_
        refine wa_iload_n C dL_law_1342 rfl ?_
        refine wa_iconst (v := 1) C dL_law_1343 (by decide) ?_
        refine wa_iadd C dL_law_1344 ?_
        obtain ⟨g275, h⟩ := gd h
        refine wa_scld C hX g275 dL_law_1345 ?_
        refine wa_aload_n C dL_law_1346 rfl ?_
        refine wa_iload_n C dL_law_1347 rfl ?_
        refine wa_iconst (v := 2) C dL_law_1348 (by decide) ?_
        refine wa_iadd C dL_law_1349 ?_
        obtain ⟨g276, h⟩ := gd h
        refine wa_scld C hX g276 dL_law_1350 ?_
        refine wa_aload_n C dL_law_1351 rfl ?_
        refine wa_iload_n C dL_law_1352 rfl ?_
        refine wa_iconst (v := 3) C dL_law_1353 (by decide) ?_
        refine wa_iadd C dL_law_1354 ?_
        obtain ⟨g277, h⟩ := gd h
        refine wa_scld C hX g277 dL_law_1355 ?_
        refine wa_aload_n C dL_law_1356 rfl ?_
        refine wa_iload_n C dL_law_1357 rfl ?_
        refine wa_iconst (v := 4) C dL_law_1358 (by decide) ?_
        refine wa_iadd C dL_law_1359 ?_
        obtain ⟨g278, h⟩ := gd h
        refine wa_scld C hX g278 dL_law_1360 ?_
        obtain ⟨q279, hq279, h⟩ := bd h
        refine wa_callV C (r_X10_read_62 hq279) mk_X10_read mv_X10_read qw_1117 rfl (by decide) rfl rfl ⟨Nat.le_trans (Nat.le_of_ble_eq_true rfl) hRr.1, Nat.le_trans (Nat.le_of_ble_eq_true rfl) hRr.2⟩ hcs (Nat.le_of_ble_eq_true rfl) dL_law_1361 rfl ?_
        refine wa_icmp_eq (tgt := 1405) C dL_law_1364 (by decide) (fun c280 => ?_) (fun c280 => ?_)
        · replace h := (if_pos c280).symm.trans h
          exact WA.sub (lsub_c rfl (lsub_c rfl (lsub_c rfl (lsub_c rfl lsub_n)))) (r_L_law_J1405 C hX hRr hcs hret _ (fun _ _ h => ih _ _ h) h)
        · replace h := (if_neg c280).symm.trans h
          refine wa_iconst (v := 0) C dL_law_1367 (by decide) ?_
          obtain rfl := Option.some.inj h
          exact hret _ _ dL_law_1368
      replace h := (if_neg c269).symm.trans h
      by_cases c281 : ((xs (a3.toNatClampNeg)) &&& (63 : Int32)) = 37
      · replace h := (if_pos c281).symm.trans h
        rw [c281]
        refine wa_tableIn (tgt := 1369) C dL_law_32 (by decide) (by decide) rfl (by decide) ?_
        refine wa_aload_n C dL_law_1369 rfl ?_
        obtain ⟨q282, hq282, h⟩ := bd h
        refine wa_callV C (r_X9_torn_0 hq282) mk_X9_torn mv_X9_torn qw_1124 rfl (by decide) rfl rfl ⟨Nat.le_trans (Nat.le_of_ble_eq_true rfl) hRr.1, Nat.le_trans (Nat.le_of_ble_eq_true rfl) hRr.2⟩ hcs (Nat.le_of_ble_eq_true rfl) dL_law_1370 rfl ?_
        refine wa_aload_n C dL_law_1373 rfl ?_
        obtain ⟨q283, hq283, h⟩ := bd h
        refine wa_callV C (r_X10_torn_62 hq283) mk_X10_torn mv_X10_torn qw_1128 rfl (by decide) rfl rfl ⟨Nat.le_trans (Nat.le_of_ble_eq_true rfl) hRr.1, Nat.le_trans (Nat.le_of_ble_eq_true rfl) hRr.2⟩ hcs (Nat.le_of_ble_eq_true rfl) dL_law_1374 rfl ?_
        refine wa_icmp_eq (tgt := 1405) C dL_law_1377 (by decide) (fun c284 => ?_) (fun c284 => ?_)
        · replace h := (if_pos c284).symm.trans h
          exact WA.sub (lsub_c rfl (lsub_c rfl (lsub_c rfl (lsub_c rfl lsub_n)))) (r_L_law_J1405 C hX hRr hcs hret _ (fun _ _ h => ih _ _ h) h)
        · replace h := (if_neg c284).symm.trans h
          refine wa_iconst (v := 0) C dL_law_1380 (by decide) ?_
          obtain rfl := Option.some.inj h
          exact hret _ _ dL_law_1381
      replace h := (if_neg c281).symm.trans h
      by_cases c285 : ((xs (a3.toNatClampNeg)) &&& (63 : Int32)) = 38
      · replace h := (if_pos c285).symm.trans h
        rw [c285]
        refine wa_tableIn (tgt := 1382) C dL_law_32 (by decide) (by decide) rfl (by decide) ?_
        refine wa_aload_n C dL_law_1382 rfl ?_
        refine wa_aload_n C dL_law_1383 rfl ?_
        refine wa_iload_n C dL_law_1384 rfl ?_
        refine wa_iconst (v := 1) C dL_law_1385 (by decide) ?_
        refine wa_iadd C dL_law_1386 ?_
        obtain ⟨g286, h⟩ := gd h
        refine wa_scld C hX g286 dL_law_1387 ?_
        obtain ⟨q287, hq287, h⟩ := bd h
        refine wa_callV C (r_X9_count_0 hq287) mk_X9_count mv_X9_count qw_1132 rfl (by decide) rfl rfl ⟨Nat.le_trans (Nat.le_of_ble_eq_true rfl) hRr.1, Nat.le_trans (Nat.le_of_ble_eq_true rfl) hRr.2⟩ hcs (Nat.le_of_ble_eq_true rfl) dL_law_1388 rfl ?_
        refine wa_aload_n C dL_law_1391 rfl ?_
        refine wa_aload_n C dL_law_1392 rfl ?_
        refine wa_iload_n C dL_law_1393 rfl ?_
        refine wa_iconst (v := 1) C dL_law_1394 (by decide) ?_
        refine wa_iadd C dL_law_1395 ?_
        obtain ⟨g288, h⟩ := gd h
        refine wa_scld C hX g288 dL_law_1396 ?_
        obtain ⟨q289, hq289, h⟩ := bd h
        refine wa_callV C (r_X10_count_62 hq289) mk_X10_count mv_X10_count qw_1143 rfl (by decide) rfl rfl ⟨Nat.le_trans (Nat.le_of_ble_eq_true rfl) hRr.1, Nat.le_trans (Nat.le_of_ble_eq_true rfl) hRr.2⟩ hcs (Nat.le_of_ble_eq_true rfl) dL_law_1397 rfl ?_
        refine wa_icmp_eq (tgt := 1405) C dL_law_1400 (by decide) (fun c290 => ?_) (fun c290 => ?_)
        · replace h := (if_pos c290).symm.trans h
          exact WA.sub (lsub_c rfl (lsub_c rfl (lsub_c rfl (lsub_c rfl lsub_n)))) (r_L_law_J1405 C hX hRr hcs hret _ (fun _ _ h => ih _ _ h) h)
        · replace h := (if_neg c290).symm.trans h
          refine wa_iconst (v := 0) C dL_law_1403 (by decide) ?_
          obtain rfl := Option.some.inj h
          exact hret _ _ dL_law_1404
      replace h := (if_neg c285).symm.trans h
      refine wa_tableOut (tgt := 1405) C dL_law_32 (tab_out38 c3 c11 c17 c21 c25 c31 c39 c47 c55 c61 c69 c77 c89 c97 c105 c113 c121 c129 c137 c143 c149 c153 c159 c165 c171 c177 c183 c193 c203 c211 c223 c229 c237 c243 c249 c259 c269 c281 c285) (by decide) ?_
      exact WA.sub (lsub_c rfl (lsub_c rfl (lsub_c rfl (lsub_c rfl lsub_n)))) (r_L_law_J1405 C hX hRr hcs hret _ (fun _ _ h => ih _ _ h) h)
set_option maxRecDepth 100000 in
set_option maxHeartbeats 8000000 in
theorem r_L_lawR {p : Program} {l : Launch} {e : Env} {s : State} {m : MethodId} {args : Array Value} {below : List Frame} {meth : Method} {c : Code} {D : va_G} {cy : Nat → ClassId} {ad : Nat → Nat} {R : Room} {A : Nat → Prop} {kc ks : Nat} {Z : State → Prop} (C : CX p s m args meth c cL_law 4 RL (some .boolean) D cy ad A) {xs : Nat → Int32} {Ln : Nat} (hX : SCR ad A s Ln xs) {μ : Mem} {ρ : (Int32 × Mem)} (hRr : 100 ≤ R.frames ∧ 6000 ≤ R.locals) (hcs : kc ≤ R.cells ∧ ks ≤ R.slots) (hret : ∀ (ls : List (Nat × Value)) (pc : Nat), decode cL_law pc = .ok (.ireturn, 1) → WA p l e R s m args below meth c 4 D cy ad A kc ks Z ρ.2 ls pc [.int ρ.1]) (h : f_L_lawR xs Ln μ = some ρ) : WA p l e R s m args below meth c 4 D cy ad A kc ks Z μ [(0, .ref 103), (1, .ref 0), (2, .ref 62)] 16 [] := by
  unfold f_L_lawR at h
  refine wa_iconst (v := 0) C dL_law_16 (by decide) ?_
  refine wa_istore_n C dL_law_17 (by decide) ?_
  exact WA.sub (lsub_c rfl (lsub_c rfl (lsub_c rfl (lsub_c rfl lsub_n)))) (r_L_law_L18 C hX  hRr hcs hret _ _ _ h)
