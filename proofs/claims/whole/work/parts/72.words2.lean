theorem mt_116 : Cond.methodLink RX0 3 Lib.objectInit ∈ mm_tb := mm_tb_in (List.mem_of_getElem? (i := 116) (by decide +kernel)) rfl
theorem mt_86 : Cond.instanceMethod Lib.objectInit ∈ mm_tb := mm_tb_in (List.mem_of_getElem? (i := 86) (by decide +kernel)) rfl
theorem mt_87 : Cond.code Lib.objectInit ⟨#[0xb1]⟩ 1 none ∈ mm_tb := mm_tb_in (List.mem_of_getElem? (i := 87) (by decide +kernel)) rfl
theorem mt_110 : Cond.arrayClass .int ∈ mm_tb := mm_tb_in (List.mem_of_getElem? (i := 110) (by decide +kernel)) rfl
theorem mt_200 : Cond.methodLink RX1 3 Lib.objectInit ∈ mm_tb := mm_tb_in (List.mem_of_getElem? (i := 200) (by decide +kernel)) rfl
theorem mt_95 : Cond.methodLink RX2 3 Lib.objectInit ∈ mm_tb := mm_tb_in (List.mem_of_getElem? (i := 95) (by decide +kernel)) rfl
theorem mt_269 : Cond.methodLink RX3 3 Lib.objectInit ∈ mm_tb := mm_tb_in (List.mem_of_getElem? (i := 269) (by decide +kernel)) rfl
theorem mt_138 : Cond.methodLink RX5 3 Lib.objectInit ∈ mm_tb := mm_tb_in (List.mem_of_getElem? (i := 138) (by decide +kernel)) rfl
theorem mt_248 : Cond.methodLink RX4 3 Lib.objectInit ∈ mm_tb := mm_tb_in (List.mem_of_getElem? (i := 248) (by decide +kernel)) rfl
theorem mt_85 : Cond.methodLink RX6 1 Lib.objectInit ∈ mm_tb := mm_tb_in (List.mem_of_getElem? (i := 85) (by decide +kernel)) rfl
theorem mt_89 : Cond.arrayOver (.object "WordsLent$Text") ∈ lw_tbl := List.mem_of_getElem? (i := 89) (by decide +kernel)
theorem mt_88 : Cond.classLink RX6 9 RX4 ∈ mm_tb := mm_tb_in (List.mem_of_getElem? (i := 88) (by decide +kernel)) rfl
theorem mt_90 : Cond.classLink RX6 15 RX2 ∈ mm_tb := mm_tb_in (List.mem_of_getElem? (i := 90) (by decide +kernel)) rfl
theorem mt_91 : Cond.instantiable RX2 3 ∈ mm_tb := mm_tb_in (List.mem_of_getElem? (i := 91) (by decide +kernel)) rfl
theorem mt_93 : Cond.instanceMethod yX2_init ∈ mm_tb := mm_tb_in (List.mem_of_getElem? (i := 93) (by decide +kernel)) rfl
theorem mt_94 : Cond.code yX2_init cX2_init 1 none ∈ mm_tb := mm_tb_in (List.mem_of_getElem? (i := 94) (by decide +kernel)) rfl
theorem mt_92 : Cond.methodLinkNest RX6 17 yX2_init "WordsLent" ∈ lw_tbl := List.mem_of_getElem? (i := 92) (by decide +kernel)
theorem mt_111 : Cond.classLink RX6 22 RX0 ∈ mm_tb := mm_tb_in (List.mem_of_getElem? (i := 111) (by decide +kernel)) rfl
theorem mt_112 : Cond.instantiable RX0 4 ∈ mm_tb := mm_tb_in (List.mem_of_getElem? (i := 112) (by decide +kernel)) rfl
theorem mt_114 : Cond.instanceMethod yX0_init ∈ mm_tb := mm_tb_in (List.mem_of_getElem? (i := 114) (by decide +kernel)) rfl
theorem mt_115 : Cond.code yX0_init cX0_init 1 none ∈ mm_tb := mm_tb_in (List.mem_of_getElem? (i := 115) (by decide +kernel)) rfl
theorem mt_113 : Cond.methodLinkNest RX6 24 yX0_init "WordsLent" ∈ lw_tbl := List.mem_of_getElem? (i := 113) (by decide +kernel)
theorem mt_132 : Cond.arrayOver (.object "WordsLent$Sheet") ∈ lw_tbl := List.mem_of_getElem? (i := 132) (by decide +kernel)
theorem mt_131 : Cond.classLink RX6 29 RX3 ∈ mm_tb := mm_tb_in (List.mem_of_getElem? (i := 131) (by decide +kernel)) rfl
theorem mt_133 : Cond.classLink RX6 35 RX5 ∈ mm_tb := mm_tb_in (List.mem_of_getElem? (i := 133) (by decide +kernel)) rfl
theorem mt_134 : Cond.instantiable RX5 11 ∈ mm_tb := mm_tb_in (List.mem_of_getElem? (i := 134) (by decide +kernel)) rfl
theorem mt_136 : Cond.instanceMethod yX5_init ∈ mm_tb := mm_tb_in (List.mem_of_getElem? (i := 136) (by decide +kernel)) rfl
theorem mt_137 : Cond.code yX5_init cX5_init 1 none ∈ mm_tb := mm_tb_in (List.mem_of_getElem? (i := 137) (by decide +kernel)) rfl
theorem mt_135 : Cond.methodLinkNest RX6 37 yX5_init "WordsLent" ∈ lw_tbl := List.mem_of_getElem? (i := 135) (by decide +kernel)
theorem mt_195 : Cond.classLink RX6 42 RX1 ∈ mm_tb := mm_tb_in (List.mem_of_getElem? (i := 195) (by decide +kernel)) rfl
theorem mt_196 : Cond.instantiable RX1 14 ∈ mm_tb := mm_tb_in (List.mem_of_getElem? (i := 196) (by decide +kernel)) rfl
theorem mt_198 : Cond.instanceMethod yX1_init ∈ mm_tb := mm_tb_in (List.mem_of_getElem? (i := 198) (by decide +kernel)) rfl
theorem mt_199 : Cond.code yX1_init cX1_init 1 none ∈ mm_tb := mm_tb_in (List.mem_of_getElem? (i := 199) (by decide +kernel)) rfl
theorem mt_197 : Cond.methodLinkNest RX6 44 yX1_init "WordsLent" ∈ lw_tbl := List.mem_of_getElem? (i := 197) (by decide +kernel)
theorem mt_244 : Cond.instantiable RX4 5 ∈ mm_tb := mm_tb_in (List.mem_of_getElem? (i := 244) (by decide +kernel)) rfl
theorem mt_246 : Cond.instanceMethod yX4_init ∈ mm_tb := mm_tb_in (List.mem_of_getElem? (i := 246) (by decide +kernel)) rfl
theorem mt_247 : Cond.code yX4_init cX4_init 2 none ∈ mm_tb := mm_tb_in (List.mem_of_getElem? (i := 247) (by decide +kernel)) rfl
theorem mt_245 : Cond.methodLink RX6 62 yX4_init ∈ mm_tb := mm_tb_in (List.mem_of_getElem? (i := 245) (by decide +kernel)) rfl
theorem mt_265 : Cond.instantiable RX3 3 ∈ mm_tb := mm_tb_in (List.mem_of_getElem? (i := 265) (by decide +kernel)) rfl
theorem mt_267 : Cond.instanceMethod yX3_init ∈ mm_tb := mm_tb_in (List.mem_of_getElem? (i := 267) (by decide +kernel)) rfl
theorem mt_268 : Cond.code yX3_init cX3_init 1 none ∈ mm_tb := mm_tb_in (List.mem_of_getElem? (i := 268) (by decide +kernel)) rfl
theorem mt_266 : Cond.methodLinkNest RX6 65 yX3_init "WordsLent" ∈ lw_tbl := List.mem_of_getElem? (i := 266) (by decide +kernel)
theorem mt_776 : Cond.methodLink RX7 1 Lib.objectInit ∈ mm_tb := mm_tb_in (List.mem_of_getElem? (i := 776) (by decide +kernel)) rfl
theorem mt_82 : Cond.methodLink RL 9 yX6_init ∈ mm_tb := mm_tb_in (List.mem_of_getElem? (i := 82) (by decide +kernel)) rfl
theorem mt_83 : Cond.instanceMethod yX6_init ∈ mm_tb := mm_tb_in (List.mem_of_getElem? (i := 83) (by decide +kernel)) rfl
theorem mt_84 : Cond.code yX6_init cX6_init 2 none ∈ mm_tb := mm_tb_in (List.mem_of_getElem? (i := 84) (by decide +kernel)) rfl
theorem mt_80 : Cond.classLink RL 7 RX6 ∈ mm_tb := mm_tb_in (List.mem_of_getElem? (i := 80) (by decide +kernel)) rfl
theorem mt_81 : Cond.instantiable RX6 13 ∈ mm_tb := mm_tb_in (List.mem_of_getElem? (i := 81) (by decide +kernel)) rfl
theorem mt_323 : Cond.methodLink RL 13 yX6_type ∈ mm_tb := mm_tb_in (List.mem_of_getElem? (i := 323) (by decide +kernel)) rfl
theorem mt_324 : Cond.instanceMethod yX6_type ∈ mm_tb := mm_tb_in (List.mem_of_getElem? (i := 324) (by decide +kernel)) rfl
theorem mt_325 : Cond.selects RX6 yX6_type yX6_type ∈ mm_tb := mm_tb_in (List.mem_of_getElem? (i := 325) (by decide +kernel)) rfl
theorem mt_326 : Cond.code yX6_type cX6_type 3 (some .int) ∈ mm_tb := mm_tb_in (List.mem_of_getElem? (i := 326) (by decide +kernel)) rfl
theorem mt_393 : Cond.methodLink RL 18 yX6_wipe ∈ mm_tb := mm_tb_in (List.mem_of_getElem? (i := 393) (by decide +kernel)) rfl
theorem mt_394 : Cond.instanceMethod yX6_wipe ∈ mm_tb := mm_tb_in (List.mem_of_getElem? (i := 394) (by decide +kernel)) rfl
theorem mt_395 : Cond.selects RX6 yX6_wipe yX6_wipe ∈ mm_tb := mm_tb_in (List.mem_of_getElem? (i := 395) (by decide +kernel)) rfl
theorem mt_396 : Cond.code yX6_wipe cX6_wipe 3 (some .int) ∈ mm_tb := mm_tb_in (List.mem_of_getElem? (i := 396) (by decide +kernel)) rfl
theorem mt_401 : Cond.methodLink RL 23 yX6_undo ∈ mm_tb := mm_tb_in (List.mem_of_getElem? (i := 401) (by decide +kernel)) rfl
theorem mt_402 : Cond.instanceMethod yX6_undo ∈ mm_tb := mm_tb_in (List.mem_of_getElem? (i := 402) (by decide +kernel)) rfl
theorem mt_403 : Cond.selects RX6 yX6_undo yX6_undo ∈ mm_tb := mm_tb_in (List.mem_of_getElem? (i := 403) (by decide +kernel)) rfl
theorem mt_404 : Cond.code yX6_undo cX6_undo 3 (some .int) ∈ mm_tb := mm_tb_in (List.mem_of_getElem? (i := 404) (by decide +kernel)) rfl
theorem mt_405 : Cond.methodLink RL 27 yX6_fault ∈ mm_tb := mm_tb_in (List.mem_of_getElem? (i := 405) (by decide +kernel)) rfl
theorem mt_410 : Cond.methodLink RL 31 yX6_person ∈ mm_tb := mm_tb_in (List.mem_of_getElem? (i := 410) (by decide +kernel)) rfl
theorem mt_414 : Cond.methodLink RL 35 yX6_word ∈ mm_tb := mm_tb_in (List.mem_of_getElem? (i := 414) (by decide +kernel)) rfl
theorem mt_418 : Cond.methodLink RL 39 yX6_meeting ∈ mm_tb := mm_tb_in (List.mem_of_getElem? (i := 418) (by decide +kernel)) rfl
theorem mt_422 : Cond.methodLink RL 43 yX6_echo ∈ mm_tb := mm_tb_in (List.mem_of_getElem? (i := 422) (by decide +kernel)) rfl
theorem mt_423 : Cond.instanceMethod yX6_echo ∈ mm_tb := mm_tb_in (List.mem_of_getElem? (i := 423) (by decide +kernel)) rfl
theorem mt_424 : Cond.selects RX6 yX6_echo yX6_echo ∈ mm_tb := mm_tb_in (List.mem_of_getElem? (i := 424) (by decide +kernel)) rfl
theorem mt_425 : Cond.code yX6_echo cX6_echo 3 (some .int) ∈ mm_tb := mm_tb_in (List.mem_of_getElem? (i := 425) (by decide +kernel)) rfl
theorem mt_439 : Cond.methodLink RL 47 yX6_back ∈ mm_tb := mm_tb_in (List.mem_of_getElem? (i := 439) (by decide +kernel)) rfl
theorem mt_440 : Cond.instanceMethod yX6_back ∈ mm_tb := mm_tb_in (List.mem_of_getElem? (i := 440) (by decide +kernel)) rfl
theorem mt_441 : Cond.selects RX6 yX6_back yX6_back ∈ mm_tb := mm_tb_in (List.mem_of_getElem? (i := 441) (by decide +kernel)) rfl
theorem mt_442 : Cond.code yX6_back cX6_back 1 (some .int) ∈ mm_tb := mm_tb_in (List.mem_of_getElem? (i := 442) (by decide +kernel)) rfl
theorem mt_443 : Cond.methodLink RL 52 yX6_read ∈ mm_tb := mm_tb_in (List.mem_of_getElem? (i := 443) (by decide +kernel)) rfl
theorem mt_444 : Cond.instanceMethod yX6_read ∈ mm_tb := mm_tb_in (List.mem_of_getElem? (i := 444) (by decide +kernel)) rfl
theorem mt_445 : Cond.selects RX6 yX6_read yX6_read ∈ mm_tb := mm_tb_in (List.mem_of_getElem? (i := 445) (by decide +kernel)) rfl
theorem mt_446 : Cond.code yX6_read cX6_read 5 (some .int) ∈ mm_tb := mm_tb_in (List.mem_of_getElem? (i := 446) (by decide +kernel)) rfl
theorem mt_455 : Cond.methodLink RL 56 yX6_stands ∈ mm_tb := mm_tb_in (List.mem_of_getElem? (i := 455) (by decide +kernel)) rfl
theorem mt_520 : Cond.methodLink RL 61 yX6_at ∈ mm_tb := mm_tb_in (List.mem_of_getElem? (i := 520) (by decide +kernel)) rfl
theorem mt_534 : Cond.methodLink RL 65 yX6_clear ∈ mm_tb := mm_tb_in (List.mem_of_getElem? (i := 534) (by decide +kernel)) rfl
theorem mt_547 : Cond.methodLink RL 69 yX6_bank ∈ mm_tb := mm_tb_in (List.mem_of_getElem? (i := 547) (by decide +kernel)) rfl
theorem mt_551 : Cond.methodLink RL 73 yX6_ring ∈ mm_tb := mm_tb_in (List.mem_of_getElem? (i := 551) (by decide +kernel)) rfl
theorem mt_567 : Cond.methodLink RL 77 yX6_silent ∈ mm_tb := mm_tb_in (List.mem_of_getElem? (i := 567) (by decide +kernel)) rfl
theorem mt_571 : Cond.methodLink RL 81 yX6_meet ∈ mm_tb := mm_tb_in (List.mem_of_getElem? (i := 571) (by decide +kernel)) rfl
theorem mt_585 : Cond.methodLink RL 85 yX6_live ∈ mm_tb := mm_tb_in (List.mem_of_getElem? (i := 585) (by decide +kernel)) rfl
theorem mt_590 : Cond.methodLink RL 89 yX6_voice ∈ mm_tb := mm_tb_in (List.mem_of_getElem? (i := 590) (by decide +kernel)) rfl
theorem mt_598 : Cond.methodLink RL 93 yX6_spare ∈ mm_tb := mm_tb_in (List.mem_of_getElem? (i := 598) (by decide +kernel)) rfl
theorem mt_619 : Cond.methodLink RL 97 yX6_tally ∈ mm_tb := mm_tb_in (List.mem_of_getElem? (i := 619) (by decide +kernel)) rfl
theorem mt_620 : Cond.instanceMethod yX6_tally ∈ mm_tb := mm_tb_in (List.mem_of_getElem? (i := 620) (by decide +kernel)) rfl
theorem mt_621 : Cond.selects RX6 yX6_tally yX6_tally ∈ mm_tb := mm_tb_in (List.mem_of_getElem? (i := 621) (by decide +kernel)) rfl
theorem mt_622 : Cond.code yX6_tally cX6_tally 4 (some .int) ∈ mm_tb := mm_tb_in (List.mem_of_getElem? (i := 622) (by decide +kernel)) rfl
theorem mt_627 : Cond.methodLink RL 101 yX6_forget ∈ mm_tb := mm_tb_in (List.mem_of_getElem? (i := 627) (by decide +kernel)) rfl
theorem mt_628 : Cond.instanceMethod yX6_forget ∈ mm_tb := mm_tb_in (List.mem_of_getElem? (i := 628) (by decide +kernel)) rfl
theorem mt_629 : Cond.selects RX6 yX6_forget yX6_forget ∈ mm_tb := mm_tb_in (List.mem_of_getElem? (i := 629) (by decide +kernel)) rfl
theorem mt_630 : Cond.code yX6_forget cX6_forget 2 (some .int) ∈ mm_tb := mm_tb_in (List.mem_of_getElem? (i := 630) (by decide +kernel)) rfl
theorem mt_631 : Cond.methodLink RL 105 yX6_never ∈ mm_tb := mm_tb_in (List.mem_of_getElem? (i := 631) (by decide +kernel)) rfl
theorem mt_640 : Cond.methodLink RL 109 yX6_sort ∈ mm_tb := mm_tb_in (List.mem_of_getElem? (i := 640) (by decide +kernel)) rfl
theorem mt_644 : Cond.methodLink RL 113 yX6_lent ∈ mm_tb := mm_tb_in (List.mem_of_getElem? (i := 644) (by decide +kernel)) rfl
theorem mt_648 : Cond.methodLink RL 117 yX6_ask ∈ mm_tb := mm_tb_in (List.mem_of_getElem? (i := 648) (by decide +kernel)) rfl
theorem mt_663 : Cond.methodLink RL 121 yX6_chance ∈ mm_tb := mm_tb_in (List.mem_of_getElem? (i := 663) (by decide +kernel)) rfl
theorem mt_675 : Cond.methodLink RL 126 yX6_lives ∈ mm_tb := mm_tb_in (List.mem_of_getElem? (i := 675) (by decide +kernel)) rfl
theorem mt_687 : Cond.methodLink RL 130 yX6_sheet ∈ mm_tb := mm_tb_in (List.mem_of_getElem? (i := 687) (by decide +kernel)) rfl
theorem mt_688 : Cond.instanceMethod yX6_sheet ∈ mm_tb := mm_tb_in (List.mem_of_getElem? (i := 688) (by decide +kernel)) rfl
theorem mt_689 : Cond.selects RX6 yX6_sheet yX6_sheet ∈ mm_tb := mm_tb_in (List.mem_of_getElem? (i := 689) (by decide +kernel)) rfl
theorem mt_690 : Cond.code yX6_sheet cX6_sheet 4 (some .int) ∈ mm_tb := mm_tb_in (List.mem_of_getElem? (i := 690) (by decide +kernel)) rfl
theorem mt_695 : Cond.methodLink RL 134 yX6_lose ∈ mm_tb := mm_tb_in (List.mem_of_getElem? (i := 695) (by decide +kernel)) rfl
theorem mt_696 : Cond.instanceMethod yX6_lose ∈ mm_tb := mm_tb_in (List.mem_of_getElem? (i := 696) (by decide +kernel)) rfl
theorem mt_697 : Cond.selects RX6 yX6_lose yX6_lose ∈ mm_tb := mm_tb_in (List.mem_of_getElem? (i := 697) (by decide +kernel)) rfl
theorem mt_698 : Cond.code yX6_lose cX6_lose 3 (some .int) ∈ mm_tb := mm_tb_in (List.mem_of_getElem? (i := 698) (by decide +kernel)) rfl
theorem mt_699 : Cond.methodLink RL 138 yX6_lay ∈ mm_tb := mm_tb_in (List.mem_of_getElem? (i := 699) (by decide +kernel)) rfl
theorem mt_700 : Cond.instanceMethod yX6_lay ∈ mm_tb := mm_tb_in (List.mem_of_getElem? (i := 700) (by decide +kernel)) rfl
theorem mt_701 : Cond.selects RX6 yX6_lay yX6_lay ∈ mm_tb := mm_tb_in (List.mem_of_getElem? (i := 701) (by decide +kernel)) rfl
theorem mt_702 : Cond.code yX6_lay cX6_lay 6 (some .int) ∈ mm_tb := mm_tb_in (List.mem_of_getElem? (i := 702) (by decide +kernel)) rfl
theorem mt_711 : Cond.methodLink RL 143 yX6_get ∈ mm_tb := mm_tb_in (List.mem_of_getElem? (i := 711) (by decide +kernel)) rfl
theorem mt_712 : Cond.instanceMethod yX6_get ∈ mm_tb := mm_tb_in (List.mem_of_getElem? (i := 712) (by decide +kernel)) rfl
theorem mt_713 : Cond.selects RX6 yX6_get yX6_get ∈ mm_tb := mm_tb_in (List.mem_of_getElem? (i := 713) (by decide +kernel)) rfl
theorem mt_714 : Cond.code yX6_get cX6_get 5 (some .int) ∈ mm_tb := mm_tb_in (List.mem_of_getElem? (i := 714) (by decide +kernel)) rfl
theorem mt_716 : Cond.methodLink RL 147 yX6_copy ∈ mm_tb := mm_tb_in (List.mem_of_getElem? (i := 716) (by decide +kernel)) rfl
theorem mt_717 : Cond.instanceMethod yX6_copy ∈ mm_tb := mm_tb_in (List.mem_of_getElem? (i := 717) (by decide +kernel)) rfl
theorem mt_718 : Cond.selects RX6 yX6_copy yX6_copy ∈ mm_tb := mm_tb_in (List.mem_of_getElem? (i := 718) (by decide +kernel)) rfl
theorem mt_719 : Cond.code yX6_copy cX6_copy 8 (some .int) ∈ mm_tb := mm_tb_in (List.mem_of_getElem? (i := 719) (by decide +kernel)) rfl
theorem mt_725 : Cond.methodLink RL 152 yX6_write ∈ mm_tb := mm_tb_in (List.mem_of_getElem? (i := 725) (by decide +kernel)) rfl
theorem mt_726 : Cond.instanceMethod yX6_write ∈ mm_tb := mm_tb_in (List.mem_of_getElem? (i := 726) (by decide +kernel)) rfl
theorem mt_727 : Cond.selects RX6 yX6_write yX6_write ∈ mm_tb := mm_tb_in (List.mem_of_getElem? (i := 727) (by decide +kernel)) rfl
theorem mt_728 : Cond.code yX6_write cX6_write 6 (some .int) ∈ mm_tb := mm_tb_in (List.mem_of_getElem? (i := 728) (by decide +kernel)) rfl
theorem mt_730 : Cond.methodLink RL 156 yX6_count ∈ mm_tb := mm_tb_in (List.mem_of_getElem? (i := 730) (by decide +kernel)) rfl
theorem mt_734 : Cond.methodLink RL 160 yX6_digest ∈ mm_tb := mm_tb_in (List.mem_of_getElem? (i := 734) (by decide +kernel)) rfl
theorem mt_735 : Cond.instanceMethod yX6_digest ∈ mm_tb := mm_tb_in (List.mem_of_getElem? (i := 735) (by decide +kernel)) rfl
theorem mt_736 : Cond.selects RX6 yX6_digest yX6_digest ∈ mm_tb := mm_tb_in (List.mem_of_getElem? (i := 736) (by decide +kernel)) rfl
theorem mt_737 : Cond.code yX6_digest cX6_digest 5 (some .long) ∈ mm_tb := mm_tb_in (List.mem_of_getElem? (i := 737) (by decide +kernel)) rfl
theorem mt_773 : Cond.methodLink RL 12 yX7_init ∈ mm_tb := mm_tb_in (List.mem_of_getElem? (i := 773) (by decide +kernel)) rfl
theorem mt_774 : Cond.instanceMethod yX7_init ∈ mm_tb := mm_tb_in (List.mem_of_getElem? (i := 774) (by decide +kernel)) rfl
theorem mt_775 : Cond.code yX7_init cX7_init 2 none ∈ mm_tb := mm_tb_in (List.mem_of_getElem? (i := 775) (by decide +kernel)) rfl
theorem mt_771 : Cond.classLink RL 10 RX7 ∈ mm_tb := mm_tb_in (List.mem_of_getElem? (i := 771) (by decide +kernel)) rfl
theorem mt_772 : Cond.instantiable RX7 31 ∈ mm_tb := mm_tb_in (List.mem_of_getElem? (i := 772) (by decide +kernel)) rfl
theorem mt_871 : Cond.methodLink RL 133 yX7_sheet ∈ mm_tb := mm_tb_in (List.mem_of_getElem? (i := 871) (by decide +kernel)) rfl
theorem mt_872 : Cond.instanceMethod yX7_sheet ∈ mm_tb := mm_tb_in (List.mem_of_getElem? (i := 872) (by decide +kernel)) rfl
theorem mt_873 : Cond.selects RX7 yX7_sheet yX7_sheet ∈ mm_tb := mm_tb_in (List.mem_of_getElem? (i := 873) (by decide +kernel)) rfl
theorem mt_874 : Cond.code yX7_sheet cX7_sheet 5 (some .int) ∈ mm_tb := mm_tb_in (List.mem_of_getElem? (i := 874) (by decide +kernel)) rfl
theorem mt_887 : Cond.methodLink RL 137 yX7_lose ∈ mm_tb := mm_tb_in (List.mem_of_getElem? (i := 887) (by decide +kernel)) rfl
theorem mt_888 : Cond.instanceMethod yX7_lose ∈ mm_tb := mm_tb_in (List.mem_of_getElem? (i := 888) (by decide +kernel)) rfl
theorem mt_889 : Cond.selects RX7 yX7_lose yX7_lose ∈ mm_tb := mm_tb_in (List.mem_of_getElem? (i := 889) (by decide +kernel)) rfl
theorem mt_890 : Cond.code yX7_lose cX7_lose 2 (some .int) ∈ mm_tb := mm_tb_in (List.mem_of_getElem? (i := 890) (by decide +kernel)) rfl
theorem mt_891 : Cond.methodLink RL 142 yX7_lay ∈ mm_tb := mm_tb_in (List.mem_of_getElem? (i := 891) (by decide +kernel)) rfl
theorem mt_892 : Cond.instanceMethod yX7_lay ∈ mm_tb := mm_tb_in (List.mem_of_getElem? (i := 892) (by decide +kernel)) rfl
theorem mt_893 : Cond.selects RX7 yX7_lay yX7_lay ∈ mm_tb := mm_tb_in (List.mem_of_getElem? (i := 893) (by decide +kernel)) rfl
theorem mt_894 : Cond.code yX7_lay cX7_lay 6 (some .int) ∈ mm_tb := mm_tb_in (List.mem_of_getElem? (i := 894) (by decide +kernel)) rfl
theorem mt_902 : Cond.methodLink RL 146 yX7_get ∈ mm_tb := mm_tb_in (List.mem_of_getElem? (i := 902) (by decide +kernel)) rfl
theorem mt_903 : Cond.instanceMethod yX7_get ∈ mm_tb := mm_tb_in (List.mem_of_getElem? (i := 903) (by decide +kernel)) rfl
theorem mt_904 : Cond.selects RX7 yX7_get yX7_get ∈ mm_tb := mm_tb_in (List.mem_of_getElem? (i := 904) (by decide +kernel)) rfl
theorem mt_905 : Cond.code yX7_get cX7_get 4 (some .int) ∈ mm_tb := mm_tb_in (List.mem_of_getElem? (i := 905) (by decide +kernel)) rfl
theorem mt_907 : Cond.methodLink RL 151 yX7_copy ∈ mm_tb := mm_tb_in (List.mem_of_getElem? (i := 907) (by decide +kernel)) rfl
theorem mt_908 : Cond.instanceMethod yX7_copy ∈ mm_tb := mm_tb_in (List.mem_of_getElem? (i := 908) (by decide +kernel)) rfl
theorem mt_909 : Cond.selects RX7 yX7_copy yX7_copy ∈ mm_tb := mm_tb_in (List.mem_of_getElem? (i := 909) (by decide +kernel)) rfl
theorem mt_910 : Cond.code yX7_copy cX7_copy 7 (some .int) ∈ mm_tb := mm_tb_in (List.mem_of_getElem? (i := 910) (by decide +kernel)) rfl
theorem mt_911 : Cond.methodLink RL 17 yX7_type ∈ mm_tb := mm_tb_in (List.mem_of_getElem? (i := 911) (by decide +kernel)) rfl
theorem mt_912 : Cond.instanceMethod yX7_type ∈ mm_tb := mm_tb_in (List.mem_of_getElem? (i := 912) (by decide +kernel)) rfl
theorem mt_913 : Cond.selects RX7 yX7_type yX7_type ∈ mm_tb := mm_tb_in (List.mem_of_getElem? (i := 913) (by decide +kernel)) rfl
theorem mt_914 : Cond.code yX7_type cX7_type 3 (some .int) ∈ mm_tb := mm_tb_in (List.mem_of_getElem? (i := 914) (by decide +kernel)) rfl
theorem mt_919 : Cond.methodLink RL 22 yX7_wipe ∈ mm_tb := mm_tb_in (List.mem_of_getElem? (i := 919) (by decide +kernel)) rfl
theorem mt_920 : Cond.instanceMethod yX7_wipe ∈ mm_tb := mm_tb_in (List.mem_of_getElem? (i := 920) (by decide +kernel)) rfl
theorem mt_921 : Cond.selects RX7 yX7_wipe yX7_wipe ∈ mm_tb := mm_tb_in (List.mem_of_getElem? (i := 921) (by decide +kernel)) rfl
theorem mt_922 : Cond.code yX7_wipe cX7_wipe 3 (some .int) ∈ mm_tb := mm_tb_in (List.mem_of_getElem? (i := 922) (by decide +kernel)) rfl
theorem mt_923 : Cond.methodLink RL 26 yX7_undo ∈ mm_tb := mm_tb_in (List.mem_of_getElem? (i := 923) (by decide +kernel)) rfl
theorem mt_924 : Cond.instanceMethod yX7_undo ∈ mm_tb := mm_tb_in (List.mem_of_getElem? (i := 924) (by decide +kernel)) rfl
theorem mt_925 : Cond.selects RX7 yX7_undo yX7_undo ∈ mm_tb := mm_tb_in (List.mem_of_getElem? (i := 925) (by decide +kernel)) rfl
theorem mt_926 : Cond.code yX7_undo cX7_undo 2 (some .int) ∈ mm_tb := mm_tb_in (List.mem_of_getElem? (i := 926) (by decide +kernel)) rfl
theorem mt_927 : Cond.methodLink RL 30 yX7_fault ∈ mm_tb := mm_tb_in (List.mem_of_getElem? (i := 927) (by decide +kernel)) rfl
theorem mt_928 : Cond.instanceMethod yX7_fault ∈ mm_tb := mm_tb_in (List.mem_of_getElem? (i := 928) (by decide +kernel)) rfl
theorem mt_929 : Cond.selects RX7 yX7_fault yX7_fault ∈ mm_tb := mm_tb_in (List.mem_of_getElem? (i := 929) (by decide +kernel)) rfl
theorem mt_930 : Cond.code yX7_fault cX7_fault 2 (some .int) ∈ mm_tb := mm_tb_in (List.mem_of_getElem? (i := 930) (by decide +kernel)) rfl
theorem mt_964 : Cond.methodLink RL 34 yX7_person ∈ mm_tb := mm_tb_in (List.mem_of_getElem? (i := 964) (by decide +kernel)) rfl
theorem mt_965 : Cond.instanceMethod yX7_person ∈ mm_tb := mm_tb_in (List.mem_of_getElem? (i := 965) (by decide +kernel)) rfl
theorem mt_966 : Cond.selects RX7 yX7_person yX7_person ∈ mm_tb := mm_tb_in (List.mem_of_getElem? (i := 966) (by decide +kernel)) rfl
theorem mt_967 : Cond.code yX7_person cX7_person 3 (some .int) ∈ mm_tb := mm_tb_in (List.mem_of_getElem? (i := 967) (by decide +kernel)) rfl
theorem mt_975 : Cond.methodLink RL 38 yX7_word ∈ mm_tb := mm_tb_in (List.mem_of_getElem? (i := 975) (by decide +kernel)) rfl
theorem mt_976 : Cond.instanceMethod yX7_word ∈ mm_tb := mm_tb_in (List.mem_of_getElem? (i := 976) (by decide +kernel)) rfl
theorem mt_977 : Cond.selects RX7 yX7_word yX7_word ∈ mm_tb := mm_tb_in (List.mem_of_getElem? (i := 977) (by decide +kernel)) rfl
theorem mt_978 : Cond.code yX7_word cX7_word 3 (some .int) ∈ mm_tb := mm_tb_in (List.mem_of_getElem? (i := 978) (by decide +kernel)) rfl
theorem mt_983 : Cond.methodLink RL 42 yX7_meeting ∈ mm_tb := mm_tb_in (List.mem_of_getElem? (i := 983) (by decide +kernel)) rfl
theorem mt_984 : Cond.instanceMethod yX7_meeting ∈ mm_tb := mm_tb_in (List.mem_of_getElem? (i := 984) (by decide +kernel)) rfl
theorem mt_985 : Cond.selects RX7 yX7_meeting yX7_meeting ∈ mm_tb := mm_tb_in (List.mem_of_getElem? (i := 985) (by decide +kernel)) rfl
theorem mt_986 : Cond.code yX7_meeting cX7_meeting 3 (some .int) ∈ mm_tb := mm_tb_in (List.mem_of_getElem? (i := 986) (by decide +kernel)) rfl
theorem mt_992 : Cond.methodLink RL 46 yX7_echo ∈ mm_tb := mm_tb_in (List.mem_of_getElem? (i := 992) (by decide +kernel)) rfl
theorem mt_1001 : Cond.methodLink RL 51 yX7_back ∈ mm_tb := mm_tb_in (List.mem_of_getElem? (i := 1001) (by decide +kernel)) rfl
theorem mt_1002 : Cond.instanceMethod yX7_back ∈ mm_tb := mm_tb_in (List.mem_of_getElem? (i := 1002) (by decide +kernel)) rfl
theorem mt_1003 : Cond.selects RX7 yX7_back yX7_back ∈ mm_tb := mm_tb_in (List.mem_of_getElem? (i := 1003) (by decide +kernel)) rfl
theorem mt_1004 : Cond.code yX7_back cX7_back 1 (some .int) ∈ mm_tb := mm_tb_in (List.mem_of_getElem? (i := 1004) (by decide +kernel)) rfl
theorem mt_1005 : Cond.methodLink RL 55 yX7_read ∈ mm_tb := mm_tb_in (List.mem_of_getElem? (i := 1005) (by decide +kernel)) rfl
theorem mt_1006 : Cond.instanceMethod yX7_read ∈ mm_tb := mm_tb_in (List.mem_of_getElem? (i := 1006) (by decide +kernel)) rfl
theorem mt_1007 : Cond.selects RX7 yX7_read yX7_read ∈ mm_tb := mm_tb_in (List.mem_of_getElem? (i := 1007) (by decide +kernel)) rfl
theorem mt_1008 : Cond.code yX7_read cX7_read 4 (some .int) ∈ mm_tb := mm_tb_in (List.mem_of_getElem? (i := 1008) (by decide +kernel)) rfl
theorem mt_1010 : Cond.methodLink RL 60 yX7_stands ∈ mm_tb := mm_tb_in (List.mem_of_getElem? (i := 1010) (by decide +kernel)) rfl
theorem mt_1011 : Cond.instanceMethod yX7_stands ∈ mm_tb := mm_tb_in (List.mem_of_getElem? (i := 1011) (by decide +kernel)) rfl
theorem mt_1012 : Cond.selects RX7 yX7_stands yX7_stands ∈ mm_tb := mm_tb_in (List.mem_of_getElem? (i := 1012) (by decide +kernel)) rfl
theorem mt_1013 : Cond.code yX7_stands cX7_stands 4 (some .int) ∈ mm_tb := mm_tb_in (List.mem_of_getElem? (i := 1013) (by decide +kernel)) rfl
theorem mt_1063 : Cond.methodLink RL 64 yX7_at ∈ mm_tb := mm_tb_in (List.mem_of_getElem? (i := 1063) (by decide +kernel)) rfl
theorem mt_1064 : Cond.instanceMethod yX7_at ∈ mm_tb := mm_tb_in (List.mem_of_getElem? (i := 1064) (by decide +kernel)) rfl
theorem mt_1065 : Cond.selects RX7 yX7_at yX7_at ∈ mm_tb := mm_tb_in (List.mem_of_getElem? (i := 1065) (by decide +kernel)) rfl
theorem mt_1066 : Cond.code yX7_at cX7_at 4 (some .int) ∈ mm_tb := mm_tb_in (List.mem_of_getElem? (i := 1066) (by decide +kernel)) rfl
theorem mt_1075 : Cond.methodLink RL 68 yX7_clear ∈ mm_tb := mm_tb_in (List.mem_of_getElem? (i := 1075) (by decide +kernel)) rfl
theorem mt_1076 : Cond.instanceMethod yX7_clear ∈ mm_tb := mm_tb_in (List.mem_of_getElem? (i := 1076) (by decide +kernel)) rfl
theorem mt_1077 : Cond.selects RX7 yX7_clear yX7_clear ∈ mm_tb := mm_tb_in (List.mem_of_getElem? (i := 1077) (by decide +kernel)) rfl
theorem mt_1078 : Cond.code yX7_clear cX7_clear 2 (some .int) ∈ mm_tb := mm_tb_in (List.mem_of_getElem? (i := 1078) (by decide +kernel)) rfl
theorem mt_1087 : Cond.methodLink RL 72 yX7_bank ∈ mm_tb := mm_tb_in (List.mem_of_getElem? (i := 1087) (by decide +kernel)) rfl
theorem mt_1088 : Cond.instanceMethod yX7_bank ∈ mm_tb := mm_tb_in (List.mem_of_getElem? (i := 1088) (by decide +kernel)) rfl
theorem mt_1089 : Cond.selects RX7 yX7_bank yX7_bank ∈ mm_tb := mm_tb_in (List.mem_of_getElem? (i := 1089) (by decide +kernel)) rfl
theorem mt_1090 : Cond.code yX7_bank cX7_bank 2 (some .int) ∈ mm_tb := mm_tb_in (List.mem_of_getElem? (i := 1090) (by decide +kernel)) rfl
theorem mt_1095 : Cond.methodLink RL 76 yX7_ring ∈ mm_tb := mm_tb_in (List.mem_of_getElem? (i := 1095) (by decide +kernel)) rfl
theorem mt_1096 : Cond.instanceMethod yX7_ring ∈ mm_tb := mm_tb_in (List.mem_of_getElem? (i := 1096) (by decide +kernel)) rfl
theorem mt_1097 : Cond.selects RX7 yX7_ring yX7_ring ∈ mm_tb := mm_tb_in (List.mem_of_getElem? (i := 1097) (by decide +kernel)) rfl
theorem mt_1098 : Cond.code yX7_ring cX7_ring 3 (some .int) ∈ mm_tb := mm_tb_in (List.mem_of_getElem? (i := 1098) (by decide +kernel)) rfl
theorem mt_1111 : Cond.methodLink RL 80 yX7_silent ∈ mm_tb := mm_tb_in (List.mem_of_getElem? (i := 1111) (by decide +kernel)) rfl
theorem mt_1112 : Cond.instanceMethod yX7_silent ∈ mm_tb := mm_tb_in (List.mem_of_getElem? (i := 1112) (by decide +kernel)) rfl
theorem mt_1113 : Cond.selects RX7 yX7_silent yX7_silent ∈ mm_tb := mm_tb_in (List.mem_of_getElem? (i := 1113) (by decide +kernel)) rfl
theorem mt_1114 : Cond.code yX7_silent cX7_silent 1 (some .int) ∈ mm_tb := mm_tb_in (List.mem_of_getElem? (i := 1114) (by decide +kernel)) rfl
theorem mt_1119 : Cond.methodLink RL 84 yX7_meet ∈ mm_tb := mm_tb_in (List.mem_of_getElem? (i := 1119) (by decide +kernel)) rfl
theorem mt_1120 : Cond.instanceMethod yX7_meet ∈ mm_tb := mm_tb_in (List.mem_of_getElem? (i := 1120) (by decide +kernel)) rfl
theorem mt_1121 : Cond.selects RX7 yX7_meet yX7_meet ∈ mm_tb := mm_tb_in (List.mem_of_getElem? (i := 1121) (by decide +kernel)) rfl
theorem mt_1122 : Cond.code yX7_meet cX7_meet 3 (some .int) ∈ mm_tb := mm_tb_in (List.mem_of_getElem? (i := 1122) (by decide +kernel)) rfl
theorem mt_1131 : Cond.methodLink RL 88 yX7_live ∈ mm_tb := mm_tb_in (List.mem_of_getElem? (i := 1131) (by decide +kernel)) rfl
theorem mt_1132 : Cond.instanceMethod yX7_live ∈ mm_tb := mm_tb_in (List.mem_of_getElem? (i := 1132) (by decide +kernel)) rfl
theorem mt_1133 : Cond.selects RX7 yX7_live yX7_live ∈ mm_tb := mm_tb_in (List.mem_of_getElem? (i := 1133) (by decide +kernel)) rfl
theorem mt_1134 : Cond.code yX7_live cX7_live 2 (some .int) ∈ mm_tb := mm_tb_in (List.mem_of_getElem? (i := 1134) (by decide +kernel)) rfl
theorem mt_1139 : Cond.methodLink RL 92 yX7_voice ∈ mm_tb := mm_tb_in (List.mem_of_getElem? (i := 1139) (by decide +kernel)) rfl
theorem mt_1140 : Cond.instanceMethod yX7_voice ∈ mm_tb := mm_tb_in (List.mem_of_getElem? (i := 1140) (by decide +kernel)) rfl
theorem mt_1141 : Cond.selects RX7 yX7_voice yX7_voice ∈ mm_tb := mm_tb_in (List.mem_of_getElem? (i := 1141) (by decide +kernel)) rfl
theorem mt_1142 : Cond.code yX7_voice cX7_voice 2 (some .int) ∈ mm_tb := mm_tb_in (List.mem_of_getElem? (i := 1142) (by decide +kernel)) rfl
theorem mt_1151 : Cond.methodLink RL 96 yX7_spare ∈ mm_tb := mm_tb_in (List.mem_of_getElem? (i := 1151) (by decide +kernel)) rfl
theorem mt_1152 : Cond.instanceMethod yX7_spare ∈ mm_tb := mm_tb_in (List.mem_of_getElem? (i := 1152) (by decide +kernel)) rfl
theorem mt_1153 : Cond.selects RX7 yX7_spare yX7_spare ∈ mm_tb := mm_tb_in (List.mem_of_getElem? (i := 1153) (by decide +kernel)) rfl
theorem mt_1154 : Cond.code yX7_spare cX7_spare 2 (some .int) ∈ mm_tb := mm_tb_in (List.mem_of_getElem? (i := 1154) (by decide +kernel)) rfl
theorem mt_1164 : Cond.methodLink RL 100 yX7_tally ∈ mm_tb := mm_tb_in (List.mem_of_getElem? (i := 1164) (by decide +kernel)) rfl
theorem mt_1165 : Cond.instanceMethod yX7_tally ∈ mm_tb := mm_tb_in (List.mem_of_getElem? (i := 1165) (by decide +kernel)) rfl
theorem mt_1166 : Cond.selects RX7 yX7_tally yX7_tally ∈ mm_tb := mm_tb_in (List.mem_of_getElem? (i := 1166) (by decide +kernel)) rfl
theorem mt_1167 : Cond.code yX7_tally cX7_tally 4 (some .int) ∈ mm_tb := mm_tb_in (List.mem_of_getElem? (i := 1167) (by decide +kernel)) rfl
theorem mt_1169 : Cond.methodLink RL 104 yX7_forget ∈ mm_tb := mm_tb_in (List.mem_of_getElem? (i := 1169) (by decide +kernel)) rfl
theorem mt_1170 : Cond.instanceMethod yX7_forget ∈ mm_tb := mm_tb_in (List.mem_of_getElem? (i := 1170) (by decide +kernel)) rfl
theorem mt_1171 : Cond.selects RX7 yX7_forget yX7_forget ∈ mm_tb := mm_tb_in (List.mem_of_getElem? (i := 1171) (by decide +kernel)) rfl
theorem mt_1172 : Cond.code yX7_forget cX7_forget 2 (some .int) ∈ mm_tb := mm_tb_in (List.mem_of_getElem? (i := 1172) (by decide +kernel)) rfl
theorem mt_1173 : Cond.methodLink RL 108 yX7_never ∈ mm_tb := mm_tb_in (List.mem_of_getElem? (i := 1173) (by decide +kernel)) rfl
theorem mt_1174 : Cond.instanceMethod yX7_never ∈ mm_tb := mm_tb_in (List.mem_of_getElem? (i := 1174) (by decide +kernel)) rfl
theorem mt_1175 : Cond.selects RX7 yX7_never yX7_never ∈ mm_tb := mm_tb_in (List.mem_of_getElem? (i := 1175) (by decide +kernel)) rfl
theorem mt_1176 : Cond.code yX7_never cX7_never 1 (some .int) ∈ mm_tb := mm_tb_in (List.mem_of_getElem? (i := 1176) (by decide +kernel)) rfl
theorem mt_1185 : Cond.methodLink RL 112 yX7_sort ∈ mm_tb := mm_tb_in (List.mem_of_getElem? (i := 1185) (by decide +kernel)) rfl
theorem mt_1186 : Cond.instanceMethod yX7_sort ∈ mm_tb := mm_tb_in (List.mem_of_getElem? (i := 1186) (by decide +kernel)) rfl
theorem mt_1187 : Cond.selects RX7 yX7_sort yX7_sort ∈ mm_tb := mm_tb_in (List.mem_of_getElem? (i := 1187) (by decide +kernel)) rfl
theorem mt_1188 : Cond.code yX7_sort cX7_sort 2 (some .int) ∈ mm_tb := mm_tb_in (List.mem_of_getElem? (i := 1188) (by decide +kernel)) rfl
theorem mt_1193 : Cond.methodLink RL 116 yX7_lent ∈ mm_tb := mm_tb_in (List.mem_of_getElem? (i := 1193) (by decide +kernel)) rfl
theorem mt_1194 : Cond.instanceMethod yX7_lent ∈ mm_tb := mm_tb_in (List.mem_of_getElem? (i := 1194) (by decide +kernel)) rfl
theorem mt_1195 : Cond.selects RX7 yX7_lent yX7_lent ∈ mm_tb := mm_tb_in (List.mem_of_getElem? (i := 1195) (by decide +kernel)) rfl
theorem mt_1196 : Cond.code yX7_lent cX7_lent 2 (some .int) ∈ mm_tb := mm_tb_in (List.mem_of_getElem? (i := 1196) (by decide +kernel)) rfl
theorem mt_1201 : Cond.methodLink RL 120 yX7_ask ∈ mm_tb := mm_tb_in (List.mem_of_getElem? (i := 1201) (by decide +kernel)) rfl
theorem mt_1202 : Cond.instanceMethod yX7_ask ∈ mm_tb := mm_tb_in (List.mem_of_getElem? (i := 1202) (by decide +kernel)) rfl
theorem mt_1203 : Cond.selects RX7 yX7_ask yX7_ask ∈ mm_tb := mm_tb_in (List.mem_of_getElem? (i := 1203) (by decide +kernel)) rfl
theorem mt_1204 : Cond.code yX7_ask cX7_ask 2 (some .int) ∈ mm_tb := mm_tb_in (List.mem_of_getElem? (i := 1204) (by decide +kernel)) rfl
theorem mt_1213 : Cond.methodLink RL 125 yX7_chance ∈ mm_tb := mm_tb_in (List.mem_of_getElem? (i := 1213) (by decide +kernel)) rfl
theorem mt_1214 : Cond.instanceMethod yX7_chance ∈ mm_tb := mm_tb_in (List.mem_of_getElem? (i := 1214) (by decide +kernel)) rfl
theorem mt_1215 : Cond.selects RX7 yX7_chance yX7_chance ∈ mm_tb := mm_tb_in (List.mem_of_getElem? (i := 1215) (by decide +kernel)) rfl
theorem mt_1216 : Cond.code yX7_chance cX7_chance 4 (some .long) ∈ mm_tb := mm_tb_in (List.mem_of_getElem? (i := 1216) (by decide +kernel)) rfl
theorem mt_1229 : Cond.methodLink RL 129 yX7_lives ∈ mm_tb := mm_tb_in (List.mem_of_getElem? (i := 1229) (by decide +kernel)) rfl
theorem mt_1230 : Cond.instanceMethod yX7_lives ∈ mm_tb := mm_tb_in (List.mem_of_getElem? (i := 1230) (by decide +kernel)) rfl
theorem mt_1231 : Cond.selects RX7 yX7_lives yX7_lives ∈ mm_tb := mm_tb_in (List.mem_of_getElem? (i := 1231) (by decide +kernel)) rfl
theorem mt_1232 : Cond.code yX7_lives cX7_lives 4 (some .int) ∈ mm_tb := mm_tb_in (List.mem_of_getElem? (i := 1232) (by decide +kernel)) rfl
theorem mt_1243 : Cond.methodLink RL 155 yX7_write ∈ mm_tb := mm_tb_in (List.mem_of_getElem? (i := 1243) (by decide +kernel)) rfl
theorem mt_1244 : Cond.instanceMethod yX7_write ∈ mm_tb := mm_tb_in (List.mem_of_getElem? (i := 1244) (by decide +kernel)) rfl
theorem mt_1245 : Cond.selects RX7 yX7_write yX7_write ∈ mm_tb := mm_tb_in (List.mem_of_getElem? (i := 1245) (by decide +kernel)) rfl
theorem mt_1246 : Cond.code yX7_write cX7_write 5 (some .int) ∈ mm_tb := mm_tb_in (List.mem_of_getElem? (i := 1246) (by decide +kernel)) rfl
theorem mt_1247 : Cond.methodLink RL 159 yX7_count ∈ mm_tb := mm_tb_in (List.mem_of_getElem? (i := 1247) (by decide +kernel)) rfl
theorem mt_1251 : Cond.methodLink RL 164 yX7_digest ∈ mm_tb := mm_tb_in (List.mem_of_getElem? (i := 1251) (by decide +kernel)) rfl
theorem mt_1252 : Cond.instanceMethod yX7_digest ∈ mm_tb := mm_tb_in (List.mem_of_getElem? (i := 1252) (by decide +kernel)) rfl
theorem mt_1253 : Cond.selects RX7 yX7_digest yX7_digest ∈ mm_tb := mm_tb_in (List.mem_of_getElem? (i := 1253) (by decide +kernel)) rfl
theorem mt_1254 : Cond.code yX7_digest cX7_digest 5 (some .long) ∈ mm_tb := mm_tb_in (List.mem_of_getElem? (i := 1254) (by decide +kernel)) rfl
theorem mt_749 : Cond.laysStatic "WordsLent" "DIGEST_DAYS" "[I" ∈ lw_tbl := List.mem_of_getElem? (i := 749) (by decide +kernel)
