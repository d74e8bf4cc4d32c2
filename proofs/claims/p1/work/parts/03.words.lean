set_option maxRecDepth 20000 in
theorem mi_Cp_feed : MIt m_Cp_feed 5 := ⟨tb_mem 475 (by decide +kernel) rfl, tb_mem 476 (by decide +kernel) rfl, tb_mem 112 (by decide +kernel) rfl, tb_mem 477 rfl rfl, by decide +kernel, by decide +kernel, by decide +kernel⟩
set_option maxRecDepth 20000 in
theorem mi_Te_push : MIt m_Te_push 1 := ⟨tb_mem 479 (by decide +kernel) rfl, tb_mem 480 (by decide +kernel) rfl, tb_mem 113 (by decide +kernel) rfl, tb_mem 481 rfl rfl, by decide +kernel, by decide +kernel, by decide +kernel⟩
set_option maxRecDepth 20000 in
theorem mi_Cp_end : MIt m_Cp_end 1 := ⟨tb_mem 483 (by decide +kernel) rfl, tb_mem 484 (by decide +kernel) rfl, tb_mem 112 (by decide +kernel) rfl, tb_mem 485 rfl rfl, by decide +kernel, by decide +kernel, by decide +kernel⟩
set_option maxRecDepth 20000 in
theorem mi_Cp_take : MIt m_Cp_take 0 := ⟨tb_mem 487 (by decide +kernel) rfl, tb_mem 488 (by decide +kernel) rfl, tb_mem 112 (by decide +kernel) rfl, tb_mem 489 rfl rfl, by decide +kernel, by decide +kernel, by decide +kernel⟩
set_option maxRecDepth 20000 in
theorem mi_Ou_keptBytes : MIt m_Ou_keptBytes 0 := ⟨tb_mem 491 (by decide +kernel) rfl, tb_mem 492 (by decide +kernel) rfl, tb_mem 114 (by decide +kernel) rfl, tb_mem 493 rfl rfl, by decide +kernel, by decide +kernel, by decide +kernel⟩
set_option maxRecDepth 20000 in
theorem mi_JMa_min : MSt m_JMa_min 2 := ⟨tb_mem 495 (by decide +kernel) rfl, tb_mem 124 (by decide +kernel) rfl, tb_mem 496 rfl rfl, by decide +kernel, by decide +kernel, by decide +kernel⟩
set_option maxRecDepth 20000 in
theorem mi_Cp_numeral : MIt m_Cp_numeral 0 := ⟨tb_mem 501 (by decide +kernel) rfl, tb_mem 502 (by decide +kernel) rfl, tb_mem 112 (by decide +kernel) rfl, tb_mem 503 rfl rfl, by decide +kernel, by decide +kernel, by decide +kernel⟩
set_option maxRecDepth 20000 in
theorem mi_Nu_scan : MIt m_Nu_scan 1 := ⟨tb_mem 505 (by decide +kernel) rfl, tb_mem 506 (by decide +kernel) rfl, tb_mem 115 (by decide +kernel) rfl, tb_mem 507 rfl rfl, by decide +kernel, by decide +kernel, by decide +kernel⟩
set_option maxRecDepth 20000 in
theorem mi_Te_pass : MIt m_Te_pass 1 := ⟨tb_mem 509 (by decide +kernel) rfl, tb_mem 510 (by decide +kernel) rfl, tb_mem 113 (by decide +kernel) rfl, tb_mem 511 rfl rfl, by decide +kernel, by decide +kernel, by decide +kernel⟩
set_option maxRecDepth 20000 in
theorem mi_Nu_scanDigits : MIt m_Nu_scanDigits 2 := ⟨tb_mem 514 (by decide +kernel) rfl, tb_mem 0 (by decide +kernel) rfl, tb_mem 115 (by decide +kernel) rfl, tb_mem 515 rfl rfl, by decide +kernel, by decide +kernel, by decide +kernel⟩
set_option maxRecDepth 20000 in
theorem mi_Te_here : MIt m_Te_here 0 := ⟨tb_mem 517 (by decide +kernel) rfl, tb_mem 518 (by decide +kernel) rfl, tb_mem 113 (by decide +kernel) rfl, tb_mem 519 rfl rfl, by decide +kernel, by decide +kernel, by decide +kernel⟩
set_option maxRecDepth 20000 in
theorem mi_Nu_isDigit : MSt m_Nu_isDigit 1 := ⟨tb_mem 521 (by decide +kernel) rfl, tb_mem 115 (by decide +kernel) rfl, tb_mem 522 rfl rfl, by decide +kernel, by decide +kernel, by decide +kernel⟩
set_option maxRecDepth 20000 in
theorem mi_Nu_keep : MIt m_Nu_keep 2 := ⟨tb_mem 525 (by decide +kernel) rfl, tb_mem 1 (by decide +kernel) rfl, tb_mem 115 (by decide +kernel) rfl, tb_mem 526 rfl rfl, by decide +kernel, by decide +kernel, by decide +kernel⟩
set_option maxRecDepth 20000 in
theorem mi_Nu_scanPower : MIt m_Nu_scanPower 1 := ⟨tb_mem 529 (by decide +kernel) rfl, tb_mem 2 (by decide +kernel) rfl, tb_mem 115 (by decide +kernel) rfl, tb_mem 530 rfl rfl, by decide +kernel, by decide +kernel, by decide +kernel⟩
set_option maxRecDepth 20000 in
theorem mi_Nu_stripZeros : MIt m_Nu_stripZeros 0 := ⟨tb_mem 535 (by decide +kernel) rfl, tb_mem 3 (by decide +kernel) rfl, tb_mem 115 (by decide +kernel) rfl, tb_mem 536 rfl rfl, by decide +kernel, by decide +kernel, by decide +kernel⟩
set_option maxRecDepth 20000 in
theorem mi_Te_clear : MIt m_Te_clear 0 := ⟨tb_mem 538 (by decide +kernel) rfl, tb_mem 539 (by decide +kernel) rfl, tb_mem 113 (by decide +kernel) rfl, tb_mem 540 rfl rfl, by decide +kernel, by decide +kernel, by decide +kernel⟩
set_option maxRecDepth 20000 in
theorem mi_Nu_toBits : MIt m_Nu_toBits 0 := ⟨tb_mem 542 (by decide +kernel) rfl, tb_mem 543 (by decide +kernel) rfl, tb_mem 115 (by decide +kernel) rfl, tb_mem 544 rfl rfl, by decide +kernel, by decide +kernel, by decide +kernel⟩
set_option maxRecDepth 20000 in
theorem mi_Nu_loadDigits : MIt m_Nu_loadDigits 0 := ⟨tb_mem 549 (by decide +kernel) rfl, tb_mem 4 (by decide +kernel) rfl, tb_mem 115 (by decide +kernel) rfl, tb_mem 550 rfl rfl, by decide +kernel, by decide +kernel, by decide +kernel⟩
set_option maxRecDepth 20000 in
theorem mi_Bi_set : MIt m_Bi_set 1 := ⟨tb_mem 552 (by decide +kernel) rfl, tb_mem 553 (by decide +kernel) rfl, tb_mem 116 (by decide +kernel) rfl, tb_mem 554 rfl rfl, by decide +kernel, by decide +kernel, by decide +kernel⟩
set_option maxRecDepth 20000 in
theorem mi_Bi_multiply : MIt m_Bi_multiply 2 := ⟨tb_mem 558 (by decide +kernel) rfl, tb_mem 559 (by decide +kernel) rfl, tb_mem 116 (by decide +kernel) rfl, tb_mem 560 rfl rfl, by decide +kernel, by decide +kernel, by decide +kernel⟩
set_option maxRecDepth 20000 in
theorem mi_Bi_timesFive : MIt m_Bi_timesFive 1 := ⟨tb_mem 563 (by decide +kernel) rfl, tb_mem 564 (by decide +kernel) rfl, tb_mem 116 (by decide +kernel) rfl, tb_mem 565 rfl rfl, by decide +kernel, by decide +kernel, by decide +kernel⟩
set_option maxRecDepth 20000 in
theorem mi_Nu_bitsOfFives : MSt m_Nu_bitsOfFives 1 := ⟨tb_mem 571 (by decide +kernel) rfl, tb_mem 115 (by decide +kernel) rfl, tb_mem 572 rfl rfl, by decide +kernel, by decide +kernel, by decide +kernel⟩
set_option maxRecDepth 20000 in
theorem mi_Bi_bitLength : MIt m_Bi_bitLength 0 := ⟨tb_mem 574 (by decide +kernel) rfl, tb_mem 575 (by decide +kernel) rfl, tb_mem 116 (by decide +kernel) rfl, tb_mem 576 rfl rfl, by decide +kernel, by decide +kernel, by decide +kernel⟩
set_option maxRecDepth 20000 in
theorem mi_JIn_numberOfLeadingZeros : MSt m_JIn_numberOfLeadingZeros 1 := ⟨tb_mem 578 (by decide +kernel) rfl, tb_mem 126 (by decide +kernel) rfl, tb_mem 579 rfl rfl, by decide +kernel, by decide +kernel, by decide +kernel⟩
set_option maxRecDepth 20000 in
theorem mi_JMa_max : MSt m_JMa_max 2 := ⟨tb_mem 582 (by decide +kernel) rfl, tb_mem 124 (by decide +kernel) rfl, tb_mem 583 rfl rfl, by decide +kernel, by decide +kernel, by decide +kernel⟩
set_option maxRecDepth 20000 in
theorem mi_Bi_shiftLeft : MIt m_Bi_shiftLeft 1 := ⟨tb_mem 585 (by decide +kernel) rfl, tb_mem 586 (by decide +kernel) rfl, tb_mem 116 (by decide +kernel) rfl, tb_mem 587 rfl rfl, by decide +kernel, by decide +kernel, by decide +kernel⟩
set_option maxRecDepth 20000 in
theorem mi_Bi_dropZeroLimb : MIt m_Bi_dropZeroLimb 0 := ⟨tb_mem 590 (by decide +kernel) rfl, tb_mem 5 (by decide +kernel) rfl, tb_mem 116 (by decide +kernel) rfl, tb_mem 591 rfl rfl, by decide +kernel, by decide +kernel, by decide +kernel⟩
set_option maxRecDepth 20000 in
theorem mi_Bi_overFive : MIt m_Bi_overFive 1 := ⟨tb_mem 593 (by decide +kernel) rfl, tb_mem 594 (by decide +kernel) rfl, tb_mem 116 (by decide +kernel) rfl, tb_mem 595 rfl rfl, by decide +kernel, by decide +kernel, by decide +kernel⟩
set_option maxRecDepth 20000 in
theorem mi_Bi_divide : MIt m_Bi_divide 1 := ⟨tb_mem 597 (by decide +kernel) rfl, tb_mem 598 (by decide +kernel) rfl, tb_mem 116 (by decide +kernel) rfl, tb_mem 599 rfl rfl, by decide +kernel, by decide +kernel, by decide +kernel⟩
set_option maxRecDepth 20000 in
theorem mi_Nu_nearest : MIt m_Nu_nearest 1 := ⟨tb_mem 602 (by decide +kernel) rfl, tb_mem 6 (by decide +kernel) rfl, tb_mem 115 (by decide +kernel) rfl, tb_mem 603 rfl rfl, by decide +kernel, by decide +kernel, by decide +kernel⟩
set_option maxRecDepth 20000 in
theorem mi_Bi_shiftRight : MIt m_Bi_shiftRight 1 := ⟨tb_mem 605 (by decide +kernel) rfl, tb_mem 606 (by decide +kernel) rfl, tb_mem 116 (by decide +kernel) rfl, tb_mem 607 rfl rfl, by decide +kernel, by decide +kernel, by decide +kernel⟩
set_option maxRecDepth 20000 in
theorem mi_Bi_low : MIt m_Bi_low 0 := ⟨tb_mem 609 (by decide +kernel) rfl, tb_mem 610 (by decide +kernel) rfl, tb_mem 116 (by decide +kernel) rfl, tb_mem 611 rfl rfl, by decide +kernel, by decide +kernel, by decide +kernel⟩
set_option maxRecDepth 20000 in
theorem mi_Cp_print : MIt m_Cp_print 1 := ⟨tb_mem 614 (by decide +kernel) rfl, tb_mem 615 (by decide +kernel) rfl, tb_mem 112 (by decide +kernel) rfl, tb_mem 616 rfl rfl, by decide +kernel, by decide +kernel, by decide +kernel⟩
set_option maxRecDepth 20000 in
theorem mi_Cp_isNumber : MSt m_Cp_isNumber 1 := ⟨tb_mem 618 (by decide +kernel) rfl, tb_mem 112 (by decide +kernel) rfl, tb_mem 619 rfl rfl, by decide +kernel, by decide +kernel, by decide +kernel⟩
set_option maxRecDepth 20000 in
theorem mi_Ou_clear : MIt m_Ou_clear 0 := ⟨tb_mem 622 (by decide +kernel) rfl, tb_mem 623 (by decide +kernel) rfl, tb_mem 114 (by decide +kernel) rfl, tb_mem 624 rfl rfl, by decide +kernel, by decide +kernel, by decide +kernel⟩
set_option maxRecDepth 20000 in
theorem mi_Pr_putShortest : MIt m_Pr_putShortest 2 := ⟨tb_mem 626 (by decide +kernel) rfl, tb_mem 627 (by decide +kernel) rfl, tb_mem 117 (by decide +kernel) rfl, tb_mem 628 rfl rfl, by decide +kernel, by decide +kernel, by decide +kernel⟩
set_option maxRecDepth 20000 in
theorem mi_Ou_put : MIt m_Ou_put 1 := ⟨tb_mem 631 (by decide +kernel) rfl, tb_mem 632 (by decide +kernel) rfl, tb_mem 114 (by decide +kernel) rfl, tb_mem 633 rfl rfl, by decide +kernel, by decide +kernel, by decide +kernel⟩
set_option maxRecDepth 20000 in
theorem mi_Pr_fractionOf : MSt m_Pr_fractionOf 1 := ⟨tb_mem 635 (by decide +kernel) rfl, tb_mem 117 (by decide +kernel) rfl, tb_mem 636 rfl rfl, by decide +kernel, by decide +kernel, by decide +kernel⟩
set_option maxRecDepth 20000 in
theorem mi_Pr_twosOf : MSt m_Pr_twosOf 1 := ⟨tb_mem 641 (by decide +kernel) rfl, tb_mem 117 (by decide +kernel) rfl, tb_mem 642 rfl rfl, by decide +kernel, by decide +kernel, by decide +kernel⟩
set_option maxRecDepth 20000 in
theorem mi_Pr_findShortest : MIt m_Pr_findShortest 2 := ⟨tb_mem 646 (by decide +kernel) rfl, tb_mem 7 (by decide +kernel) rfl, tb_mem 117 (by decide +kernel) rfl, tb_mem 647 rfl rfl, by decide +kernel, by decide +kernel, by decide +kernel⟩
set_option maxRecDepth 20000 in
theorem mi_JLo_numberOfLeadingZeros : MSt m_JLo_numberOfLeadingZeros 1 := ⟨tb_mem 649 (by decide +kernel) rfl, tb_mem 127 (by decide +kernel) rfl, tb_mem 650 rfl rfl, by decide +kernel, by decide +kernel, by decide +kernel⟩
set_option maxRecDepth 20000 in
theorem mi_Pr_tensOf : MSt m_Pr_tensOf 1 := ⟨tb_mem 653 (by decide +kernel) rfl, tb_mem 117 (by decide +kernel) rfl, tb_mem 654 rfl rfl, by decide +kernel, by decide +kernel, by decide +kernel⟩
set_option maxRecDepth 20000 in
theorem mi_Pr_scaled : MIt m_Pr_scaled 3 := ⟨tb_mem 659 (by decide +kernel) rfl, tb_mem 8 (by decide +kernel) rfl, tb_mem 117 (by decide +kernel) rfl, tb_mem 660 rfl rfl, by decide +kernel, by decide +kernel, by decide +kernel⟩
set_option maxRecDepth 20000 in
theorem mi_Pr_isUpperNearer : MIt m_Pr_isUpperNearer 3 := ⟨tb_mem 671 (by decide +kernel) rfl, tb_mem 9 (by decide +kernel) rfl, tb_mem 117 (by decide +kernel) rfl, tb_mem 672 rfl rfl, by decide +kernel, by decide +kernel, by decide +kernel⟩
set_option maxRecDepth 20000 in
theorem mi_Pr_keepDigits : MIt m_Pr_keepDigits 2 := ⟨tb_mem 675 (by decide +kernel) rfl, tb_mem 10 (by decide +kernel) rfl, tb_mem 117 (by decide +kernel) rfl, tb_mem 676 rfl rfl, by decide +kernel, by decide +kernel, by decide +kernel⟩
set_option maxRecDepth 20000 in
theorem mi_Pr_moveToFront : MIt m_Pr_moveToFront 1 := ⟨tb_mem 680 (by decide +kernel) rfl, tb_mem 11 (by decide +kernel) rfl, tb_mem 117 (by decide +kernel) rfl, tb_mem 681 rfl rfl, by decide +kernel, by decide +kernel, by decide +kernel⟩
set_option maxRecDepth 20000 in
theorem mi_Pr_putDigits : MIt m_Pr_putDigits 2 := ⟨tb_mem 684 (by decide +kernel) rfl, tb_mem 12 (by decide +kernel) rfl, tb_mem 117 (by decide +kernel) rfl, tb_mem 685 rfl rfl, by decide +kernel, by decide +kernel, by decide +kernel⟩
set_option maxRecDepth 20000 in
theorem mi_Pr_putPower : MIt m_Pr_putPower 1 := ⟨tb_mem 688 (by decide +kernel) rfl, tb_mem 13 (by decide +kernel) rfl, tb_mem 117 (by decide +kernel) rfl, tb_mem 689 rfl rfl, by decide +kernel, by decide +kernel, by decide +kernel⟩
set_option maxRecDepth 20000 in
theorem mi_JMa_abs : MSt m_JMa_abs 1 := ⟨tb_mem 691 (by decide +kernel) rfl, tb_mem 124 (by decide +kernel) rfl, tb_mem 692 rfl rfl, by decide +kernel, by decide +kernel, by decide +kernel⟩
set_option maxRecDepth 20000 in
theorem mi_Pr_putPlain : MIt m_Pr_putPlain 1 := ⟨tb_mem 695 (by decide +kernel) rfl, tb_mem 14 (by decide +kernel) rfl, tb_mem 117 (by decide +kernel) rfl, tb_mem 696 rfl rfl, by decide +kernel, by decide +kernel, by decide +kernel⟩
set_option maxRecDepth 20000 in
theorem mi_Pr_putZeros : MSt m_Pr_putZeros 2 := ⟨tb_mem 698 (by decide +kernel) rfl, tb_mem 117 (by decide +kernel) rfl, tb_mem 699 rfl rfl, by decide +kernel, by decide +kernel, by decide +kernel⟩
set_option maxRecDepth 20000 in
theorem mi_Cp_round : MIt m_Cp_round 2 := ⟨tb_mem 701 (by decide +kernel) rfl, tb_mem 702 (by decide +kernel) rfl, tb_mem 112 (by decide +kernel) rfl, tb_mem 703 rfl rfl, by decide +kernel, by decide +kernel, by decide +kernel⟩
set_option maxRecDepth 20000 in
theorem mi_Pr_putRounded : MIt m_Pr_putRounded 3 := ⟨tb_mem 705 (by decide +kernel) rfl, tb_mem 706 (by decide +kernel) rfl, tb_mem 117 (by decide +kernel) rfl, tb_mem 707 rfl rfl, by decide +kernel, by decide +kernel, by decide +kernel⟩
set_option maxRecDepth 20000 in
theorem mi_Pr_findAllDigits : MIt m_Pr_findAllDigits 2 := ⟨tb_mem 710 (by decide +kernel) rfl, tb_mem 15 (by decide +kernel) rfl, tb_mem 117 (by decide +kernel) rfl, tb_mem 711 rfl rfl, by decide +kernel, by decide +kernel, by decide +kernel⟩
set_option maxRecDepth 20000 in
theorem mi_JLo_numberOfTrailingZeros : MSt m_JLo_numberOfTrailingZeros 1 := ⟨tb_mem 713 (by decide +kernel) rfl, tb_mem 127 (by decide +kernel) rfl, tb_mem 714 rfl rfl, by decide +kernel, by decide +kernel, by decide +kernel⟩
set_option maxRecDepth 20000 in
theorem mi_JIn_numberOfTrailingZeros : MSt m_JIn_numberOfTrailingZeros 1 := ⟨tb_mem 716 (by decide +kernel) rfl, tb_mem 126 (by decide +kernel) rfl, tb_mem 717 rfl rfl, by decide +kernel, by decide +kernel, by decide +kernel⟩
set_option maxRecDepth 20000 in
theorem mi_Bi_isZero : MIt m_Bi_isZero 0 := ⟨tb_mem 722 (by decide +kernel) rfl, tb_mem 723 (by decide +kernel) rfl, tb_mem 116 (by decide +kernel) rfl, tb_mem 724 rfl rfl, by decide +kernel, by decide +kernel, by decide +kernel⟩
set_option maxRecDepth 20000 in
theorem mi_Pr_cutTo : MIt m_Pr_cutTo 1 := ⟨tb_mem 727 (by decide +kernel) rfl, tb_mem 16 (by decide +kernel) rfl, tb_mem 117 (by decide +kernel) rfl, tb_mem 728 rfl rfl, by decide +kernel, by decide +kernel, by decide +kernel⟩
set_option maxRecDepth 20000 in
theorem mi_Pr_isUpper : MIt m_Pr_isUpper 1 := ⟨tb_mem 731 (by decide +kernel) rfl, tb_mem 17 (by decide +kernel) rfl, tb_mem 117 (by decide +kernel) rfl, tb_mem 732 rfl rfl, by decide +kernel, by decide +kernel, by decide +kernel⟩
set_option maxRecDepth 20000 in
theorem mi_Cp_out : MIt m_Cp_out 1 := ⟨tb_mem 734 (by decide +kernel) rfl, tb_mem 735 (by decide +kernel) rfl, tb_mem 112 (by decide +kernel) rfl, tb_mem 736 rfl rfl, by decide +kernel, by decide +kernel, by decide +kernel⟩
set_option maxRecDepth 20000 in
theorem mi_Cp_document : MIt m_Cp_document 1 := ⟨tb_mem 738 (by decide +kernel) rfl, tb_mem 739 (by decide +kernel) rfl, tb_mem 112 (by decide +kernel) rfl, tb_mem 740 rfl rfl, by decide +kernel, by decide +kernel, by decide +kernel⟩
set_option maxRecDepth 20000 in
theorem mi_Cp_isShelf : MSt m_Cp_isShelf 1 := ⟨tb_mem 742 (by decide +kernel) rfl, tb_mem 112 (by decide +kernel) rfl, tb_mem 743 rfl rfl, by decide +kernel, by decide +kernel, by decide +kernel⟩
set_option maxRecDepth 20000 in
theorem mi_Re_read : MIt m_Re_read 1 := ⟨tb_mem 745 (by decide +kernel) rfl, tb_mem 746 (by decide +kernel) rfl, tb_mem 118 (by decide +kernel) rfl, tb_mem 747 rfl rfl, by decide +kernel, by decide +kernel, by decide +kernel⟩
set_option maxRecDepth 20000 in
theorem mi_Re_begin : MIt m_Re_begin 0 := ⟨tb_mem 750 (by decide +kernel) rfl, tb_mem 18 (by decide +kernel) rfl, tb_mem 118 (by decide +kernel) rfl, tb_mem 751 rfl rfl, by decide +kernel, by decide +kernel, by decide +kernel⟩
set_option maxRecDepth 20000 in
theorem mi_Tr_clear : MIt m_Tr_clear 0 := ⟨tb_mem 753 (by decide +kernel) rfl, tb_mem 754 (by decide +kernel) rfl, tb_mem 119 (by decide +kernel) rfl, tb_mem 755 rfl rfl, by decide +kernel, by decide +kernel, by decide +kernel⟩
set_option maxRecDepth 20000 in
theorem mi_Re_readRest : MIt m_Re_readRest 1 := ⟨tb_mem 758 (by decide +kernel) rfl, tb_mem 19 (by decide +kernel) rfl, tb_mem 118 (by decide +kernel) rfl, tb_mem 759 rfl rfl, by decide +kernel, by decide +kernel, by decide +kernel⟩
set_option maxRecDepth 20000 in
theorem mi_Re_wantBehindValue : MIt m_Re_wantBehindValue 0 := ⟨tb_mem 762 (by decide +kernel) rfl, tb_mem 20 (by decide +kernel) rfl, tb_mem 118 (by decide +kernel) rfl, tb_mem 763 rfl rfl, by decide +kernel, by decide +kernel, by decide +kernel⟩
set_option maxRecDepth 20000 in
theorem mi_Re_readWord : MIt m_Re_readWord 1 := ⟨tb_mem 767 (by decide +kernel) rfl, tb_mem 21 (by decide +kernel) rfl, tb_mem 118 (by decide +kernel) rfl, tb_mem 768 rfl rfl, by decide +kernel, by decide +kernel, by decide +kernel⟩
set_option maxRecDepth 20000 in
theorem mi_Te_passWord : MIt m_Te_passWord 1 := ⟨tb_mem 770 (by decide +kernel) rfl, tb_mem 771 (by decide +kernel) rfl, tb_mem 113 (by decide +kernel) rfl, tb_mem 772 rfl rfl, by decide +kernel, by decide +kernel, by decide +kernel⟩
set_option maxRecDepth 20000 in
theorem mi_JSt_length : MIt m_JSt_length 0 := ⟨tb_mem 774 (by decide +kernel) rfl, tb_mem 775 (by decide +kernel) rfl, tb_mem 128 (by decide +kernel) rfl, tb_mem 776 rfl rfl, by decide +kernel, by decide +kernel, by decide +kernel⟩
set_option maxRecDepth 20000 in
theorem mi_JSt_coder : MIt m_JSt_coder 0 := ⟨tb_mem 778 (by decide +kernel) rfl, tb_mem 779 (by decide +kernel) rfl, tb_mem 128 (by decide +kernel) rfl, tb_mem 780 rfl rfl, by decide +kernel, by decide +kernel, by decide +kernel⟩
set_option maxRecDepth 20000 in
theorem mi_JSt_charAt : MIt m_JSt_charAt 1 := ⟨tb_mem 784 (by decide +kernel) rfl, tb_mem 785 (by decide +kernel) rfl, tb_mem 128 (by decide +kernel) rfl, tb_mem 786 rfl rfl, by decide +kernel, by decide +kernel, by decide +kernel⟩
set_option maxRecDepth 20000 in
theorem mi_JSt_isLatin1 : MIt m_JSt_isLatin1 0 := ⟨tb_mem 788 (by decide +kernel) rfl, tb_mem 789 (by decide +kernel) rfl, tb_mem 128 (by decide +kernel) rfl, tb_mem 790 rfl rfl, by decide +kernel, by decide +kernel, by decide +kernel⟩
set_option maxRecDepth 20000 in
theorem mi_JSl_charAt : MSt m_JSl_charAt 2 := ⟨tb_mem 792 (by decide +kernel) rfl, tb_mem 129 (by decide +kernel) rfl, tb_mem 793 rfl rfl, by decide +kernel, by decide +kernel, by decide +kernel⟩
set_option maxRecDepth 20000 in
theorem mi_JSt_checkIndex : MSt m_JSt_checkIndex 2 := ⟨tb_mem 795 (by decide +kernel) rfl, tb_mem 128 (by decide +kernel) rfl, tb_mem 796 rfl rfl, by decide +kernel, by decide +kernel, by decide +kernel⟩
set_option maxRecDepth 20000 in
theorem mi_JPc_checkIndex : MSt m_JPc_checkIndex 3 := ⟨tb_mem 800 (by decide +kernel) rfl, tb_mem 130 (by decide +kernel) rfl, tb_mem 801 rfl rfl, by decide +kernel, by decide +kernel, by decide +kernel⟩
set_option maxRecDepth 20000 in
theorem mi_JSu_charAt : MSt m_JSu_charAt 2 := ⟨tb_mem 803 (by decide +kernel) rfl, tb_mem 131 (by decide +kernel) rfl, tb_mem 804 rfl rfl, by decide +kernel, by decide +kernel, by decide +kernel⟩
set_option maxRecDepth 20000 in
theorem mi_JSu_checkIndex : MSt m_JSu_checkIndex 2 := ⟨tb_mem 806 (by decide +kernel) rfl, tb_mem 131 (by decide +kernel) rfl, tb_mem 807 rfl rfl, by decide +kernel, by decide +kernel, by decide +kernel⟩
set_option maxRecDepth 20000 in
theorem mi_JSu_length : MSt m_JSu_length 1 := ⟨tb_mem 809 (by decide +kernel) rfl, tb_mem 131 (by decide +kernel) rfl, tb_mem 810 rfl rfl, by decide +kernel, by decide +kernel, by decide +kernel⟩
set_option maxRecDepth 20000 in
theorem mi_JSu_getChar : MSt m_JSu_getChar 2 := ⟨tb_mem 813 (by decide +kernel) rfl, tb_mem 131 (by decide +kernel) rfl, tb_mem 814 rfl rfl, by decide +kernel, by decide +kernel, by decide +kernel⟩
set_option maxRecDepth 20000 in
theorem mi_Re_blame : MIt m_Re_blame 2 := ⟨tb_mem 824 (by decide +kernel) rfl, tb_mem 22 (by decide +kernel) rfl, tb_mem 118 (by decide +kernel) rfl, tb_mem 825 rfl rfl, by decide +kernel, by decide +kernel, by decide +kernel⟩
set_option maxRecDepth 20000 in
theorem mi_Re_readNumber : MIt m_Re_readNumber 1 := ⟨tb_mem 830 (by decide +kernel) rfl, tb_mem 23 (by decide +kernel) rfl, tb_mem 118 (by decide +kernel) rfl, tb_mem 831 rfl rfl, by decide +kernel, by decide +kernel, by decide +kernel⟩
set_option maxRecDepth 20000 in
theorem mi_Re_readString : MIt m_Re_readString 0 := ⟨tb_mem 837 (by decide +kernel) rfl, tb_mem 24 (by decide +kernel) rfl, tb_mem 118 (by decide +kernel) rfl, tb_mem 838 rfl rfl, by decide +kernel, by decide +kernel, by decide +kernel⟩
set_option maxRecDepth 20000 in
theorem mi_Re_readEscape : MIt m_Re_readEscape 0 := ⟨tb_mem 842 (by decide +kernel) rfl, tb_mem 25 (by decide +kernel) rfl, tb_mem 118 (by decide +kernel) rfl, tb_mem 843 rfl rfl, by decide +kernel, by decide +kernel, by decide +kernel⟩
set_option maxRecDepth 20000 in
theorem mi_Re_readShortEscape : MIt m_Re_readShortEscape 1 := ⟨tb_mem 847 (by decide +kernel) rfl, tb_mem 26 (by decide +kernel) rfl, tb_mem 118 (by decide +kernel) rfl, tb_mem 848 rfl rfl, by decide +kernel, by decide +kernel, by decide +kernel⟩
set_option maxRecDepth 20000 in
theorem mi_JSt_indexOf : MIt m_JSt_indexOf 1 := ⟨tb_mem 851 (by decide +kernel) rfl, tb_mem 852 (by decide +kernel) rfl, tb_mem 128 (by decide +kernel) rfl, tb_mem 853 rfl rfl, by decide +kernel, by decide +kernel, by decide +kernel⟩
set_option maxRecDepth 20000 in
theorem mi_JSt_indexOf_II : MIt m_JSt_indexOf_II 2 := ⟨tb_mem 855 (by decide +kernel) rfl, tb_mem 856 (by decide +kernel) rfl, tb_mem 128 (by decide +kernel) rfl, tb_mem 857 rfl rfl, by decide +kernel, by decide +kernel, by decide +kernel⟩
set_option maxRecDepth 20000 in
theorem mi_JSl_indexOf : MSt m_JSl_indexOf 4 := ⟨tb_mem 860 (by decide +kernel) rfl, tb_mem 129 (by decide +kernel) rfl, tb_mem 861 rfl rfl, by decide +kernel, by decide +kernel, by decide +kernel⟩
set_option maxRecDepth 20000 in
theorem mi_JSl_canEncode : MSt m_JSl_canEncode 1 := ⟨tb_mem 863 (by decide +kernel) rfl, tb_mem 129 (by decide +kernel) rfl, tb_mem 864 rfl rfl, by decide +kernel, by decide +kernel, by decide +kernel⟩
set_option maxRecDepth 20000 in
theorem mi_JSl_indexOfChar : MSt m_JSl_indexOfChar 4 := ⟨tb_mem 868 (by decide +kernel) rfl, tb_mem 129 (by decide +kernel) rfl, tb_mem 869 rfl rfl, by decide +kernel, by decide +kernel, by decide +kernel⟩
set_option maxRecDepth 20000 in
theorem mi_JSu_indexOf : MSt m_JSu_indexOf 4 := ⟨tb_mem 871 (by decide +kernel) rfl, tb_mem 131 (by decide +kernel) rfl, tb_mem 872 rfl rfl, by decide +kernel, by decide +kernel, by decide +kernel⟩
set_option maxRecDepth 20000 in
theorem mi_JSu_indexOfChar : MSt m_JSu_indexOfChar 4 := ⟨tb_mem 877 (by decide +kernel) rfl, tb_mem 131 (by decide +kernel) rfl, tb_mem 878 rfl rfl, by decide +kernel, by decide +kernel, by decide +kernel⟩
set_option maxRecDepth 20000 in
theorem mi_JSu_checkBoundsBeginEnd : MSt m_JSu_checkBoundsBeginEnd 3 := ⟨tb_mem 880 (by decide +kernel) rfl, tb_mem 131 (by decide +kernel) rfl, tb_mem 881 rfl rfl, by decide +kernel, by decide +kernel, by decide +kernel⟩
set_option maxRecDepth 20000 in
theorem mi_JSt_checkBoundsBeginEnd : MSt m_JSt_checkBoundsBeginEnd 3 := ⟨tb_mem 883 (by decide +kernel) rfl, tb_mem 128 (by decide +kernel) rfl, tb_mem 884 rfl rfl, by decide +kernel, by decide +kernel, by decide +kernel⟩
set_option maxRecDepth 20000 in
theorem mi_JPc_checkFromToIndex : MSt m_JPc_checkFromToIndex 4 := ⟨tb_mem 886 (by decide +kernel) rfl, tb_mem 130 (by decide +kernel) rfl, tb_mem 887 rfl rfl, by decide +kernel, by decide +kernel, by decide +kernel⟩
set_option maxRecDepth 20000 in
theorem mi_JSu_indexOfCharUnsafe : MSt m_JSu_indexOfCharUnsafe 4 := ⟨tb_mem 889 (by decide +kernel) rfl, tb_mem 131 (by decide +kernel) rfl, tb_mem 890 rfl rfl, by decide +kernel, by decide +kernel, by decide +kernel⟩
set_option maxRecDepth 20000 in
theorem mi_JSu_indexOfSupplementary : MSt m_JSu_indexOfSupplementary 4 := ⟨tb_mem 892 (by decide +kernel) rfl, tb_mem 131 (by decide +kernel) rfl, tb_mem 893 rfl rfl, by decide +kernel, by decide +kernel, by decide +kernel⟩
set_option maxRecDepth 20000 in
theorem mi_JCh_isValidCodePoint : MSt m_JCh_isValidCodePoint 1 := ⟨tb_mem 895 (by decide +kernel) rfl, tb_mem 132 (by decide +kernel) rfl, tb_mem 896 rfl rfl, by decide +kernel, by decide +kernel, by decide +kernel⟩
set_option maxRecDepth 20000 in
theorem mi_JCh_highSurrogate : MSt m_JCh_highSurrogate 1 := ⟨tb_mem 898 (by decide +kernel) rfl, tb_mem 132 (by decide +kernel) rfl, tb_mem 899 rfl rfl, by decide +kernel, by decide +kernel, by decide +kernel⟩
set_option maxRecDepth 20000 in
theorem mi_JCh_lowSurrogate : MSt m_JCh_lowSurrogate 1 := ⟨tb_mem 902 (by decide +kernel) rfl, tb_mem 132 (by decide +kernel) rfl, tb_mem 903 rfl rfl, by decide +kernel, by decide +kernel, by decide +kernel⟩
set_option maxRecDepth 20000 in
theorem mi_Re_readUnit : MIt m_Re_readUnit 0 := ⟨tb_mem 909 (by decide +kernel) rfl, tb_mem 27 (by decide +kernel) rfl, tb_mem 118 (by decide +kernel) rfl, tb_mem 910 rfl rfl, by decide +kernel, by decide +kernel, by decide +kernel⟩
set_option maxRecDepth 20000 in
theorem mi_Re_hexadecimal : MSt m_Re_hexadecimal 1 := ⟨tb_mem 912 (by decide +kernel) rfl, tb_mem 118 (by decide +kernel) rfl, tb_mem 913 rfl rfl, by decide +kernel, by decide +kernel, by decide +kernel⟩
set_option maxRecDepth 20000 in
theorem mi_Re_joined : MIt m_Re_joined 2 := ⟨tb_mem 919 (by decide +kernel) rfl, tb_mem 28 (by decide +kernel) rfl, tb_mem 118 (by decide +kernel) rfl, tb_mem 920 rfl rfl, by decide +kernel, by decide +kernel, by decide +kernel⟩
set_option maxRecDepth 20000 in
theorem mi_Te_nextCharacter : MIt m_Te_nextCharacter 0 := ⟨tb_mem 923 (by decide +kernel) rfl, tb_mem 924 (by decide +kernel) rfl, tb_mem 113 (by decide +kernel) rfl, tb_mem 925 rfl rfl, by decide +kernel, by decide +kernel, by decide +kernel⟩
set_option maxRecDepth 20000 in
theorem mi_Te_bytesBehind : MSt m_Te_bytesBehind 1 := ⟨tb_mem 928 (by decide +kernel) rfl, tb_mem 113 (by decide +kernel) rfl, tb_mem 929 rfl rfl, by decide +kernel, by decide +kernel, by decide +kernel⟩
set_option maxRecDepth 20000 in
theorem mi_Tr_addCharacter : MIt m_Tr_addCharacter 1 := ⟨tb_mem 931 (by decide +kernel) rfl, tb_mem 932 (by decide +kernel) rfl, tb_mem 119 (by decide +kernel) rfl, tb_mem 933 rfl rfl, by decide +kernel, by decide +kernel, by decide +kernel⟩
set_option maxRecDepth 20000 in
theorem mi_Te_skipBlanks : MIt m_Te_skipBlanks 0 := ⟨tb_mem 936 (by decide +kernel) rfl, tb_mem 937 (by decide +kernel) rfl, tb_mem 113 (by decide +kernel) rfl, tb_mem 938 rfl rfl, by decide +kernel, by decide +kernel, by decide +kernel⟩
set_option maxRecDepth 20000 in
theorem mi_Te_isBlank : MSt m_Te_isBlank 1 := ⟨tb_mem 940 (by decide +kernel) rfl, tb_mem 113 (by decide +kernel) rfl, tb_mem 941 rfl rfl, by decide +kernel, by decide +kernel, by decide +kernel⟩
set_option maxRecDepth 20000 in
theorem mi_Re_readNext : MIt m_Re_readNext 1 := ⟨tb_mem 944 (by decide +kernel) rfl, tb_mem 29 (by decide +kernel) rfl, tb_mem 118 (by decide +kernel) rfl, tb_mem 945 rfl rfl, by decide +kernel, by decide +kernel, by decide +kernel⟩
set_option maxRecDepth 20000 in
theorem mi_Re_close : MIt m_Re_close 0 := ⟨tb_mem 948 (by decide +kernel) rfl, tb_mem 30 (by decide +kernel) rfl, tb_mem 118 (by decide +kernel) rfl, tb_mem 949 rfl rfl, by decide +kernel, by decide +kernel, by decide +kernel⟩
set_option maxRecDepth 20000 in
theorem mi_Re_kindBegunBy : MSt m_Re_kindBegunBy 1 := ⟨tb_mem 951 (by decide +kernel) rfl, tb_mem 118 (by decide +kernel) rfl, tb_mem 952 rfl rfl, by decide +kernel, by decide +kernel, by decide +kernel⟩
set_option maxRecDepth 20000 in
theorem mi_Re_readValue : MIt m_Re_readValue 1 := ⟨tb_mem 955 (by decide +kernel) rfl, tb_mem 31 (by decide +kernel) rfl, tb_mem 118 (by decide +kernel) rfl, tb_mem 956 rfl rfl, by decide +kernel, by decide +kernel, by decide +kernel⟩
set_option maxRecDepth 20000 in
theorem mi_Tr_add : MIt m_Tr_add 2 := ⟨tb_mem 958 (by decide +kernel) rfl, tb_mem 959 (by decide +kernel) rfl, tb_mem 119 (by decide +kernel) rfl, tb_mem 960 rfl rfl, by decide +kernel, by decide +kernel, by decide +kernel⟩
set_option maxRecDepth 20000 in
theorem mi_Re_link : MIt m_Re_link 1 := ⟨tb_mem 963 (by decide +kernel) rfl, tb_mem 32 (by decide +kernel) rfl, tb_mem 118 (by decide +kernel) rfl, tb_mem 964 rfl rfl, by decide +kernel, by decide +kernel, by decide +kernel⟩
set_option maxRecDepth 20000 in
theorem mi_Re_isInObject : MIt m_Re_isInObject 0 := ⟨tb_mem 967 (by decide +kernel) rfl, tb_mem 33 (by decide +kernel) rfl, tb_mem 118 (by decide +kernel) rfl, tb_mem 968 rfl rfl, by decide +kernel, by decide +kernel, by decide +kernel⟩
set_option maxRecDepth 20000 in
theorem mi_Re_readName : MIt m_Re_readName 1 := ⟨tb_mem 971 (by decide +kernel) rfl, tb_mem 34 (by decide +kernel) rfl, tb_mem 118 (by decide +kernel) rfl, tb_mem 972 rfl rfl, by decide +kernel, by decide +kernel, by decide +kernel⟩
set_option maxRecDepth 20000 in
theorem mi_Re_findPartAhead : MIt m_Re_findPartAhead 0 := ⟨tb_mem 975 (by decide +kernel) rfl, tb_mem 35 (by decide +kernel) rfl, tb_mem 118 (by decide +kernel) rfl, tb_mem 976 rfl rfl, by decide +kernel, by decide +kernel, by decide +kernel⟩
set_option maxRecDepth 20000 in
theorem mi_Tr_compareWithName : MIt m_Tr_compareWithName 4 := ⟨tb_mem 978 (by decide +kernel) rfl, tb_mem 979 (by decide +kernel) rfl, tb_mem 119 (by decide +kernel) rfl, tb_mem 980 rfl rfl, by decide +kernel, by decide +kernel, by decide +kernel⟩
set_option maxRecDepth 20000 in
theorem mi_Tr_rank : MSt m_Tr_rank 1 := ⟨tb_mem 983 (by decide +kernel) rfl, tb_mem 119 (by decide +kernel) rfl, tb_mem 984 rfl rfl, by decide +kernel, by decide +kernel, by decide +kernel⟩
set_option maxRecDepth 20000 in
theorem mi_JIn_compare : MSt m_JIn_compare 2 := ⟨tb_mem 988 (by decide +kernel) rfl, tb_mem 126 (by decide +kernel) rfl, tb_mem 989 rfl rfl, by decide +kernel, by decide +kernel, by decide +kernel⟩
set_option maxRecDepth 20000 in
theorem mi_Re_readSeparator : MIt m_Re_readSeparator 1 := ⟨tb_mem 992 (by decide +kernel) rfl, tb_mem 36 (by decide +kernel) rfl, tb_mem 118 (by decide +kernel) rfl, tb_mem 993 rfl rfl, by decide +kernel, by decide +kernel, by decide +kernel⟩
set_option maxRecDepth 20000 in
theorem mi_Re_arrange : MIt m_Re_arrange 1 := ⟨tb_mem 996 (by decide +kernel) rfl, tb_mem 37 (by decide +kernel) rfl, tb_mem 118 (by decide +kernel) rfl, tb_mem 997 rfl rfl, by decide +kernel, by decide +kernel, by decide +kernel⟩
set_option maxRecDepth 20000 in
theorem mi_Tr_addLike : MIt m_Tr_addLike 3 := ⟨tb_mem 999 (by decide +kernel) rfl, tb_mem 1000 (by decide +kernel) rfl, tb_mem 119 (by decide +kernel) rfl, tb_mem 1001 rfl rfl, by decide +kernel, by decide +kernel, by decide +kernel⟩
set_option maxRecDepth 20000 in
theorem mi_Tr_addNamed : MIt m_Tr_addNamed 4 := ⟨tb_mem 1003 (by decide +kernel) rfl, tb_mem 1004 (by decide +kernel) rfl, tb_mem 119 (by decide +kernel) rfl, tb_mem 1005 rfl rfl, by decide +kernel, by decide +kernel, by decide +kernel⟩
set_option maxRecDepth 20000 in
theorem mi_Tr_isNamed : MIt m_Tr_isNamed 1 := ⟨tb_mem 1008 (by decide +kernel) rfl, tb_mem 1009 (by decide +kernel) rfl, tb_mem 119 (by decide +kernel) rfl, tb_mem 1010 rfl rfl, by decide +kernel, by decide +kernel, by decide +kernel⟩
set_option maxRecDepth 20000 in
theorem mi_Tr_addCharacters : MIt m_Tr_addCharacters 3 := ⟨tb_mem 1013 (by decide +kernel) rfl, tb_mem 38 (by decide +kernel) rfl, tb_mem 119 (by decide +kernel) rfl, tb_mem 1014 rfl rfl, by decide +kernel, by decide +kernel, by decide +kernel⟩
set_option maxRecDepth 20000 in
theorem mi_Re_following : MIt m_Re_following 1 := ⟨tb_mem 1018 (by decide +kernel) rfl, tb_mem 39 (by decide +kernel) rfl, tb_mem 118 (by decide +kernel) rfl, tb_mem 1019 rfl rfl, by decide +kernel, by decide +kernel, by decide +kernel⟩
set_option maxRecDepth 20000 in
theorem mi_Tr_measure : MIt m_Tr_measure 0 := ⟨tb_mem 1021 (by decide +kernel) rfl, tb_mem 1022 (by decide +kernel) rfl, tb_mem 119 (by decide +kernel) rfl, tb_mem 1023 rfl rfl, by decide +kernel, by decide +kernel, by decide +kernel⟩
set_option maxRecDepth 20000 in
theorem mi_Cp_bringSpareTo : MIt m_Cp_bringSpareTo 1 := ⟨tb_mem 1026 (by decide +kernel) rfl, tb_mem 40 (by decide +kernel) rfl, tb_mem 112 (by decide +kernel) rfl, tb_mem 1027 rfl rfl, by decide +kernel, by decide +kernel, by decide +kernel⟩
set_option maxRecDepth 20000 in
theorem mi_Cp_place : MIt m_Cp_place 0 := ⟨tb_mem 1029 (by decide +kernel) rfl, tb_mem 1030 (by decide +kernel) rfl, tb_mem 112 (by decide +kernel) rfl, tb_mem 1031 rfl rfl, by decide +kernel, by decide +kernel, by decide +kernel⟩
set_option maxRecDepth 20000 in
theorem mi_Cp_form : MIt m_Cp_form 2 := ⟨tb_mem 1033 (by decide +kernel) rfl, tb_mem 1034 (by decide +kernel) rfl, tb_mem 112 (by decide +kernel) rfl, tb_mem 1035 rfl rfl, by decide +kernel, by decide +kernel, by decide +kernel⟩
set_option maxRecDepth 20000 in
theorem mi_Cp_hasValue : MIt m_Cp_hasValue 2 := ⟨tb_mem 1038 (by decide +kernel) rfl, tb_mem 41 (by decide +kernel) rfl, tb_mem 112 (by decide +kernel) rfl, tb_mem 1039 rfl rfl, by decide +kernel, by decide +kernel, by decide +kernel⟩
set_option maxRecDepth 20000 in
theorem mi_Fo_write : MIt m_Fo_write 3 := ⟨tb_mem 1041 (by decide +kernel) rfl, tb_mem 1042 (by decide +kernel) rfl, tb_mem 120 (by decide +kernel) rfl, tb_mem 1043 rfl rfl, by decide +kernel, by decide +kernel, by decide +kernel⟩
set_option maxRecDepth 20000 in
theorem mi_Fo_closeUpTo : MSt m_Fo_closeUpTo 4 := ⟨tb_mem 1046 (by decide +kernel) rfl, tb_mem 120 (by decide +kernel) rfl, tb_mem 1047 rfl rfl, by decide +kernel, by decide +kernel, by decide +kernel⟩
set_option maxRecDepth 20000 in
theorem mi_Fo_writeAhead : MSt m_Fo_writeAhead 3 := ⟨tb_mem 1050 (by decide +kernel) rfl, tb_mem 120 (by decide +kernel) rfl, tb_mem 1051 rfl rfl, by decide +kernel, by decide +kernel, by decide +kernel⟩
set_option maxRecDepth 20000 in
theorem mi_Fo_writeString : MSt m_Fo_writeString 4 := ⟨tb_mem 1054 (by decide +kernel) rfl, tb_mem 120 (by decide +kernel) rfl, tb_mem 1055 rfl rfl, by decide +kernel, by decide +kernel, by decide +kernel⟩
set_option maxRecDepth 20000 in
theorem mi_Fo_writeCharacter : MSt m_Fo_writeCharacter 2 := ⟨tb_mem 1057 (by decide +kernel) rfl, tb_mem 120 (by decide +kernel) rfl, tb_mem 1058 rfl rfl, by decide +kernel, by decide +kernel, by decide +kernel⟩
set_option maxRecDepth 20000 in
theorem mi_Ou_putCharacter : MIt m_Ou_putCharacter 1 := ⟨tb_mem 1060 (by decide +kernel) rfl, tb_mem 1061 (by decide +kernel) rfl, tb_mem 114 (by decide +kernel) rfl, tb_mem 1062 rfl rfl, by decide +kernel, by decide +kernel, by decide +kernel⟩
set_option maxRecDepth 20000 in
theorem mi_Fo_writeEscape : MSt m_Fo_writeEscape 2 := ⟨tb_mem 1066 (by decide +kernel) rfl, tb_mem 120 (by decide +kernel) rfl, tb_mem 1067 rfl rfl, by decide +kernel, by decide +kernel, by decide +kernel⟩
set_option maxRecDepth 20000 in
theorem mi_Fo_writeBeginning : MSt m_Fo_writeBeginning 3 := ⟨tb_mem 1076 (by decide +kernel) rfl, tb_mem 120 (by decide +kernel) rfl, tb_mem 1077 rfl rfl, by decide +kernel, by decide +kernel, by decide +kernel⟩
set_option maxRecDepth 20000 in
theorem mi_Ou_putWord : MIt m_Ou_putWord 1 := ⟨tb_mem 1080 (by decide +kernel) rfl, tb_mem 1081 (by decide +kernel) rfl, tb_mem 114 (by decide +kernel) rfl, tb_mem 1082 rfl rfl, by decide +kernel, by decide +kernel, by decide +kernel⟩
set_option maxRecDepth 20000 in
theorem mi_Cp_value : MIt m_Cp_value 3 := ⟨tb_mem 1088 (by decide +kernel) rfl, tb_mem 1089 (by decide +kernel) rfl, tb_mem 112 (by decide +kernel) rfl, tb_mem 1090 rfl rfl, by decide +kernel, by decide +kernel, by decide +kernel⟩
set_option maxRecDepth 20000 in
theorem mi_Cp_bits : MIt m_Cp_bits 2 := ⟨tb_mem 1092 (by decide +kernel) rfl, tb_mem 1093 (by decide +kernel) rfl, tb_mem 112 (by decide +kernel) rfl, tb_mem 1094 rfl rfl, by decide +kernel, by decide +kernel, by decide +kernel⟩
set_option maxRecDepth 20000 in
theorem mi_Cp_character : MIt m_Cp_character 4 := ⟨tb_mem 1096 (by decide +kernel) rfl, tb_mem 1097 (by decide +kernel) rfl, tb_mem 112 (by decide +kernel) rfl, tb_mem 1098 rfl rfl, by decide +kernel, by decide +kernel, by decide +kernel⟩
set_option maxRecDepth 20000 in
theorem mi_Tr_nameCharacter : MIt m_Tr_nameCharacter 2 := ⟨tb_mem 1100 (by decide +kernel) rfl, tb_mem 1101 (by decide +kernel) rfl, tb_mem 119 (by decide +kernel) rfl, tb_mem 1102 rfl rfl, by decide +kernel, by decide +kernel, by decide +kernel⟩
set_option maxRecDepth 20000 in
theorem mi_Tr_textCharacter : MIt m_Tr_textCharacter 2 := ⟨tb_mem 1104 (by decide +kernel) rfl, tb_mem 1105 (by decide +kernel) rfl, tb_mem 119 (by decide +kernel) rfl, tb_mem 1106 rfl rfl, by decide +kernel, by decide +kernel, by decide +kernel⟩
set_option maxRecDepth 20000 in
theorem mi_Cp_point : MIt m_Cp_point 1 := ⟨tb_mem 1108 (by decide +kernel) rfl, tb_mem 1109 (by decide +kernel) rfl, tb_mem 112 (by decide +kernel) rfl, tb_mem 1110 rfl rfl, by decide +kernel, by decide +kernel, by decide +kernel⟩
set_option maxRecDepth 20000 in
theorem mi_Po_decode : MIt m_Po_decode 1 := ⟨tb_mem 1112 (by decide +kernel) rfl, tb_mem 1113 (by decide +kernel) rfl, tb_mem 121 (by decide +kernel) rfl, tb_mem 1114 rfl rfl, by decide +kernel, by decide +kernel, by decide +kernel⟩
set_option maxRecDepth 20000 in
theorem mi_Po_nextMark : MSt m_Po_nextMark 1 := ⟨tb_mem 1117 (by decide +kernel) rfl, tb_mem 121 (by decide +kernel) rfl, tb_mem 1118 rfl rfl, by decide +kernel, by decide +kernel, by decide +kernel⟩
set_option maxRecDepth 20000 in
theorem mi_Cp_hasDocument : MIt m_Cp_hasDocument 1 := ⟨tb_mem 1123 (by decide +kernel) rfl, tb_mem 42 (by decide +kernel) rfl, tb_mem 112 (by decide +kernel) rfl, tb_mem 1124 rfl rfl, by decide +kernel, by decide +kernel, by decide +kernel⟩
set_option maxRecDepth 20000 in
theorem mi_Po_find : MIt m_Po_find 1 := ⟨tb_mem 1126 (by decide +kernel) rfl, tb_mem 1127 (by decide +kernel) rfl, tb_mem 121 (by decide +kernel) rfl, tb_mem 1128 rfl rfl, by decide +kernel, by decide +kernel, by decide +kernel⟩
set_option maxRecDepth 20000 in
theorem mi_Po_endOfToken : MIt m_Po_endOfToken 1 := ⟨tb_mem 1131 (by decide +kernel) rfl, tb_mem 43 (by decide +kernel) rfl, tb_mem 121 (by decide +kernel) rfl, tb_mem 1132 rfl rfl, by decide +kernel, by decide +kernel, by decide +kernel⟩
set_option maxRecDepth 20000 in
theorem mi_Po_findPart : MIt m_Po_findPart 4 := ⟨tb_mem 1135 (by decide +kernel) rfl, tb_mem 44 (by decide +kernel) rfl, tb_mem 121 (by decide +kernel) rfl, tb_mem 1136 rfl rfl, by decide +kernel, by decide +kernel, by decide +kernel⟩
set_option maxRecDepth 20000 in
theorem mi_Po_index : MIt m_Po_index 2 := ⟨tb_mem 1139 (by decide +kernel) rfl, tb_mem 45 (by decide +kernel) rfl, tb_mem 121 (by decide +kernel) rfl, tb_mem 1140 rfl rfl, by decide +kernel, by decide +kernel, by decide +kernel⟩
set_option maxRecDepth 20000 in
theorem mi_Po_isName : MIt m_Po_isName 4 := ⟨tb_mem 1144 (by decide +kernel) rfl, tb_mem 46 (by decide +kernel) rfl, tb_mem 121 (by decide +kernel) rfl, tb_mem 1145 rfl rfl, by decide +kernel, by decide +kernel, by decide +kernel⟩
set_option maxRecDepth 20000 in
theorem mi_Cp_same : MIt m_Cp_same 4 := ⟨tb_mem 1149 (by decide +kernel) rfl, tb_mem 1150 (by decide +kernel) rfl, tb_mem 112 (by decide +kernel) rfl, tb_mem 1151 rfl rfl, by decide +kernel, by decide +kernel, by decide +kernel⟩
set_option maxRecDepth 20000 in
theorem mi_Tr_isAlike : MIt m_Tr_isAlike 3 := ⟨tb_mem 1153 (by decide +kernel) rfl, tb_mem 1154 (by decide +kernel) rfl, tb_mem 119 (by decide +kernel) rfl, tb_mem 1155 rfl rfl, by decide +kernel, by decide +kernel, by decide +kernel⟩
set_option maxRecDepth 20000 in
theorem mi_Tr_isAlikeAlone : MIt m_Tr_isAlikeAlone 3 := ⟨tb_mem 1158 (by decide +kernel) rfl, tb_mem 47 (by decide +kernel) rfl, tb_mem 119 (by decide +kernel) rfl, tb_mem 1159 rfl rfl, by decide +kernel, by decide +kernel, by decide +kernel⟩
set_option maxRecDepth 20000 in
theorem mi_Tr_hasSameCharacters : MIt m_Tr_hasSameCharacters 4 := ⟨tb_mem 1162 (by decide +kernel) rfl, tb_mem 48 (by decide +kernel) rfl, tb_mem 119 (by decide +kernel) rfl, tb_mem 1163 rfl rfl, by decide +kernel, by decide +kernel, by decide +kernel⟩
set_option maxRecDepth 20000 in
theorem mi_Tr_hasSameName : MIt m_Tr_hasSameName 3 := ⟨tb_mem 1167 (by decide +kernel) rfl, tb_mem 49 (by decide +kernel) rfl, tb_mem 119 (by decide +kernel) rfl, tb_mem 1168 rfl rfl, by decide +kernel, by decide +kernel, by decide +kernel⟩
set_option maxRecDepth 20000 in
theorem mi_Cp_merge : MIt m_Cp_merge 3 := ⟨tb_mem 1170 (by decide +kernel) rfl, tb_mem 1171 (by decide +kernel) rfl, tb_mem 112 (by decide +kernel) rfl, tb_mem 1172 rfl rfl, by decide +kernel, by decide +kernel, by decide +kernel⟩
set_option maxRecDepth 20000 in
theorem mi_We_make : MIt m_We_make 4 := ⟨tb_mem 1174 (by decide +kernel) rfl, tb_mem 1175 (by decide +kernel) rfl, tb_mem 122 (by decide +kernel) rfl, tb_mem 1176 rfl rfl, by decide +kernel, by decide +kernel, by decide +kernel⟩
set_option maxRecDepth 20000 in
theorem mi_We_weave : MIt m_We_weave 4 := ⟨tb_mem 1180 (by decide +kernel) rfl, tb_mem 50 (by decide +kernel) rfl, tb_mem 122 (by decide +kernel) rfl, tb_mem 1181 rfl rfl, by decide +kernel, by decide +kernel, by decide +kernel⟩
set_option maxRecDepth 20000 in
theorem mi_Tr_addWhole : MIt m_Tr_addWhole 3 := ⟨tb_mem 1183 (by decide +kernel) rfl, tb_mem 1184 (by decide +kernel) rfl, tb_mem 119 (by decide +kernel) rfl, tb_mem 1185 rfl rfl, by decide +kernel, by decide +kernel, by decide +kernel⟩
set_option maxRecDepth 20000 in
theorem mi_We_hasNullPart : MIt m_We_hasNullPart 1 := ⟨tb_mem 1189 (by decide +kernel) rfl, tb_mem 51 (by decide +kernel) rfl, tb_mem 122 (by decide +kernel) rfl, tb_mem 1190 rfl rfl, by decide +kernel, by decide +kernel, by decide +kernel⟩
set_option maxRecDepth 20000 in
theorem mi_Tr_compareNames : MIt m_Tr_compareNames 3 := ⟨tb_mem 1195 (by decide +kernel) rfl, tb_mem 1196 (by decide +kernel) rfl, tb_mem 119 (by decide +kernel) rfl, tb_mem 1197 rfl rfl, by decide +kernel, by decide +kernel, by decide +kernel⟩
set_option maxRecDepth 20000 in
theorem mi_We_isWanted : MIt m_We_isWanted 2 := ⟨tb_mem 1202 (by decide +kernel) rfl, tb_mem 52 (by decide +kernel) rfl, tb_mem 122 (by decide +kernel) rfl, tb_mem 1203 rfl rfl, by decide +kernel, by decide +kernel, by decide +kernel⟩
set_option maxRecDepth 20000 in
theorem mi_Cp_bringIfItFits : MIt m_Cp_bringIfItFits 1 := ⟨tb_mem 1207 (by decide +kernel) rfl, tb_mem 53 (by decide +kernel) rfl, tb_mem 112 (by decide +kernel) rfl, tb_mem 1208 rfl rfl, by decide +kernel, by decide +kernel, by decide +kernel⟩
set_option maxRecDepth 20000 in
theorem mi_Cp_patch : MIt m_Cp_patch 3 := ⟨tb_mem 1211 (by decide +kernel) rfl, tb_mem 1212 (by decide +kernel) rfl, tb_mem 112 (by decide +kernel) rfl, tb_mem 1213 rfl rfl, by decide +kernel, by decide +kernel, by decide +kernel⟩
set_option maxRecDepth 20000 in
theorem mi_Cp_part : MIt m_Cp_part 3 := ⟨tb_mem 1215 (by decide +kernel) rfl, tb_mem 1216 (by decide +kernel) rfl, tb_mem 112 (by decide +kernel) rfl, tb_mem 1217 rfl rfl, by decide +kernel, by decide +kernel, by decide +kernel⟩
set_option maxRecDepth 20000 in
theorem mi_Cp_about : MIt m_Cp_about 1 := ⟨tb_mem 1221 (by decide +kernel) rfl, tb_mem 1222 (by decide +kernel) rfl, tb_mem 112 (by decide +kernel) rfl, tb_mem 1223 rfl rfl, by decide +kernel, by decide +kernel, by decide +kernel⟩
set_option maxRecDepth 20000 in
theorem mi_Cp_countDocuments : MIt m_Cp_countDocuments 0 := ⟨tb_mem 1226 (by decide +kernel) rfl, tb_mem 54 (by decide +kernel) rfl, tb_mem 112 (by decide +kernel) rfl, tb_mem 1227 rfl rfl, by decide +kernel, by decide +kernel, by decide +kernel⟩
set_option maxRecDepth 20000 in
theorem mi_Mo_feed : MIt m_Mo_feed 5 := ⟨tb_mem 1440 (by decide +kernel) rfl, tb_mem 1441 (by decide +kernel) rfl, tb_mem 123 (by decide +kernel) rfl, tb_mem 1442 rfl rfl, by decide +kernel, by decide +kernel, by decide +kernel⟩
set_option maxRecDepth 20000 in
theorem mi_Mo_four : MIt m_Mo_four 1 := ⟨tb_mem 1445 (by decide +kernel) rfl, tb_mem 55 (by decide +kernel) rfl, tb_mem 123 (by decide +kernel) rfl, tb_mem 1446 rfl rfl, by decide +kernel, by decide +kernel, by decide +kernel⟩
set_option maxRecDepth 20000 in
theorem mi_Mo_end : MIt m_Mo_end 1 := ⟨tb_mem 1448 (by decide +kernel) rfl, tb_mem 1449 (by decide +kernel) rfl, tb_mem 123 (by decide +kernel) rfl, tb_mem 1450 rfl rfl, by decide +kernel, by decide +kernel, by decide +kernel⟩
set_option maxRecDepth 20000 in
theorem mi_Mo_take : MIt m_Mo_take 0 := ⟨tb_mem 1452 (by decide +kernel) rfl, tb_mem 1453 (by decide +kernel) rfl, tb_mem 123 (by decide +kernel) rfl, tb_mem 1454 rfl rfl, by decide +kernel, by decide +kernel, by decide +kernel⟩
set_option maxRecDepth 20000 in
theorem mi_Mo_out : MIt m_Mo_out 1 := ⟨tb_mem 1456 (by decide +kernel) rfl, tb_mem 1457 (by decide +kernel) rfl, tb_mem 123 (by decide +kernel) rfl, tb_mem 1458 rfl rfl, by decide +kernel, by decide +kernel, by decide +kernel⟩
set_option maxRecDepth 20000 in
theorem mi_Mo_numeral : MIt m_Mo_numeral 0 := ⟨tb_mem 1460 (by decide +kernel) rfl, tb_mem 1461 (by decide +kernel) rfl, tb_mem 123 (by decide +kernel) rfl, tb_mem 1462 rfl rfl, by decide +kernel, by decide +kernel, by decide +kernel⟩
set_option maxRecDepth 20000 in
theorem mi_Mo_takeNumeral : MIt m_Mo_takeNumeral 1 := ⟨tb_mem 1465 (by decide +kernel) rfl, tb_mem 56 (by decide +kernel) rfl, tb_mem 123 (by decide +kernel) rfl, tb_mem 1466 rfl rfl, by decide +kernel, by decide +kernel, by decide +kernel⟩
set_option maxRecDepth 20000 in
theorem mi_Mo_here : MIt m_Mo_here 1 := ⟨tb_mem 1469 (by decide +kernel) rfl, tb_mem 57 (by decide +kernel) rfl, tb_mem 123 (by decide +kernel) rfl, tb_mem 1470 rfl rfl, by decide +kernel, by decide +kernel, by decide +kernel⟩
set_option maxRecDepth 20000 in
theorem mi_Mo_isDigit : MSt m_Mo_isDigit 1 := ⟨tb_mem 1472 (by decide +kernel) rfl, tb_mem 123 (by decide +kernel) rfl, tb_mem 1473 rfl rfl, by decide +kernel, by decide +kernel, by decide +kernel⟩
set_option maxRecDepth 20000 in
theorem mi_Mo_nearest : MIt m_Mo_nearest 0 := ⟨tb_mem 1477 (by decide +kernel) rfl, tb_mem 58 (by decide +kernel) rfl, tb_mem 123 (by decide +kernel) rfl, tb_mem 1478 rfl rfl, by decide +kernel, by decide +kernel, by decide +kernel⟩
set_option maxRecDepth 20000 in
theorem mi_Mo_trim : MIt m_Mo_trim 0 := ⟨tb_mem 1481 (by decide +kernel) rfl, tb_mem 59 (by decide +kernel) rfl, tb_mem 123 (by decide +kernel) rfl, tb_mem 1482 rfl rfl, by decide +kernel, by decide +kernel, by decide +kernel⟩
set_option maxRecDepth 20000 in
theorem mi_Mo_halved : MIt m_Mo_halved 1 := ⟨tb_mem 1486 (by decide +kernel) rfl, tb_mem 60 (by decide +kernel) rfl, tb_mem 123 (by decide +kernel) rfl, tb_mem 1487 rfl rfl, by decide +kernel, by decide +kernel, by decide +kernel⟩
set_option maxRecDepth 20000 in
theorem mi_Mo_doubled : MIt m_Mo_doubled 1 := ⟨tb_mem 1491 (by decide +kernel) rfl, tb_mem 61 (by decide +kernel) rfl, tb_mem 123 (by decide +kernel) rfl, tb_mem 1492 rfl rfl, by decide +kernel, by decide +kernel, by decide +kernel⟩
set_option maxRecDepth 20000 in
theorem mi_Mo_halvedBy : MIt m_Mo_halvedBy 1 := ⟨tb_mem 1495 (by decide +kernel) rfl, tb_mem 62 (by decide +kernel) rfl, tb_mem 123 (by decide +kernel) rfl, tb_mem 1496 rfl rfl, by decide +kernel, by decide +kernel, by decide +kernel⟩
set_option maxRecDepth 20000 in
theorem mi_Mo_doubledBy : MIt m_Mo_doubledBy 1 := ⟨tb_mem 1499 (by decide +kernel) rfl, tb_mem 63 (by decide +kernel) rfl, tb_mem 123 (by decide +kernel) rfl, tb_mem 1500 rfl rfl, by decide +kernel, by decide +kernel, by decide +kernel⟩
set_option maxRecDepth 20000 in
theorem mi_Mo_print : MIt m_Mo_print 1 := ⟨tb_mem 1507 (by decide +kernel) rfl, tb_mem 1508 (by decide +kernel) rfl, tb_mem 123 (by decide +kernel) rfl, tb_mem 1509 rfl rfl, by decide +kernel, by decide +kernel, by decide +kernel⟩
set_option maxRecDepth 20000 in
theorem mi_Mo_isNumber : MSt m_Mo_isNumber 1 := ⟨tb_mem 1511 (by decide +kernel) rfl, tb_mem 123 (by decide +kernel) rfl, tb_mem 1512 rfl rfl, by decide +kernel, by decide +kernel, by decide +kernel⟩
set_option maxRecDepth 20000 in
theorem mi_Mo_spell : MIt m_Mo_spell 1 := ⟨tb_mem 1515 (by decide +kernel) rfl, tb_mem 64 (by decide +kernel) rfl, tb_mem 123 (by decide +kernel) rfl, tb_mem 1516 rfl rfl, by decide +kernel, by decide +kernel, by decide +kernel⟩
set_option maxRecDepth 20000 in
theorem mi_Mo_printing : MIt m_Mo_printing 1 := ⟨tb_mem 1520 (by decide +kernel) rfl, tb_mem 65 (by decide +kernel) rfl, tb_mem 123 (by decide +kernel) rfl, tb_mem 1521 rfl rfl, by decide +kernel, by decide +kernel, by decide +kernel⟩
set_option maxRecDepth 20000 in
theorem mi_Mo_shortest : MIt m_Mo_shortest 1 := ⟨tb_mem 1524 (by decide +kernel) rfl, tb_mem 66 (by decide +kernel) rfl, tb_mem 123 (by decide +kernel) rfl, tb_mem 1525 rfl rfl, by decide +kernel, by decide +kernel, by decide +kernel⟩
set_option maxRecDepth 20000 in
theorem mi_Mo_keepExact : MIt m_Mo_keepExact 1 := ⟨tb_mem 1528 (by decide +kernel) rfl, tb_mem 67 (by decide +kernel) rfl, tb_mem 123 (by decide +kernel) rfl, tb_mem 1529 rfl rfl, by decide +kernel, by decide +kernel, by decide +kernel⟩
set_option maxRecDepth 20000 in
theorem mi_Mo_exactly : MIt m_Mo_exactly 1 := ⟨tb_mem 1532 (by decide +kernel) rfl, tb_mem 68 (by decide +kernel) rfl, tb_mem 123 (by decide +kernel) rfl, tb_mem 1533 rfl rfl, by decide +kernel, by decide +kernel, by decide +kernel⟩
set_option maxRecDepth 20000 in
theorem mi_Mo_reads : MIt m_Mo_reads 3 := ⟨tb_mem 1538 (by decide +kernel) rfl, tb_mem 69 (by decide +kernel) rfl, tb_mem 123 (by decide +kernel) rfl, tb_mem 1539 rfl rfl, by decide +kernel, by decide +kernel, by decide +kernel⟩
set_option maxRecDepth 20000 in
theorem mi_Mo_take_IZ : MIt m_Mo_take_IZ 2 := ⟨tb_mem 1542 (by decide +kernel) rfl, tb_mem 70 (by decide +kernel) rfl, tb_mem 123 (by decide +kernel) rfl, tb_mem 1543 rfl rfl, by decide +kernel, by decide +kernel, by decide +kernel⟩
set_option maxRecDepth 20000 in
theorem mi_Mo_printNumber : MIt m_Mo_printNumber 1 := ⟨tb_mem 1546 (by decide +kernel) rfl, tb_mem 71 (by decide +kernel) rfl, tb_mem 123 (by decide +kernel) rfl, tb_mem 1547 rfl rfl, by decide +kernel, by decide +kernel, by decide +kernel⟩
set_option maxRecDepth 20000 in
theorem mi_Mo_clearOut : MIt m_Mo_clearOut 0 := ⟨tb_mem 1550 (by decide +kernel) rfl, tb_mem 72 (by decide +kernel) rfl, tb_mem 123 (by decide +kernel) rfl, tb_mem 1551 rfl rfl, by decide +kernel, by decide +kernel, by decide +kernel⟩
set_option maxRecDepth 20000 in
theorem mi_Mo_put : MIt m_Mo_put 1 := ⟨tb_mem 1554 (by decide +kernel) rfl, tb_mem 73 (by decide +kernel) rfl, tb_mem 123 (by decide +kernel) rfl, tb_mem 1555 rfl rfl, by decide +kernel, by decide +kernel, by decide +kernel⟩
set_option maxRecDepth 20000 in
theorem mi_Mo_round : MIt m_Mo_round 2 := ⟨tb_mem 1557 (by decide +kernel) rfl, tb_mem 1558 (by decide +kernel) rfl, tb_mem 123 (by decide +kernel) rfl, tb_mem 1559 rfl rfl, by decide +kernel, by decide +kernel, by decide +kernel⟩
set_option maxRecDepth 20000 in
theorem mi_Mo_document : MIt m_Mo_document 1 := ⟨tb_mem 1561 (by decide +kernel) rfl, tb_mem 1562 (by decide +kernel) rfl, tb_mem 123 (by decide +kernel) rfl, tb_mem 1563 rfl rfl, by decide +kernel, by decide +kernel, by decide +kernel⟩
set_option maxRecDepth 20000 in
theorem mi_Mo_isShelf : MSt m_Mo_isShelf 1 := ⟨tb_mem 1565 (by decide +kernel) rfl, tb_mem 123 (by decide +kernel) rfl, tb_mem 1566 rfl rfl, by decide +kernel, by decide +kernel, by decide +kernel⟩
set_option maxRecDepth 20000 in
theorem mi_Mo_readAll : MIt m_Mo_readAll 1 := ⟨tb_mem 1569 (by decide +kernel) rfl, tb_mem 74 (by decide +kernel) rfl, tb_mem 123 (by decide +kernel) rfl, tb_mem 1570 rfl rfl, by decide +kernel, by decide +kernel, by decide +kernel⟩
set_option maxRecDepth 20000 in
theorem mi_Mo_blanks : MIt m_Mo_blanks 1 := ⟨tb_mem 1573 (by decide +kernel) rfl, tb_mem 75 (by decide +kernel) rfl, tb_mem 123 (by decide +kernel) rfl, tb_mem 1574 rfl rfl, by decide +kernel, by decide +kernel, by decide +kernel⟩
set_option maxRecDepth 20000 in
theorem mi_Mo_wrong : MIt m_Mo_wrong 2 := ⟨tb_mem 1577 (by decide +kernel) rfl, tb_mem 76 (by decide +kernel) rfl, tb_mem 123 (by decide +kernel) rfl, tb_mem 1578 rfl rfl, by decide +kernel, by decide +kernel, by decide +kernel⟩
set_option maxRecDepth 20000 in
theorem mi_Mo_takeString : MIt m_Mo_takeString 1 := ⟨tb_mem 1581 (by decide +kernel) rfl, tb_mem 77 (by decide +kernel) rfl, tb_mem 123 (by decide +kernel) rfl, tb_mem 1582 rfl rfl, by decide +kernel, by decide +kernel, by decide +kernel⟩
set_option maxRecDepth 20000 in
theorem mi_Mo_takeEscape : MIt m_Mo_takeEscape 1 := ⟨tb_mem 1585 (by decide +kernel) rfl, tb_mem 78 (by decide +kernel) rfl, tb_mem 123 (by decide +kernel) rfl, tb_mem 1586 rfl rfl, by decide +kernel, by decide +kernel, by decide +kernel⟩
set_option maxRecDepth 20000 in
theorem mi_Mo_keep : MIt m_Mo_keep 1 := ⟨tb_mem 1589 (by decide +kernel) rfl, tb_mem 79 (by decide +kernel) rfl, tb_mem 123 (by decide +kernel) rfl, tb_mem 1590 rfl rfl, by decide +kernel, by decide +kernel, by decide +kernel⟩
set_option maxRecDepth 20000 in
theorem mi_Mo_takeFour : MIt m_Mo_takeFour 1 := ⟨tb_mem 1593 (by decide +kernel) rfl, tb_mem 80 (by decide +kernel) rfl, tb_mem 123 (by decide +kernel) rfl, tb_mem 1594 rfl rfl, by decide +kernel, by decide +kernel, by decide +kernel⟩
set_option maxRecDepth 20000 in
theorem mi_Mo_hex : MSt m_Mo_hex 1 := ⟨tb_mem 1596 (by decide +kernel) rfl, tb_mem 123 (by decide +kernel) rfl, tb_mem 1597 rfl rfl, by decide +kernel, by decide +kernel, by decide +kernel⟩
set_option maxRecDepth 20000 in
theorem mi_Mo_takeWide : MIt m_Mo_takeWide 1 := ⟨tb_mem 1604 (by decide +kernel) rfl, tb_mem 81 (by decide +kernel) rfl, tb_mem 123 (by decide +kernel) rfl, tb_mem 1605 rfl rfl, by decide +kernel, by decide +kernel, by decide +kernel⟩
set_option maxRecDepth 20000 in
theorem mi_Mo_isNamed : MIt m_Mo_isNamed 3 := ⟨tb_mem 1608 (by decide +kernel) rfl, tb_mem 82 (by decide +kernel) rfl, tb_mem 123 (by decide +kernel) rfl, tb_mem 1609 rfl rfl, by decide +kernel, by decide +kernel, by decide +kernel⟩
set_option maxRecDepth 20000 in
theorem mi_Mo_compared : MSt m_Mo_compared 6 := ⟨tb_mem 1611 (by decide +kernel) rfl, tb_mem 123 (by decide +kernel) rfl, tb_mem 1612 rfl rfl, by decide +kernel, by decide +kernel, by decide +kernel⟩
set_option maxRecDepth 20000 in
theorem mi_Mo_unit : MSt m_Mo_unit 1 := ⟨tb_mem 1614 (by decide +kernel) rfl, tb_mem 123 (by decide +kernel) rfl, tb_mem 1615 rfl rfl, by decide +kernel, by decide +kernel, by decide +kernel⟩
set_option maxRecDepth 20000 in
theorem mi_Mo_kindAt : MSt m_Mo_kindAt 1 := ⟨tb_mem 1617 (by decide +kernel) rfl, tb_mem 123 (by decide +kernel) rfl, tb_mem 1618 rfl rfl, by decide +kernel, by decide +kernel, by decide +kernel⟩
set_option maxRecDepth 20000 in
theorem mi_Mo_begin : MIt m_Mo_begin 2 := ⟨tb_mem 1621 (by decide +kernel) rfl, tb_mem 83 (by decide +kernel) rfl, tb_mem 123 (by decide +kernel) rfl, tb_mem 1622 rfl rfl, by decide +kernel, by decide +kernel, by decide +kernel⟩
set_option maxRecDepth 20000 in
theorem mi_Mo_takePlain : MIt m_Mo_takePlain 2 := ⟨tb_mem 1625 (by decide +kernel) rfl, tb_mem 84 (by decide +kernel) rfl, tb_mem 123 (by decide +kernel) rfl, tb_mem 1626 rfl rfl, by decide +kernel, by decide +kernel, by decide +kernel⟩
set_option maxRecDepth 20000 in
theorem mi_Mo_takeWord : MIt m_Mo_takeWord 3 := ⟨tb_mem 1629 (by decide +kernel) rfl, tb_mem 85 (by decide +kernel) rfl, tb_mem 123 (by decide +kernel) rfl, tb_mem 1630 rfl rfl, by decide +kernel, by decide +kernel, by decide +kernel⟩
set_option maxRecDepth 20000 in
theorem mi_Mo_makeRead : MIt m_Mo_makeRead 0 := ⟨tb_mem 1633 (by decide +kernel) rfl, tb_mem 86 (by decide +kernel) rfl, tb_mem 123 (by decide +kernel) rfl, tb_mem 1634 rfl rfl, by decide +kernel, by decide +kernel, by decide +kernel⟩
set_option maxRecDepth 20000 in
theorem mi_Mo_beginMade : MIt m_Mo_beginMade 0 := ⟨tb_mem 1637 (by decide +kernel) rfl, tb_mem 87 (by decide +kernel) rfl, tb_mem 123 (by decide +kernel) rfl, tb_mem 1638 rfl rfl, by decide +kernel, by decide +kernel, by decide +kernel⟩
set_option maxRecDepth 20000 in
theorem mi_Mo_makeNamed : MIt m_Mo_makeNamed 3 := ⟨tb_mem 1641 (by decide +kernel) rfl, tb_mem 88 (by decide +kernel) rfl, tb_mem 123 (by decide +kernel) rfl, tb_mem 1642 rfl rfl, by decide +kernel, by decide +kernel, by decide +kernel⟩
set_option maxRecDepth 20000 in
theorem mi_Mo_make : MIt m_Mo_make 5 := ⟨tb_mem 1645 (by decide +kernel) rfl, tb_mem 89 (by decide +kernel) rfl, tb_mem 123 (by decide +kernel) rfl, tb_mem 1646 rfl rfl, by decide +kernel, by decide +kernel, by decide +kernel⟩
set_option maxRecDepth 20000 in
theorem mi_Mo_lay : MIt m_Mo_lay 1 := ⟨tb_mem 1649 (by decide +kernel) rfl, tb_mem 90 (by decide +kernel) rfl, tb_mem 123 (by decide +kernel) rfl, tb_mem 1650 rfl rfl, by decide +kernel, by decide +kernel, by decide +kernel⟩
set_option maxRecDepth 20000 in
theorem mi_Mo_bytesOf : MSt m_Mo_bytesOf 1 := ⟨tb_mem 1652 (by decide +kernel) rfl, tb_mem 123 (by decide +kernel) rfl, tb_mem 1653 rfl rfl, by decide +kernel, by decide +kernel, by decide +kernel⟩
set_option maxRecDepth 20000 in
theorem mi_Mo_order : MIt m_Mo_order 1 := ⟨tb_mem 1657 (by decide +kernel) rfl, tb_mem 91 (by decide +kernel) rfl, tb_mem 123 (by decide +kernel) rfl, tb_mem 1658 rfl rfl, by decide +kernel, by decide +kernel, by decide +kernel⟩
set_option maxRecDepth 20000 in
theorem mi_Mo_shelve : MIt m_Mo_shelve 1 := ⟨tb_mem 1661 (by decide +kernel) rfl, tb_mem 92 (by decide +kernel) rfl, tb_mem 123 (by decide +kernel) rfl, tb_mem 1662 rfl rfl, by decide +kernel, by decide +kernel, by decide +kernel⟩
set_option maxRecDepth 20000 in
theorem mi_Mo_place : MIt m_Mo_place 0 := ⟨tb_mem 1664 (by decide +kernel) rfl, tb_mem 1665 (by decide +kernel) rfl, tb_mem 123 (by decide +kernel) rfl, tb_mem 1666 rfl rfl, by decide +kernel, by decide +kernel, by decide +kernel⟩
set_option maxRecDepth 20000 in
theorem mi_Mo_form : MIt m_Mo_form 2 := ⟨tb_mem 1668 (by decide +kernel) rfl, tb_mem 1669 (by decide +kernel) rfl, tb_mem 123 (by decide +kernel) rfl, tb_mem 1670 rfl rfl, by decide +kernel, by decide +kernel, by decide +kernel⟩
set_option maxRecDepth 20000 in
theorem mi_Mo_has : MIt m_Mo_has 2 := ⟨tb_mem 1673 (by decide +kernel) rfl, tb_mem 93 (by decide +kernel) rfl, tb_mem 123 (by decide +kernel) rfl, tb_mem 1674 rfl rfl, by decide +kernel, by decide +kernel, by decide +kernel⟩
set_option maxRecDepth 20000 in
theorem mi_Mo_putString : MIt m_Mo_putString 2 := ⟨tb_mem 1677 (by decide +kernel) rfl, tb_mem 94 (by decide +kernel) rfl, tb_mem 123 (by decide +kernel) rfl, tb_mem 1678 rfl rfl, by decide +kernel, by decide +kernel, by decide +kernel⟩
set_option maxRecDepth 20000 in
theorem mi_Mo_digitOf : MSt m_Mo_digitOf 1 := ⟨tb_mem 1680 (by decide +kernel) rfl, tb_mem 123 (by decide +kernel) rfl, tb_mem 1681 rfl rfl, by decide +kernel, by decide +kernel, by decide +kernel⟩
set_option maxRecDepth 20000 in
theorem mi_Mo_putWide : MIt m_Mo_putWide 1 := ⟨tb_mem 1684 (by decide +kernel) rfl, tb_mem 95 (by decide +kernel) rfl, tb_mem 123 (by decide +kernel) rfl, tb_mem 1685 rfl rfl, by decide +kernel, by decide +kernel, by decide +kernel⟩
set_option maxRecDepth 20000 in
theorem mi_Mo_putPlain : MIt m_Mo_putPlain 2 := ⟨tb_mem 1688 (by decide +kernel) rfl, tb_mem 96 (by decide +kernel) rfl, tb_mem 123 (by decide +kernel) rfl, tb_mem 1689 rfl rfl, by decide +kernel, by decide +kernel, by decide +kernel⟩
set_option maxRecDepth 20000 in
theorem mi_Mo_putWord : MIt m_Mo_putWord 2 := ⟨tb_mem 1692 (by decide +kernel) rfl, tb_mem 97 (by decide +kernel) rfl, tb_mem 123 (by decide +kernel) rfl, tb_mem 1693 rfl rfl, by decide +kernel, by decide +kernel, by decide +kernel⟩
set_option maxRecDepth 20000 in
theorem mi_Mo_value : MIt m_Mo_value 3 := ⟨tb_mem 1695 (by decide +kernel) rfl, tb_mem 1696 (by decide +kernel) rfl, tb_mem 123 (by decide +kernel) rfl, tb_mem 1697 rfl rfl, by decide +kernel, by decide +kernel, by decide +kernel⟩
set_option maxRecDepth 20000 in
theorem mi_Mo_bits : MIt m_Mo_bits 2 := ⟨tb_mem 1699 (by decide +kernel) rfl, tb_mem 1700 (by decide +kernel) rfl, tb_mem 123 (by decide +kernel) rfl, tb_mem 1701 rfl rfl, by decide +kernel, by decide +kernel, by decide +kernel⟩
set_option maxRecDepth 20000 in
theorem mi_Mo_character : MIt m_Mo_character 4 := ⟨tb_mem 1703 (by decide +kernel) rfl, tb_mem 1704 (by decide +kernel) rfl, tb_mem 123 (by decide +kernel) rfl, tb_mem 1705 rfl rfl, by decide +kernel, by decide +kernel, by decide +kernel⟩
set_option maxRecDepth 20000 in
theorem mi_Mo_point : MIt m_Mo_point 1 := ⟨tb_mem 1707 (by decide +kernel) rfl, tb_mem 1708 (by decide +kernel) rfl, tb_mem 123 (by decide +kernel) rfl, tb_mem 1709 rfl rfl, by decide +kernel, by decide +kernel, by decide +kernel⟩
set_option maxRecDepth 20000 in
theorem mi_Mo_readPointer : MIt m_Mo_readPointer 1 := ⟨tb_mem 1712 (by decide +kernel) rfl, tb_mem 98 (by decide +kernel) rfl, tb_mem 123 (by decide +kernel) rfl, tb_mem 1713 rfl rfl, by decide +kernel, by decide +kernel, by decide +kernel⟩
set_option maxRecDepth 20000 in
theorem mi_Mo_partOf : MIt m_Mo_partOf 3 := ⟨tb_mem 1716 (by decide +kernel) rfl, tb_mem 99 (by decide +kernel) rfl, tb_mem 123 (by decide +kernel) rfl, tb_mem 1717 rfl rfl, by decide +kernel, by decide +kernel, by decide +kernel⟩
set_option maxRecDepth 20000 in
theorem mi_Mo_same : MIt m_Mo_same 4 := ⟨tb_mem 1719 (by decide +kernel) rfl, tb_mem 1720 (by decide +kernel) rfl, tb_mem 123 (by decide +kernel) rfl, tb_mem 1721 rfl rfl, by decide +kernel, by decide +kernel, by decide +kernel⟩
set_option maxRecDepth 20000 in
theorem mi_Mo_isSame : MIt m_Mo_isSame 4 := ⟨tb_mem 1724 (by decide +kernel) rfl, tb_mem 100 (by decide +kernel) rfl, tb_mem 123 (by decide +kernel) rfl, tb_mem 1725 rfl rfl, by decide +kernel, by decide +kernel, by decide +kernel⟩
set_option maxRecDepth 20000 in
theorem mi_Mo_isLike : MIt m_Mo_isLike 4 := ⟨tb_mem 1728 (by decide +kernel) rfl, tb_mem 101 (by decide +kernel) rfl, tb_mem 123 (by decide +kernel) rfl, tb_mem 1729 rfl rfl, by decide +kernel, by decide +kernel, by decide +kernel⟩
set_option maxRecDepth 20000 in
theorem mi_Mo_namedLike : MIt m_Mo_namedLike 4 := ⟨tb_mem 1732 (by decide +kernel) rfl, tb_mem 102 (by decide +kernel) rfl, tb_mem 123 (by decide +kernel) rfl, tb_mem 1733 rfl rfl, by decide +kernel, by decide +kernel, by decide +kernel⟩
set_option maxRecDepth 20000 in
theorem mi_Mo_merge : MIt m_Mo_merge 3 := ⟨tb_mem 1735 (by decide +kernel) rfl, tb_mem 1736 (by decide +kernel) rfl, tb_mem 123 (by decide +kernel) rfl, tb_mem 1737 rfl rfl, by decide +kernel, by decide +kernel, by decide +kernel⟩
set_option maxRecDepth 20000 in
theorem mi_Mo_isObject : MIt m_Mo_isObject 2 := ⟨tb_mem 1740 (by decide +kernel) rfl, tb_mem 103 (by decide +kernel) rfl, tb_mem 123 (by decide +kernel) rfl, tb_mem 1741 rfl rfl, by decide +kernel, by decide +kernel, by decide +kernel⟩
set_option maxRecDepth 20000 in
theorem mi_Mo_copy : MIt m_Mo_copy 4 := ⟨tb_mem 1744 (by decide +kernel) rfl, tb_mem 104 (by decide +kernel) rfl, tb_mem 123 (by decide +kernel) rfl, tb_mem 1745 rfl rfl, by decide +kernel, by decide +kernel, by decide +kernel⟩
set_option maxRecDepth 20000 in
theorem mi_Mo_makeLike : MIt m_Mo_makeLike 6 := ⟨tb_mem 1748 (by decide +kernel) rfl, tb_mem 105 (by decide +kernel) rfl, tb_mem 123 (by decide +kernel) rfl, tb_mem 1749 rfl rfl, by decide +kernel, by decide +kernel, by decide +kernel⟩
set_option maxRecDepth 20000 in
theorem mi_Mo_named : MIt m_Mo_named 5 := ⟨tb_mem 1752 (by decide +kernel) rfl, tb_mem 106 (by decide +kernel) rfl, tb_mem 123 (by decide +kernel) rfl, tb_mem 1753 rfl rfl, by decide +kernel, by decide +kernel, by decide +kernel⟩
set_option maxRecDepth 20000 in
theorem mi_Mo_openPair : MIt m_Mo_openPair 5 := ⟨tb_mem 1756 (by decide +kernel) rfl, tb_mem 107 (by decide +kernel) rfl, tb_mem 123 (by decide +kernel) rfl, tb_mem 1757 rfl rfl, by decide +kernel, by decide +kernel, by decide +kernel⟩
set_option maxRecDepth 20000 in
theorem mi_Mo_firstOf : MIt m_Mo_firstOf 3 := ⟨tb_mem 1760 (by decide +kernel) rfl, tb_mem 108 (by decide +kernel) rfl, tb_mem 123 (by decide +kernel) rfl, tb_mem 1761 rfl rfl, by decide +kernel, by decide +kernel, by decide +kernel⟩
set_option maxRecDepth 20000 in
theorem mi_Mo_nextOf : MIt m_Mo_nextOf 2 := ⟨tb_mem 1764 (by decide +kernel) rfl, tb_mem 109 (by decide +kernel) rfl, tb_mem 123 (by decide +kernel) rfl, tb_mem 1765 rfl rfl, by decide +kernel, by decide +kernel, by decide +kernel⟩
set_option maxRecDepth 20000 in
theorem mi_Mo_patch : MIt m_Mo_patch 3 := ⟨tb_mem 1767 (by decide +kernel) rfl, tb_mem 1768 (by decide +kernel) rfl, tb_mem 123 (by decide +kernel) rfl, tb_mem 1769 rfl rfl, by decide +kernel, by decide +kernel, by decide +kernel⟩
set_option maxRecDepth 20000 in
theorem mi_Mo_hasNull : MIt m_Mo_hasNull 2 := ⟨tb_mem 1772 (by decide +kernel) rfl, tb_mem 110 (by decide +kernel) rfl, tb_mem 123 (by decide +kernel) rfl, tb_mem 1773 rfl rfl, by decide +kernel, by decide +kernel, by decide +kernel⟩
set_option maxRecDepth 20000 in
theorem mi_Mo_part : MIt m_Mo_part 3 := ⟨tb_mem 1775 (by decide +kernel) rfl, tb_mem 1776 (by decide +kernel) rfl, tb_mem 123 (by decide +kernel) rfl, tb_mem 1777 rfl rfl, by decide +kernel, by decide +kernel, by decide +kernel⟩
set_option maxRecDepth 20000 in
theorem mi_Mo_about : MIt m_Mo_about 1 := ⟨tb_mem 1779 (by decide +kernel) rfl, tb_mem 1780 (by decide +kernel) rfl, tb_mem 123 (by decide +kernel) rfl, tb_mem 1781 rfl rfl, by decide +kernel, by decide +kernel, by decide +kernel⟩
