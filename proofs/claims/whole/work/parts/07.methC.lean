set_option maxRecDepth 100000 in
theorem mtX0_join : isM yX0_join cX0_join 12 (some .int) 3 := ⟨⟨in_gtb 798 (by decide +kernel) (by decide +kernel), in_gtb 799 (by decide +kernel) (by decide +kernel), in_gtb 116 (by decide +kernel) (by decide +kernel), in_gtb 800 rfl rfl⟩, by decide +kernel, by decide +kernel, by decide +kernel⟩
set_option maxRecDepth 100000 in
theorem mtX0_keyOf : isM yX0_keyOf cX0_keyOf 2 (some .int) 1 := ⟨⟨in_gtb 818 (by decide +kernel) (by decide +kernel), in_gtb 38 (by decide +kernel) (by decide +kernel), in_gtb 116 (by decide +kernel) (by decide +kernel), in_gtb 819 rfl rfl⟩, by decide +kernel, by decide +kernel, by decide +kernel⟩
set_option maxRecDepth 100000 in
theorem mtX0_howOfPart : isM yX0_howOfPart cX0_howOfPart 5 (some .int) 2 := ⟨⟨in_gtb 823 (by decide +kernel) (by decide +kernel), in_gtb 39 (by decide +kernel) (by decide +kernel), in_gtb 116 (by decide +kernel) (by decide +kernel), in_gtb 824 rfl rfl⟩, by decide +kernel, by decide +kernel, by decide +kernel⟩
set_option maxRecDepth 100000 in
theorem mtX0_lonePart : isM yX0_lonePart cX0_lonePart 6 (some .int) 3 := ⟨⟨in_gtb 827 (by decide +kernel) (by decide +kernel), in_gtb 40 (by decide +kernel) (by decide +kernel), in_gtb 116 (by decide +kernel) (by decide +kernel), in_gtb 828 rfl rfl⟩, by decide +kernel, by decide +kernel, by decide +kernel⟩
set_option maxRecDepth 100000 in
theorem mtX0_joinTop : isM yX0_joinTop cX0_joinTop 10 (some .int) 3 := ⟨⟨in_gtb 804 (by decide +kernel) (by decide +kernel), in_gtb 35 (by decide +kernel) (by decide +kernel), in_gtb 116 (by decide +kernel) (by decide +kernel), in_gtb 805 rfl rfl⟩, by decide +kernel, by decide +kernel, by decide +kernel⟩
set_option maxRecDepth 100000 in
theorem mtX0_madeFor : isM yX0_madeFor cX0_madeFor 3 (some .int) 1 := ⟨⟨in_gtb 809 (by decide +kernel) (by decide +kernel), in_gtb 36 (by decide +kernel) (by decide +kernel), in_gtb 116 (by decide +kernel) (by decide +kernel), in_gtb 810 rfl rfl⟩, by decide +kernel, by decide +kernel, by decide +kernel⟩
set_option maxRecDepth 100000 in
theorem mtX0_makeFor : isM yX0_makeFor cX0_makeFor 4 (some .int) 2 := ⟨⟨in_gtb 813 (by decide +kernel) (by decide +kernel), in_gtb 37 (by decide +kernel) (by decide +kernel), in_gtb 116 (by decide +kernel) (by decide +kernel), in_gtb 814 rfl rfl⟩, by decide +kernel, by decide +kernel, by decide +kernel⟩
set_option maxRecDepth 100000 in
theorem mtX1_empty : isM yX1_empty cX1_empty 1 none 0 := ⟨⟨in_gtb 487 (by decide +kernel) (by decide +kernel), in_gtb 488 (by decide +kernel) (by decide +kernel), in_gtb 123 (by decide +kernel) (by decide +kernel), in_gtb 489 rfl rfl⟩, by decide +kernel, by decide +kernel, by decide +kernel⟩
set_option maxRecDepth 100000 in
theorem mtX1_add : isM yX1_add cX1_add 3 (some .int) 2 := ⟨⟨in_gtb 949 (by decide +kernel) (by decide +kernel), in_gtb 950 (by decide +kernel) (by decide +kernel), in_gtb 123 (by decide +kernel) (by decide +kernel), in_gtb 951 rfl rfl⟩, by decide +kernel, by decide +kernel, by decide +kernel⟩
set_option maxRecDepth 100000 in
theorem mtX1_valueAt : isM yX1_valueAt cX1_valueAt 5 (some .int) 2 := ⟨⟨in_gtb 994 (by decide +kernel) (by decide +kernel), in_gtb 995 (by decide +kernel) (by decide +kernel), in_gtb 123 (by decide +kernel) (by decide +kernel), in_gtb 996 rfl rfl⟩, by decide +kernel, by decide +kernel, by decide +kernel⟩
set_option maxRecDepth 100000 in
theorem mtX2_misfitPlace : isM yX2_misfitPlace cX2_misfitPlace 1 (some .int) 0 := ⟨⟨in_gtb 844 (by decide +kernel) (by decide +kernel), in_gtb 845 (by decide +kernel) (by decide +kernel), in_gtb 120 (by decide +kernel) (by decide +kernel), in_gtb 846 rfl rfl⟩, by decide +kernel, by decide +kernel, by decide +kernel⟩
set_option maxRecDepth 100000 in
theorem mtX2_check : isM yX2_check cX2_check 7 (some .int) 1 := ⟨⟨in_gtb 678 (by decide +kernel) (by decide +kernel), in_gtb 679 (by decide +kernel) (by decide +kernel), in_gtb 120 (by decide +kernel) (by decide +kernel), in_gtb 680 rfl rfl⟩, by decide +kernel, by decide +kernel, by decide +kernel⟩
set_option maxRecDepth 100000 in
theorem mtX2_setType : isM yX2_setType cX2_setType 3 none 2 := ⟨⟨in_gtb 833 (by decide +kernel) (by decide +kernel), in_gtb 41 (by decide +kernel) (by decide +kernel), in_gtb 120 (by decide +kernel) (by decide +kernel), in_gtb 834 rfl rfl⟩, by decide +kernel, by decide +kernel, by decide +kernel⟩
set_option maxRecDepth 100000 in
theorem mtX2_push : isM yX2_push cX2_push 2 none 1 := ⟨⟨in_gtb 683 (by decide +kernel) (by decide +kernel), in_gtb 17 (by decide +kernel) (by decide +kernel), in_gtb 120 (by decide +kernel) (by decide +kernel), in_gtb 684 rfl rfl⟩, by decide +kernel, by decide +kernel, by decide +kernel⟩
set_option maxRecDepth 100000 in
theorem mtX2_bindIn : isM yX2_bindIn cX2_bindIn 6 (some .int) 3 := ⟨⟨in_gtb 837 (by decide +kernel) (by decide +kernel), in_gtb 42 (by decide +kernel) (by decide +kernel), in_gtb 120 (by decide +kernel) (by decide +kernel), in_gtb 838 rfl rfl⟩, by decide +kernel, by decide +kernel, by decide +kernel⟩
set_option maxRecDepth 100000 in
theorem mtX2_typeOfCase : isM yX2_typeOfCase cX2_typeOfCase 5 (some .int) 2 := ⟨⟨in_gtb 841 (by decide +kernel) (by decide +kernel), in_gtb 43 (by decide +kernel) (by decide +kernel), in_gtb 120 (by decide +kernel) (by decide +kernel), in_gtb 842 rfl rfl⟩, by decide +kernel, by decide +kernel, by decide +kernel⟩
set_option maxRecDepth 100000 in
theorem mtX2_typeIn : isM yX2_typeIn cX2_typeIn 4 (some .int) 2 := ⟨⟨in_gtb 713 (by decide +kernel) (by decide +kernel), in_gtb 20 (by decide +kernel) (by decide +kernel), in_gtb 120 (by decide +kernel) (by decide +kernel), in_gtb 714 rfl rfl⟩, by decide +kernel, by decide +kernel, by decide +kernel⟩
set_option maxRecDepth 100000 in
theorem mtX2_joinBranches : isM yX2_joinBranches cX2_joinBranches 8 (some .int) 2 := ⟨⟨in_gtb 795 (by decide +kernel) (by decide +kernel), in_gtb 34 (by decide +kernel) (by decide +kernel), in_gtb 120 (by decide +kernel) (by decide +kernel), in_gtb 796 rfl rfl⟩, by decide +kernel, by decide +kernel, by decide +kernel⟩
set_option maxRecDepth 100000 in
theorem mtX2_typeOf : isM yX2_typeOf cX2_typeOf 2 (some .int) 1 := ⟨⟨in_gtb 700 (by decide +kernel) (by decide +kernel), in_gtb 18 (by decide +kernel) (by decide +kernel), in_gtb 120 (by decide +kernel) (by decide +kernel), in_gtb 701 rfl rfl⟩, by decide +kernel, by decide +kernel, by decide +kernel⟩
set_option maxRecDepth 100000 in
theorem mtX2_isOrNothing : isM yX2_isOrNothing cX2_isOrNothing 3 (some .boolean) 2 := ⟨⟨in_gtb 765 (by decide +kernel) (by decide +kernel), in_gtb 28 (by decide +kernel) (by decide +kernel), in_gtb 120 (by decide +kernel) (by decide +kernel), in_gtb 766 rfl rfl⟩, by decide +kernel, by decide +kernel, by decide +kernel⟩
set_option maxRecDepth 100000 in
theorem mtX2_bothNumbers : isM yX2_bothNumbers cX2_bothNumbers 2 (some .boolean) 1 := ⟨⟨in_gtb 761 (by decide +kernel) (by decide +kernel), in_gtb 27 (by decide +kernel) (by decide +kernel), in_gtb 120 (by decide +kernel) (by decide +kernel), in_gtb 762 rfl rfl⟩, by decide +kernel, by decide +kernel, by decide +kernel⟩
set_option maxRecDepth 100000 in
theorem mtX2_typeOfVariable : isM yX2_typeOfVariable cX2_typeOfVariable 2 (some .int) 1 := ⟨⟨in_gtb 709 (by decide +kernel) (by decide +kernel), in_gtb 19 (by decide +kernel) (by decide +kernel), in_gtb 120 (by decide +kernel) (by decide +kernel), in_gtb 710 rfl rfl⟩, by decide +kernel, by decide +kernel, by decide +kernel⟩
set_option maxRecDepth 100000 in
theorem mtX2_typeOfLambda : isM yX2_typeOfLambda cX2_typeOfLambda 4 (some .int) 2 := ⟨⟨in_gtb 718 (by decide +kernel) (by decide +kernel), in_gtb 21 (by decide +kernel) (by decide +kernel), in_gtb 120 (by decide +kernel) (by decide +kernel), in_gtb 719 rfl rfl⟩, by decide +kernel, by decide +kernel, by decide +kernel⟩
set_option maxRecDepth 100000 in
theorem mtX2_typeOfApply : isM yX2_typeOfApply cX2_typeOfApply 4 (some .int) 2 := ⟨⟨in_gtb 728 (by decide +kernel) (by decide +kernel), in_gtb 22 (by decide +kernel) (by decide +kernel), in_gtb 120 (by decide +kernel) (by decide +kernel), in_gtb 729 rfl rfl⟩, by decide +kernel, by decide +kernel, by decide +kernel⟩
set_option maxRecDepth 100000 in
theorem mtX2_typeOfGather : isM yX2_typeOfGather cX2_typeOfGather 4 (some .int) 1 := ⟨⟨in_gtb 769 (by decide +kernel) (by decide +kernel), in_gtb 29 (by decide +kernel) (by decide +kernel), in_gtb 120 (by decide +kernel) (by decide +kernel), in_gtb 770 rfl rfl⟩, by decide +kernel, by decide +kernel, by decide +kernel⟩
set_option maxRecDepth 100000 in
theorem mtX2_typeOfPick : isM yX2_typeOfPick cX2_typeOfPick 4 (some .int) 2 := ⟨⟨in_gtb 778 (by decide +kernel) (by decide +kernel), in_gtb 30 (by decide +kernel) (by decide +kernel), in_gtb 120 (by decide +kernel) (by decide +kernel), in_gtb 779 rfl rfl⟩, by decide +kernel, by decide +kernel, by decide +kernel⟩
set_option maxRecDepth 100000 in
theorem mtX2_typeOfTag : isM yX2_typeOfTag cX2_typeOfTag 4 (some .int) 3 := ⟨⟨in_gtb 782 (by decide +kernel) (by decide +kernel), in_gtb 31 (by decide +kernel) (by decide +kernel), in_gtb 120 (by decide +kernel) (by decide +kernel), in_gtb 783 rfl rfl⟩, by decide +kernel, by decide +kernel, by decide +kernel⟩
set_option maxRecDepth 100000 in
theorem mtX2_typeOfSort : isM yX2_typeOfSort cX2_typeOfSort 5 (some .int) 1 := ⟨⟨in_gtb 786 (by decide +kernel) (by decide +kernel), in_gtb 32 (by decide +kernel) (by decide +kernel), in_gtb 120 (by decide +kernel) (by decide +kernel), in_gtb 787 rfl rfl⟩, by decide +kernel, by decide +kernel, by decide +kernel⟩
set_option maxRecDepth 100000 in
theorem mtX2_typeOfItself : isM yX2_typeOfItself cX2_typeOfItself 3 (some .int) 2 := ⟨⟨in_gtb 791 (by decide +kernel) (by decide +kernel), in_gtb 33 (by decide +kernel) (by decide +kernel), in_gtb 120 (by decide +kernel) (by decide +kernel), in_gtb 792 rfl rfl⟩, by decide +kernel, by decide +kernel, by decide +kernel⟩
set_option maxRecDepth 100000 in
theorem mtX3_size : isM yX3_size cX3_size 1 (some .int) 0 := ⟨⟨in_gtb 471 (by decide +kernel) (by decide +kernel), in_gtb 472 (by decide +kernel) (by decide +kernel), in_gtb 114 (by decide +kernel) (by decide +kernel), in_gtb 473 rfl rfl⟩, by decide +kernel, by decide +kernel, by decide +kernel⟩
set_option maxRecDepth 100000 in
theorem mtX3_has : isM yX3_has cX3_has 2 (some .boolean) 1 := ⟨⟨in_gtb 856 (by decide +kernel) (by decide +kernel), in_gtb 857 (by decide +kernel) (by decide +kernel), in_gtb 114 (by decide +kernel) (by decide +kernel), in_gtb 858 rfl rfl⟩, by decide +kernel, by decide +kernel, by decide +kernel⟩
set_option maxRecDepth 100000 in
theorem mtX3_kindOf : isM yX3_kindOf cX3_kindOf 2 (some .int) 1 := ⟨⟨in_gtb 515 (by decide +kernel) (by decide +kernel), in_gtb 516 (by decide +kernel) (by decide +kernel), in_gtb 114 (by decide +kernel) (by decide +kernel), in_gtb 517 rfl rfl⟩, by decide +kernel, by decide +kernel, by decide +kernel⟩
set_option maxRecDepth 100000 in
theorem mtX3_labelsOf : isM yX3_labelsOf cX3_labelsOf 2 (some .int) 1 := ⟨⟨in_gtb 751 (by decide +kernel) (by decide +kernel), in_gtb 752 (by decide +kernel) (by decide +kernel), in_gtb 114 (by decide +kernel) (by decide +kernel), in_gtb 753 rfl rfl⟩, by decide +kernel, by decide +kernel, by decide +kernel⟩
set_option maxRecDepth 100000 in
theorem mtX3_partOf : isM yX3_partOf cX3_partOf 4 (some .int) 2 := ⟨⟨in_gtb 665 (by decide +kernel) (by decide +kernel), in_gtb 666 (by decide +kernel) (by decide +kernel), in_gtb 114 (by decide +kernel) (by decide +kernel), in_gtb 667 rfl rfl⟩, by decide +kernel, by decide +kernel, by decide +kernel⟩
set_option maxRecDepth 100000 in
theorem mtX3_make : isM yX3_make cX3_make 2 (some .int) 1 := ⟨⟨in_gtb 721 (by decide +kernel) (by decide +kernel), in_gtb 722 (by decide +kernel) (by decide +kernel), in_gtb 114 (by decide +kernel) (by decide +kernel), in_gtb 723 rfl rfl⟩, by decide +kernel, by decide +kernel, by decide +kernel⟩
set_option maxRecDepth 100000 in
theorem mtX3_draft : isM yX3_draft cX3_draft 2 (some .int) 1 := ⟨⟨in_gtb 565 (by decide +kernel) (by decide +kernel), in_gtb 566 (by decide +kernel) (by decide +kernel), in_gtb 114 (by decide +kernel) (by decide +kernel), in_gtb 567 rfl rfl⟩, by decide +kernel, by decide +kernel, by decide +kernel⟩
set_option maxRecDepth 100000 in
theorem mtX3_setPart : isM yX3_setPart cX3_setPart 4 none 3 := ⟨⟨in_gtb 557 (by decide +kernel) (by decide +kernel), in_gtb 558 (by decide +kernel) (by decide +kernel), in_gtb 114 (by decide +kernel) (by decide +kernel), in_gtb 559 rfl rfl⟩, by decide +kernel, by decide +kernel, by decide +kernel⟩
set_option maxRecDepth 100000 in
theorem mtX3_cutTo : isM yX3_cutTo cX3_cutTo 2 none 1 := ⟨⟨in_gtb 475 (by decide +kernel) (by decide +kernel), in_gtb 476 (by decide +kernel) (by decide +kernel), in_gtb 114 (by decide +kernel) (by decide +kernel), in_gtb 477 rfl rfl⟩, by decide +kernel, by decide +kernel, by decide +kernel⟩
set_option maxRecDepth 100000 in
theorem mtX4_values : isM yX4_values cX4_values 1 (some (.object "RoundTypes$Values")) 0 := ⟨⟨in_gtb 1022 (by decide +kernel) (by decide +kernel), in_gtb 1023 (by decide +kernel) (by decide +kernel), in_gtb 121 (by decide +kernel) (by decide +kernel), in_gtb 1024 rfl rfl⟩, by decide +kernel, by decide +kernel, by decide +kernel⟩
set_option maxRecDepth 100000 in
theorem mtX4_steps : isM yX4_steps cX4_steps 1 (some .int) 0 := ⟨⟨in_gtb 1045 (by decide +kernel) (by decide +kernel), in_gtb 1046 (by decide +kernel) (by decide +kernel), in_gtb 121 (by decide +kernel) (by decide +kernel), in_gtb 1047 rfl rfl⟩, by decide +kernel, by decide +kernel, by decide +kernel⟩
set_option maxRecDepth 100000 in
theorem mtX4_forget : isM yX4_forget cX4_forget 1 none 0 := ⟨⟨in_gtb 479 (by decide +kernel) (by decide +kernel), in_gtb 480 (by decide +kernel) (by decide +kernel), in_gtb 121 (by decide +kernel) (by decide +kernel), in_gtb 481 rfl rfl⟩, by decide +kernel, by decide +kernel, by decide +kernel⟩
set_option maxRecDepth 100000 in
theorem mtX4_perform : isM yX4_perform cX4_perform 4 (some .int) 2 := ⟨⟨in_gtb 907 (by decide +kernel) (by decide +kernel), in_gtb 908 (by decide +kernel) (by decide +kernel), in_gtb 121 (by decide +kernel) (by decide +kernel), in_gtb 909 rfl rfl⟩, by decide +kernel, by decide +kernel, by decide +kernel⟩
set_option maxRecDepth 100000 in
theorem mtX4_want : isM yX4_want cX4_want 3 none 2 := ⟨⟨in_gtb 913 (by decide +kernel) (by decide +kernel), in_gtb 46 (by decide +kernel) (by decide +kernel), in_gtb 121 (by decide +kernel) (by decide +kernel), in_gtb 914 rfl rfl⟩, by decide +kernel, by decide +kernel, by decide +kernel⟩
set_option maxRecDepth 100000 in
theorem mtX4_give : isM yX4_give cX4_give 2 none 1 := ⟨⟨in_gtb 962 (by decide +kernel) (by decide +kernel), in_gtb 51 (by decide +kernel) (by decide +kernel), in_gtb 121 (by decide +kernel) (by decide +kernel), in_gtb 963 rfl rfl⟩, by decide +kernel, by decide +kernel, by decide +kernel⟩
set_option maxRecDepth 100000 in
theorem mtX4_begin : isM yX4_begin cX4_begin 3 none 2 := ⟨⟨in_gtb 991 (by decide +kernel) (by decide +kernel), in_gtb 56 (by decide +kernel) (by decide +kernel), in_gtb 121 (by decide +kernel) (by decide +kernel), in_gtb 992 rfl rfl⟩, by decide +kernel, by decide +kernel, by decide +kernel⟩
set_option maxRecDepth 100000 in
theorem mtX4_beginLambda : isM yX4_beginLambda cX4_beginLambda 4 none 2 := ⟨⟨in_gtb 999 (by decide +kernel) (by decide +kernel), in_gtb 57 (by decide +kernel) (by decide +kernel), in_gtb 121 (by decide +kernel) (by decide +kernel), in_gtb 1000 rfl rfl⟩, by decide +kernel, by decide +kernel, by decide +kernel⟩
set_option maxRecDepth 100000 in
theorem mtX4_beginItself : isM yX4_beginItself cX4_beginItself 4 none 2 := ⟨⟨in_gtb 1007 (by decide +kernel) (by decide +kernel), in_gtb 58 (by decide +kernel) (by decide +kernel), in_gtb 121 (by decide +kernel) (by decide +kernel), in_gtb 1008 rfl rfl⟩, by decide +kernel, by decide +kernel, by decide +kernel⟩
set_option maxRecDepth 100000 in
theorem mtX4_beginOpen : isM yX4_beginOpen cX4_beginOpen 3 none 2 := ⟨⟨in_gtb 1011 (by decide +kernel) (by decide +kernel), in_gtb 59 (by decide +kernel) (by decide +kernel), in_gtb 121 (by decide +kernel) (by decide +kernel), in_gtb 1012 rfl rfl⟩, by decide +kernel, by decide +kernel, by decide +kernel⟩
set_option maxRecDepth 100000 in
theorem mtX4_push : isM yX4_push cX4_push 3 none 2 := ⟨⟨in_gtb 1015 (by decide +kernel) (by decide +kernel), in_gtb 60 (by decide +kernel) (by decide +kernel), in_gtb 121 (by decide +kernel) (by decide +kernel), in_gtb 1016 rfl rfl⟩, by decide +kernel, by decide +kernel, by decide +kernel⟩
set_option maxRecDepth 100000 in
theorem mtX4_resume : isM yX4_resume cX4_resume 3 none 0 := ⟨⟨in_gtb 918 (by decide +kernel) (by decide +kernel), in_gtb 47 (by decide +kernel) (by decide +kernel), in_gtb 121 (by decide +kernel) (by decide +kernel), in_gtb 919 rfl rfl⟩, by decide +kernel, by decide +kernel, by decide +kernel⟩
set_option maxRecDepth 100000 in
theorem mtX4_gottenBy : isM yX4_gottenBy cX4_gottenBy 3 (some .int) 2 := ⟨⟨in_gtb 929 (by decide +kernel) (by decide +kernel), in_gtb 49 (by decide +kernel) (by decide +kernel), in_gtb 121 (by decide +kernel) (by decide +kernel), in_gtb 930 rfl rfl⟩, by decide +kernel, by decide +kernel, by decide +kernel⟩
set_option maxRecDepth 100000 in
theorem mtX4_neededBy : isM yX4_neededBy cX4_neededBy 3 (some .int) 1 := ⟨⟨in_gtb 922 (by decide +kernel) (by decide +kernel), in_gtb 48 (by decide +kernel) (by decide +kernel), in_gtb 121 (by decide +kernel) (by decide +kernel), in_gtb 923 rfl rfl⟩, by decide +kernel, by decide +kernel, by decide +kernel⟩
set_option maxRecDepth 100000 in
theorem mtX4_finish : isM yX4_finish cX4_finish 4 none 3 := ⟨⟨in_gtb 933 (by decide +kernel) (by decide +kernel), in_gtb 50 (by decide +kernel) (by decide +kernel), in_gtb 121 (by decide +kernel) (by decide +kernel), in_gtb 934 rfl rfl⟩, by decide +kernel, by decide +kernel, by decide +kernel⟩
set_option maxRecDepth 100000 in
theorem mtX4_gather : isM yX4_gather cX4_gather 6 (some .int) 2 := ⟨⟨in_gtb 966 (by decide +kernel) (by decide +kernel), in_gtb 52 (by decide +kernel) (by decide +kernel), in_gtb 121 (by decide +kernel) (by decide +kernel), in_gtb 967 rfl rfl⟩, by decide +kernel, by decide +kernel, by decide +kernel⟩
set_option maxRecDepth 100000 in
theorem mtX4_tag : isM yX4_tag cX4_tag 4 (some .int) 2 := ⟨⟨in_gtb 979 (by decide +kernel) (by decide +kernel), in_gtb 53 (by decide +kernel) (by decide +kernel), in_gtb 121 (by decide +kernel) (by decide +kernel), in_gtb 980 rfl rfl⟩, by decide +kernel, by decide +kernel, by decide +kernel⟩
set_option maxRecDepth 100000 in
theorem mtX4_partOfChoice : isM yX4_partOfChoice cX4_partOfChoice 2 (some .int) 1 := ⟨⟨in_gtb 987 (by decide +kernel) (by decide +kernel), in_gtb 55 (by decide +kernel) (by decide +kernel), in_gtb 121 (by decide +kernel) (by decide +kernel), in_gtb 988 rfl rfl⟩, by decide +kernel, by decide +kernel, by decide +kernel⟩
set_option maxRecDepth 100000 in
theorem mtX4_caseFor : isM yX4_caseFor cX4_caseFor 4 (some .int) 2 := ⟨⟨in_gtb 983 (by decide +kernel) (by decide +kernel), in_gtb 54 (by decide +kernel) (by decide +kernel), in_gtb 121 (by decide +kernel) (by decide +kernel), in_gtb 984 rfl rfl⟩, by decide +kernel, by decide +kernel, by decide +kernel⟩
set_option maxRecDepth 100000 in
theorem mtX5_distance : isM yX5_distance cX5_distance 4 (some .int) 2 := ⟨⟨in_gtb 872 (by decide +kernel) (by decide +kernel), in_gtb 873 (by decide +kernel) (by decide +kernel), in_gtb 115 (by decide +kernel) (by decide +kernel), in_gtb 874 rfl rfl⟩, by decide +kernel, by decide +kernel, by decide +kernel⟩
set_option maxRecDepth 100000 in
theorem mtX5_labelOnWay : isM yX5_labelOnWay cX5_labelOnWay 7 (some .int) 3 := ⟨⟨in_gtb 889 (by decide +kernel) (by decide +kernel), in_gtb 890 (by decide +kernel) (by decide +kernel), in_gtb 115 (by decide +kernel) (by decide +kernel), in_gtb 891 rfl rfl⟩, by decide +kernel, by decide +kernel, by decide +kernel⟩
set_option maxRecDepth 100000 in
theorem mtX5_stepsTo : isM yX5_stepsTo cX5_stepsTo 4 (some .int) 1 := ⟨⟨in_gtb 878 (by decide +kernel) (by decide +kernel), in_gtb 44 (by decide +kernel) (by decide +kernel), in_gtb 115 (by decide +kernel) (by decide +kernel), in_gtb 879 rfl rfl⟩, by decide +kernel, by decide +kernel, by decide +kernel⟩
set_option maxRecDepth 100000 in
theorem mtX5_cameFrom : isM yX5_cameFrom cX5_cameFrom 2 (some .int) 1 := ⟨⟨in_gtb 882 (by decide +kernel) (by decide +kernel), in_gtb 45 (by decide +kernel) (by decide +kernel), in_gtb 115 (by decide +kernel) (by decide +kernel), in_gtb 883 rfl rfl⟩, by decide +kernel, by decide +kernel, by decide +kernel⟩
set_option maxRecDepth 100000 in
theorem mtX5_search : isM yX5_search cX5_search 6 (some .int) 2 := ⟨⟨in_gtb 733 (by decide +kernel) (by decide +kernel), in_gtb 734 (by decide +kernel) (by decide +kernel), in_gtb 115 (by decide +kernel) (by decide +kernel), in_gtb 735 rfl rfl⟩, by decide +kernel, by decide +kernel, by decide +kernel⟩
set_option maxRecDepth 100000 in
theorem mtX5_forget : isM yX5_forget cX5_forget 3 none 0 := ⟨⟨in_gtb 738 (by decide +kernel) (by decide +kernel), in_gtb 23 (by decide +kernel) (by decide +kernel), in_gtb 115 (by decide +kernel) (by decide +kernel), in_gtb 739 rfl rfl⟩, by decide +kernel, by decide +kernel, by decide +kernel⟩
set_option maxRecDepth 100000 in
theorem mtX5_fitAtSight : isM yX5_fitAtSight cX5_fitAtSight 4 (some .boolean) 2 := ⟨⟨in_gtb 747 (by decide +kernel) (by decide +kernel), in_gtb 25 (by decide +kernel) (by decide +kernel), in_gtb 115 (by decide +kernel) (by decide +kernel), in_gtb 748 rfl rfl⟩, by decide +kernel, by decide +kernel, by decide +kernel⟩
set_option maxRecDepth 100000 in
theorem mtX5_enterParts : isM yX5_enterParts cX5_enterParts 8 none 3 := ⟨⟨in_gtb 756 (by decide +kernel) (by decide +kernel), in_gtb 26 (by decide +kernel) (by decide +kernel), in_gtb 115 (by decide +kernel) (by decide +kernel), in_gtb 757 rfl rfl⟩, by decide +kernel, by decide +kernel, by decide +kernel⟩
set_option maxRecDepth 100000 in
theorem mtX5_enter : isM yX5_enter cX5_enter 8 none 4 := ⟨⟨in_gtb 743 (by decide +kernel) (by decide +kernel), in_gtb 24 (by decide +kernel) (by decide +kernel), in_gtb 115 (by decide +kernel) (by decide +kernel), in_gtb 744 rfl rfl⟩, by decide +kernel, by decide +kernel, by decide +kernel⟩
set_option maxRecDepth 100000 in
theorem mtX6_start : isM yX6_start cX6_start 2 none 1 := ⟨⟨in_gtb 593 (by decide +kernel) (by decide +kernel), in_gtb 594 (by decide +kernel) (by decide +kernel), in_gtb 117 (by decide +kernel) (by decide +kernel), in_gtb 595 rfl rfl⟩, by decide +kernel, by decide +kernel, by decide +kernel⟩
set_option maxRecDepth 100000 in
theorem mtX6_add : isM yX6_add cX6_add 2 none 1 := ⟨⟨in_gtb 628 (by decide +kernel) (by decide +kernel), in_gtb 629 (by decide +kernel) (by decide +kernel), in_gtb 117 (by decide +kernel) (by decide +kernel), in_gtb 630 rfl rfl⟩, by decide +kernel, by decide +kernel, by decide +kernel⟩
set_option maxRecDepth 100000 in
theorem mtX6_addKid : isM yX6_addKid cX6_addKid 3 none 2 := ⟨⟨in_gtb 632 (by decide +kernel) (by decide +kernel), in_gtb 633 (by decide +kernel) (by decide +kernel), in_gtb 117 (by decide +kernel) (by decide +kernel), in_gtb 634 rfl rfl⟩, by decide +kernel, by decide +kernel, by decide +kernel⟩
set_option maxRecDepth 100000 in
theorem mtX6_setOuter : isM yX6_setOuter cX6_setOuter 3 none 2 := ⟨⟨in_gtb 636 (by decide +kernel) (by decide +kernel), in_gtb 637 (by decide +kernel) (by decide +kernel), in_gtb 117 (by decide +kernel) (by decide +kernel), in_gtb 638 rfl rfl⟩, by decide +kernel, by decide +kernel, by decide +kernel⟩
set_option maxRecDepth 100000 in
theorem mtX6_setHome : isM yX6_setHome cX6_setHome 3 none 2 := ⟨⟨in_gtb 654 (by decide +kernel) (by decide +kernel), in_gtb 655 (by decide +kernel) (by decide +kernel), in_gtb 117 (by decide +kernel) (by decide +kernel), in_gtb 656 rfl rfl⟩, by decide +kernel, by decide +kernel, by decide +kernel⟩
set_option maxRecDepth 100000 in
theorem mtX6_word : isM yX6_word cX6_word 2 (some .int) 1 := ⟨⟨in_gtb 609 (by decide +kernel) (by decide +kernel), in_gtb 610 (by decide +kernel) (by decide +kernel), in_gtb 117 (by decide +kernel) (by decide +kernel), in_gtb 611 rfl rfl⟩, by decide +kernel, by decide +kernel, by decide +kernel⟩
set_option maxRecDepth 100000 in
theorem mtX6_kidCount : isM yX6_kidCount cX6_kidCount 2 (some .int) 1 := ⟨⟨in_gtb 690 (by decide +kernel) (by decide +kernel), in_gtb 691 (by decide +kernel) (by decide +kernel), in_gtb 117 (by decide +kernel) (by decide +kernel), in_gtb 692 rfl rfl⟩, by decide +kernel, by decide +kernel, by decide +kernel⟩
set_option maxRecDepth 100000 in
theorem mtX6_kid : isM yX6_kid cX6_kid 4 (some .int) 2 := ⟨⟨in_gtb 695 (by decide +kernel) (by decide +kernel), in_gtb 696 (by decide +kernel) (by decide +kernel), in_gtb 117 (by decide +kernel) (by decide +kernel), in_gtb 697 rfl rfl⟩, by decide +kernel, by decide +kernel, by decide +kernel⟩
set_option maxRecDepth 100000 in
theorem mtX6_kidInTurn : isM yX6_kidInTurn cX6_kidInTurn 4 (some .int) 2 := ⟨⟨in_gtb 686 (by decide +kernel) (by decide +kernel), in_gtb 687 (by decide +kernel) (by decide +kernel), in_gtb 117 (by decide +kernel) (by decide +kernel), in_gtb 688 rfl rfl⟩, by decide +kernel, by decide +kernel, by decide +kernel⟩
set_option maxRecDepth 100000 in
theorem mtX6_labelOf : isM yX6_labelOf cX6_labelOf 2 (some .int) 1 := ⟨⟨in_gtb 773 (by decide +kernel) (by decide +kernel), in_gtb 774 (by decide +kernel) (by decide +kernel), in_gtb 117 (by decide +kernel) (by decide +kernel), in_gtb 775 rfl rfl⟩, by decide +kernel, by decide +kernel, by decide +kernel⟩
set_option maxRecDepth 100000 in
theorem mtX6_outer : isM yX6_outer cX6_outer 2 (some .int) 1 := ⟨⟨in_gtb 649 (by decide +kernel) (by decide +kernel), in_gtb 650 (by decide +kernel) (by decide +kernel), in_gtb 117 (by decide +kernel) (by decide +kernel), in_gtb 651 rfl rfl⟩, by decide +kernel, by decide +kernel, by decide +kernel⟩
set_option maxRecDepth 100000 in
theorem mtX6_home : isM yX6_home cX6_home 2 (some .int) 1 := ⟨⟨in_gtb 704 (by decide +kernel) (by decide +kernel), in_gtb 705 (by decide +kernel) (by decide +kernel), in_gtb 117 (by decide +kernel) (by decide +kernel), in_gtb 706 rfl rfl⟩, by decide +kernel, by decide +kernel, by decide +kernel⟩
set_option maxRecDepth 100000 in
theorem mtX7_read : isM yX7_read cX7_read 3 (some .boolean) 1 := ⟨⟨in_gtb 589 (by decide +kernel) (by decide +kernel), in_gtb 590 (by decide +kernel) (by decide +kernel), in_gtb 119 (by decide +kernel) (by decide +kernel), in_gtb 591 rfl rfl⟩, by decide +kernel, by decide +kernel, by decide +kernel⟩
set_option maxRecDepth 100000 in
theorem mtX7_wordAround : isM yX7_wordAround cX7_wordAround 1 (some .int) 0 := ⟨⟨in_gtb 606 (by decide +kernel) (by decide +kernel), in_gtb 8 (by decide +kernel) (by decide +kernel), in_gtb 119 (by decide +kernel) (by decide +kernel), in_gtb 607 rfl rfl⟩, by decide +kernel, by decide +kernel, by decide +kernel⟩
set_option maxRecDepth 100000 in
theorem mtX7_isCase : isM yX7_isCase cX7_isCase 1 (some .boolean) 0 := ⟨⟨in_gtb 614 (by decide +kernel) (by decide +kernel), in_gtb 9 (by decide +kernel) (by decide +kernel), in_gtb 119 (by decide +kernel) (by decide +kernel), in_gtb 615 rfl rfl⟩, by decide +kernel, by decide +kernel, by decide +kernel⟩
set_option maxRecDepth 100000 in
theorem mtX7_readLabel : isM yX7_readLabel cX7_readLabel 2 (some .boolean) 0 := ⟨⟨in_gtb 602 (by decide +kernel) (by decide +kernel), in_gtb 7 (by decide +kernel) (by decide +kernel), in_gtb 119 (by decide +kernel) (by decide +kernel), in_gtb 603 rfl rfl⟩, by decide +kernel, by decide +kernel, by decide +kernel⟩
set_option maxRecDepth 100000 in
theorem mtX7_readTerm : isM yX7_readTerm cX7_readTerm 5 (some .boolean) 0 := ⟨⟨in_gtb 620 (by decide +kernel) (by decide +kernel), in_gtb 10 (by decide +kernel) (by decide +kernel), in_gtb 119 (by decide +kernel) (by decide +kernel), in_gtb 621 rfl rfl⟩, by decide +kernel, by decide +kernel, by decide +kernel⟩
set_option maxRecDepth 100000 in
theorem mtX7_enter : isM yX7_enter cX7_enter 5 (some .int) 1 := ⟨⟨in_gtb 625 (by decide +kernel) (by decide +kernel), in_gtb 11 (by decide +kernel) (by decide +kernel), in_gtb 119 (by decide +kernel) (by decide +kernel), in_gtb 626 rfl rfl⟩, by decide +kernel, by decide +kernel, by decide +kernel⟩
set_option maxRecDepth 100000 in
theorem mtX7_readHead : isM yX7_readHead cX7_readHead 4 (some .int) 3 := ⟨⟨in_gtb 641 (by decide +kernel) (by decide +kernel), in_gtb 12 (by decide +kernel) (by decide +kernel), in_gtb 119 (by decide +kernel) (by decide +kernel), in_gtb 642 rfl rfl⟩, by decide +kernel, by decide +kernel, by decide +kernel⟩
set_option maxRecDepth 100000 in
theorem mtX7_readVariable : isM yX7_readVariable cX7_readVariable 5 (some .boolean) 2 := ⟨⟨in_gtb 645 (by decide +kernel) (by decide +kernel), in_gtb 13 (by decide +kernel) (by decide +kernel), in_gtb 119 (by decide +kernel) (by decide +kernel), in_gtb 646 rfl rfl⟩, by decide +kernel, by decide +kernel, by decide +kernel⟩
set_option maxRecDepth 100000 in
theorem mtX7_readTag : isM yX7_readTag cX7_readTag 3 (some .boolean) 1 := ⟨⟨in_gtb 661 (by decide +kernel) (by decide +kernel), in_gtb 14 (by decide +kernel) (by decide +kernel), in_gtb 119 (by decide +kernel) (by decide +kernel), in_gtb 662 rfl rfl⟩, by decide +kernel, by decide +kernel, by decide +kernel⟩
set_option maxRecDepth 100000 in
theorem mtX7_push : isM yX7_push cX7_push 4 none 3 := ⟨⟨in_gtb 670 (by decide +kernel) (by decide +kernel), in_gtb 15 (by decide +kernel) (by decide +kernel), in_gtb 119 (by decide +kernel) (by decide +kernel), in_gtb 671 rfl rfl⟩, by decide +kernel, by decide +kernel, by decide +kernel⟩
set_option maxRecDepth 100000 in
theorem mtX7_settle : isM yX7_settle cX7_settle 2 none 0 := ⟨⟨in_gtb 674 (by decide +kernel) (by decide +kernel), in_gtb 16 (by decide +kernel) (by decide +kernel), in_gtb 119 (by decide +kernel) (by decide +kernel), in_gtb 675 rfl rfl⟩, by decide +kernel, by decide +kernel, by decide +kernel⟩
set_option maxRecDepth 100000 in
theorem mtX8_size : isM yX8_size cX8_size 1 (some .int) 0 := ⟨⟨in_gtb 1037 (by decide +kernel) (by decide +kernel), in_gtb 1038 (by decide +kernel) (by decide +kernel), in_gtb 113 (by decide +kernel) (by decide +kernel), in_gtb 1039 rfl rfl⟩, by decide +kernel, by decide +kernel, by decide +kernel⟩
set_option maxRecDepth 100000 in
theorem mtX8_at : isM yX8_at cX8_at 1 (some .int) 0 := ⟨⟨in_gtb 535 (by decide +kernel) (by decide +kernel), in_gtb 536 (by decide +kernel) (by decide +kernel), in_gtb 113 (by decide +kernel) (by decide +kernel), in_gtb 537 rfl rfl⟩, by decide +kernel, by decide +kernel, by decide +kernel⟩
set_option maxRecDepth 100000 in
theorem mtX8_taken : isM yX8_taken cX8_taken 1 (some .int) 0 := ⟨⟨in_gtb 527 (by decide +kernel) (by decide +kernel), in_gtb 528 (by decide +kernel) (by decide +kernel), in_gtb 113 (by decide +kernel) (by decide +kernel), in_gtb 529 rfl rfl⟩, by decide +kernel, by decide +kernel, by decide +kernel⟩
set_option maxRecDepth 100000 in
theorem mtX8_fault : isM yX8_fault cX8_fault 1 (some .int) 0 := ⟨⟨in_gtb 577 (by decide +kernel) (by decide +kernel), in_gtb 578 (by decide +kernel) (by decide +kernel), in_gtb 113 (by decide +kernel) (by decide +kernel), in_gtb 579 rfl rfl⟩, by decide +kernel, by decide +kernel, by decide +kernel⟩
set_option maxRecDepth 100000 in
theorem mtX8_faultPlace : isM yX8_faultPlace cX8_faultPlace 1 (some .int) 0 := ⟨⟨in_gtb 573 (by decide +kernel) (by decide +kernel), in_gtb 574 (by decide +kernel) (by decide +kernel), in_gtb 113 (by decide +kernel) (by decide +kernel), in_gtb 575 rfl rfl⟩, by decide +kernel, by decide +kernel, by decide +kernel⟩
set_option maxRecDepth 100000 in
theorem mtX8_append : isM yX8_append cX8_append 2 (some .int) 1 := ⟨⟨in_gtb 495 (by decide +kernel) (by decide +kernel), in_gtb 496 (by decide +kernel) (by decide +kernel), in_gtb 113 (by decide +kernel) (by decide +kernel), in_gtb 497 rfl rfl⟩, by decide +kernel, by decide +kernel, by decide +kernel⟩
set_option maxRecDepth 100000 in
theorem mtX8_empty : isM yX8_empty cX8_empty 1 none 0 := ⟨⟨in_gtb 581 (by decide +kernel) (by decide +kernel), in_gtb 582 (by decide +kernel) (by decide +kernel), in_gtb 113 (by decide +kernel) (by decide +kernel), in_gtb 583 rfl rfl⟩, by decide +kernel, by decide +kernel, by decide +kernel⟩
set_option maxRecDepth 100000 in
theorem mtX8_rewind : isM yX8_rewind cX8_rewind 1 none 0 := ⟨⟨in_gtb 503 (by decide +kernel) (by decide +kernel), in_gtb 504 (by decide +kernel) (by decide +kernel), in_gtb 113 (by decide +kernel) (by decide +kernel), in_gtb 505 rfl rfl⟩, by decide +kernel, by decide +kernel, by decide +kernel⟩
set_option maxRecDepth 100000 in
theorem mtX8_fail : isM yX8_fail cX8_fail 3 (some .boolean) 2 := ⟨⟨in_gtb 523 (by decide +kernel) (by decide +kernel), in_gtb 524 (by decide +kernel) (by decide +kernel), in_gtb 113 (by decide +kernel) (by decide +kernel), in_gtb 525 rfl rfl⟩, by decide +kernel, by decide +kernel, by decide +kernel⟩
set_option maxRecDepth 100000 in
theorem mtX8_take : isM yX8_take cX8_take 4 (some .boolean) 2 := ⟨⟨in_gtb 519 (by decide +kernel) (by decide +kernel), in_gtb 520 (by decide +kernel) (by decide +kernel), in_gtb 113 (by decide +kernel) (by decide +kernel), in_gtb 521 rfl rfl⟩, by decide +kernel, by decide +kernel, by decide +kernel⟩
set_option maxRecDepth 100000 in
theorem mtX8_takeEnd : isM yX8_takeEnd cX8_takeEnd 1 (some .boolean) 0 := ⟨⟨in_gtb 569 (by decide +kernel) (by decide +kernel), in_gtb 570 (by decide +kernel) (by decide +kernel), in_gtb 113 (by decide +kernel) (by decide +kernel), in_gtb 571 rfl rfl⟩, by decide +kernel, by decide +kernel, by decide +kernel⟩
set_option maxRecDepth 100000 in
theorem mtX8_copyTo : isM yX8_copyTo cX8_copyTo 3 none 1 := ⟨⟨in_gtb 597 (by decide +kernel) (by decide +kernel), in_gtb 598 (by decide +kernel) (by decide +kernel), in_gtb 113 (by decide +kernel) (by decide +kernel), in_gtb 599 rfl rfl⟩, by decide +kernel, by decide +kernel, by decide +kernel⟩
set_option maxRecDepth 100000 in
theorem mtX9_read : isM yX9_read cX9_read 2 (some .boolean) 0 := ⟨⟨in_gtb 507 (by decide +kernel) (by decide +kernel), in_gtb 508 (by decide +kernel) (by decide +kernel), in_gtb 118 (by decide +kernel) (by decide +kernel), in_gtb 509 rfl rfl⟩, by decide +kernel, by decide +kernel, by decide +kernel⟩
set_option maxRecDepth 100000 in
theorem mtX9_readLabel : isM yX9_readLabel cX9_readLabel 2 (some .boolean) 0 := ⟨⟨in_gtb 512 (by decide +kernel) (by decide +kernel), in_gtb 0 (by decide +kernel) (by decide +kernel), in_gtb 118 (by decide +kernel) (by decide +kernel), in_gtb 513 rfl rfl⟩, by decide +kernel, by decide +kernel, by decide +kernel⟩
set_option maxRecDepth 100000 in
theorem mtX9_readWord : isM yX9_readWord cX9_readWord 3 (some .boolean) 0 := ⟨⟨in_gtb 532 (by decide +kernel) (by decide +kernel), in_gtb 1 (by decide +kernel) (by decide +kernel), in_gtb 118 (by decide +kernel) (by decide +kernel), in_gtb 533 rfl rfl⟩, by decide +kernel, by decide +kernel, by decide +kernel⟩
set_option maxRecDepth 100000 in
theorem mtX9_readBind : isM yX9_readBind cX9_readBind 1 (some .boolean) 0 := ⟨⟨in_gtb 540 (by decide +kernel) (by decide +kernel), in_gtb 2 (by decide +kernel) (by decide +kernel), in_gtb 118 (by decide +kernel) (by decide +kernel), in_gtb 541 rfl rfl⟩, by decide +kernel, by decide +kernel, by decide +kernel⟩
set_option maxRecDepth 100000 in
theorem mtX9_readStand : isM yX9_readStand cX9_readStand 3 (some .boolean) 1 := ⟨⟨in_gtb 549 (by decide +kernel) (by decide +kernel), in_gtb 4 (by decide +kernel) (by decide +kernel), in_gtb 118 (by decide +kernel) (by decide +kernel), in_gtb 550 rfl rfl⟩, by decide +kernel, by decide +kernel, by decide +kernel⟩
set_option maxRecDepth 100000 in
theorem mtX9_readNode : isM yX9_readNode cX9_readNode 4 (some .boolean) 1 := ⟨⟨in_gtb 562 (by decide +kernel) (by decide +kernel), in_gtb 6 (by decide +kernel) (by decide +kernel), in_gtb 118 (by decide +kernel) (by decide +kernel), in_gtb 563 rfl rfl⟩, by decide +kernel, by decide +kernel, by decide +kernel⟩
set_option maxRecDepth 100000 in
theorem mtX9_push : isM yX9_push cX9_push 4 none 3 := ⟨⟨in_gtb 545 (by decide +kernel) (by decide +kernel), in_gtb 3 (by decide +kernel) (by decide +kernel), in_gtb 118 (by decide +kernel) (by decide +kernel), in_gtb 546 rfl rfl⟩, by decide +kernel, by decide +kernel, by decide +kernel⟩
set_option maxRecDepth 100000 in
theorem mtX9_settle : isM yX9_settle cX9_settle 4 none 1 := ⟨⟨in_gtb 554 (by decide +kernel) (by decide +kernel), in_gtb 5 (by decide +kernel) (by decide +kernel), in_gtb 118 (by decide +kernel) (by decide +kernel), in_gtb 555 rfl rfl⟩, by decide +kernel, by decide +kernel, by decide +kernel⟩
set_option maxRecDepth 100000 in
theorem mtX10_size : isM yX10_size cX10_size 1 (some .int) 0 := ⟨⟨in_gtb 1041 (by decide +kernel) (by decide +kernel), in_gtb 1042 (by decide +kernel) (by decide +kernel), in_gtb 122 (by decide +kernel) (by decide +kernel), in_gtb 1043 rfl rfl⟩, by decide +kernel, by decide +kernel, by decide +kernel⟩
set_option maxRecDepth 100000 in
theorem mtX10_empty : isM yX10_empty cX10_empty 1 none 0 := ⟨⟨in_gtb 483 (by decide +kernel) (by decide +kernel), in_gtb 484 (by decide +kernel) (by decide +kernel), in_gtb 122 (by decide +kernel) (by decide +kernel), in_gtb 485 rfl rfl⟩, by decide +kernel, by decide +kernel, by decide +kernel⟩
set_option maxRecDepth 100000 in
theorem mtX10_has : isM yX10_has cX10_has 2 (some .boolean) 1 := ⟨⟨in_gtb 940 (by decide +kernel) (by decide +kernel), in_gtb 941 (by decide +kernel) (by decide +kernel), in_gtb 122 (by decide +kernel) (by decide +kernel), in_gtb 942 rfl rfl⟩, by decide +kernel, by decide +kernel, by decide +kernel⟩
set_option maxRecDepth 100000 in
theorem mtX10_add : isM yX10_add cX10_add 3 (some .int) 2 := ⟨⟨in_gtb 957 (by decide +kernel) (by decide +kernel), in_gtb 958 (by decide +kernel) (by decide +kernel), in_gtb 122 (by decide +kernel) (by decide +kernel), in_gtb 959 rfl rfl⟩, by decide +kernel, by decide +kernel, by decide +kernel⟩
set_option maxRecDepth 100000 in
theorem mtX10_setPart : isM yX10_setPart cX10_setPart 4 none 3 := ⟨⟨in_gtb 970 (by decide +kernel) (by decide +kernel), in_gtb 971 (by decide +kernel) (by decide +kernel), in_gtb 122 (by decide +kernel) (by decide +kernel), in_gtb 972 rfl rfl⟩, by decide +kernel, by decide +kernel, by decide +kernel⟩
set_option maxRecDepth 100000 in
theorem mtX10_setFunction : isM yX10_setFunction cX10_setFunction 4 none 3 := ⟨⟨in_gtb 1002 (by decide +kernel) (by decide +kernel), in_gtb 1003 (by decide +kernel) (by decide +kernel), in_gtb 122 (by decide +kernel) (by decide +kernel), in_gtb 1004 rfl rfl⟩, by decide +kernel, by decide +kernel, by decide +kernel⟩
set_option maxRecDepth 100000 in
theorem mtX10_kindOf : isM yX10_kindOf cX10_kindOf 2 (some .int) 1 := ⟨⟨in_gtb 1027 (by decide +kernel) (by decide +kernel), in_gtb 1028 (by decide +kernel) (by decide +kernel), in_gtb 122 (by decide +kernel) (by decide +kernel), in_gtb 1029 rfl rfl⟩, by decide +kernel, by decide +kernel, by decide +kernel⟩
set_option maxRecDepth 100000 in
theorem mtX10_numberOf : isM yX10_numberOf cX10_numberOf 2 (some .int) 1 := ⟨⟨in_gtb 953 (by decide +kernel) (by decide +kernel), in_gtb 954 (by decide +kernel) (by decide +kernel), in_gtb 122 (by decide +kernel) (by decide +kernel), in_gtb 955 rfl rfl⟩, by decide +kernel, by decide +kernel, by decide +kernel⟩
set_option maxRecDepth 100000 in
theorem mtX10_lambdaOf : isM yX10_lambdaOf cX10_lambdaOf 2 (some .int) 1 := ⟨⟨in_gtb 936 (by decide +kernel) (by decide +kernel), in_gtb 937 (by decide +kernel) (by decide +kernel), in_gtb 122 (by decide +kernel) (by decide +kernel), in_gtb 938 rfl rfl⟩, by decide +kernel, by decide +kernel, by decide +kernel⟩
set_option maxRecDepth 100000 in
theorem mtX10_cellOf : isM yX10_cellOf cX10_cellOf 2 (some .int) 1 := ⟨⟨in_gtb 945 (by decide +kernel) (by decide +kernel), in_gtb 946 (by decide +kernel) (by decide +kernel), in_gtb 122 (by decide +kernel) (by decide +kernel), in_gtb 947 rfl rfl⟩, by decide +kernel, by decide +kernel, by decide +kernel⟩
set_option maxRecDepth 100000 in
theorem mtX10_partOf : isM yX10_partOf cX10_partOf 5 (some .int) 2 := ⟨⟨in_gtb 974 (by decide +kernel) (by decide +kernel), in_gtb 975 (by decide +kernel) (by decide +kernel), in_gtb 122 (by decide +kernel) (by decide +kernel), in_gtb 976 rfl rfl⟩, by decide +kernel, by decide +kernel, by decide +kernel⟩
set_option maxRecDepth 100000 in
theorem mtX11_clear : isM yX11_clear cX11_clear 2 (some .int) 0 := ⟨⟨in_gtb 467 (by decide +kernel) (by decide +kernel), in_gtb 468 (by decide +kernel) (by decide +kernel), in_gtb 112 (by decide +kernel) (by decide +kernel), in_gtb 469 rfl rfl⟩, by decide +kernel, by decide +kernel, by decide +kernel⟩
set_option maxRecDepth 100000 in
theorem mtX11_feed : isM yX11_feed cX11_feed 2 (some .int) 1 := ⟨⟨in_gtb 491 (by decide +kernel) (by decide +kernel), in_gtb 492 (by decide +kernel) (by decide +kernel), in_gtb 112 (by decide +kernel) (by decide +kernel), in_gtb 493 rfl rfl⟩, by decide +kernel, by decide +kernel, by decide +kernel⟩
set_option maxRecDepth 100000 in
theorem mtX11_type : isM yX11_type cX11_type 5 (some .int) 0 := ⟨⟨in_gtb 499 (by decide +kernel) (by decide +kernel), in_gtb 500 (by decide +kernel) (by decide +kernel), in_gtb 112 (by decide +kernel) (by decide +kernel), in_gtb 501 rfl rfl⟩, by decide +kernel, by decide +kernel, by decide +kernel⟩
set_option maxRecDepth 100000 in
theorem mtX11_term : isM yX11_term cX11_term 5 (some .int) 0 := ⟨⟨in_gtb 585 (by decide +kernel) (by decide +kernel), in_gtb 586 (by decide +kernel) (by decide +kernel), in_gtb 112 (by decide +kernel) (by decide +kernel), in_gtb 587 rfl rfl⟩, by decide +kernel, by decide +kernel, by decide +kernel⟩
set_option maxRecDepth 100000 in
theorem mtX11_place : isM yX11_place cX11_place 1 (some .int) 0 := ⟨⟨in_gtb 848 (by decide +kernel) (by decide +kernel), in_gtb 849 (by decide +kernel) (by decide +kernel), in_gtb 112 (by decide +kernel) (by decide +kernel), in_gtb 850 rfl rfl⟩, by decide +kernel, by decide +kernel, by decide +kernel⟩
set_option maxRecDepth 100000 in
theorem mtX11_node : isM yX11_node cX11_node 3 (some .int) 2 := ⟨⟨in_gtb 852 (by decide +kernel) (by decide +kernel), in_gtb 853 (by decide +kernel) (by decide +kernel), in_gtb 112 (by decide +kernel) (by decide +kernel), in_gtb 854 rfl rfl⟩, by decide +kernel, by decide +kernel, by decide +kernel⟩
set_option maxRecDepth 100000 in
theorem mtX11_below : isM yX11_below cX11_below 3 (some .int) 2 := ⟨⟨in_gtb 863 (by decide +kernel) (by decide +kernel), in_gtb 864 (by decide +kernel) (by decide +kernel), in_gtb 112 (by decide +kernel) (by decide +kernel), in_gtb 865 rfl rfl⟩, by decide +kernel, by decide +kernel, by decide +kernel⟩
set_option maxRecDepth 100000 in
theorem mtX11_depth : isM yX11_depth cX11_depth 3 (some .int) 2 := ⟨⟨in_gtb 868 (by decide +kernel) (by decide +kernel), in_gtb 869 (by decide +kernel) (by decide +kernel), in_gtb 112 (by decide +kernel) (by decide +kernel), in_gtb 870 rfl rfl⟩, by decide +kernel, by decide +kernel, by decide +kernel⟩
set_option maxRecDepth 100000 in
theorem mtX11_way : isM yX11_way cX11_way 4 (some .int) 3 := ⟨⟨in_gtb 885 (by decide +kernel) (by decide +kernel), in_gtb 886 (by decide +kernel) (by decide +kernel), in_gtb 112 (by decide +kernel) (by decide +kernel), in_gtb 887 rfl rfl⟩, by decide +kernel, by decide +kernel, by decide +kernel⟩
set_option maxRecDepth 100000 in
theorem mtX11_unite : isM yX11_unite cX11_unite 3 (some .int) 2 := ⟨⟨in_gtb 894 (by decide +kernel) (by decide +kernel), in_gtb 895 (by decide +kernel) (by decide +kernel), in_gtb 112 (by decide +kernel) (by decide +kernel), in_gtb 896 rfl rfl⟩, by decide +kernel, by decide +kernel, by decide +kernel⟩
set_option maxRecDepth 100000 in
theorem mtX11_meet : isM yX11_meet cX11_meet 3 (some .int) 2 := ⟨⟨in_gtb 899 (by decide +kernel) (by decide +kernel), in_gtb 900 (by decide +kernel) (by decide +kernel), in_gtb 112 (by decide +kernel) (by decide +kernel), in_gtb 901 rfl rfl⟩, by decide +kernel, by decide +kernel, by decide +kernel⟩
set_option maxRecDepth 100000 in
theorem mtX11_run : isM yX11_run cX11_run 2 (some .int) 1 := ⟨⟨in_gtb 903 (by decide +kernel) (by decide +kernel), in_gtb 904 (by decide +kernel) (by decide +kernel), in_gtb 112 (by decide +kernel) (by decide +kernel), in_gtb 905 rfl rfl⟩, by decide +kernel, by decide +kernel, by decide +kernel⟩
set_option maxRecDepth 100000 in
theorem mtX11_value : isM yX11_value cX11_value 4 (some .int) 2 := ⟨⟨in_gtb 1018 (by decide +kernel) (by decide +kernel), in_gtb 1019 (by decide +kernel) (by decide +kernel), in_gtb 112 (by decide +kernel) (by decide +kernel), in_gtb 1020 rfl rfl⟩, by decide +kernel, by decide +kernel, by decide +kernel⟩
set_option maxRecDepth 100000 in
theorem mtX11_count : isM yX11_count cX11_count 2 (some .int) 1 := ⟨⟨in_gtb 1033 (by decide +kernel) (by decide +kernel), in_gtb 1034 (by decide +kernel) (by decide +kernel), in_gtb 112 (by decide +kernel) (by decide +kernel), in_gtb 1035 rfl rfl⟩, by decide +kernel, by decide +kernel, by decide +kernel⟩
theorem cstX5_11 : Cond.constant RX5 11 (40000 : Int32) ∈ gtb := in_gtb 184 (by decide +kernel) (by decide +kernel)
theorem lkX11_89 : Cond.methodLink RX11 89 yX3_size ∈ gtb := in_gtb 470 (by decide +kernel) (by decide +kernel)
theorem lkX11_93 : Cond.methodLink RX11 93 yX3_cutTo ∈ gtb := in_gtb 474 (by decide +kernel) (by decide +kernel)
theorem lkX11_101 : Cond.methodLink RX11 101 yX4_forget ∈ gtb := in_gtb 478 (by decide +kernel) (by decide +kernel)
theorem lkX4_46 : Cond.methodLink RX4 46 yX10_empty ∈ gtb := in_gtb 482 (by decide +kernel) (by decide +kernel)
theorem lkX4_49 : Cond.methodLink RX4 49 yX1_empty ∈ gtb := in_gtb 486 (by decide +kernel) (by decide +kernel)
theorem lkX11_104 : Cond.methodLink RX11 104 yX8_append ∈ gtb := in_gtb 494 (by decide +kernel) (by decide +kernel)
theorem lkX11_108 : Cond.methodLink RX11 108 yX8_rewind ∈ gtb := in_gtb 502 (by decide +kernel) (by decide +kernel)
theorem lkX11_111 : Cond.methodLink RX11 111 yX9_read ∈ gtb := in_gtb 506 (by decide +kernel) (by decide +kernel)
theorem lkX9_36 : Cond.methodLink RX9 36 yX9_readLabel ∈ gtb := in_gtb 510 (by decide +kernel) (by decide +kernel)
theorem lkX9_48 : Cond.methodLink RX9 48 yX3_kindOf ∈ gtb := in_gtb 514 (by decide +kernel) (by decide +kernel)
theorem lkX9_54 : Cond.methodLink RX9 54 yX8_take ∈ gtb := in_gtb 518 (by decide +kernel) (by decide +kernel)
theorem lkX8_31 : Cond.methodLink RX8 31 yX8_fail ∈ gtb := in_gtb 522 (by decide +kernel) (by decide +kernel)
theorem lkX9_58 : Cond.methodLink RX9 58 yX8_taken ∈ gtb := in_gtb 526 (by decide +kernel) (by decide +kernel)
theorem lkX9_40 : Cond.methodLink RX9 40 yX9_readWord ∈ gtb := in_gtb 530 (by decide +kernel) (by decide +kernel)
theorem lkX9_62 : Cond.methodLink RX9 62 yX8_at ∈ gtb := in_gtb 534 (by decide +kernel) (by decide +kernel)
theorem lkX9_65 : Cond.methodLink RX9 65 yX9_readBind ∈ gtb := in_gtb 538 (by decide +kernel) (by decide +kernel)
theorem lkX9_75 : Cond.methodLink RX9 75 yX3_size ∈ gtb := in_gtb 542 (by decide +kernel) (by decide +kernel)
theorem lkX9_78 : Cond.methodLink RX9 78 yX9_push ∈ gtb := in_gtb 543 (by decide +kernel) (by decide +kernel)
theorem lkX9_68 : Cond.methodLink RX9 68 yX9_readStand ∈ gtb := in_gtb 547 (by decide +kernel) (by decide +kernel)
theorem lkX9_82 : Cond.methodLink RX9 82 yX8_fail ∈ gtb := in_gtb 551 (by decide +kernel) (by decide +kernel)
theorem lkX9_85 : Cond.methodLink RX9 85 yX9_settle ∈ gtb := in_gtb 552 (by decide +kernel) (by decide +kernel)
theorem lkX9_92 : Cond.methodLink RX9 92 yX3_setPart ∈ gtb := in_gtb 556 (by decide +kernel) (by decide +kernel)
theorem lkX9_72 : Cond.methodLink RX9 72 yX9_readNode ∈ gtb := in_gtb 560 (by decide +kernel) (by decide +kernel)
theorem lkX9_89 : Cond.methodLink RX9 89 yX3_draft ∈ gtb := in_gtb 564 (by decide +kernel) (by decide +kernel)
theorem lkX9_43 : Cond.methodLink RX9 43 yX8_takeEnd ∈ gtb := in_gtb 568 (by decide +kernel) (by decide +kernel)
theorem lkX11_115 : Cond.methodLink RX11 115 yX8_faultPlace ∈ gtb := in_gtb 572 (by decide +kernel) (by decide +kernel)
theorem lkX11_117 : Cond.methodLink RX11 117 yX8_fault ∈ gtb := in_gtb 576 (by decide +kernel) (by decide +kernel)
theorem lkX11_120 : Cond.methodLink RX11 120 yX8_empty ∈ gtb := in_gtb 580 (by decide +kernel) (by decide +kernel)
theorem lkX11_123 : Cond.methodLink RX11 123 yX7_read ∈ gtb := in_gtb 588 (by decide +kernel) (by decide +kernel)
theorem lkX7_36 : Cond.methodLink RX7 36 yX6_start ∈ gtb := in_gtb 592 (by decide +kernel) (by decide +kernel)
theorem lkX6_27 : Cond.methodLink RX6 27 yX8_copyTo ∈ gtb := in_gtb 596 (by decide +kernel) (by decide +kernel)
theorem lkX7_46 : Cond.methodLink RX7 46 yX7_readLabel ∈ gtb := in_gtb 600 (by decide +kernel) (by decide +kernel)
theorem lkX7_62 : Cond.methodLink RX7 62 yX7_wordAround ∈ gtb := in_gtb 604 (by decide +kernel) (by decide +kernel)
theorem lkX7_58 : Cond.methodLink RX7 58 yX6_word ∈ gtb := in_gtb 608 (by decide +kernel) (by decide +kernel)
theorem lkX7_66 : Cond.methodLink RX7 66 yX7_isCase ∈ gtb := in_gtb 612 (by decide +kernel) (by decide +kernel)
theorem lkX7_69 : Cond.methodLink RX7 69 yX8_take ∈ gtb := in_gtb 616 (by decide +kernel) (by decide +kernel)
theorem lkX7_73 : Cond.methodLink RX7 73 yX8_taken ∈ gtb := in_gtb 617 (by decide +kernel) (by decide +kernel)
theorem lkX7_50 : Cond.methodLink RX7 50 yX7_readTerm ∈ gtb := in_gtb 618 (by decide +kernel) (by decide +kernel)
theorem lkX7_76 : Cond.methodLink RX7 76 yX8_at ∈ gtb := in_gtb 622 (by decide +kernel) (by decide +kernel)
theorem lkX7_79 : Cond.methodLink RX7 79 yX7_enter ∈ gtb := in_gtb 623 (by decide +kernel) (by decide +kernel)
theorem lkX7_93 : Cond.methodLink RX7 93 yX6_add ∈ gtb := in_gtb 627 (by decide +kernel) (by decide +kernel)
theorem lkX7_97 : Cond.methodLink RX7 97 yX6_addKid ∈ gtb := in_gtb 631 (by decide +kernel) (by decide +kernel)
theorem lkX7_101 : Cond.methodLink RX7 101 yX6_setOuter ∈ gtb := in_gtb 635 (by decide +kernel) (by decide +kernel)
theorem lkX7_82 : Cond.methodLink RX7 82 yX7_readHead ∈ gtb := in_gtb 639 (by decide +kernel) (by decide +kernel)
theorem lkX7_104 : Cond.methodLink RX7 104 yX7_readVariable ∈ gtb := in_gtb 643 (by decide +kernel) (by decide +kernel)
theorem cstX7_113 : Cond.constant RX7 113 (2147483647 : Int32) ∈ gtb := in_gtb 647 (by decide +kernel) (by decide +kernel)
theorem lkX7_118 : Cond.methodLink RX7 118 yX6_outer ∈ gtb := in_gtb 648 (by decide +kernel) (by decide +kernel)
theorem lkX7_121 : Cond.methodLink RX7 121 yX8_fail ∈ gtb := in_gtb 652 (by decide +kernel) (by decide +kernel)
theorem lkX7_124 : Cond.methodLink RX7 124 yX6_setHome ∈ gtb := in_gtb 653 (by decide +kernel) (by decide +kernel)
theorem lkX7_107 : Cond.methodLink RX7 107 yX3_size ∈ gtb := in_gtb 657 (by decide +kernel) (by decide +kernel)
theorem cstX7_112 : Cond.constant RX7 112 (-2147483648 : Int32) ∈ gtb := in_gtb 658 (by decide +kernel) (by decide +kernel)
theorem lkX7_114 : Cond.methodLink RX7 114 yX7_readTag ∈ gtb := in_gtb 659 (by decide +kernel) (by decide +kernel)
theorem lkX7_127 : Cond.methodLink RX7 127 yX3_kindOf ∈ gtb := in_gtb 663 (by decide +kernel) (by decide +kernel)
theorem lkX7_130 : Cond.methodLink RX7 130 yX3_partOf ∈ gtb := in_gtb 664 (by decide +kernel) (by decide +kernel)
theorem lkX7_86 : Cond.methodLink RX7 86 yX7_push ∈ gtb := in_gtb 668 (by decide +kernel) (by decide +kernel)
theorem lkX7_90 : Cond.methodLink RX7 90 yX7_settle ∈ gtb := in_gtb 672 (by decide +kernel) (by decide +kernel)
theorem lkX7_53 : Cond.methodLink RX7 53 yX8_takeEnd ∈ gtb := in_gtb 676 (by decide +kernel) (by decide +kernel)
theorem lkX11_126 : Cond.methodLink RX11 126 yX2_check ∈ gtb := in_gtb 677 (by decide +kernel) (by decide +kernel)
theorem lkX2_47 : Cond.methodLink RX2 47 yX2_push ∈ gtb := in_gtb 681 (by decide +kernel) (by decide +kernel)
theorem lkX2_51 : Cond.methodLink RX2 51 yX6_kidInTurn ∈ gtb := in_gtb 685 (by decide +kernel) (by decide +kernel)
theorem lkX6_33 : Cond.methodLink RX6 33 yX6_kidCount ∈ gtb := in_gtb 689 (by decide +kernel) (by decide +kernel)
theorem lkX6_37 : Cond.methodLink RX6 37 yX6_word ∈ gtb := in_gtb 693 (by decide +kernel) (by decide +kernel)
theorem lkX6_40 : Cond.methodLink RX6 40 yX6_kid ∈ gtb := in_gtb 694 (by decide +kernel) (by decide +kernel)
theorem lkX2_57 : Cond.methodLink RX2 57 yX2_typeOf ∈ gtb := in_gtb 698 (by decide +kernel) (by decide +kernel)
theorem lkX2_72 : Cond.methodLink RX2 72 yX6_word ∈ gtb := in_gtb 702 (by decide +kernel) (by decide +kernel)
theorem lkX2_106 : Cond.methodLink RX2 106 yX6_home ∈ gtb := in_gtb 703 (by decide +kernel) (by decide +kernel)
theorem lkX2_109 : Cond.methodLink RX2 109 yX2_typeOfVariable ∈ gtb := in_gtb 707 (by decide +kernel) (by decide +kernel)
theorem lkX2_84 : Cond.methodLink RX2 84 yX2_typeIn ∈ gtb := in_gtb 711 (by decide +kernel) (by decide +kernel)
theorem lkX2_98 : Cond.methodLink RX2 98 yX6_kid ∈ gtb := in_gtb 715 (by decide +kernel) (by decide +kernel)
theorem lkX2_112 : Cond.methodLink RX2 112 yX2_typeOfLambda ∈ gtb := in_gtb 716 (by decide +kernel) (by decide +kernel)
theorem lkX2_95 : Cond.methodLink RX2 95 yX3_make ∈ gtb := in_gtb 720 (by decide +kernel) (by decide +kernel)
theorem lkX3_25 : Cond.methodLink RX3 25 yX3_draft ∈ gtb := in_gtb 724 (by decide +kernel) (by decide +kernel)
theorem lkX2_141 : Cond.methodLink RX2 141 yX3_setPart ∈ gtb := in_gtb 725 (by decide +kernel) (by decide +kernel)
theorem lkX2_115 : Cond.methodLink RX2 115 yX2_typeOfApply ∈ gtb := in_gtb 726 (by decide +kernel) (by decide +kernel)
theorem lkX2_87 : Cond.methodLink RX2 87 yX3_kindOf ∈ gtb := in_gtb 730 (by decide +kernel) (by decide +kernel)
theorem lkX2_92 : Cond.methodLink RX2 92 yX3_partOf ∈ gtb := in_gtb 731 (by decide +kernel) (by decide +kernel)
theorem lkX2_145 : Cond.methodLink RX2 145 yX5_search ∈ gtb := in_gtb 732 (by decide +kernel) (by decide +kernel)
theorem lkX5_40 : Cond.methodLink RX5 40 yX5_forget ∈ gtb := in_gtb 736 (by decide +kernel) (by decide +kernel)
theorem cstX5_47 : Cond.constantLong RX5 47 (255 : Int64) ∈ gtb := in_gtb 740 (by decide +kernel) (by decide +kernel)
theorem lkX5_43 : Cond.methodLink RX5 43 yX5_enter ∈ gtb := in_gtb 741 (by decide +kernel) (by decide +kernel)
theorem lkX5_49 : Cond.methodLink RX5 49 yX5_fitAtSight ∈ gtb := in_gtb 745 (by decide +kernel) (by decide +kernel)
theorem lkX5_57 : Cond.methodLink RX5 57 yX3_kindOf ∈ gtb := in_gtb 749 (by decide +kernel) (by decide +kernel)
theorem lkX5_62 : Cond.methodLink RX5 62 yX3_labelsOf ∈ gtb := in_gtb 750 (by decide +kernel) (by decide +kernel)
theorem lkX5_53 : Cond.methodLink RX5 53 yX5_enterParts ∈ gtb := in_gtb 754 (by decide +kernel) (by decide +kernel)
theorem lkX5_65 : Cond.methodLink RX5 65 yX3_partOf ∈ gtb := in_gtb 758 (by decide +kernel) (by decide +kernel)
theorem lkX2_118 : Cond.methodLink RX2 118 yX2_bothNumbers ∈ gtb := in_gtb 759 (by decide +kernel) (by decide +kernel)
theorem lkX2_122 : Cond.methodLink RX2 122 yX2_isOrNothing ∈ gtb := in_gtb 763 (by decide +kernel) (by decide +kernel)
theorem lkX2_126 : Cond.methodLink RX2 126 yX2_typeOfGather ∈ gtb := in_gtb 767 (by decide +kernel) (by decide +kernel)
theorem lkX2_81 : Cond.methodLink RX2 81 yX6_kidCount ∈ gtb := in_gtb 771 (by decide +kernel) (by decide +kernel)
theorem lkX2_75 : Cond.methodLink RX2 75 yX6_labelOf ∈ gtb := in_gtb 772 (by decide +kernel) (by decide +kernel)
theorem lkX2_129 : Cond.methodLink RX2 129 yX2_typeOfPick ∈ gtb := in_gtb 776 (by decide +kernel) (by decide +kernel)
theorem lkX2_132 : Cond.methodLink RX2 132 yX2_typeOfTag ∈ gtb := in_gtb 780 (by decide +kernel) (by decide +kernel)
theorem lkX2_135 : Cond.methodLink RX2 135 yX2_typeOfSort ∈ gtb := in_gtb 784 (by decide +kernel) (by decide +kernel)
theorem lkX2_150 : Cond.methodLink RX2 150 yX3_labelsOf ∈ gtb := in_gtb 788 (by decide +kernel) (by decide +kernel)
theorem lkX2_138 : Cond.methodLink RX2 138 yX2_typeOfItself ∈ gtb := in_gtb 789 (by decide +kernel) (by decide +kernel)
theorem lkX2_61 : Cond.methodLink RX2 61 yX2_joinBranches ∈ gtb := in_gtb 793 (by decide +kernel) (by decide +kernel)
theorem lkX2_101 : Cond.methodLink RX2 101 yX0_join ∈ gtb := in_gtb 797 (by decide +kernel) (by decide +kernel)
theorem lkX0_25 : Cond.methodLink RX0 25 yX3_size ∈ gtb := in_gtb 801 (by decide +kernel) (by decide +kernel)
theorem lkX0_38 : Cond.methodLink RX0 38 yX0_joinTop ∈ gtb := in_gtb 802 (by decide +kernel) (by decide +kernel)
theorem lkX0_64 : Cond.methodLink RX0 64 yX3_kindOf ∈ gtb := in_gtb 806 (by decide +kernel) (by decide +kernel)
theorem lkX0_67 : Cond.methodLink RX0 67 yX0_madeFor ∈ gtb := in_gtb 807 (by decide +kernel) (by decide +kernel)
theorem lkX0_70 : Cond.methodLink RX0 70 yX0_makeFor ∈ gtb := in_gtb 811 (by decide +kernel) (by decide +kernel)
theorem lkX0_73 : Cond.methodLink RX0 73 yX3_draft ∈ gtb := in_gtb 815 (by decide +kernel) (by decide +kernel)
theorem lkX0_42 : Cond.methodLink RX0 42 yX0_keyOf ∈ gtb := in_gtb 816 (by decide +kernel) (by decide +kernel)
theorem lkX0_46 : Cond.methodLink RX0 46 yX3_partOf ∈ gtb := in_gtb 820 (by decide +kernel) (by decide +kernel)
theorem lkX0_50 : Cond.methodLink RX0 50 yX0_howOfPart ∈ gtb := in_gtb 821 (by decide +kernel) (by decide +kernel)
theorem lkX0_53 : Cond.methodLink RX0 53 yX0_lonePart ∈ gtb := in_gtb 825 (by decide +kernel) (by decide +kernel)
theorem lkX0_56 : Cond.methodLink RX0 56 yX3_setPart ∈ gtb := in_gtb 829 (by decide +kernel) (by decide +kernel)
theorem lkX0_60 : Cond.methodLink RX0 60 yX3_cutTo ∈ gtb := in_gtb 830 (by decide +kernel) (by decide +kernel)
theorem lkX2_64 : Cond.methodLink RX2 64 yX2_setType ∈ gtb := in_gtb 831 (by decide +kernel) (by decide +kernel)
theorem lkX2_68 : Cond.methodLink RX2 68 yX2_bindIn ∈ gtb := in_gtb 835 (by decide +kernel) (by decide +kernel)
theorem lkX2_78 : Cond.methodLink RX2 78 yX2_typeOfCase ∈ gtb := in_gtb 839 (by decide +kernel) (by decide +kernel)
theorem lkX11_130 : Cond.methodLink RX11 130 yX2_misfitPlace ∈ gtb := in_gtb 843 (by decide +kernel) (by decide +kernel)
theorem lkX11_133 : Cond.methodLink RX11 133 yX3_has ∈ gtb := in_gtb 855 (by decide +kernel) (by decide +kernel)
theorem lkX11_137 : Cond.methodLink RX11 137 yX3_kindOf ∈ gtb := in_gtb 859 (by decide +kernel) (by decide +kernel)
theorem lkX11_140 : Cond.methodLink RX11 140 yX3_labelsOf ∈ gtb := in_gtb 860 (by decide +kernel) (by decide +kernel)
theorem lkX11_143 : Cond.methodLink RX11 143 yX3_partOf ∈ gtb := in_gtb 861 (by decide +kernel) (by decide +kernel)
theorem lkX11_147 : Cond.methodLink RX11 147 yX5_search ∈ gtb := in_gtb 866 (by decide +kernel) (by decide +kernel)
theorem lkX11_150 : Cond.methodLink RX11 150 yX5_distance ∈ gtb := in_gtb 871 (by decide +kernel) (by decide +kernel)
theorem lkX5_23 : Cond.methodLink RX5 23 yX5_search ∈ gtb := in_gtb 875 (by decide +kernel) (by decide +kernel)
theorem lkX5_27 : Cond.methodLink RX5 27 yX5_stepsTo ∈ gtb := in_gtb 876 (by decide +kernel) (by decide +kernel)
theorem lkX5_31 : Cond.methodLink RX5 31 yX5_cameFrom ∈ gtb := in_gtb 880 (by decide +kernel) (by decide +kernel)
theorem lkX11_153 : Cond.methodLink RX11 153 yX5_labelOnWay ∈ gtb := in_gtb 888 (by decide +kernel) (by decide +kernel)
theorem cstX5_38 : Cond.constantLong RX5 38 (7 : Int64) ∈ gtb := in_gtb 892 (by decide +kernel) (by decide +kernel)
theorem lkX11_157 : Cond.methodLink RX11 157 yX0_join ∈ gtb := in_gtb 897 (by decide +kernel) (by decide +kernel)
theorem lkX11_160 : Cond.methodLink RX11 160 yX4_perform ∈ gtb := in_gtb 906 (by decide +kernel) (by decide +kernel)
theorem lkX4_53 : Cond.methodLink RX4 53 yX4_forget ∈ gtb := in_gtb 910 (by decide +kernel) (by decide +kernel)
theorem lkX4_59 : Cond.methodLink RX4 59 yX4_want ∈ gtb := in_gtb 911 (by decide +kernel) (by decide +kernel)
theorem cstX4_63 : Cond.constant RX4 63 (40002 : Int32) ∈ gtb := in_gtb 915 (by decide +kernel) (by decide +kernel)
theorem lkX4_70 : Cond.methodLink RX4 70 yX4_resume ∈ gtb := in_gtb 916 (by decide +kernel) (by decide +kernel)
theorem lkX4_122 : Cond.methodLink RX4 122 yX4_neededBy ∈ gtb := in_gtb 920 (by decide +kernel) (by decide +kernel)
theorem lkX4_79 : Cond.methodLink RX4 79 yX6_word ∈ gtb := in_gtb 924 (by decide +kernel) (by decide +kernel)
theorem lkX4_113 : Cond.methodLink RX4 113 yX6_kidCount ∈ gtb := in_gtb 925 (by decide +kernel) (by decide +kernel)
theorem lkX4_119 : Cond.methodLink RX4 119 yX6_kidInTurn ∈ gtb := in_gtb 926 (by decide +kernel) (by decide +kernel)
theorem lkX4_125 : Cond.methodLink RX4 125 yX4_gottenBy ∈ gtb := in_gtb 927 (by decide +kernel) (by decide +kernel)
theorem lkX4_128 : Cond.methodLink RX4 128 yX4_finish ∈ gtb := in_gtb 931 (by decide +kernel) (by decide +kernel)
theorem lkX4_131 : Cond.methodLink RX4 131 yX10_lambdaOf ∈ gtb := in_gtb 935 (by decide +kernel) (by decide +kernel)
theorem lkX10_31 : Cond.methodLink RX10 31 yX10_has ∈ gtb := in_gtb 939 (by decide +kernel) (by decide +kernel)
theorem lkX4_109 : Cond.methodLink RX4 109 yX6_kid ∈ gtb := in_gtb 943 (by decide +kernel) (by decide +kernel)
theorem lkX4_134 : Cond.methodLink RX4 134 yX10_cellOf ∈ gtb := in_gtb 944 (by decide +kernel) (by decide +kernel)
theorem lkX4_112 : Cond.methodLink RX4 112 yX1_add ∈ gtb := in_gtb 948 (by decide +kernel) (by decide +kernel)
theorem lkX4_137 : Cond.methodLink RX4 137 yX10_numberOf ∈ gtb := in_gtb 952 (by decide +kernel) (by decide +kernel)
theorem lkX4_96 : Cond.methodLink RX4 96 yX10_add ∈ gtb := in_gtb 956 (by decide +kernel) (by decide +kernel)
theorem lkX4_89 : Cond.methodLink RX4 89 yX4_give ∈ gtb := in_gtb 960 (by decide +kernel) (by decide +kernel)
theorem lkX4_140 : Cond.methodLink RX4 140 yX4_gather ∈ gtb := in_gtb 964 (by decide +kernel) (by decide +kernel)
theorem lkX4_155 : Cond.methodLink RX4 155 yX6_labelOf ∈ gtb := in_gtb 968 (by decide +kernel) (by decide +kernel)
theorem lkX4_158 : Cond.methodLink RX4 158 yX10_setPart ∈ gtb := in_gtb 969 (by decide +kernel) (by decide +kernel)
theorem lkX4_143 : Cond.methodLink RX4 143 yX10_partOf ∈ gtb := in_gtb 973 (by decide +kernel) (by decide +kernel)
theorem lkX4_146 : Cond.methodLink RX4 146 yX4_tag ∈ gtb := in_gtb 977 (by decide +kernel) (by decide +kernel)
theorem lkX4_149 : Cond.methodLink RX4 149 yX4_caseFor ∈ gtb := in_gtb 981 (by decide +kernel) (by decide +kernel)
theorem lkX4_152 : Cond.methodLink RX4 152 yX4_partOfChoice ∈ gtb := in_gtb 985 (by decide +kernel) (by decide +kernel)
theorem lkX4_76 : Cond.methodLink RX4 76 yX4_begin ∈ gtb := in_gtb 989 (by decide +kernel) (by decide +kernel)
theorem lkX4_85 : Cond.methodLink RX4 85 yX1_valueAt ∈ gtb := in_gtb 993 (by decide +kernel) (by decide +kernel)
theorem lkX4_93 : Cond.methodLink RX4 93 yX4_beginLambda ∈ gtb := in_gtb 997 (by decide +kernel) (by decide +kernel)
theorem lkX4_105 : Cond.methodLink RX4 105 yX10_setFunction ∈ gtb := in_gtb 1001 (by decide +kernel) (by decide +kernel)
theorem lkX4_99 : Cond.methodLink RX4 99 yX4_beginItself ∈ gtb := in_gtb 1005 (by decide +kernel) (by decide +kernel)
theorem lkX4_102 : Cond.methodLink RX4 102 yX4_beginOpen ∈ gtb := in_gtb 1009 (by decide +kernel) (by decide +kernel)
theorem lkX4_116 : Cond.methodLink RX4 116 yX4_push ∈ gtb := in_gtb 1013 (by decide +kernel) (by decide +kernel)
theorem lkX11_164 : Cond.methodLink RX11 164 yX4_values ∈ gtb := in_gtb 1021 (by decide +kernel) (by decide +kernel)
theorem lkX11_168 : Cond.methodLink RX11 168 yX10_has ∈ gtb := in_gtb 1025 (by decide +kernel) (by decide +kernel)
theorem lkX11_171 : Cond.methodLink RX11 171 yX10_kindOf ∈ gtb := in_gtb 1026 (by decide +kernel) (by decide +kernel)
theorem lkX11_172 : Cond.methodLink RX11 172 yX10_numberOf ∈ gtb := in_gtb 1030 (by decide +kernel) (by decide +kernel)
theorem lkX11_175 : Cond.methodLink RX11 175 yX10_partOf ∈ gtb := in_gtb 1031 (by decide +kernel) (by decide +kernel)
theorem lkX11_176 : Cond.methodLink RX11 176 yX8_size ∈ gtb := in_gtb 1036 (by decide +kernel) (by decide +kernel)
theorem lkX11_177 : Cond.methodLink RX11 177 yX10_size ∈ gtb := in_gtb 1040 (by decide +kernel) (by decide +kernel)
theorem lkX11_178 : Cond.methodLink RX11 178 yX4_steps ∈ gtb := in_gtb 1044 (by decide +kernel) (by decide +kernel)
