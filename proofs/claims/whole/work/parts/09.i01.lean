abbrev mX0_copyFrom : MI := (RX0, yX0_copyFrom, cX0_copyFrom, 2, none)
theorem cvX0_copyFrom : CV mX0_copyFrom 1 := ⟨⟨mw (i := 729) (by decide +kernel), mw (i := 4) (by decide +kernel), ⟨by decide +kernel, by decide +kernel, by decide +kernel⟩, by decide⟩, mw (i := 727) (by decide +kernel), mw (i := 728) (by decide +kernel)⟩
abbrev mX0_addStep : MI := (RX0, yX0_addStep, cX0_addStep, 2, none)
theorem cvX0_addStep : CV mX0_addStep 1 := ⟨⟨mw (i := 437) (by decide +kernel), mw (i := 4) (by decide +kernel), ⟨by decide +kernel, by decide +kernel, by decide +kernel⟩, by decide⟩, mw (i := 436) (by decide +kernel), mp2 (i := 0) 3 (by decide +kernel)⟩
abbrev mX0_setPlain : MI := (RX0, yX0_setPlain, cX0_setPlain, 1, none)
theorem cvX0_setPlain : CV mX0_setPlain 0 := ⟨⟨mw (i := 433) (by decide +kernel), mw (i := 4) (by decide +kernel), ⟨by decide +kernel, by decide +kernel, by decide +kernel⟩, by decide⟩, mw (i := 431) (by decide +kernel), mw (i := 432) (by decide +kernel)⟩
abbrev mX0_operand : MI := (RX0, yX0_operand, cX0_operand, 5, some .int)
theorem csX0_operand : CS mX0_operand 5 := ⟨⟨mw (i := 915) (by decide +kernel), mw (i := 4) (by decide +kernel), ⟨by decide +kernel, by decide +kernel, by decide +kernel⟩, by decide⟩, mw (i := 914) (by decide +kernel)⟩
abbrev mX0_join : MI := (RX0, yX0_join, cX0_join, 3, some .int)
theorem csX0_join : CS mX0_join 3 := ⟨⟨mw (i := 918) (by decide +kernel), mw (i := 4) (by decide +kernel), ⟨by decide +kernel, by decide +kernel, by decide +kernel⟩, by decide⟩, mw (i := 917) (by decide +kernel)⟩
abbrev mX0_drop : MI := (RX0, yX0_drop, cX0_drop, 8, some .int)
theorem cvX0_drop : CV mX0_drop 4 := ⟨⟨mw (i := 912) (by decide +kernel), mw (i := 4) (by decide +kernel), ⟨by decide +kernel, by decide +kernel, by decide +kernel⟩, by decide⟩, mw (i := 910) (by decide +kernel), mw (i := 911) (by decide +kernel)⟩
abbrev mX3_copyFrom : MI := (RX3, yX3_copyFrom, cX3_copyFrom, 2, none)
theorem cvX3_copyFrom : CV mX3_copyFrom 1 := ⟨⟨mw (i := 777) (by decide +kernel), mw (i := 6) (by decide +kernel), ⟨by decide +kernel, by decide +kernel, by decide +kernel⟩, by decide⟩, mw (i := 775) (by decide +kernel), mw (i := 776) (by decide +kernel)⟩
abbrev mX3_deedOf : MI := (RX3, yX3_deedOf, cX3_deedOf, 1, some .int)
theorem csX3_deedOf : CS mX3_deedOf 1 := ⟨⟨mw (i := 755) (by decide +kernel), mw (i := 6) (by decide +kernel), ⟨by decide +kernel, by decide +kernel, by decide +kernel⟩, by decide⟩, mw (i := 754) (by decide +kernel)⟩
abbrev mX4_begin : MI := (RX4, yX4_begin, cX4_begin, 2, none)
theorem cvX4_begin : CV mX4_begin 0 := ⟨⟨mw (i := 738) (by decide +kernel), mw (i := 7) (by decide +kernel), ⟨by decide +kernel, by decide +kernel, by decide +kernel⟩, by decide⟩, mw (i := 736) (by decide +kernel), mw (i := 737) (by decide +kernel)⟩
abbrev mX4_copyFrom : MI := (RX4, yX4_copyFrom, cX4_copyFrom, 2, none)
theorem cvX4_copyFrom : CV mX4_copyFrom 1 := ⟨⟨mw (i := 869) (by decide +kernel), mw (i := 7) (by decide +kernel), ⟨by decide +kernel, by decide +kernel, by decide +kernel⟩, by decide⟩, mw (i := 867) (by decide +kernel), mw (i := 868) (by decide +kernel)⟩
abbrev mX2_keep : MI := (RX2, yX2_keep, cX2_keep, 2, none)
theorem cvX2_keep : CV mX2_keep 1 := ⟨⟨mw (i := 865) (by decide +kernel), mw (i := 8) (by decide +kernel), ⟨by decide +kernel, by decide +kernel, by decide +kernel⟩, by decide⟩, mw (i := 863) (by decide +kernel), mw (i := 864) (by decide +kernel)⟩
abbrev mX2_bringBack : MI := (RX2, yX2_bringBack, cX2_bringBack, 2, some .boolean)
theorem cvX2_bringBack : CV mX2_bringBack 1 := ⟨⟨mw (i := 929) (by decide +kernel), mw (i := 8) (by decide +kernel), ⟨by decide +kernel, by decide +kernel, by decide +kernel⟩, by decide⟩, mw (i := 927) (by decide +kernel), mw (i := 928) (by decide +kernel)⟩
abbrev mX4_putUp : MI := (RX4, yX4_putUp, cX4_putUp, 4, none)
theorem cvX4_putUp : CV mX4_putUp 3 := ⟨⟨mw (i := 875) (by decide +kernel), mw (i := 7) (by decide +kernel), ⟨by decide +kernel, by decide +kernel, by decide +kernel⟩, by decide⟩, mw (i := 873) (by decide +kernel), mw (i := 874) (by decide +kernel)⟩
abbrev mX4_putDown : MI := (RX4, yX4_putDown, cX4_putDown, 2, none)
theorem cvX4_putDown : CV mX4_putDown 1 := ⟨⟨mw (i := 887) (by decide +kernel), mw (i := 7) (by decide +kernel), ⟨by decide +kernel, by decide +kernel, by decide +kernel⟩, by decide⟩, mw (i := 885) (by decide +kernel), mw (i := 886) (by decide +kernel)⟩
abbrev mX4_soak : MI := (RX4, yX4_soak, cX4_soak, 2, none)
theorem cvX4_soak : CV mX4_soak 1 := ⟨⟨mw (i := 896) (by decide +kernel), mw (i := 7) (by decide +kernel), ⟨by decide +kernel, by decide +kernel, by decide +kernel⟩, by decide⟩, mw (i := 894) (by decide +kernel), mw (i := 895) (by decide +kernel)⟩
abbrev mX4_wetShirts : MI := (RX4, yX4_wetShirts, cX4_wetShirts, 3, some .int)
theorem cvX4_wetShirts : CV mX4_wetShirts 0 := ⟨⟨mw (i := 908) (by decide +kernel), mw (i := 7) (by decide +kernel), ⟨by decide +kernel, by decide +kernel, by decide +kernel⟩, by decide⟩, mw (i := 907) (by decide +kernel), mp2 (i := 18) 7 (by decide +kernel)⟩
abbrev mX4_passHour : MI := (RX4, yX4_passHour, cX4_passHour, 6, some .int)
theorem cvX4_passHour : CV mX4_passHour 1 := ⟨⟨mw (i := 904) (by decide +kernel), mw (i := 7) (by decide +kernel), ⟨by decide +kernel, by decide +kernel, by decide +kernel⟩, by decide⟩, mw (i := 902) (by decide +kernel), mw (i := 903) (by decide +kernel)⟩
abbrev mX4_freeOn : MI := (RX4, yX4_freeOn, cX4_freeOn, 4, some .int)
theorem cvX4_freeOn : CV mX4_freeOn 1 := ⟨⟨mw (i := 787) (by decide +kernel), mw (i := 7) (by decide +kernel), ⟨by decide +kernel, by decide +kernel, by decide +kernel⟩, by decide⟩, mw (i := 785) (by decide +kernel), mw (i := 786) (by decide +kernel)⟩
abbrev mX4_freeInAll : MI := (RX4, yX4_freeInAll, cX4_freeInAll, 3, some .int)
theorem cvX4_freeInAll : CV mX4_freeInAll 0 := ⟨⟨mw (i := 842) (by decide +kernel), mw (i := 7) (by decide +kernel), ⟨by decide +kernel, by decide +kernel, by decide +kernel⟩, by decide⟩, mw (i := 840) (by decide +kernel), mw (i := 841) (by decide +kernel)⟩
abbrev mX4_clothsOn : MI := (RX4, yX4_clothsOn, cX4_clothsOn, 4, some .int)
theorem cvX4_clothsOn : CV mX4_clothsOn 1 := ⟨⟨mw (i := 791) (by decide +kernel), mw (i := 7) (by decide +kernel), ⟨by decide +kernel, by decide +kernel, by decide +kernel⟩, by decide⟩, mw (i := 789) (by decide +kernel), mw (i := 790) (by decide +kernel)⟩
abbrev mX4_hanging : MI := (RX4, yX4_hanging, cX4_hanging, 3, some .int)
theorem cvX4_hanging : CV mX4_hanging 0 := ⟨⟨mw (i := 834) (by decide +kernel), mw (i := 7) (by decide +kernel), ⟨by decide +kernel, by decide +kernel, by decide +kernel⟩, by decide⟩, mw (i := 832) (by decide +kernel), mw (i := 833) (by decide +kernel)⟩
abbrev mX4_wetOnes : MI := (RX4, yX4_wetOnes, cX4_wetOnes, 3, some .int)
theorem cvX4_wetOnes : CV mX4_wetOnes 0 := ⟨⟨mw (i := 838) (by decide +kernel), mw (i := 7) (by decide +kernel), ⟨by decide +kernel, by decide +kernel, by decide +kernel⟩, by decide⟩, mw (i := 836) (by decide +kernel), mw (i := 837) (by decide +kernel)⟩
abbrev mX4_countKinds : MI := (RX4, yX4_countKinds, cX4_countKinds, 6, none)
theorem cvX4_countKinds : CV mX4_countKinds 2 := ⟨⟨mw (i := 815) (by decide +kernel), mw (i := 7) (by decide +kernel), ⟨by decide +kernel, by decide +kernel, by decide +kernel⟩, by decide⟩, mw (i := 813) (by decide +kernel), mw (i := 814) (by decide +kernel)⟩
abbrev mX4_weather : MI := (RX4, yX4_weather, cX4_weather, 6, some .int)
theorem cvX4_weather : CV mX4_weather 2 := ⟨⟨mw (i := 811) (by decide +kernel), mw (i := 7) (by decide +kernel), ⟨by decide +kernel, by decide +kernel, by decide +kernel⟩, by decide⟩, mw (i := 809) (by decide +kernel), mw (i := 810) (by decide +kernel)⟩
abbrev mX4_strength : MI := (RX4, yX4_strength, cX4_strength, 3, some .int)
theorem cvX4_strength : CV mX4_strength 1 := ⟨⟨mw (i := 821) (by decide +kernel), mw (i := 7) (by decide +kernel), ⟨by decide +kernel, by decide +kernel, by decide +kernel⟩, by decide⟩, mw (i := 819) (by decide +kernel), mw (i := 820) (by decide +kernel)⟩
abbrev mX4_wind : MI := (RX4, yX4_wind, cX4_wind, 6, some .int)
theorem cvX4_wind : CV mX4_wind 1 := ⟨⟨mw (i := 826) (by decide +kernel), mw (i := 7) (by decide +kernel), ⟨by decide +kernel, by decide +kernel, by decide +kernel⟩, by decide⟩, mw (i := 824) (by decide +kernel), mw (i := 825) (by decide +kernel)⟩
abbrev mX4_thunders : MI := (RX4, yX4_thunders, cX4_thunders, 2, some .boolean)
theorem cvX4_thunders : CV mX4_thunders 0 := ⟨⟨mw (i := 977) (by decide +kernel), mw (i := 7) (by decide +kernel), ⟨by decide +kernel, by decide +kernel, by decide +kernel⟩, by decide⟩, mw (i := 975) (by decide +kernel), mw (i := 976) (by decide +kernel)⟩
abbrev mX4_hasWet : MI := (RX4, yX4_hasWet, cX4_hasWet, 4, some .boolean)
theorem cvX4_hasWet : CV mX4_hasWet 2 := ⟨⟨mw (i := 1124) (by decide +kernel), mw (i := 7) (by decide +kernel), ⟨by decide +kernel, by decide +kernel, by decide +kernel⟩, by decide⟩, mw (i := 1123) (by decide +kernel), mp2 (i := 32) 7 (by decide +kernel)⟩
abbrev mX4_bothWet : MI := (RX4, yX4_bothWet, cX4_bothWet, 3, some .boolean)
theorem cvX4_bothWet : CV mX4_bothWet 2 := ⟨⟨mw (i := 1120) (by decide +kernel), mw (i := 7) (by decide +kernel), ⟨by decide +kernel, by decide +kernel, by decide +kernel⟩, by decide⟩, mw (i := 1118) (by decide +kernel), mw (i := 1119) (by decide +kernel)⟩
abbrev mX4_isRainbow : MI := (RX4, yX4_isRainbow, cX4_isRainbow, 3, some .boolean)
theorem cvX4_isRainbow : CV mX4_isRainbow 2 := ⟨⟨mw (i := 1128) (by decide +kernel), mw (i := 7) (by decide +kernel), ⟨by decide +kernel, by decide +kernel, by decide +kernel⟩, by decide⟩, mw (i := 1126) (by decide +kernel), mw (i := 1127) (by decide +kernel)⟩
abbrev mX4_draw : MI := (RX4, yX4_draw, cX4_draw, 2, some .int)
theorem cvX4_draw : CV mX4_draw 1 := ⟨⟨mw (i := 1164) (by decide +kernel), mw (i := 7) (by decide +kernel), ⟨by decide +kernel, by decide +kernel, by decide +kernel⟩, by decide⟩, mw (i := 1163) (by decide +kernel), mp2 (i := 34) 7 (by decide +kernel)⟩
abbrev mX5_addBytes : MI := (RX5, yX5_addBytes, cX5_addBytes, 5, none)
theorem cvX5_addBytes : CV mX5_addBytes 1 := ⟨⟨mw (i := 417) (by decide +kernel), mw (i := 2) (by decide +kernel), ⟨by decide +kernel, by decide +kernel, by decide +kernel⟩, by decide⟩, mw (i := 415) (by decide +kernel), mw (i := 416) (by decide +kernel)⟩
abbrev mX5_endReading : MI := (RX5, yX5_endReading, cX5_endReading, 1, some .int)
theorem cvX5_endReading : CV mX5_endReading 0 := ⟨⟨mw (i := 718) (by decide +kernel), mw (i := 2) (by decide +kernel), ⟨by decide +kernel, by decide +kernel, by decide +kernel⟩, by decide⟩, mw (i := 716) (by decide +kernel), mw (i := 717) (by decide +kernel)⟩
abbrev mX5_isBlank : MI := (RX5, yX5_isBlank, cX5_isBlank, 1, some .boolean)
theorem csX5_isBlank : CS mX5_isBlank 1 := ⟨⟨mw (i := 448) (by decide +kernel), mw (i := 2) (by decide +kernel), ⟨by decide +kernel, by decide +kernel, by decide +kernel⟩, by decide⟩, mw (i := 447) (by decide +kernel)⟩
abbrev mX5_isLetter : MI := (RX5, yX5_isLetter, cX5_isLetter, 1, some .boolean)
theorem csX5_isLetter : CS mX5_isLetter 1 := ⟨⟨mw (i := 451) (by decide +kernel), mw (i := 2) (by decide +kernel), ⟨by decide +kernel, by decide +kernel, by decide +kernel⟩, by decide⟩, mw (i := 450) (by decide +kernel)⟩
abbrev mX5_isDigit : MI := (RX5, yX5_isDigit, cX5_isDigit, 1, some .boolean)
theorem csX5_isDigit : CS mX5_isDigit 1 := ⟨⟨mw (i := 513) (by decide +kernel), mw (i := 2) (by decide +kernel), ⟨by decide +kernel, by decide +kernel, by decide +kernel⟩, by decide⟩, mw (i := 512) (by decide +kernel)⟩
abbrev mX5_readDigits : MI := (RX5, yX5_readDigits, cX5_readDigits, 1, none)
theorem cvX5_readDigits : CV mX5_readDigits 0 := ⟨⟨mw (i := 517) (by decide +kernel), mw (i := 2) (by decide +kernel), ⟨by decide +kernel, by decide +kernel, by decide +kernel⟩, by decide⟩, mw (i := 516) (by decide +kernel), mp2 (i := 2) 9 (by decide +kernel)⟩
abbrev mX5_fail : MI := (RX5, yX5_fail, cX5_fail, 2, none)
theorem cvX5_fail : CV mX5_fail 1 := ⟨⟨mw (i := 591) (by decide +kernel), mw (i := 2) (by decide +kernel), ⟨by decide +kernel, by decide +kernel, by decide +kernel⟩, by decide⟩, mw (i := 589) (by decide +kernel), mw (i := 590) (by decide +kernel)⟩
abbrev mX5_isName : MI := (RX5, yX5_isName, cX5_isName, 1, some .boolean)
theorem cvX5_isName : CV mX5_isName 0 := ⟨⟨mw (i := 600) (by decide +kernel), mw (i := 2) (by decide +kernel), ⟨by decide +kernel, by decide +kernel, by decide +kernel⟩, by decide⟩, mw (i := 598) (by decide +kernel), mw (i := 599) (by decide +kernel)⟩
abbrev mX6_copyFrom : MI := (RX6, yX6_copyFrom, cX6_copyFrom, 2, none)
theorem cvX6_copyFrom : CV mX6_copyFrom 1 := ⟨⟨mw (i := 943) (by decide +kernel), mw (i := 10) (by decide +kernel), ⟨by decide +kernel, by decide +kernel, by decide +kernel⟩, by decide⟩, mw (i := 941) (by decide +kernel), mw (i := 942) (by decide +kernel)⟩
abbrev mX1_lay : MI := (RX1, yX1_lay, cX1_lay, 4, none)
theorem cvX1_lay : CV mX1_lay 3 := ⟨⟨mw (i := 937) (by decide +kernel), mw (i := 11) (by decide +kernel), ⟨by decide +kernel, by decide +kernel, by decide +kernel⟩, by decide⟩, mw (i := 935) (by decide +kernel), mw (i := 936) (by decide +kernel)⟩
abbrev mX6_add : MI := (RX6, yX6_add, cX6_add, 4, some .boolean)
theorem cvX6_add : CV mX6_add 3 := ⟨⟨mw (i := 1073) (by decide +kernel), mw (i := 10) (by decide +kernel), ⟨by decide +kernel, by decide +kernel, by decide +kernel⟩, by decide⟩, mw (i := 1071) (by decide +kernel), mw (i := 1072) (by decide +kernel)⟩
abbrev mX6_agrees : MI := (RX6, yX6_agrees, cX6_agrees, 3, some .boolean)
theorem cvX6_agrees : CV mX6_agrees 1 := ⟨⟨mw (i := 1099) (by decide +kernel), mw (i := 10) (by decide +kernel), ⟨by decide +kernel, by decide +kernel, by decide +kernel⟩, by decide⟩, mw (i := 1098) (by decide +kernel), mp2 (i := 30) 10 (by decide +kernel)⟩
abbrev mX6_comesTrue : MI := (RX6, yX6_comesTrue, cX6_comesTrue, 5, some .boolean)
theorem cvX6_comesTrue : CV mX6_comesTrue 1 := ⟨⟨mw (i := 1093) (by decide +kernel), mw (i := 10) (by decide +kernel), ⟨by decide +kernel, by decide +kernel, by decide +kernel⟩, by decide⟩, mw (i := 1092) (by decide +kernel), mp2 (i := 29) 10 (by decide +kernel)⟩
abbrev mX6_tryPair : MI := (RX6, yX6_tryPair, cX6_tryPair, 5, none)
theorem cvX6_tryPair : CV mX6_tryPair 3 := ⟨⟨mw (i := 1089) (by decide +kernel), mw (i := 10) (by decide +kernel), ⟨by decide +kernel, by decide +kernel, by decide +kernel⟩, by decide⟩, mw (i := 1088) (by decide +kernel), mp2 (i := 28) 10 (by decide +kernel)⟩
abbrev mX6_bestPlace : MI := (RX6, yX6_bestPlace, cX6_bestPlace, 6, some .int)
theorem cvX6_bestPlace : CV mX6_bestPlace 0 := ⟨⟨mw (i := 1108) (by decide +kernel), mw (i := 10) (by decide +kernel), ⟨by decide +kernel, by decide +kernel, by decide +kernel⟩, by decide⟩, mw (i := 1106) (by decide +kernel), mw (i := 1107) (by decide +kernel)⟩
abbrev mX7_clear : MI := (RX7, yX7_clear, cX7_clear, 1, none)
theorem cvX7_clear : CV mX7_clear 0 := ⟨⟨mw (i := 429) (by decide +kernel), mw (i := 3) (by decide +kernel), ⟨by decide +kernel, by decide +kernel, by decide +kernel⟩, by decide⟩, mw (i := 427) (by decide +kernel), mw (i := 428) (by decide +kernel)⟩
abbrev mX7_copyFrom : MI := (RX7, yX7_copyFrom, cX7_copyFrom, 2, none)
theorem cvX7_copyFrom : CV mX7_copyFrom 1 := ⟨⟨mw (i := 722) (by decide +kernel), mw (i := 3) (by decide +kernel), ⟨by decide +kernel, by decide +kernel, by decide +kernel⟩, by decide⟩, mw (i := 720) (by decide +kernel), mw (i := 721) (by decide +kernel)⟩
abbrev mX7_hasLine : MI := (RX7, yX7_hasLine, cX7_hasLine, 2, some .boolean)
theorem cvX7_hasLine : CV mX7_hasLine 1 := ⟨⟨mw (i := 670) (by decide +kernel), mw (i := 3) (by decide +kernel), ⟨by decide +kernel, by decide +kernel, by decide +kernel⟩, by decide⟩, mw (i := 668) (by decide +kernel), mw (i := 669) (by decide +kernel)⟩
abbrev mX7_hasPlace : MI := (RX7, yX7_hasPlace, cX7_hasPlace, 2, some .boolean)
theorem cvX7_hasPlace : CV mX7_hasPlace 1 := ⟨⟨mw (i := 807) (by decide +kernel), mw (i := 3) (by decide +kernel), ⟨by decide +kernel, by decide +kernel, by decide +kernel⟩, by decide⟩, mw (i := 805) (by decide +kernel), mw (i := 806) (by decide +kernel)⟩
abbrev mX7_hasCloth : MI := (RX7, yX7_hasCloth, cX7_hasCloth, 2, some .boolean)
theorem cvX7_hasCloth : CV mX7_hasCloth 1 := ⟨⟨mw (i := 799) (by decide +kernel), mw (i := 3) (by decide +kernel), ⟨by decide +kernel, by decide +kernel, by decide +kernel⟩, by decide⟩, mw (i := 797) (by decide +kernel), mw (i := 798) (by decide +kernel)⟩
abbrev mX4_hangs : MI := (RX4, yX4_hangs, cX4_hangs, 2, some .boolean)
theorem cvX4_hangs : CV mX4_hangs 1 := ⟨⟨mw (i := 883) (by decide +kernel), mw (i := 7) (by decide +kernel), ⟨by decide +kernel, by decide +kernel, by decide +kernel⟩, by decide⟩, mw (i := 881) (by decide +kernel), mw (i := 882) (by decide +kernel)⟩
abbrev mX4_lies : MI := (RX4, yX4_lies, cX4_lies, 2, some .boolean)
theorem cvX4_lies : CV mX4_lies 1 := ⟨⟨mw (i := 859) (by decide +kernel), mw (i := 7) (by decide +kernel), ⟨by decide +kernel, by decide +kernel, by decide +kernel⟩, by decide⟩, mw (i := 857) (by decide +kernel), mw (i := 858) (by decide +kernel)⟩
abbrev mX4_canHang : MI := (RX4, yX4_canHang, cX4_canHang, 4, some .boolean)
theorem cvX4_canHang : CV mX4_canHang 3 := ⟨⟨mw (i := 855) (by decide +kernel), mw (i := 7) (by decide +kernel), ⟨by decide +kernel, by decide +kernel, by decide +kernel⟩, by decide⟩, mw (i := 853) (by decide +kernel), mw (i := 854) (by decide +kernel)⟩
abbrev mX3_isDone : MI := (RX3, yX3_isDone, cX3_isDone, 4, some .boolean)
theorem cvX3_isDone : CV mX3_isDone 2 := ⟨⟨mw (i := 966) (by decide +kernel), mw (i := 6) (by decide +kernel), ⟨by decide +kernel, by decide +kernel, by decide +kernel⟩, by decide⟩, mw (i := 965) (by decide +kernel), mp2 (i := 19) 7 (by decide +kernel)⟩
abbrev mX3_judge : MI := (RX3, yX3_judge, cX3_judge, 3, none)
theorem cvX3_judge : CV mX3_judge 1 := ⟨⟨mw (i := 961) (by decide +kernel), mw (i := 6) (by decide +kernel), ⟨by decide +kernel, by decide +kernel, by decide +kernel⟩, by decide⟩, mw (i := 959) (by decide +kernel), mw (i := 960) (by decide +kernel)⟩
abbrev mX4_drawOne : MI := (RX4, yX4_drawOne, cX4_drawOne, 4, some .boolean)
theorem cvX4_drawOne : CV mX4_drawOne 0 := ⟨⟨mw (i := 1160) (by decide +kernel), mw (i := 7) (by decide +kernel), ⟨by decide +kernel, by decide +kernel, by decide +kernel⟩, by decide⟩, mw (i := 1158) (by decide +kernel), mw (i := 1159) (by decide +kernel)⟩
abbrev mX6_findPairs : MI := (RX6, yX6_findPairs, cX6_findPairs, 5, none)
theorem cvX6_findPairs : CV mX6_findPairs 2 := ⟨⟨mw (i := 1081) (by decide +kernel), mw (i := 10) (by decide +kernel), ⟨by decide +kernel, by decide +kernel, by decide +kernel⟩, by decide⟩, mw (i := 1079) (by decide +kernel), mw (i := 1080) (by decide +kernel)⟩
abbrev mX7_addLine : MI := (RX7, yX7_addLine, cX7_addLine, 4, none)
theorem cvX7_addLine : CV mX7_addLine 2 := ⟨⟨mw (i := 626) (by decide +kernel), mw (i := 3) (by decide +kernel), ⟨by decide +kernel, by decide +kernel, by decide +kernel⟩, by decide⟩, mw (i := 624) (by decide +kernel), mw (i := 625) (by decide +kernel)⟩
abbrev mX7_addPlace : MI := (RX7, yX7_addPlace, cX7_addPlace, 4, none)
theorem cvX7_addPlace : CV mX7_addPlace 2 := ⟨⟨mw (i := 648) (by decide +kernel), mw (i := 3) (by decide +kernel), ⟨by decide +kernel, by decide +kernel, by decide +kernel⟩, by decide⟩, mw (i := 646) (by decide +kernel), mw (i := 647) (by decide +kernel)⟩
abbrev mX7_addCloth : MI := (RX7, yX7_addCloth, cX7_addCloth, 5, none)
theorem cvX7_addCloth : CV mX7_addCloth 3 := ⟨⟨mw (i := 660) (by decide +kernel), mw (i := 3) (by decide +kernel), ⟨by decide +kernel, by decide +kernel, by decide +kernel⟩, by decide⟩, mw (i := 658) (by decide +kernel), mw (i := 659) (by decide +kernel)⟩
abbrev mX7_addCrossing : MI := (RX7, yX7_addCrossing, cX7_addCrossing, 3, none)
theorem cvX7_addCrossing : CV mX7_addCrossing 2 := ⟨⟨mw (i := 678) (by decide +kernel), mw (i := 3) (by decide +kernel), ⟨by decide +kernel, by decide +kernel, by decide +kernel⟩, by decide⟩, mw (i := 676) (by decide +kernel), mw (i := 677) (by decide +kernel)⟩
abbrev mX7_indexOf : MI := (RX7, yX7_indexOf, cX7_indexOf, 5, some .int)
theorem csX7_indexOf : CS mX7_indexOf 3 := ⟨⟨mw (i := 607) (by decide +kernel), mw (i := 3) (by decide +kernel), ⟨by decide +kernel, by decide +kernel, by decide +kernel⟩, by decide⟩, mw (i := 606) (by decide +kernel)⟩
abbrev mX5_findName : MI := (RX5, yX5_findName, cX5_findName, 4, some .int)
theorem cvX5_findName : CV mX5_findName 2 := ⟨⟨mw (i := 642) (by decide +kernel), mw (i := 2) (by decide +kernel), ⟨by decide +kernel, by decide +kernel, by decide +kernel⟩, by decide⟩, mw (i := 640) (by decide +kernel), mw (i := 641) (by decide +kernel)⟩
abbrev mX7_isTold : MI := (RX7, yX7_isTold, cX7_isTold, 3, some .boolean)
theorem cvX7_isTold : CV mX7_isTold 1 := ⟨⟨mw (i := 604) (by decide +kernel), mw (i := 3) (by decide +kernel), ⟨by decide +kernel, by decide +kernel, by decide +kernel⟩, by decide⟩, mw (i := 602) (by decide +kernel), mw (i := 603) (by decide +kernel)⟩
abbrev mX9_forget : MI := (RX9, yX9_forget, cX9_forget, 2, none)
theorem cvX9_forget : CV mX9_forget 0 := ⟨⟨mw (i := 742) (by decide +kernel), mw (i := 9) (by decide +kernel), ⟨by decide +kernel, by decide +kernel, by decide +kernel⟩, by decide⟩, mw (i := 740) (by decide +kernel), mw (i := 741) (by decide +kernel)⟩
abbrev mX9_copyFrom : MI := (RX9, yX9_copyFrom, cX9_copyFrom, 2, none)
theorem cvX9_copyFrom : CV mX9_copyFrom 1 := ⟨⟨mw (i := 952) (by decide +kernel), mw (i := 9) (by decide +kernel), ⟨by decide +kernel, by decide +kernel, by decide +kernel⟩, by decide⟩, mw (i := 950) (by decide +kernel), mw (i := 951) (by decide +kernel)⟩
abbrev mX1_goBack : MI := (RX1, yX1_goBack, cX1_goBack, 4, none)
theorem cvX1_goBack : CV mX1_goBack 3 := ⟨⟨mw (i := 948) (by decide +kernel), mw (i := 11) (by decide +kernel), ⟨by decide +kernel, by decide +kernel, by decide +kernel⟩, by decide⟩, mw (i := 946) (by decide +kernel), mw (i := 947) (by decide +kernel)⟩
abbrev mX9_wantedPlaces : MI := (RX9, yX9_wantedPlaces, cX9_wantedPlaces, 3, some .int)
theorem cvX9_wantedPlaces : CV mX9_wantedPlaces 0 := ⟨⟨mw (i := 847) (by decide +kernel), mw (i := 9) (by decide +kernel), ⟨by decide +kernel, by decide +kernel, by decide +kernel⟩, by decide⟩, mw (i := 845) (by decide +kernel), mw (i := 846) (by decide +kernel)⟩
abbrev mX9_findUsefulLines : MI := (RX9, yX9_findUsefulLines, cX9_findUsefulLines, 2, none)
theorem cvX9_findUsefulLines : CV mX9_findUsefulLines 0 := ⟨⟨mw (i := 1029) (by decide +kernel), mw (i := 9) (by decide +kernel), ⟨by decide +kernel, by decide +kernel, by decide +kernel⟩, by decide⟩, mw (i := 1028) (by decide +kernel), mp2 (i := 21) 4 (by decide +kernel)⟩
abbrev mX9_firstLine : MI := (RX9, yX9_firstLine, cX9_firstLine, 3, some .int)
theorem cvX9_firstLine : CV mX9_firstLine 1 := ⟨⟨mw (i := 1058) (by decide +kernel), mw (i := 9) (by decide +kernel), ⟨by decide +kernel, by decide +kernel, by decide +kernel⟩, by decide⟩, mw (i := 1057) (by decide +kernel), mp2 (i := 27) 4 (by decide +kernel)⟩
abbrev mX9_forgetFrom : MI := (RX9, yX9_forgetFrom, cX9_forgetFrom, 3, none)
theorem cvX9_forgetFrom : CV mX9_forgetFrom 1 := ⟨⟨mw (i := 1054) (by decide +kernel), mw (i := 9) (by decide +kernel), ⟨by decide +kernel, by decide +kernel, by decide +kernel⟩, by decide⟩, mw (i := 1053) (by decide +kernel), mp2 (i := 26) 4 (by decide +kernel)⟩
abbrev mX9_leftOf : MI := (RX9, yX9_leftOf, cX9_leftOf, 5, some .int)
theorem cvX9_leftOf : CV mX9_leftOf 2 := ⟨⟨mw (i := 1043) (by decide +kernel), mw (i := 9) (by decide +kernel), ⟨by decide +kernel, by decide +kernel, by decide +kernel⟩, by decide⟩, mw (i := 1042) (by decide +kernel), mp2 (i := 24) 4 (by decide +kernel)⟩
abbrev mX9_wins : MI := (RX9, yX9_wins, cX9_wins, 6, some .boolean)
theorem cvX9_wins : CV mX9_wins 2 := ⟨⟨mw (i := 1049) (by decide +kernel), mw (i := 9) (by decide +kernel), ⟨by decide +kernel, by decide +kernel, by decide +kernel⟩, by decide⟩, mw (i := 1048) (by decide +kernel), mp2 (i := 25) 4 (by decide +kernel)⟩
abbrev mX9_canStillBe : MI := (RX9, yX9_canStillBe, cX9_canStillBe, 5, some .boolean)
theorem cvX9_canStillBe : CV mX9_canStillBe 2 := ⟨⟨mw (i := 1037) (by decide +kernel), mw (i := 9) (by decide +kernel), ⟨by decide +kernel, by decide +kernel, by decide +kernel⟩, by decide⟩, mw (i := 1036) (by decide +kernel), mp2 (i := 23) 4 (by decide +kernel)⟩
abbrev mX9_search : MI := (RX9, yX9_search, cX9_search, 6, some .boolean)
theorem cvX9_search : CV mX9_search 2 := ⟨⟨mw (i := 1033) (by decide +kernel), mw (i := 9) (by decide +kernel), ⟨by decide +kernel, by decide +kernel, by decide +kernel⟩, by decide⟩, mw (i := 1032) (by decide +kernel), mp2 (i := 22) 4 (by decide +kernel)⟩
abbrev mX9_fewest : MI := (RX9, yX9_fewest, cX9_fewest, 3, some .int)
theorem cvX9_fewest : CV mX9_fewest 1 := ⟨⟨mw (i := 1024) (by decide +kernel), mw (i := 9) (by decide +kernel), ⟨by decide +kernel, by decide +kernel, by decide +kernel⟩, by decide⟩, mw (i := 1022) (by decide +kernel), mw (i := 1023) (by decide +kernel)⟩
abbrev mX11_feed : MI := (RX11, yX11_feed, cX11_feed, 7, some .int)
theorem cvX11_feed : CV mX11_feed 3 := ⟨⟨mw (i := 413) (by decide +kernel), mw (i := 1) (by decide +kernel), ⟨by decide +kernel, by decide +kernel, by decide +kernel⟩, by decide⟩, mw (i := 411) (by decide +kernel), mw (i := 412) (by decide +kernel)⟩
abbrev mX11_startAnew : MI := (RX11, yX11_startAnew, cX11_startAnew, 2, none)
theorem cvX11_startAnew : CV mX11_startAnew 0 := ⟨⟨mw (i := 734) (by decide +kernel), mw (i := 1) (by decide +kernel), ⟨by decide +kernel, by decide +kernel, by decide +kernel⟩, by decide⟩, mw (i := 733) (by decide +kernel), mp2 (i := 16) 12 (by decide +kernel)⟩
abbrev mX11_line : MI := (RX11, yX11_line, cX11_line, 3, some .int)
theorem cvX11_line : CV mX11_line 2 := ⟨⟨mw (i := 782) (by decide +kernel), mw (i := 1) (by decide +kernel), ⟨by decide +kernel, by decide +kernel, by decide +kernel⟩, by decide⟩, mw (i := 780) (by decide +kernel), mw (i := 781) (by decide +kernel)⟩
abbrev mX11_cloth : MI := (RX11, yX11_cloth, cX11_cloth, 3, some .int)
theorem cvX11_cloth : CV mX11_cloth 2 := ⟨⟨mw (i := 795) (by decide +kernel), mw (i := 1) (by decide +kernel), ⟨by decide +kernel, by decide +kernel, by decide +kernel⟩, by decide⟩, mw (i := 793) (by decide +kernel), mw (i := 794) (by decide +kernel)⟩
abbrev mX11_place : MI := (RX11, yX11_place, cX11_place, 3, some .int)
theorem cvX11_place : CV mX11_place 2 := ⟨⟨mw (i := 803) (by decide +kernel), mw (i := 1) (by decide +kernel), ⟨by decide +kernel, by decide +kernel, by decide +kernel⟩, by decide⟩, mw (i := 801) (by decide +kernel), mw (i := 802) (by decide +kernel)⟩
abbrev mX11_count : MI := (RX11, yX11_count, cX11_count, 2, some .int)
theorem cvX11_count : CV mX11_count 1 := ⟨⟨mw (i := 830) (by decide +kernel), mw (i := 1) (by decide +kernel), ⟨by decide +kernel, by decide +kernel, by decide +kernel⟩, by decide⟩, mw (i := 828) (by decide +kernel), mw (i := 829) (by decide +kernel)⟩
abbrev mX11_hang : MI := (RX11, yX11_hang, cX11_hang, 4, some .int)
theorem cvX11_hang : CV mX11_hang 3 := ⟨⟨mw (i := 851) (by decide +kernel), mw (i := 1) (by decide +kernel), ⟨by decide +kernel, by decide +kernel, by decide +kernel⟩, by decide⟩, mw (i := 849) (by decide +kernel), mw (i := 850) (by decide +kernel)⟩
abbrev mX11_take : MI := (RX11, yX11_take, cX11_take, 2, some .int)
theorem cvX11_take : CV mX11_take 1 := ⟨⟨mw (i := 879) (by decide +kernel), mw (i := 1) (by decide +kernel), ⟨by decide +kernel, by decide +kernel, by decide +kernel⟩, by decide⟩, mw (i := 877) (by decide +kernel), mw (i := 878) (by decide +kernel)⟩
abbrev mX11_wash : MI := (RX11, yX11_wash, cX11_wash, 2, some .boolean)
theorem cvX11_wash : CV mX11_wash 1 := ⟨⟨mw (i := 891) (by decide +kernel), mw (i := 1) (by decide +kernel), ⟨by decide +kernel, by decide +kernel, by decide +kernel⟩, by decide⟩, mw (i := 889) (by decide +kernel), mw (i := 890) (by decide +kernel)⟩
abbrev mX11_hour : MI := (RX11, yX11_hour, cX11_hour, 1, some .int)
theorem cvX11_hour : CV mX11_hour 0 := ⟨⟨mw (i := 900) (by decide +kernel), mw (i := 1) (by decide +kernel), ⟨by decide +kernel, by decide +kernel, by decide +kernel⟩, by decide⟩, mw (i := 898) (by decide +kernel), mw (i := 899) (by decide +kernel)⟩
abbrev mX11_undo : MI := (RX11, yX11_undo, cX11_undo, 1, some .boolean)
theorem cvX11_undo : CV mX11_undo 0 := ⟨⟨mw (i := 925) (by decide +kernel), mw (i := 1) (by decide +kernel), ⟨by decide +kernel, by decide +kernel, by decide +kernel⟩, by decide⟩, mw (i := 923) (by decide +kernel), mw (i := 924) (by decide +kernel)⟩
abbrev mX11_mark : MI := (RX11, yX11_mark, cX11_mark, 4, some .boolean)
theorem cvX11_mark : CV mX11_mark 2 := ⟨⟨mw (i := 933) (by decide +kernel), mw (i := 1) (by decide +kernel), ⟨by decide +kernel, by decide +kernel, by decide +kernel⟩, by decide⟩, mw (i := 931) (by decide +kernel), mw (i := 932) (by decide +kernel)⟩
abbrev mX11_later : MI := (RX11, yX11_later, cX11_later, 4, some .int)
theorem cvX11_later : CV mX11_later 2 := ⟨⟨mw (i := 987) (by decide +kernel), mw (i := 1) (by decide +kernel), ⟨by decide +kernel, by decide +kernel, by decide +kernel⟩, by decide⟩, mw (i := 985) (by decide +kernel), mw (i := 986) (by decide +kernel)⟩
