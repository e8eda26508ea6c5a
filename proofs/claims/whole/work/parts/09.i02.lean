abbrev mX11_dry : MI := (RX11, yX11_dry, cX11_dry, 3, some .int)
theorem cvX11_dry : CV mX11_dry 1 := ⟨⟨mw (i := 992) (by decide +kernel), mw (i := 1) (by decide +kernel), ⟨by decide +kernel, by decide +kernel, by decide +kernel⟩, by decide⟩, mw (i := 990) (by decide +kernel), mw (i := 991) (by decide +kernel)⟩
abbrev mX11_clears : MI := (RX11, yX11_clears, cX11_clears, 3, some .int)
theorem cvX11_clears : CV mX11_clears 1 := ⟨⟨mw (i := 996) (by decide +kernel), mw (i := 1) (by decide +kernel), ⟨by decide +kernel, by decide +kernel, by decide +kernel⟩, by decide⟩, mw (i := 994) (by decide +kernel), mw (i := 995) (by decide +kernel)⟩
abbrev mX11_waysToDry : MI := (RX11, yX11_waysToDry, cX11_waysToDry, 6, some .int)
theorem cvX11_waysToDry : CV mX11_waysToDry 4 := ⟨⟨mw (i := 1009) (by decide +kernel), mw (i := 1) (by decide +kernel), ⟨by decide +kernel, by decide +kernel, by decide +kernel⟩, by decide⟩, mw (i := 1008) (by decide +kernel), mp2 (i := 20) 12 (by decide +kernel)⟩
abbrev mX11_chance : MI := (RX11, yX11_chance, cX11_chance, 6, some .int)
theorem cvX11_chance : CV mX11_chance 3 := ⟨⟨mw (i := 1005) (by decide +kernel), mw (i := 1) (by decide +kernel), ⟨by decide +kernel, by decide +kernel, by decide +kernel⟩, by decide⟩, mw (i := 1003) (by decide +kernel), mw (i := 1004) (by decide +kernel)⟩
abbrev mX11_wish : MI := (RX11, yX11_wish, cX11_wish, 3, some .int)
theorem cvX11_wish : CV mX11_wish 1 := ⟨⟨mw (i := 1020) (by decide +kernel), mw (i := 1) (by decide +kernel), ⟨by decide +kernel, by decide +kernel, by decide +kernel⟩, by decide⟩, mw (i := 1018) (by decide +kernel), mw (i := 1019) (by decide +kernel)⟩
abbrev mX11_pairs : MI := (RX11, yX11_pairs, cX11_pairs, 2, some .int)
theorem cvX11_pairs : CV mX11_pairs 1 := ⟨⟨mw (i := 1077) (by decide +kernel), mw (i := 1) (by decide +kernel), ⟨by decide +kernel, by decide +kernel, by decide +kernel⟩, by decide⟩, mw (i := 1075) (by decide +kernel), mw (i := 1076) (by decide +kernel)⟩
abbrev mX11_look : MI := (RX11, yX11_look, cX11_look, 2, some .int)
theorem cvX11_look : CV mX11_look 1 := ⟨⟨mw (i := 1104) (by decide +kernel), mw (i := 1) (by decide +kernel), ⟨by decide +kernel, by decide +kernel, by decide +kernel⟩, by decide⟩, mw (i := 1102) (by decide +kernel), mw (i := 1103) (by decide +kernel)⟩
abbrev mX11_isWeather : MI := (RX11, yX11_isWeather, cX11_isWeather, 1, some .boolean)
theorem csX11_isWeather : CS mX11_isWeather 1 := ⟨⟨mw (i := 1016) (by decide +kernel), mw (i := 1) (by decide +kernel), ⟨by decide +kernel, by decide +kernel, by decide +kernel⟩, by decide⟩, mw (i := 1015) (by decide +kernel)⟩
abbrev mX11_want : MI := (RX11, yX11_want, cX11_want, 3, some .boolean)
theorem cvX11_want : CV mX11_want 2 := ⟨⟨mw (i := 1013) (by decide +kernel), mw (i := 1) (by decide +kernel), ⟨by decide +kernel, by decide +kernel, by decide +kernel⟩, by decide⟩, mw (i := 1011) (by decide +kernel), mw (i := 1012) (by decide +kernel)⟩
abbrev mX11_tell : MI := (RX11, yX11_tell, cX11_tell, 4, some .boolean)
theorem cvX11_tell : CV mX11_tell 3 := ⟨⟨mw (i := 1069) (by decide +kernel), mw (i := 1) (by decide +kernel), ⟨by decide +kernel, by decide +kernel, by decide +kernel⟩, by decide⟩, mw (i := 1067) (by decide +kernel), mw (i := 1068) (by decide +kernel)⟩
abbrev mX11_crossings : MI := (RX11, yX11_crossings, cX11_crossings, 5, some .int)
theorem cvX11_crossings : CV mX11_crossings 1 := ⟨⟨mw (i := 1116) (by decide +kernel), mw (i := 1) (by decide +kernel), ⟨by decide +kernel, by decide +kernel, by decide +kernel⟩, by decide⟩, mw (i := 1115) (by decide +kernel), mp2 (i := 31) 12 (by decide +kernel)⟩
abbrev mX11_rainbows : MI := (RX11, yX11_rainbows, cX11_rainbows, 1, some .int)
theorem cvX11_rainbows : CV mX11_rainbows 0 := ⟨⟨mw (i := 1112) (by decide +kernel), mw (i := 1) (by decide +kernel), ⟨by decide +kernel, by decide +kernel, by decide +kernel⟩, by decide⟩, mw (i := 1110) (by decide +kernel), mw (i := 1111) (by decide +kernel)⟩
abbrev mX11_quarrels : MI := (RX11, yX11_quarrels, cX11_quarrels, 1, some .int)
theorem cvX11_quarrels : CV mX11_quarrels 0 := ⟨⟨mw (i := 1132) (by decide +kernel), mw (i := 1) (by decide +kernel), ⟨by decide +kernel, by decide +kernel, by decide +kernel⟩, by decide⟩, mw (i := 1130) (by decide +kernel), mw (i := 1131) (by decide +kernel)⟩
abbrev mX11_changedBy : MI := (RX11, yX11_changedBy, cX11_changedBy, 5, some .int)
theorem cvX11_changedBy : CV mX11_changedBy 2 := ⟨⟨mw (i := 1140) (by decide +kernel), mw (i := 1) (by decide +kernel), ⟨by decide +kernel, by decide +kernel, by decide +kernel⟩, by decide⟩, mw (i := 1139) (by decide +kernel), mp2 (i := 33) 12 (by decide +kernel)⟩
abbrev mX11_best : MI := (RX11, yX11_best, cX11_best, 6, some .int)
theorem cvX11_best : CV mX11_best 1 := ⟨⟨mw (i := 1136) (by decide +kernel), mw (i := 1) (by decide +kernel), ⟨by decide +kernel, by decide +kernel, by decide +kernel⟩, by decide⟩, mw (i := 1134) (by decide +kernel), mw (i := 1135) (by decide +kernel)⟩
abbrev mX11_owes : MI := (RX11, yX11_owes, cX11_owes, 4, some .int)
theorem cvX11_owes : CV mX11_owes 1 := ⟨⟨mw (i := 1144) (by decide +kernel), mw (i := 1) (by decide +kernel), ⟨by decide +kernel, by decide +kernel, by decide +kernel⟩, by decide⟩, mw (i := 1142) (by decide +kernel), mw (i := 1143) (by decide +kernel)⟩
abbrev mX11_same : MI := (RX11, yX11_same, cX11_same, 4, some .int)
theorem cvX11_same : CV mX11_same 0 := ⟨⟨mw (i := 1148) (by decide +kernel), mw (i := 1) (by decide +kernel), ⟨by decide +kernel, by decide +kernel, by decide +kernel⟩, by decide⟩, mw (i := 1146) (by decide +kernel), mw (i := 1147) (by decide +kernel)⟩
abbrev mX11_storm : MI := (RX11, yX11_storm, cX11_storm, 5, some .int)
theorem cvX11_storm : CV mX11_storm 0 := ⟨⟨mw (i := 1152) (by decide +kernel), mw (i := 1) (by decide +kernel), ⟨by decide +kernel, by decide +kernel, by decide +kernel⟩, by decide⟩, mw (i := 1150) (by decide +kernel), mw (i := 1151) (by decide +kernel)⟩
abbrev mX11_isStake : MI := (RX11, yX11_isStake, cX11_isStake, 1, some .boolean)
theorem csX11_isStake : CS mX11_isStake 1 := ⟨⟨mw (i := 1185) (by decide +kernel), mw (i := 1) (by decide +kernel), ⟨by decide +kernel, by decide +kernel, by decide +kernel⟩, by decide⟩, mw (i := 1184) (by decide +kernel)⟩
abbrev mX11_gain : MI := (RX11, yX11_gain, cX11_gain, 5, some .int)
theorem csX11_gain : CS mX11_gain 5 := ⟨⟨mw (i := 1252) (by decide +kernel), mw (i := 1) (by decide +kernel), ⟨by decide +kernel, by decide +kernel, by decide +kernel⟩, by decide⟩, mw (i := 1251) (by decide +kernel)⟩
abbrev mX11_isRest : MI := (RX11, yX11_isRest, cX11_isRest, 6, some .boolean)
theorem csX11_isRest : CS mX11_isRest 4 := ⟨⟨mw (i := 1249) (by decide +kernel), mw (i := 1) (by decide +kernel), ⟨by decide +kernel, by decide +kernel, by decide +kernel⟩, by decide⟩, mw (i := 1248) (by decide +kernel)⟩
abbrev mX11_mays : MI := (RX11, yX11_mays, cX11_mays, 7, some .int)
theorem cvX11_mays : CV mX11_mays 3 := ⟨⟨mw (i := 1156) (by decide +kernel), mw (i := 1) (by decide +kernel), ⟨by decide +kernel, by decide +kernel, by decide +kernel⟩, by decide⟩, mw (i := 1154) (by decide +kernel), mw (i := 1155) (by decide +kernel)⟩
abbrev mX12_thrown : MI := (RX12, yX12_thrown, cX12_thrown, 1, some .int)
theorem cvX12_thrown : CV mX12_thrown 0 := ⟨⟨mw (i := 1256) (by decide +kernel), mw (i := 12) (by decide +kernel), ⟨by decide +kernel, by decide +kernel, by decide +kernel⟩, by decide⟩, mw (i := 1254) (by decide +kernel), mw (i := 1255) (by decide +kernel)⟩
abbrev mX12_lay : MI := (RX12, yX12_lay, cX12_lay, 5, none)
theorem cvX12_lay : CV mX12_lay 1 := ⟨⟨mw (i := 1265) (by decide +kernel), mw (i := 12) (by decide +kernel), ⟨by decide +kernel, by decide +kernel, by decide +kernel⟩, by decide⟩, mw (i := 1263) (by decide +kernel), mp2 (i := 36) 31 (by decide +kernel)⟩
abbrev mX12_feed : MI := (RX12, yX12_feed, cX12_feed, 7, some .int)
theorem cvX12_feed : CV mX12_feed 3 := ⟨⟨mw (i := 1260) (by decide +kernel), mw (i := 12) (by decide +kernel), ⟨by decide +kernel, by decide +kernel, by decide +kernel⟩, by decide⟩, mw (i := 1258) (by decide +kernel), mw (i := 1259) (by decide +kernel)⟩
abbrev mX12_isLetter : MI := (RX12, yX12_isLetter, cX12_isLetter, 1, some .boolean)
theorem csX12_isLetter : CS mX12_isLetter 1 := ⟨⟨mw (i := 1419) (by decide +kernel), mw (i := 12) (by decide +kernel), ⟨by decide +kernel, by decide +kernel, by decide +kernel⟩, by decide⟩, mw (i := 1418) (by decide +kernel)⟩
abbrev mX12_isDigit : MI := (RX12, yX12_isDigit, cX12_isDigit, 1, some .boolean)
theorem csX12_isDigit : CS mX12_isDigit 1 := ⟨⟨mw (i := 1426) (by decide +kernel), mw (i := 12) (by decide +kernel), ⟨by decide +kernel, by decide +kernel, by decide +kernel⟩, by decide⟩, mw (i := 1425) (by decide +kernel)⟩
abbrev mX12_rank : MI := (RX12, yX12_rank, cX12_rank, 1, some .int)
theorem csX12_rank : CS mX12_rank 1 := ⟨⟨mw (i := 1423) (by decide +kernel), mw (i := 12) (by decide +kernel), ⟨by decide +kernel, by decide +kernel, by decide +kernel⟩, by decide⟩, mw (i := 1422) (by decide +kernel)⟩
abbrev mX12_isSignOf : MI := (RX12, yX12_isSignOf, cX12_isSignOf, 1, some .boolean)
theorem csX12_isSignOf : CS mX12_isSignOf 1 := ⟨⟨mw (i := 1431) (by decide +kernel), mw (i := 12) (by decide +kernel), ⟨by decide +kernel, by decide +kernel, by decide +kernel⟩, by decide⟩, mw (i := 1430) (by decide +kernel)⟩
abbrev mX12_cutAll : MI := (RX12, yX12_cutAll, cX12_cutAll, 7, none)
theorem cvX12_cutAll : CV mX12_cutAll 0 := ⟨⟨mw (i := 1416) (by decide +kernel), mw (i := 12) (by decide +kernel), ⟨by decide +kernel, by decide +kernel, by decide +kernel⟩, by decide⟩, mw (i := 1415) (by decide +kernel), mp2 (i := 42) 31 (by decide +kernel)⟩
abbrev mX12_wrong : MI := (RX12, yX12_wrong, cX12_wrong, 2, none)
theorem cvX12_wrong : CV mX12_wrong 1 := ⟨⟨mw (i := 1447) (by decide +kernel), mw (i := 12) (by decide +kernel), ⟨by decide +kernel, by decide +kernel, by decide +kernel⟩, by decide⟩, mw (i := 1446) (by decide +kernel), mp2 (i := 46) 31 (by decide +kernel)⟩
abbrev mX12_isSign : MI := (RX12, yX12_isSign, cX12_isSign, 2, some .boolean)
theorem cvX12_isSign : CV mX12_isSign 1 := ⟨⟨mw (i := 1526) (by decide +kernel), mw (i := 12) (by decide +kernel), ⟨by decide +kernel, by decide +kernel, by decide +kernel⟩, by decide⟩, mw (i := 1525) (by decide +kernel), mp2 (i := 65) 31 (by decide +kernel)⟩
abbrev mX12_isWord : MI := (RX12, yX12_isWord, cX12_isWord, 2, some .boolean)
theorem cvX12_isWord : CV mX12_isWord 1 := ⟨⟨mw (i := 1439) (by decide +kernel), mw (i := 12) (by decide +kernel), ⟨by decide +kernel, by decide +kernel, by decide +kernel⟩, by decide⟩, mw (i := 1438) (by decide +kernel), mp2 (i := 44) 31 (by decide +kernel)⟩
abbrev mX12_takeSign : MI := (RX12, yX12_takeSign, cX12_takeSign, 2, none)
theorem cvX12_takeSign : CV mX12_takeSign 1 := ⟨⟨mw (i := 1538) (by decide +kernel), mw (i := 12) (by decide +kernel), ⟨by decide +kernel, by decide +kernel, by decide +kernel⟩, by decide⟩, mw (i := 1537) (by decide +kernel), mp2 (i := 68) 31 (by decide +kernel)⟩
abbrev mX12_hasSign : MI := (RX12, yX12_hasSign, cX12_hasSign, 3, some .boolean)
theorem cvX12_hasSign : CV mX12_hasSign 1 := ⟨⟨mw (i := 1534) (by decide +kernel), mw (i := 12) (by decide +kernel), ⟨by decide +kernel, by decide +kernel, by decide +kernel⟩, by decide⟩, mw (i := 1533) (by decide +kernel), mp2 (i := 67) 31 (by decide +kernel)⟩
abbrev mX12_hasWord : MI := (RX12, yX12_hasWord, cX12_hasWord, 3, some .boolean)
theorem cvX12_hasWord : CV mX12_hasWord 1 := ⟨⟨mw (i := 1471) (by decide +kernel), mw (i := 12) (by decide +kernel), ⟨by decide +kernel, by decide +kernel, by decide +kernel⟩, by decide⟩, mw (i := 1470) (by decide +kernel), mp2 (i := 52) 31 (by decide +kernel)⟩
abbrev mX12_takeWord : MI := (RX12, yX12_takeWord, cX12_takeWord, 2, none)
theorem cvX12_takeWord : CV mX12_takeWord 1 := ⟨⟨mw (i := 1467) (by decide +kernel), mw (i := 12) (by decide +kernel), ⟨by decide +kernel, by decide +kernel, by decide +kernel⟩, by decide⟩, mw (i := 1466) (by decide +kernel), mp2 (i := 51) 31 (by decide +kernel)⟩
abbrev mX12_within : MI := (RX12, yX12_within, cX12_within, 3, some .boolean)
theorem csX12_within : CS mX12_within 3 := ⟨⟨mw (i := 1486) (by decide +kernel), mw (i := 12) (by decide +kernel), ⟨by decide +kernel, by decide +kernel, by decide +kernel⟩, by decide⟩, mw (i := 1485) (by decide +kernel)⟩
abbrev mX12_standsAsAlways : MI := (RX12, yX12_standsAsAlways, cX12_standsAsAlways, 3, none)
theorem cvX12_standsAsAlways : CV mX12_standsAsAlways 1 := ⟨⟨mw (i := 1297) (by decide +kernel), mw (i := 12) (by decide +kernel), ⟨by decide +kernel, by decide +kernel, by decide +kernel⟩, by decide⟩, mw (i := 1296) (by decide +kernel), mp2 (i := 37) 31 (by decide +kernel)⟩
abbrev mX12_takeNumber : MI := (RX12, yX12_takeNumber, cX12_takeNumber, 3, some .int)
theorem cvX12_takeNumber : CV mX12_takeNumber 2 := ⟨⟨mw (i := 1475) (by decide +kernel), mw (i := 12) (by decide +kernel), ⟨by decide +kernel, by decide +kernel, by decide +kernel⟩, by decide⟩, mw (i := 1474) (by decide +kernel), mp2 (i := 53) 31 (by decide +kernel)⟩
abbrev mX12_takeAfter : MI := (RX12, yX12_takeAfter, cX12_takeAfter, 4, some .int)
theorem cvX12_takeAfter : CV mX12_takeAfter 3 := ⟨⟨mw (i := 1463) (by decide +kernel), mw (i := 12) (by decide +kernel), ⟨by decide +kernel, by decide +kernel, by decide +kernel⟩, by decide⟩, mw (i := 1462) (by decide +kernel), mp2 (i := 50) 31 (by decide +kernel)⟩
abbrev mX12_wordHere : MI := (RX12, yX12_wordHere, cX12_wordHere, 5, some .int)
theorem cvX12_wordHere : CV mX12_wordHere 2 := ⟨⟨mw (i := 1455) (by decide +kernel), mw (i := 12) (by decide +kernel), ⟨by decide +kernel, by decide +kernel, by decide +kernel⟩, by decide⟩, mw (i := 1454) (by decide +kernel), mp2 (i := 48) 31 (by decide +kernel)⟩
abbrev mX12_takeOne : MI := (RX12, yX12_takeOne, cX12_takeOne, 4, some .int)
theorem cvX12_takeOne : CV mX12_takeOne 2 := ⟨⟨mw (i := 1490) (by decide +kernel), mw (i := 12) (by decide +kernel), ⟨by decide +kernel, by decide +kernel, by decide +kernel⟩, by decide⟩, mw (i := 1489) (by decide +kernel), mp2 (i := 56) 31 (by decide +kernel)⟩
abbrev mX12_isName : MI := (RX12, yX12_isName, cX12_isName, 1, some .boolean)
theorem cvX12_isName : CV mX12_isName 0 := ⟨⟨mw (i := 1451) (by decide +kernel), mw (i := 12) (by decide +kernel), ⟨by decide +kernel, by decide +kernel, by decide +kernel⟩, by decide⟩, mw (i := 1450) (by decide +kernel), mp2 (i := 47) 31 (by decide +kernel)⟩
abbrev mX12_nameAt : MI := (RX12, yX12_nameAt, cX12_nameAt, 3, some .int)
theorem cvX12_nameAt : CV mX12_nameAt 1 := ⟨⟨mw (i := 1459) (by decide +kernel), mw (i := 12) (by decide +kernel), ⟨by decide +kernel, by decide +kernel, by decide +kernel⟩, by decide⟩, mw (i := 1458) (by decide +kernel), mp2 (i := 49) 31 (by decide +kernel)⟩
abbrev mX12_toldHere : MI := (RX12, yX12_toldHere, cX12_toldHere, 4, some .int)
theorem cvX12_toldHere : CV mX12_toldHere 2 := ⟨⟨mw (i := 1483) (by decide +kernel), mw (i := 12) (by decide +kernel), ⟨by decide +kernel, by decide +kernel, by decide +kernel⟩, by decide⟩, mw (i := 1482) (by decide +kernel), mp2 (i := 55) 31 (by decide +kernel)⟩
abbrev mX12_takeTold : MI := (RX12, yX12_takeTold, cX12_takeTold, 4, some .int)
theorem cvX12_takeTold : CV mX12_takeTold 2 := ⟨⟨mw (i := 1498) (by decide +kernel), mw (i := 12) (by decide +kernel), ⟨by decide +kernel, by decide +kernel, by decide +kernel⟩, by decide⟩, mw (i := 1497) (by decide +kernel), mp2 (i := 58) 31 (by decide +kernel)⟩
abbrev mX12_readName : MI := (RX12, yX12_readName, cX12_readName, 5, none)
theorem cvX12_readName : CV mX12_readName 3 := ⟨⟨mw (i := 1443) (by decide +kernel), mw (i := 12) (by decide +kernel), ⟨by decide +kernel, by decide +kernel, by decide +kernel⟩, by decide⟩, mw (i := 1442) (by decide +kernel), mp2 (i := 45) 31 (by decide +kernel)⟩
abbrev mX12_readPlace : MI := (RX12, yX12_readPlace, cX12_readPlace, 4, none)
theorem cvX12_readPlace : CV mX12_readPlace 0 := ⟨⟨mw (i := 1479) (by decide +kernel), mw (i := 12) (by decide +kernel), ⟨by decide +kernel, by decide +kernel, by decide +kernel⟩, by decide⟩, mw (i := 1478) (by decide +kernel), mp2 (i := 54) 31 (by decide +kernel)⟩
abbrev mX12_readCrosses : MI := (RX12, yX12_readCrosses, cX12_readCrosses, 4, none)
theorem cvX12_readCrosses : CV mX12_readCrosses 0 := ⟨⟨mw (i := 1494) (by decide +kernel), mw (i := 12) (by decide +kernel), ⟨by decide +kernel, by decide +kernel, by decide +kernel⟩, by decide⟩, mw (i := 1493) (by decide +kernel), mp2 (i := 57) 31 (by decide +kernel)⟩
abbrev mX12_morning : MI := (RX12, yX12_morning, cX12_morning, 4, some .int)
theorem cvX12_morning : CV mX12_morning 0 := ⟨⟨mw (i := 1542) (by decide +kernel), mw (i := 12) (by decide +kernel), ⟨by decide +kernel, by decide +kernel, by decide +kernel⟩, by decide⟩, mw (i := 1540) (by decide +kernel), mw (i := 1541) (by decide +kernel)⟩
abbrev mX12_emit : MI := (RX12, yX12_emit, cX12_emit, 3, none)
theorem cvX12_emit : CV mX12_emit 2 := ⟨⟨mw (i := 1530) (by decide +kernel), mw (i := 12) (by decide +kernel), ⟨by decide +kernel, by decide +kernel, by decide +kernel⟩, by decide⟩, mw (i := 1529) (by decide +kernel), mp2 (i := 66) 31 (by decide +kernel)⟩
abbrev mX12_products : MI := (RX12, yX12_products, cX12_products, 2, none)
theorem cvX12_products : CV mX12_products 1 := ⟨⟨mw (i := 1518) (by decide +kernel), mw (i := 12) (by decide +kernel), ⟨by decide +kernel, by decide +kernel, by decide +kernel⟩, by decide⟩, mw (i := 1517) (by decide +kernel), mp2 (i := 63) 31 (by decide +kernel)⟩
abbrev mX12_sums : MI := (RX12, yX12_sums, cX12_sums, 3, none)
theorem cvX12_sums : CV mX12_sums 1 := ⟨⟨mw (i := 1514) (by decide +kernel), mw (i := 12) (by decide +kernel), ⟨by decide +kernel, by decide +kernel, by decide +kernel⟩, by decide⟩, mw (i := 1513) (by decide +kernel), mp2 (i := 62) 31 (by decide +kernel)⟩
abbrev mX12_test : MI := (RX12, yX12_test, cX12_test, 3, none)
theorem cvX12_test : CV mX12_test 1 := ⟨⟨mw (i := 1510) (by decide +kernel), mw (i := 12) (by decide +kernel), ⟨by decide +kernel, by decide +kernel, by decide +kernel⟩, by decide⟩, mw (i := 1509) (by decide +kernel), mp2 (i := 61) 31 (by decide +kernel)⟩
abbrev mX12_whole : MI := (RX12, yX12_whole, cX12_whole, 3, none)
theorem cvX12_whole : CV mX12_whole 1 := ⟨⟨mw (i := 1506) (by decide +kernel), mw (i := 12) (by decide +kernel), ⟨by decide +kernel, by decide +kernel, by decide +kernel⟩, by decide⟩, mw (i := 1505) (by decide +kernel), mp2 (i := 60) 31 (by decide +kernel)⟩
abbrev mX12_takePart : MI := (RX12, yX12_takePart, cX12_takePart, 4, none)
theorem cvX12_takePart : CV mX12_takePart 1 := ⟨⟨mw (i := 1522) (by decide +kernel), mw (i := 12) (by decide +kernel), ⟨by decide +kernel, by decide +kernel, by decide +kernel⟩, by decide⟩, mw (i := 1521) (by decide +kernel), mp2 (i := 64) 31 (by decide +kernel)⟩
abbrev mX12_readDries : MI := (RX12, yX12_readDries, cX12_readDries, 1, none)
theorem cvX12_readDries : CV mX12_readDries 0 := ⟨⟨mw (i := 1502) (by decide +kernel), mw (i := 12) (by decide +kernel), ⟨by decide +kernel, by decide +kernel, by decide +kernel⟩, by decide⟩, mw (i := 1501) (by decide +kernel), mp2 (i := 59) 31 (by decide +kernel)⟩
abbrev mX12_readLine : MI := (RX12, yX12_readLine, cX12_readLine, 4, none)
theorem cvX12_readLine : CV mX12_readLine 0 := ⟨⟨mw (i := 1435) (by decide +kernel), mw (i := 12) (by decide +kernel), ⟨by decide +kernel, by decide +kernel, by decide +kernel⟩, by decide⟩, mw (i := 1434) (by decide +kernel), mp2 (i := 43) 31 (by decide +kernel)⟩
abbrev mX12_both : MI := (RX12, yX12_both, cX12_both, 3, some .int)
theorem csX12_both : CS mX12_both 3 := ⟨⟨mw (i := 1657) (by decide +kernel), mw (i := 12) (by decide +kernel), ⟨by decide +kernel, by decide +kernel, by decide +kernel⟩, by decide⟩, mw (i := 1656) (by decide +kernel)⟩
abbrev mX12_worthAt : MI := (RX12, yX12_worthAt, cX12_worthAt, 5, some .int)
theorem cvX12_worthAt : CV mX12_worthAt 1 := ⟨⟨mw (i := 1654) (by decide +kernel), mw (i := 12) (by decide +kernel), ⟨by decide +kernel, by decide +kernel, by decide +kernel⟩, by decide⟩, mw (i := 1653) (by decide +kernel), mp2 (i := 89) 31 (by decide +kernel)⟩
abbrev mX12_copies : MI := (RX12, yX12_copies, cX12_copies, 5, none)
theorem cvX12_copies : CV mX12_copies 3 := ⟨⟨mw (i := 1626) (by decide +kernel), mw (i := 12) (by decide +kernel), ⟨by decide +kernel, by decide +kernel, by decide +kernel⟩, by decide⟩, mw (i := 1625) (by decide +kernel), mp2 (i := 85) 31 (by decide +kernel)⟩
abbrev mX12_keeps : MI := (RX12, yX12_keeps, cX12_keeps, 2, none)
theorem cvX12_keeps : CV mX12_keeps 0 := ⟨⟨mw (i := 1622) (by decide +kernel), mw (i := 12) (by decide +kernel), ⟨by decide +kernel, by decide +kernel, by decide +kernel⟩, by decide⟩, mw (i := 1621) (by decide +kernel), mp2 (i := 84) 31 (by decide +kernel)⟩
abbrev mX12_lines : MI := (RX12, yX12_lines, cX12_lines, 1, some .int)
theorem cvX12_lines : CV mX12_lines 0 := ⟨⟨mw (i := 1554) (by decide +kernel), mw (i := 12) (by decide +kernel), ⟨by decide +kernel, by decide +kernel, by decide +kernel⟩, by decide⟩, mw (i := 1553) (by decide +kernel), mp2 (i := 70) 31 (by decide +kernel)⟩
abbrev mX12_places : MI := (RX12, yX12_places, cX12_places, 1, some .int)
theorem cvX12_places : CV mX12_places 0 := ⟨⟨mw (i := 1586) (by decide +kernel), mw (i := 12) (by decide +kernel), ⟨by decide +kernel, by decide +kernel, by decide +kernel⟩, by decide⟩, mw (i := 1585) (by decide +kernel), mp2 (i := 76) 31 (by decide +kernel)⟩
abbrev mX12_cloths : MI := (RX12, yX12_cloths, cX12_cloths, 1, some .int)
theorem cvX12_cloths : CV mX12_cloths 0 := ⟨⟨mw (i := 1309) (by decide +kernel), mw (i := 12) (by decide +kernel), ⟨by decide +kernel, by decide +kernel, by decide +kernel⟩, by decide⟩, mw (i := 1308) (by decide +kernel), mp2 (i := 40) 31 (by decide +kernel)⟩
abbrev mX12_lineOf : MI := (RX12, yX12_lineOf, cX12_lineOf, 3, some .int)
theorem cvX12_lineOf : CV mX12_lineOf 2 := ⟨⟨mw (i := 1558) (by decide +kernel), mw (i := 12) (by decide +kernel), ⟨by decide +kernel, by decide +kernel, by decide +kernel⟩, by decide⟩, mw (i := 1557) (by decide +kernel), mp2 (i := 71) 31 (by decide +kernel)⟩
abbrev mX12_clothOf : MI := (RX12, yX12_clothOf, cX12_clothOf, 3, some .int)
theorem cvX12_clothOf : CV mX12_clothOf 2 := ⟨⟨mw (i := 1313) (by decide +kernel), mw (i := 12) (by decide +kernel), ⟨by decide +kernel, by decide +kernel, by decide +kernel⟩, by decide⟩, mw (i := 1312) (by decide +kernel), mp2 (i := 41) 31 (by decide +kernel)⟩
abbrev mX12_starts : MI := (RX12, yX12_starts, cX12_starts, 3, none)
theorem cvX12_starts : CV mX12_starts 1 := ⟨⟨mw (i := 1305) (by decide +kernel), mw (i := 12) (by decide +kernel), ⟨by decide +kernel, by decide +kernel, by decide +kernel⟩, by decide⟩, mw (i := 1304) (by decide +kernel), mp2 (i := 39) 31 (by decide +kernel)⟩
abbrev mX12_begins : MI := (RX12, yX12_begins, cX12_begins, 2, none)
theorem cvX12_begins : CV mX12_begins 0 := ⟨⟨mw (i := 1301) (by decide +kernel), mw (i := 12) (by decide +kernel), ⟨by decide +kernel, by decide +kernel, by decide +kernel⟩, by decide⟩, mw (i := 1300) (by decide +kernel), mp2 (i := 38) 31 (by decide +kernel)⟩
abbrev mX12_street : MI := (RX12, yX12_street, cX12_street, 2, some .int)
theorem cvX12_street : CV mX12_street 0 := ⟨⟨mw (i := 1412) (by decide +kernel), mw (i := 12) (by decide +kernel), ⟨by decide +kernel, by decide +kernel, by decide +kernel⟩, by decide⟩, mw (i := 1410) (by decide +kernel), mw (i := 1411) (by decide +kernel)⟩
abbrev mX12_isLine : MI := (RX12, yX12_isLine, cX12_isLine, 2, some .boolean)
theorem cvX12_isLine : CV mX12_isLine 1 := ⟨⟨mw (i := 1550) (by decide +kernel), mw (i := 12) (by decide +kernel), ⟨by decide +kernel, by decide +kernel, by decide +kernel⟩, by decide⟩, mw (i := 1549) (by decide +kernel), mp2 (i := 69) 31 (by decide +kernel)⟩
abbrev mX12_isPlace : MI := (RX12, yX12_isPlace, cX12_isPlace, 2, some .boolean)
theorem cvX12_isPlace : CV mX12_isPlace 1 := ⟨⟨mw (i := 1582) (by decide +kernel), mw (i := 12) (by decide +kernel), ⟨by decide +kernel, by decide +kernel, by decide +kernel⟩, by decide⟩, mw (i := 1581) (by decide +kernel), mp2 (i := 75) 31 (by decide +kernel)⟩
abbrev mX12_isCloth : MI := (RX12, yX12_isCloth, cX12_isCloth, 2, some .boolean)
theorem cvX12_isCloth : CV mX12_isCloth 1 := ⟨⟨mw (i := 1574) (by decide +kernel), mw (i := 12) (by decide +kernel), ⟨by decide +kernel, by decide +kernel, by decide +kernel⟩, by decide⟩, mw (i := 1573) (by decide +kernel), mp2 (i := 74) 31 (by decide +kernel)⟩
abbrev mX12_doesHang : MI := (RX12, yX12_doesHang, cX12_doesHang, 3, some .boolean)
theorem cvX12_doesHang : CV mX12_doesHang 2 := ⟨⟨mw (i := 1602) (by decide +kernel), mw (i := 12) (by decide +kernel), ⟨by decide +kernel, by decide +kernel, by decide +kernel⟩, by decide⟩, mw (i := 1601) (by decide +kernel), mp2 (i := 80) 31 (by decide +kernel)⟩
abbrev mX12_isWet : MI := (RX12, yX12_isWet, cX12_isWet, 3, some .boolean)
theorem cvX12_isWet : CV mX12_isWet 2 := ⟨⟨mw (i := 1606) (by decide +kernel), mw (i := 12) (by decide +kernel), ⟨by decide +kernel, by decide +kernel, by decide +kernel⟩, by decide⟩, mw (i := 1605) (by decide +kernel), mp2 (i := 81) 31 (by decide +kernel)⟩
abbrev mX12_freeOf : MI := (RX12, yX12_freeOf, cX12_freeOf, 5, some .int)
theorem cvX12_freeOf : CV mX12_freeOf 2 := ⟨⟨mw (i := 1562) (by decide +kernel), mw (i := 12) (by decide +kernel), ⟨by decide +kernel, by decide +kernel, by decide +kernel⟩, by decide⟩, mw (i := 1561) (by decide +kernel), mp2 (i := 72) 31 (by decide +kernel)⟩
abbrev mX12_onLine : MI := (RX12, yX12_onLine, cX12_onLine, 5, some .int)
theorem cvX12_onLine : CV mX12_onLine 2 := ⟨⟨mw (i := 1566) (by decide +kernel), mw (i := 12) (by decide +kernel), ⟨by decide +kernel, by decide +kernel, by decide +kernel⟩, by decide⟩, mw (i := 1565) (by decide +kernel), mp2 (i := 73) 31 (by decide +kernel)⟩
abbrev mX12_hanging : MI := (RX12, yX12_hanging, cX12_hanging, 4, some .int)
theorem cvX12_hanging : CV mX12_hanging 1 := ⟨⟨mw (i := 1725) (by decide +kernel), mw (i := 12) (by decide +kernel), ⟨by decide +kernel, by decide +kernel, by decide +kernel⟩, by decide⟩, mw (i := 1724) (by decide +kernel), mp2 (i := 97) 31 (by decide +kernel)⟩
abbrev mX12_bits : MI := (RX12, yX12_bits, cX12_bits, 3, some .int)
theorem csX12_bits : CS mX12_bits 1 := ⟨⟨mw (i := 1728) (by decide +kernel), mw (i := 12) (by decide +kernel), ⟨by decide +kernel, by decide +kernel, by decide +kernel⟩, by decide⟩, mw (i := 1727) (by decide +kernel)⟩
abbrev mX12_isAbove : MI := (RX12, yX12_isAbove, cX12_isAbove, 4, some .boolean)
theorem cvX12_isAbove : CV mX12_isAbove 3 := ⟨⟨mw (i := 1598) (by decide +kernel), mw (i := 12) (by decide +kernel), ⟨by decide +kernel, by decide +kernel, by decide +kernel⟩, by decide⟩, mw (i := 1597) (by decide +kernel), mp2 (i := 79) 31 (by decide +kernel)⟩
abbrev mX12_howMany : MI := (RX12, yX12_howMany, cX12_howMany, 6, some .int)
theorem cvX12_howMany : CV mX12_howMany 3 := ⟨⟨mw (i := 1594) (by decide +kernel), mw (i := 12) (by decide +kernel), ⟨by decide +kernel, by decide +kernel, by decide +kernel⟩, by decide⟩, mw (i := 1593) (by decide +kernel), mp2 (i := 78) 31 (by decide +kernel)⟩
abbrev mX12_weatherOf : MI := (RX12, yX12_weatherOf, cX12_weatherOf, 8, some .int)
theorem cvX12_weatherOf : CV mX12_weatherOf 2 := ⟨⟨mw (i := 1590) (by decide +kernel), mw (i := 12) (by decide +kernel), ⟨by decide +kernel, by decide +kernel, by decide +kernel⟩, by decide⟩, mw (i := 1589) (by decide +kernel), mp2 (i := 77) 31 (by decide +kernel)⟩
abbrev mX12_windOf : MI := (RX12, yX12_windOf, cX12_windOf, 4, some .int)
theorem cvX12_windOf : CV mX12_windOf 1 := ⟨⟨mw (i := 1610) (by decide +kernel), mw (i := 12) (by decide +kernel), ⟨by decide +kernel, by decide +kernel, by decide +kernel⟩, by decide⟩, mw (i := 1609) (by decide +kernel), mp2 (i := 82) 31 (by decide +kernel)⟩
abbrev mX12_isThunder : MI := (RX12, yX12_isThunder, cX12_isThunder, 4, some .boolean)
theorem cvX12_isThunder : CV mX12_isThunder 1 := ⟨⟨mw (i := 1669) (by decide +kernel), mw (i := 12) (by decide +kernel), ⟨by decide +kernel, by decide +kernel, by decide +kernel⟩, by decide⟩, mw (i := 1668) (by decide +kernel), mp2 (i := 90) 31 (by decide +kernel)⟩
abbrev mX12_passes : MI := (RX12, yX12_passes, cX12_passes, 8, some .int)
theorem cvX12_passes : CV mX12_passes 2 := ⟨⟨mw (i := 1650) (by decide +kernel), mw (i := 12) (by decide +kernel), ⟨by decide +kernel, by decide +kernel, by decide +kernel⟩, by decide⟩, mw (i := 1649) (by decide +kernel), mp2 (i := 88) 31 (by decide +kernel)⟩
abbrev mX12_mayHang : MI := (RX12, yX12_mayHang, cX12_mayHang, 5, some .boolean)
theorem cvX12_mayHang : CV mX12_mayHang 4 := ⟨⟨mw (i := 1618) (by decide +kernel), mw (i := 12) (by decide +kernel), ⟨by decide +kernel, by decide +kernel, by decide +kernel⟩, by decide⟩, mw (i := 1617) (by decide +kernel), mp2 (i := 83) 31 (by decide +kernel)⟩
abbrev mX12_hangs : MI := (RX12, yX12_hangs, cX12_hangs, 5, none)
theorem cvX12_hangs : CV mX12_hangs 4 := ⟨⟨mw (i := 1630) (by decide +kernel), mw (i := 12) (by decide +kernel), ⟨by decide +kernel, by decide +kernel, by decide +kernel⟩, by decide⟩, mw (i := 1629) (by decide +kernel), mp2 (i := 86) 31 (by decide +kernel)⟩
abbrev mX12_comesDown : MI := (RX12, yX12_comesDown, cX12_comesDown, 3, none)
theorem cvX12_comesDown : CV mX12_comesDown 2 := ⟨⟨mw (i := 1638) (by decide +kernel), mw (i := 12) (by decide +kernel), ⟨by decide +kernel, by decide +kernel, by decide +kernel⟩, by decide⟩, mw (i := 1637) (by decide +kernel), mp2 (i := 87) 31 (by decide +kernel)⟩
abbrev mX12_line : MI := (RX12, yX12_line, cX12_line, 3, some .int)
theorem cvX12_line : CV mX12_line 2 := ⟨⟨mw (i := 1546) (by decide +kernel), mw (i := 12) (by decide +kernel), ⟨by decide +kernel, by decide +kernel, by decide +kernel⟩, by decide⟩, mw (i := 1544) (by decide +kernel), mw (i := 1545) (by decide +kernel)⟩
