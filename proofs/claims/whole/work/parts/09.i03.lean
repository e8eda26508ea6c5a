abbrev mX12_cloth : MI := (RX12, yX12_cloth, cX12_cloth, 3, some .int)
theorem cvX12_cloth : CV mX12_cloth 2 := ⟨⟨mw (i := 1570) (by decide +kernel), mw (i := 12) (by decide +kernel), ⟨by decide +kernel, by decide +kernel, by decide +kernel⟩, by decide⟩, mw (i := 1568) (by decide +kernel), mw (i := 1569) (by decide +kernel)⟩
abbrev mX12_place : MI := (RX12, yX12_place, cX12_place, 4, some .int)
theorem cvX12_place : CV mX12_place 2 := ⟨⟨mw (i := 1578) (by decide +kernel), mw (i := 12) (by decide +kernel), ⟨by decide +kernel, by decide +kernel, by decide +kernel⟩, by decide⟩, mw (i := 1576) (by decide +kernel), mw (i := 1577) (by decide +kernel)⟩
abbrev mX12_hang : MI := (RX12, yX12_hang, cX12_hang, 4, some .int)
theorem cvX12_hang : CV mX12_hang 3 := ⟨⟨mw (i := 1614) (by decide +kernel), mw (i := 12) (by decide +kernel), ⟨by decide +kernel, by decide +kernel, by decide +kernel⟩, by decide⟩, mw (i := 1612) (by decide +kernel), mw (i := 1613) (by decide +kernel)⟩
abbrev mX12_take : MI := (RX12, yX12_take, cX12_take, 2, some .int)
theorem cvX12_take : CV mX12_take 1 := ⟨⟨mw (i := 1634) (by decide +kernel), mw (i := 12) (by decide +kernel), ⟨by decide +kernel, by decide +kernel, by decide +kernel⟩, by decide⟩, mw (i := 1632) (by decide +kernel), mw (i := 1633) (by decide +kernel)⟩
abbrev mX12_wash : MI := (RX12, yX12_wash, cX12_wash, 2, some .boolean)
theorem cvX12_wash : CV mX12_wash 1 := ⟨⟨mw (i := 1642) (by decide +kernel), mw (i := 12) (by decide +kernel), ⟨by decide +kernel, by decide +kernel, by decide +kernel⟩, by decide⟩, mw (i := 1640) (by decide +kernel), mw (i := 1641) (by decide +kernel)⟩
abbrev mX12_hour : MI := (RX12, yX12_hour, cX12_hour, 1, some .int)
theorem cvX12_hour : CV mX12_hour 0 := ⟨⟨mw (i := 1646) (by decide +kernel), mw (i := 12) (by decide +kernel), ⟨by decide +kernel, by decide +kernel, by decide +kernel⟩, by decide⟩, mw (i := 1644) (by decide +kernel), mw (i := 1645) (by decide +kernel)⟩
abbrev mX12_undo : MI := (RX12, yX12_undo, cX12_undo, 1, some .boolean)
theorem cvX12_undo : CV mX12_undo 0 := ⟨⟨mw (i := 1661) (by decide +kernel), mw (i := 12) (by decide +kernel), ⟨by decide +kernel, by decide +kernel, by decide +kernel⟩, by decide⟩, mw (i := 1659) (by decide +kernel), mw (i := 1660) (by decide +kernel)⟩
abbrev mX12_driedOf : MI := (RX12, yX12_driedOf, cX12_driedOf, 4, some .int)
theorem cvX12_driedOf : CV mX12_driedOf 1 := ⟨⟨mw (i := 1673) (by decide +kernel), mw (i := 12) (by decide +kernel), ⟨by decide +kernel, by decide +kernel, by decide +kernel⟩, by decide⟩, mw (i := 1672) (by decide +kernel), mp2 (i := 91) 31 (by decide +kernel)⟩
abbrev mX12_judged : MI := (RX12, yX12_judged, cX12_judged, 10, some .int)
theorem cvX12_judged : CV mX12_judged 1 := ⟨⟨mw (i := 1665) (by decide +kernel), mw (i := 12) (by decide +kernel), ⟨by decide +kernel, by decide +kernel, by decide +kernel⟩, by decide⟩, mw (i := 1663) (by decide +kernel), mw (i := 1664) (by decide +kernel)⟩
abbrev mX12_triesNow : MI := (RX12, yX12_triesNow, cX12_triesNow, 1, none)
theorem cvX12_triesNow : CV mX12_triesNow 0 := ⟨⟨mw (i := 1681) (by decide +kernel), mw (i := 12) (by decide +kernel), ⟨by decide +kernel, by decide +kernel, by decide +kernel⟩, by decide⟩, mw (i := 1680) (by decide +kernel), mp2 (i := 92) 31 (by decide +kernel)⟩
abbrev mX12_runs : MI := (RX12, yX12_runs, cX12_runs, 3, none)
theorem cvX12_runs : CV mX12_runs 1 := ⟨⟨mw (i := 1685) (by decide +kernel), mw (i := 12) (by decide +kernel), ⟨by decide +kernel, by decide +kernel, by decide +kernel⟩, by decide⟩, mw (i := 1684) (by decide +kernel), mp2 (i := 93) 31 (by decide +kernel)⟩
abbrev mX12_later : MI := (RX12, yX12_later, cX12_later, 3, some .int)
theorem cvX12_later : CV mX12_later 2 := ⟨⟨mw (i := 1677) (by decide +kernel), mw (i := 12) (by decide +kernel), ⟨by decide +kernel, by decide +kernel, by decide +kernel⟩, by decide⟩, mw (i := 1675) (by decide +kernel), mw (i := 1676) (by decide +kernel)⟩
abbrev mX12_dryOf : MI := (RX12, yX12_dryOf, cX12_dryOf, 3, some .int)
theorem cvX12_dryOf : CV mX12_dryOf 1 := ⟨⟨mw (i := 1693) (by decide +kernel), mw (i := 12) (by decide +kernel), ⟨by decide +kernel, by decide +kernel, by decide +kernel⟩, by decide⟩, mw (i := 1692) (by decide +kernel), mp2 (i := 94) 31 (by decide +kernel)⟩
abbrev mX12_dry : MI := (RX12, yX12_dry, cX12_dry, 2, some .int)
theorem cvX12_dry : CV mX12_dry 1 := ⟨⟨mw (i := 1689) (by decide +kernel), mw (i := 12) (by decide +kernel), ⟨by decide +kernel, by decide +kernel, by decide +kernel⟩, by decide⟩, mw (i := 1687) (by decide +kernel), mw (i := 1688) (by decide +kernel)⟩
abbrev mX12_last : MI := (RX12, yX12_last, cX12_last, 5, some .int)
theorem cvX12_last : CV mX12_last 0 := ⟨⟨mw (i := 1697) (by decide +kernel), mw (i := 12) (by decide +kernel), ⟨by decide +kernel, by decide +kernel, by decide +kernel⟩, by decide⟩, mw (i := 1695) (by decide +kernel), mw (i := 1696) (by decide +kernel)⟩
abbrev mX12_clears : MI := (RX12, yX12_clears, cX12_clears, 3, some .int)
theorem cvX12_clears : CV mX12_clears 1 := ⟨⟨mw (i := 1701) (by decide +kernel), mw (i := 12) (by decide +kernel), ⟨by decide +kernel, by decide +kernel, by decide +kernel⟩, by decide⟩, mw (i := 1699) (by decide +kernel), mw (i := 1700) (by decide +kernel)⟩
abbrev mX12_want : MI := (RX12, yX12_want, cX12_want, 3, some .boolean)
theorem cvX12_want : CV mX12_want 2 := ⟨⟨mw (i := 1705) (by decide +kernel), mw (i := 12) (by decide +kernel), ⟨by decide +kernel, by decide +kernel, by decide +kernel⟩, by decide⟩, mw (i := 1703) (by decide +kernel), mw (i := 1704) (by decide +kernel)⟩
abbrev mX12_isWanted : MI := (RX12, yX12_isWanted, cX12_isWanted, 4, some .boolean)
theorem cvX12_isWanted : CV mX12_isWanted 1 := ⟨⟨mw (i := 1717) (by decide +kernel), mw (i := 12) (by decide +kernel), ⟨by decide +kernel, by decide +kernel, by decide +kernel⟩, by decide⟩, mw (i := 1716) (by decide +kernel), mp2 (i := 96) 31 (by decide +kernel)⟩
abbrev mX12_wishes : MI := (RX12, yX12_wishes, cX12_wishes, 4, none)
theorem cvX12_wishes : CV mX12_wishes 2 := ⟨⟨mw (i := 1713) (by decide +kernel), mw (i := 12) (by decide +kernel), ⟨by decide +kernel, by decide +kernel, by decide +kernel⟩, by decide⟩, mw (i := 1712) (by decide +kernel), mp2 (i := 95) 31 (by decide +kernel)⟩
abbrev mX12_wish : MI := (RX12, yX12_wish, cX12_wish, 2, some .int)
theorem cvX12_wish : CV mX12_wish 1 := ⟨⟨mw (i := 1709) (by decide +kernel), mw (i := 12) (by decide +kernel), ⟨by decide +kernel, by decide +kernel, by decide +kernel⟩, by decide⟩, mw (i := 1707) (by decide +kernel), mw (i := 1708) (by decide +kernel)⟩
abbrev mX12_lift : MI := (RX12, yX12_lift, cX12_lift, 6, some .int)
theorem cvX12_lift : CV mX12_lift 2 := ⟨⟨mw (i := 1721) (by decide +kernel), mw (i := 12) (by decide +kernel), ⟨by decide +kernel, by decide +kernel, by decide +kernel⟩, by decide⟩, mw (i := 1719) (by decide +kernel), mw (i := 1720) (by decide +kernel)⟩
abbrev mX12_tell : MI := (RX12, yX12_tell, cX12_tell, 5, some .boolean)
theorem cvX12_tell : CV mX12_tell 3 := ⟨⟨mw (i := 1732) (by decide +kernel), mw (i := 12) (by decide +kernel), ⟨by decide +kernel, by decide +kernel, by decide +kernel⟩, by decide⟩, mw (i := 1730) (by decide +kernel), mw (i := 1731) (by decide +kernel)⟩
abbrev mX12_hungFor : MI := (RX12, yX12_hungFor, cX12_hungFor, 4, none)
theorem cvX12_hungFor : CV mX12_hungFor 3 := ⟨⟨mw (i := 1744) (by decide +kernel), mw (i := 12) (by decide +kernel), ⟨by decide +kernel, by decide +kernel, by decide +kernel⟩, by decide⟩, mw (i := 1743) (by decide +kernel), mp2 (i := 99) 31 (by decide +kernel)⟩
abbrev mX12_isTold : MI := (RX12, yX12_isTold, cX12_isTold, 6, some .boolean)
theorem cvX12_isTold : CV mX12_isTold 2 := ⟨⟨mw (i := 1740) (by decide +kernel), mw (i := 12) (by decide +kernel), ⟨by decide +kernel, by decide +kernel, by decide +kernel⟩, by decide⟩, mw (i := 1739) (by decide +kernel), mp2 (i := 98) 31 (by decide +kernel)⟩
abbrev mX12_pairs : MI := (RX12, yX12_pairs, cX12_pairs, 7, some .int)
theorem cvX12_pairs : CV mX12_pairs 1 := ⟨⟨mw (i := 1736) (by decide +kernel), mw (i := 12) (by decide +kernel), ⟨by decide +kernel, by decide +kernel, by decide +kernel⟩, by decide⟩, mw (i := 1734) (by decide +kernel), mw (i := 1735) (by decide +kernel)⟩
abbrev mX12_look : MI := (RX12, yX12_look, cX12_look, 8, some .int)
theorem cvX12_look : CV mX12_look 1 := ⟨⟨mw (i := 1748) (by decide +kernel), mw (i := 12) (by decide +kernel), ⟨by decide +kernel, by decide +kernel, by decide +kernel⟩, by decide⟩, mw (i := 1746) (by decide +kernel), mw (i := 1747) (by decide +kernel)⟩
abbrev mX12_hasWet : MI := (RX12, yX12_hasWet, cX12_hasWet, 5, some .boolean)
theorem cvX12_hasWet : CV mX12_hasWet 2 := ⟨⟨mw (i := 1760) (by decide +kernel), mw (i := 12) (by decide +kernel), ⟨by decide +kernel, by decide +kernel, by decide +kernel⟩, by decide⟩, mw (i := 1759) (by decide +kernel), mp2 (i := 101) 31 (by decide +kernel)⟩
abbrev mX12_isRainbow : MI := (RX12, yX12_isRainbow, cX12_isRainbow, 3, some .boolean)
theorem cvX12_isRainbow : CV mX12_isRainbow 2 := ⟨⟨mw (i := 1764) (by decide +kernel), mw (i := 12) (by decide +kernel), ⟨by decide +kernel, by decide +kernel, by decide +kernel⟩, by decide⟩, mw (i := 1763) (by decide +kernel), mp2 (i := 102) 31 (by decide +kernel)⟩
abbrev mX12_crossings : MI := (RX12, yX12_crossings, cX12_crossings, 6, some .int)
theorem cvX12_crossings : CV mX12_crossings 1 := ⟨⟨mw (i := 1756) (by decide +kernel), mw (i := 12) (by decide +kernel), ⟨by decide +kernel, by decide +kernel, by decide +kernel⟩, by decide⟩, mw (i := 1755) (by decide +kernel), mp2 (i := 100) 31 (by decide +kernel)⟩
abbrev mX12_rainbows : MI := (RX12, yX12_rainbows, cX12_rainbows, 1, some .int)
theorem cvX12_rainbows : CV mX12_rainbows 0 := ⟨⟨mw (i := 1752) (by decide +kernel), mw (i := 12) (by decide +kernel), ⟨by decide +kernel, by decide +kernel, by decide +kernel⟩, by decide⟩, mw (i := 1750) (by decide +kernel), mw (i := 1751) (by decide +kernel)⟩
abbrev mX12_quarrels : MI := (RX12, yX12_quarrels, cX12_quarrels, 1, some .int)
theorem cvX12_quarrels : CV mX12_quarrels 0 := ⟨⟨mw (i := 1768) (by decide +kernel), mw (i := 12) (by decide +kernel), ⟨by decide +kernel, by decide +kernel, by decide +kernel⟩, by decide⟩, mw (i := 1766) (by decide +kernel), mw (i := 1767) (by decide +kernel)⟩
abbrev mX12_best : MI := (RX12, yX12_best, cX12_best, 7, some .int)
theorem cvX12_best : CV mX12_best 1 := ⟨⟨mw (i := 1772) (by decide +kernel), mw (i := 12) (by decide +kernel), ⟨by decide +kernel, by decide +kernel, by decide +kernel⟩, by decide⟩, mw (i := 1770) (by decide +kernel), mw (i := 1771) (by decide +kernel)⟩
abbrev mX12_owes : MI := (RX12, yX12_owes, cX12_owes, 3, some .int)
theorem cvX12_owes : CV mX12_owes 1 := ⟨⟨mw (i := 1776) (by decide +kernel), mw (i := 12) (by decide +kernel), ⟨by decide +kernel, by decide +kernel, by decide +kernel⟩, by decide⟩, mw (i := 1774) (by decide +kernel), mw (i := 1775) (by decide +kernel)⟩
abbrev mX12_chance : MI := (RX12, yX12_chance, cX12_chance, 13, some .int)
theorem cvX12_chance : CV mX12_chance 3 := ⟨⟨mw (i := 1780) (by decide +kernel), mw (i := 12) (by decide +kernel), ⟨by decide +kernel, by decide +kernel, by decide +kernel⟩, by decide⟩, mw (i := 1778) (by decide +kernel), mw (i := 1779) (by decide +kernel)⟩
abbrev mX12_same : MI := (RX12, yX12_same, cX12_same, 4, some .int)
theorem cvX12_same : CV mX12_same 0 := ⟨⟨mw (i := 1785) (by decide +kernel), mw (i := 12) (by decide +kernel), ⟨by decide +kernel, by decide +kernel, by decide +kernel⟩, by decide⟩, mw (i := 1783) (by decide +kernel), mw (i := 1784) (by decide +kernel)⟩
abbrev mX12_storm : MI := (RX12, yX12_storm, cX12_storm, 5, some .int)
theorem cvX12_storm : CV mX12_storm 0 := ⟨⟨mw (i := 1789) (by decide +kernel), mw (i := 12) (by decide +kernel), ⟨by decide +kernel, by decide +kernel, by decide +kernel⟩, by decide⟩, mw (i := 1787) (by decide +kernel), mw (i := 1788) (by decide +kernel)⟩
abbrev mX12_getsBy : MI := (RX12, yX12_getsBy, cX12_getsBy, 5, some .int)
theorem csX12_getsBy : CS mX12_getsBy 5 := ⟨⟨mw (i := 1796) (by decide +kernel), mw (i := 12) (by decide +kernel), ⟨by decide +kernel, by decide +kernel, by decide +kernel⟩, by decide⟩, mw (i := 1795) (by decide +kernel)⟩
abbrev mX12_rests : MI := (RX12, yX12_rests, cX12_rests, 12, some .int)
theorem cvX12_rests : CV mX12_rests 4 := ⟨⟨mw (i := 1793) (by decide +kernel), mw (i := 12) (by decide +kernel), ⟨by decide +kernel, by decide +kernel, by decide +kernel⟩, by decide⟩, mw (i := 1791) (by decide +kernel), mw (i := 1792) (by decide +kernel)⟩
abbrev mX12_draw : MI := (RX12, yX12_draw, cX12_draw, 2, some .int)
theorem cvX12_draw : CV mX12_draw 1 := ⟨⟨mw (i := 1808) (by decide +kernel), mw (i := 12) (by decide +kernel), ⟨by decide +kernel, by decide +kernel, by decide +kernel⟩, by decide⟩, mw (i := 1807) (by decide +kernel), mp2 (i := 104) 31 (by decide +kernel)⟩
abbrev mX12_drawsCloth : MI := (RX12, yX12_drawsCloth, cX12_drawsCloth, 5, some .boolean)
theorem cvX12_drawsCloth : CV mX12_drawsCloth 0 := ⟨⟨mw (i := 1804) (by decide +kernel), mw (i := 12) (by decide +kernel), ⟨by decide +kernel, by decide +kernel, by decide +kernel⟩, by decide⟩, mw (i := 1803) (by decide +kernel), mp2 (i := 103) 31 (by decide +kernel)⟩
abbrev mX12_mays : MI := (RX12, yX12_mays, cX12_mays, 7, some .int)
theorem cvX12_mays : CV mX12_mays 3 := ⟨⟨mw (i := 1800) (by decide +kernel), mw (i := 12) (by decide +kernel), ⟨by decide +kernel, by decide +kernel, by decide +kernel⟩, by decide⟩, mw (i := 1798) (by decide +kernel), mw (i := 1799) (by decide +kernel)⟩
abbrev mX12_mark : MI := (RX12, yX12_mark, cX12_mark, 3, some .boolean)
theorem cvX12_mark : CV mX12_mark 2 := ⟨⟨mw (i := 1816) (by decide +kernel), mw (i := 12) (by decide +kernel), ⟨by decide +kernel, by decide +kernel, by decide +kernel⟩, by decide⟩, mw (i := 1814) (by decide +kernel), mw (i := 1815) (by decide +kernel)⟩
abbrev mX12_wetNow : MI := (RX12, yX12_wetNow, cX12_wetNow, 3, some .int)
theorem cvX12_wetNow : CV mX12_wetNow 0 := ⟨⟨mw (i := 1824) (by decide +kernel), mw (i := 12) (by decide +kernel), ⟨by decide +kernel, by decide +kernel, by decide +kernel⟩, by decide⟩, mw (i := 1823) (by decide +kernel), mp2 (i := 105) 31 (by decide +kernel)⟩
abbrev mX12_wantedNow : MI := (RX12, yX12_wantedNow, cX12_wantedNow, 3, some .int)
theorem cvX12_wantedNow : CV mX12_wantedNow 0 := ⟨⟨mw (i := 1832) (by decide +kernel), mw (i := 12) (by decide +kernel), ⟨by decide +kernel, by decide +kernel, by decide +kernel⟩, by decide⟩, mw (i := 1831) (by decide +kernel), mp2 (i := 107) 31 (by decide +kernel)⟩
abbrev mX12_freeNow : MI := (RX12, yX12_freeNow, cX12_freeNow, 3, some .int)
theorem cvX12_freeNow : CV mX12_freeNow 0 := ⟨⟨mw (i := 1828) (by decide +kernel), mw (i := 12) (by decide +kernel), ⟨by decide +kernel, by decide +kernel, by decide +kernel⟩, by decide⟩, mw (i := 1827) (by decide +kernel), mp2 (i := 106) 31 (by decide +kernel)⟩
abbrev mX12_count : MI := (RX12, yX12_count, cX12_count, 2, some .int)
theorem cvX12_count : CV mX12_count 1 := ⟨⟨mw (i := 1820) (by decide +kernel), mw (i := 12) (by decide +kernel), ⟨by decide +kernel, by decide +kernel, by decide +kernel⟩, by decide⟩, mw (i := 1818) (by decide +kernel), mw (i := 1819) (by decide +kernel)⟩
abbrev mJ6_numberOfTrailingZeros_0f7a4 : MI := (RJ6, yJ6_numberOfTrailingZeros_0f7a4, cJ6_numberOfTrailingZeros_0f7a4, 2, some .int)
theorem csJ6_numberOfTrailingZeros_0f7a4 : CS mJ6_numberOfTrailingZeros_0f7a4 1 := ⟨⟨mw (i := 673) (by decide +kernel), mw (i := 21) (by decide +kernel), ⟨by decide +kernel, by decide +kernel, by decide +kernel⟩, by decide⟩, mw (i := 672) (by decide +kernel)⟩
abbrev mX11_last : MI := (RX11, yX11_last, cX11_last, 4, some .int)
theorem cvX11_last : CV mX11_last 0 := ⟨⟨mw (i := 1000) (by decide +kernel), mw (i := 1) (by decide +kernel), ⟨by decide +kernel, by decide +kernel, by decide +kernel⟩, by decide⟩, mw (i := 998) (by decide +kernel), mw (i := 999) (by decide +kernel)⟩
abbrev mJ6_bitCount_0f7a4 : MI := (RJ6, yJ6_bitCount_0f7a4, cJ6_bitCount_0f7a4, 1, some .int)
theorem csJ6_bitCount_0f7a4 : CS mJ6_bitCount_0f7a4 1 := ⟨⟨mw (i := 980) (by decide +kernel), mw (i := 21) (by decide +kernel), ⟨by decide +kernel, by decide +kernel, by decide +kernel⟩, by decide⟩, mw (i := 979) (by decide +kernel)⟩
abbrev mX11_judged : MI := (RX11, yX11_judged, cX11_judged, 2, some .int)
theorem cvX11_judged : CV mX11_judged 1 := ⟨⟨mw (i := 957) (by decide +kernel), mw (i := 1) (by decide +kernel), ⟨by decide +kernel, by decide +kernel, by decide +kernel⟩, by decide⟩, mw (i := 955) (by decide +kernel), mw (i := 956) (by decide +kernel)⟩
abbrev mX11_lift : MI := (RX11, yX11_lift, cX11_lift, 8, some .int)
theorem cvX11_lift : CV mX11_lift 2 := ⟨⟨mw (i := 1065) (by decide +kernel), mw (i := 1) (by decide +kernel), ⟨by decide +kernel, by decide +kernel, by decide +kernel⟩, by decide⟩, mw (i := 1063) (by decide +kernel), mw (i := 1064) (by decide +kernel)⟩
abbrev mJ0_coder_7d493 : MI := (RJ0, yJ0_coder_7d493, cJ0_coder_7d493, 1, some .byte)
theorem cvJ0_coder_7d493 : CV mJ0_coder_7d493 0 := ⟨⟨mw (i := 470) (by decide +kernel), mw (i := 15) (by decide +kernel), ⟨by decide +kernel, by decide +kernel, by decide +kernel⟩, by decide⟩, mw (i := 468) (by decide +kernel), mw (i := 469) (by decide +kernel)⟩
abbrev mJ0_length_8abf5 : MI := (RJ0, yJ0_length_8abf5, cJ0_length_8abf5, 1, some .int)
theorem cvJ0_length_8abf5 : CV mJ0_length_8abf5 0 := ⟨⟨mw (i := 466) (by decide +kernel), mw (i := 15) (by decide +kernel), ⟨by decide +kernel, by decide +kernel, by decide +kernel⟩, by decide⟩, mw (i := 464) (by decide +kernel), mw (i := 465) (by decide +kernel)⟩
abbrev mJ0_isLatin1_aae02 : MI := (RJ0, yJ0_isLatin1_aae02, cJ0_isLatin1_aae02, 1, some .boolean)
theorem cvJ0_isLatin1_aae02 : CV mJ0_isLatin1_aae02 0 := ⟨⟨mw (i := 480) (by decide +kernel), mw (i := 15) (by decide +kernel), ⟨by decide +kernel, by decide +kernel, by decide +kernel⟩, by decide⟩, mw (i := 478) (by decide +kernel), mw (i := 479) (by decide +kernel)⟩
abbrev mJ1_canEncode_9a6ad : MI := (RJ1, yJ1_canEncode_9a6ad, cJ1_canEncode_9a6ad, 1, some .boolean)
theorem csJ1_canEncode_9a6ad : CS mJ1_canEncode_9a6ad 1 := ⟨⟨mw (i := 533) (by decide +kernel), mw (i := 16) (by decide +kernel), ⟨by decide +kernel, by decide +kernel, by decide +kernel⟩, by decide⟩, mw (i := 532) (by decide +kernel)⟩
abbrev mJ1_indexOfChar_4cfef : MI := (RJ1, yJ1_indexOfChar_4cfef, cJ1_indexOfChar_4cfef, 6, some .int)
theorem csJ1_indexOfChar_4cfef : CS mJ1_indexOfChar_4cfef 4 := ⟨⟨mw (i := 542) (by decide +kernel), mw (i := 16) (by decide +kernel), ⟨by decide +kernel, by decide +kernel, by decide +kernel⟩, by decide⟩, mw (i := 541) (by decide +kernel)⟩
abbrev mJ1_indexOf_4cfef : MI := (RJ1, yJ1_indexOf_4cfef, cJ1_indexOf_4cfef, 4, some .int)
theorem csJ1_indexOf_4cfef : CS mJ1_indexOf_4cfef 4 := ⟨⟨mw (i := 530) (by decide +kernel), mw (i := 16) (by decide +kernel), ⟨by decide +kernel, by decide +kernel, by decide +kernel⟩, by decide⟩, mw (i := 529) (by decide +kernel)⟩
abbrev mJ0_indexOf_7cf53 : MI := (RJ0, yJ0_indexOf_7cf53, cJ0_indexOf_7cf53, 3, some .int)
theorem cvJ0_indexOf_7cf53 : CV mJ0_indexOf_7cf53 2 := ⟨⟨mw (i := 526) (by decide +kernel), mw (i := 15) (by decide +kernel), ⟨by decide +kernel, by decide +kernel, by decide +kernel⟩, by decide⟩, mw (i := 524) (by decide +kernel), mw (i := 525) (by decide +kernel)⟩
abbrev mJ0_indexOf_0f7a4 : MI := (RJ0, yJ0_indexOf_0f7a4, cJ0_indexOf_0f7a4, 2, some .int)
theorem cvJ0_indexOf_0f7a4 : CV mJ0_indexOf_0f7a4 1 := ⟨⟨mw (i := 522) (by decide +kernel), mw (i := 15) (by decide +kernel), ⟨by decide +kernel, by decide +kernel, by decide +kernel⟩, by decide⟩, mw (i := 520) (by decide +kernel), mw (i := 521) (by decide +kernel)⟩
abbrev mJ3_checkIndex_8e157 : MI := (RJ3, yJ3_checkIndex_8e157, cJ3_checkIndex_8e157, 3, some .int)
theorem csJ3_checkIndex_8e157 : CS mJ3_checkIndex_8e157 3 := ⟨⟨mw (i := 491) (by decide +kernel), mw (i := 17) (by decide +kernel), ⟨by decide +kernel, by decide +kernel, by decide +kernel⟩, by decide⟩, mw (i := 490) (by decide +kernel)⟩
abbrev mJ0_checkIndex_df160 : MI := (RJ0, yJ0_checkIndex_df160, cJ0_checkIndex_df160, 2, none)
theorem csJ0_checkIndex_df160 : CS mJ0_checkIndex_df160 2 := ⟨⟨mw (i := 486) (by decide +kernel), mw (i := 15) (by decide +kernel), ⟨by decide +kernel, by decide +kernel, by decide +kernel⟩, by decide⟩, mw (i := 485) (by decide +kernel)⟩
abbrev mJ1_charAt_3b067 : MI := (RJ1, yJ1_charAt_3b067, cJ1_charAt_3b067, 2, some .char)
theorem csJ1_charAt_3b067 : CS mJ1_charAt_3b067 2 := ⟨⟨mw (i := 483) (by decide +kernel), mw (i := 16) (by decide +kernel), ⟨by decide +kernel, by decide +kernel, by decide +kernel⟩, by decide⟩, mw (i := 482) (by decide +kernel)⟩
abbrev mJ0_charAt_5068e : MI := (RJ0, yJ0_charAt_5068e, cJ0_charAt_5068e, 2, some .char)
theorem cvJ0_charAt_5068e : CV mJ0_charAt_5068e 1 := ⟨⟨mw (i := 476) (by decide +kernel), mw (i := 15) (by decide +kernel), ⟨by decide +kernel, by decide +kernel, by decide +kernel⟩, by decide⟩, mw (i := 474) (by decide +kernel), mw (i := 475) (by decide +kernel)⟩
abbrev mX10_standsAt : MI := (RX10, yX10_standsAt, cX10_standsAt, 5, some .boolean)
theorem cvX10_standsAt : CV mX10_standsAt 3 := ⟨⟨mw (i := 462) (by decide +kernel), mw (i := 14) (by decide +kernel), ⟨by decide +kernel, by decide +kernel, by decide +kernel⟩, by decide⟩, mw (i := 460) (by decide +kernel), mw (i := 461) (by decide +kernel)⟩
abbrev mX5_readWord : MI := (RX5, yX5_readWord, cX5_readWord, 2, none)
theorem cvX5_readWord : CV mX5_readWord 0 := ⟨⟨mw (i := 455) (by decide +kernel), mw (i := 2) (by decide +kernel), ⟨by decide +kernel, by decide +kernel, by decide +kernel⟩, by decide⟩, mw (i := 454) (by decide +kernel), mp2 (i := 1) 9 (by decide +kernel)⟩
abbrev mX5_advance : MI := (RX5, yX5_advance, cX5_advance, 2, none)
theorem cvX5_advance : CV mX5_advance 0 := ⟨⟨mw (i := 445) (by decide +kernel), mw (i := 2) (by decide +kernel), ⟨by decide +kernel, by decide +kernel, by decide +kernel⟩, by decide⟩, mw (i := 443) (by decide +kernel), mw (i := 444) (by decide +kernel)⟩
abbrev mX0_readProduct : MI := (RX0, yX0_readProduct, cX0_readProduct, 4, none)
theorem cvX0_readProduct : CV mX0_readProduct 2 := ⟨⟨mw (i := 701) (by decide +kernel), mw (i := 4) (by decide +kernel), ⟨by decide +kernel, by decide +kernel, by decide +kernel⟩, by decide⟩, mw (i := 700) (by decide +kernel), mp2 (i := 14) 3 (by decide +kernel)⟩
abbrev mX0_readSum : MI := (RX0, yX0_readSum, cX0_readSum, 5, none)
theorem cvX0_readSum : CV mX0_readSum 2 := ⟨⟨mw (i := 697) (by decide +kernel), mw (i := 4) (by decide +kernel), ⟨by decide +kernel, by decide +kernel, by decide +kernel⟩, by decide⟩, mw (i := 696) (by decide +kernel), mp2 (i := 13) 3 (by decide +kernel)⟩
abbrev mX0_readTest : MI := (RX0, yX0_readTest, cX0_readTest, 4, none)
theorem cvX0_readTest : CV mX0_readTest 2 := ⟨⟨mw (i := 693) (by decide +kernel), mw (i := 4) (by decide +kernel), ⟨by decide +kernel, by decide +kernel, by decide +kernel⟩, by decide⟩, mw (i := 692) (by decide +kernel), mp2 (i := 12) 3 (by decide +kernel)⟩
abbrev mX0_readWhole : MI := (RX0, yX0_readWhole, cX0_readWhole, 5, none)
theorem cvX0_readWhole : CV mX0_readWhole 2 := ⟨⟨mw (i := 689) (by decide +kernel), mw (i := 4) (by decide +kernel), ⟨by decide +kernel, by decide +kernel, by decide +kernel⟩, by decide⟩, mw (i := 688) (by decide +kernel), mp2 (i := 11) 3 (by decide +kernel)⟩
abbrev mX0_readPart : MI := (RX0, yX0_readPart, cX0_readPart, 5, none)
theorem cvX0_readPart : CV mX0_readPart 2 := ⟨⟨mw (i := 705) (by decide +kernel), mw (i := 4) (by decide +kernel), ⟨by decide +kernel, by decide +kernel, by decide +kernel⟩, by decide⟩, mw (i := 704) (by decide +kernel), mp2 (i := 15) 3 (by decide +kernel)⟩
abbrev mX5_startReading : MI := (RX5, yX5_startReading, cX5_startReading, 1, none)
theorem cvX5_startReading : CV mX5_startReading 0 := ⟨⟨mw (i := 441) (by decide +kernel), mw (i := 2) (by decide +kernel), ⟨by decide +kernel, by decide +kernel, by decide +kernel⟩, by decide⟩, mw (i := 439) (by decide +kernel), mw (i := 440) (by decide +kernel)⟩
abbrev mX5_expectWord : MI := (RX5, yX5_expectWord, cX5_expectWord, 2, none)
theorem cvX5_expectWord : CV mX5_expectWord 1 := ⟨⟨mw (i := 613) (by decide +kernel), mw (i := 2) (by decide +kernel), ⟨by decide +kernel, by decide +kernel, by decide +kernel⟩, by decide⟩, mw (i := 611) (by decide +kernel), mw (i := 612) (by decide +kernel)⟩
abbrev mX5_expectSign : MI := (RX5, yX5_expectSign, cX5_expectSign, 2, none)
theorem cvX5_expectSign : CV mX5_expectSign 1 := ⟨⟨mw (i := 622) (by decide +kernel), mw (i := 2) (by decide +kernel), ⟨by decide +kernel, by decide +kernel, by decide +kernel⟩, by decide⟩, mw (i := 620) (by decide +kernel), mw (i := 621) (by decide +kernel)⟩
abbrev mX5_expectNumber : MI := (RX5, yX5_expectNumber, cX5_expectNumber, 4, some .int)
theorem cvX5_expectNumber : CV mX5_expectNumber 2 := ⟨⟨mw (i := 618) (by decide +kernel), mw (i := 2) (by decide +kernel), ⟨by decide +kernel, by decide +kernel, by decide +kernel⟩, by decide⟩, mw (i := 616) (by decide +kernel), mw (i := 617) (by decide +kernel)⟩
abbrev mX3_readRow : MI := (RX3, yX3_readRow, cX3_readRow, 4, none)
theorem cvX3_readRow : CV mX3_readRow 3 := ⟨⟨mw (i := 768) (by decide +kernel), mw (i := 6) (by decide +kernel), ⟨by decide +kernel, by decide +kernel, by decide +kernel⟩, by decide⟩, mw (i := 767) (by decide +kernel), mp2 (i := 17) 7 (by decide +kernel)⟩
abbrev mX3_readFrom : MI := (RX3, yX3_readFrom, cX3_readFrom, 5, some .int)
theorem cvX3_readFrom : CV mX3_readFrom 2 := ⟨⟨mw (i := 751) (by decide +kernel), mw (i := 6) (by decide +kernel), ⟨by decide +kernel, by decide +kernel, by decide +kernel⟩, by decide⟩, mw (i := 749) (by decide +kernel), mw (i := 750) (by decide +kernel)⟩
abbrev mX8_skipUnlessFull : MI := (RX8, yX8_skipUnlessFull, cX8_skipUnlessFull, 2, none)
theorem cvX8_skipUnlessFull : CV mX8_skipUnlessFull 1 := ⟨⟨mw (i := 587) (by decide +kernel), mw (i := 5) (by decide +kernel), ⟨by decide +kernel, by decide +kernel, by decide +kernel⟩, by decide⟩, mw (i := 586) (by decide +kernel), mp2 (i := 4) 3 (by decide +kernel)⟩
abbrev mX8_newName : MI := (RX8, yX8_newName, cX8_newName, 3, some .long)
theorem cvX8_newName : CV mX8_newName 0 := ⟨⟨mw (i := 596) (by decide +kernel), mw (i := 5) (by decide +kernel), ⟨by decide +kernel, by decide +kernel, by decide +kernel⟩, by decide⟩, mw (i := 595) (by decide +kernel), mp2 (i := 5) 3 (by decide +kernel)⟩
abbrev mX8_readLine : MI := (RX8, yX8_readLine, cX8_readLine, 4, none)
theorem cvX8_readLine : CV mX8_readLine 0 := ⟨⟨mw (i := 583) (by decide +kernel), mw (i := 5) (by decide +kernel), ⟨by decide +kernel, by decide +kernel, by decide +kernel⟩, by decide⟩, mw (i := 582) (by decide +kernel), mp2 (i := 3) 3 (by decide +kernel)⟩
abbrev mX8_lineOutside : MI := (RX8, yX8_lineOutside, cX8_lineOutside, 3, some .int)
theorem cvX8_lineOutside : CV mX8_lineOutside 1 := ⟨⟨mw (i := 638) (by decide +kernel), mw (i := 5) (by decide +kernel), ⟨by decide +kernel, by decide +kernel, by decide +kernel⟩, by decide⟩, mw (i := 637) (by decide +kernel), mp2 (i := 7) 3 (by decide +kernel)⟩
abbrev mX8_readPlace : MI := (RX8, yX8_readPlace, cX8_readPlace, 5, none)
theorem cvX8_readPlace : CV mX8_readPlace 0 := ⟨⟨mw (i := 632) (by decide +kernel), mw (i := 5) (by decide +kernel), ⟨by decide +kernel, by decide +kernel, by decide +kernel⟩, by decide⟩, mw (i := 631) (by decide +kernel), mp2 (i := 6) 3 (by decide +kernel)⟩
abbrev mX8_readCloth : MI := (RX8, yX8_readCloth, cX8_readCloth, 5, none)
theorem cvX8_readCloth : CV mX8_readCloth 0 := ⟨⟨mw (i := 654) (by decide +kernel), mw (i := 5) (by decide +kernel), ⟨by decide +kernel, by decide +kernel, by decide +kernel⟩, by decide⟩, mw (i := 653) (by decide +kernel), mp2 (i := 8) 3 (by decide +kernel)⟩
abbrev mX8_readCrossing : MI := (RX8, yX8_readCrossing, cX8_readCrossing, 3, none)
theorem cvX8_readCrossing : CV mX8_readCrossing 0 := ⟨⟨mw (i := 666) (by decide +kernel), mw (i := 5) (by decide +kernel), ⟨by decide +kernel, by decide +kernel, by decide +kernel⟩, by decide⟩, mw (i := 665) (by decide +kernel), mp2 (i := 9) 3 (by decide +kernel)⟩
abbrev mX8_readLaw : MI := (RX8, yX8_readLaw, cX8_readLaw, 1, none)
theorem cvX8_readLaw : CV mX8_readLaw 0 := ⟨⟨mw (i := 685) (by decide +kernel), mw (i := 5) (by decide +kernel), ⟨by decide +kernel, by decide +kernel, by decide +kernel⟩, by decide⟩, mw (i := 684) (by decide +kernel), mp2 (i := 10) 3 (by decide +kernel)⟩
abbrev mX8_readTown : MI := (RX8, yX8_readTown, cX8_readTown, 3, some .int)
theorem cvX8_readTown : CV mX8_readTown 0 := ⟨⟨mw (i := 425) (by decide +kernel), mw (i := 5) (by decide +kernel), ⟨by decide +kernel, by decide +kernel, by decide +kernel⟩, by decide⟩, mw (i := 423) (by decide +kernel), mw (i := 424) (by decide +kernel)⟩
abbrev mX11_street : MI := (RX11, yX11_street, cX11_street, 2, some .int)
theorem cvX11_street : CV mX11_street 0 := ⟨⟨mw (i := 421) (by decide +kernel), mw (i := 1) (by decide +kernel), ⟨by decide +kernel, by decide +kernel, by decide +kernel⟩, by decide⟩, mw (i := 419) (by decide +kernel), mw (i := 420) (by decide +kernel)⟩
abbrev mX11_morning : MI := (RX11, yX11_morning, cX11_morning, 2, some .int)
theorem cvX11_morning : CV mX11_morning 0 := ⟨⟨mw (i := 747) (by decide +kernel), mw (i := 1) (by decide +kernel), ⟨by decide +kernel, by decide +kernel, by decide +kernel⟩, by decide⟩, mw (i := 745) (by decide +kernel), mw (i := 746) (by decide +kernel)⟩
