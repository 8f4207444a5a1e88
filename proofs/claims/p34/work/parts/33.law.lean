theorem gw_683 : Cond.methodLink RL 13 yX10_group ∈ goodTbl := mgP tb_3 46 rfl (by decide +kernel)
theorem gw_684 : Cond.instanceMethod yX10_group ∈ goodTbl := mgP tb_3 47 rfl (by decide +kernel)
theorem gw_685 : Cond.selects yX10_group.cls yX10_group yX10_group ∈ goodTbl := mgP tb_3 48 rfl (by decide +kernel)
theorem gw_718 : Cond.methodLink RL 18 yX10_tail ∈ goodTbl := mgP tb_3 81 rfl (by decide +kernel)
theorem gw_719 : Cond.instanceMethod yX10_tail ∈ goodTbl := mgP tb_3 82 rfl (by decide +kernel)
theorem gw_720 : Cond.selects yX10_tail.cls yX10_tail yX10_tail ∈ goodTbl := mgP tb_3 83 rfl (by decide +kernel)
theorem gw_727 : Cond.methodLink RL 23 yX10_kind ∈ goodTbl := mgP tb_3 90 rfl (by decide +kernel)
theorem gw_728 : Cond.instanceMethod yX10_kind ∈ goodTbl := mgP tb_3 91 rfl (by decide +kernel)
theorem gw_729 : Cond.selects yX10_kind.cls yX10_kind yX10_kind ∈ goodTbl := mgP tb_3 92 rfl (by decide +kernel)
theorem gw_732 : Cond.methodLink RL 88 yX10_consistent ∈ goodTbl := mgP tb_3 95 rfl (by decide +kernel)
theorem gw_733 : Cond.instanceMethod yX10_consistent ∈ goodTbl := mgP tb_3 96 rfl (by decide +kernel)
theorem gw_734 : Cond.selects yX10_consistent.cls yX10_consistent yX10_consistent ∈ goodTbl := mgP tb_3 97 rfl (by decide +kernel)
theorem gw_739 : Cond.methodLink RL 97 yX10_generator ∈ goodTbl := mgP tb_3 102 rfl (by decide +kernel)
theorem gw_740 : Cond.instanceMethod yX10_generator ∈ goodTbl := mgP tb_3 103 rfl (by decide +kernel)
theorem gw_741 : Cond.selects yX10_generator.cls yX10_generator yX10_generator ∈ goodTbl := mgP tb_3 104 rfl (by decide +kernel)
theorem gw_756 : Cond.methodLink RL 101 yX10_tailOf ∈ goodTbl := mgP tb_3 119 rfl (by decide +kernel)
theorem gw_757 : Cond.instanceMethod yX10_tailOf ∈ goodTbl := mgP tb_3 120 rfl (by decide +kernel)
theorem gw_758 : Cond.selects yX10_tailOf.cls yX10_tailOf yX10_tailOf ∈ goodTbl := mgP tb_3 121 rfl (by decide +kernel)
theorem gw_762 : Cond.methodLink RL 106 yX10_terms ∈ goodTbl := mgP tb_3 125 rfl (by decide +kernel)
theorem gw_763 : Cond.instanceMethod yX10_terms ∈ goodTbl := mgP tb_3 126 rfl (by decide +kernel)
theorem gw_764 : Cond.selects yX10_terms.cls yX10_terms yX10_terms ∈ goodTbl := mgP tb_3 127 rfl (by decide +kernel)
theorem gw_770 : Cond.methodLink RL 110 yX10_term ∈ goodTbl := mgP tb_3 133 rfl (by decide +kernel)
theorem gw_771 : Cond.instanceMethod yX10_term ∈ goodTbl := mgP tb_3 134 rfl (by decide +kernel)
theorem gw_772 : Cond.selects yX10_term.cls yX10_term yX10_term ∈ goodTbl := mgP tb_3 135 rfl (by decide +kernel)
theorem gw_775 : Cond.methodLink RL 126 yX10_shape ∈ goodTbl := mgP tb_3 138 rfl (by decide +kernel)
theorem gw_776 : Cond.instanceMethod yX10_shape ∈ goodTbl := mgP tb_3 139 rfl (by decide +kernel)
theorem gw_777 : Cond.selects yX10_shape.cls yX10_shape yX10_shape ∈ goodTbl := mgP tb_3 140 rfl (by decide +kernel)
theorem gw_799 : Cond.methodLink RL 28 yX10_set ∈ goodTbl := mgP tb_3 162 rfl (by decide +kernel)
theorem gw_800 : Cond.instanceMethod yX10_set ∈ goodTbl := mgP tb_3 163 rfl (by decide +kernel)
theorem gw_801 : Cond.selects yX10_set.cls yX10_set yX10_set ∈ goodTbl := mgP tb_3 164 rfl (by decide +kernel)
theorem gw_806 : Cond.methodLink RL 33 yX10_multiply ∈ goodTbl := mgP tb_3 169 rfl (by decide +kernel)
theorem gw_807 : Cond.instanceMethod yX10_multiply ∈ goodTbl := mgP tb_3 170 rfl (by decide +kernel)
theorem gw_808 : Cond.selects yX10_multiply.cls yX10_multiply yX10_multiply ∈ goodTbl := mgP tb_3 171 rfl (by decide +kernel)
theorem gw_833 : Cond.methodLink RL 37 yX10_invert ∈ goodTbl := mgP tb_3 196 rfl (by decide +kernel)
theorem gw_834 : Cond.instanceMethod yX10_invert ∈ goodTbl := mgP tb_3 197 rfl (by decide +kernel)
theorem gw_835 : Cond.selects yX10_invert.cls yX10_invert yX10_invert ∈ goodTbl := mgP tb_3 198 rfl (by decide +kernel)
theorem gw_841 : Cond.methodLink RL 41 yX10_power ∈ goodTbl := mgP tb_3 204 rfl (by decide +kernel)
theorem gw_842 : Cond.instanceMethod yX10_power ∈ goodTbl := mgP tb_3 205 rfl (by decide +kernel)
theorem gw_843 : Cond.selects yX10_power.cls yX10_power yX10_power ∈ goodTbl := mgP tb_3 206 rfl (by decide +kernel)
theorem gw_866 : Cond.methodLink RL 45 yX10_commute ∈ goodTbl := mgP tb_3 229 rfl (by decide +kernel)
theorem gw_867 : Cond.instanceMethod yX10_commute ∈ goodTbl := mgP tb_3 230 rfl (by decide +kernel)
theorem gw_868 : Cond.selects yX10_commute.cls yX10_commute yX10_commute ∈ goodTbl := mgP tb_3 231 rfl (by decide +kernel)
theorem gw_875 : Cond.methodLink RL 49 yX10_conjugate ∈ goodTbl := mgP tb_3 238 rfl (by decide +kernel)
theorem gw_876 : Cond.instanceMethod yX10_conjugate ∈ goodTbl := mgP tb_3 239 rfl (by decide +kernel)
theorem gw_877 : Cond.selects yX10_conjugate.cls yX10_conjugate yX10_conjugate ∈ goodTbl := mgP tb_4 0 rfl (by decide +kernel)
theorem gw_883 : Cond.methodLink RL 53 yX10_root ∈ goodTbl := mgP tb_4 6 rfl (by decide +kernel)
theorem gw_884 : Cond.instanceMethod yX10_root ∈ goodTbl := mgP tb_4 7 rfl (by decide +kernel)
theorem gw_885 : Cond.selects yX10_root.cls yX10_root yX10_root ∈ goodTbl := mgP tb_4 8 rfl (by decide +kernel)
theorem gw_897 : Cond.methodLink RL 57 yX10_seek ∈ goodTbl := mgP tb_4 20 rfl (by decide +kernel)
theorem gw_898 : Cond.instanceMethod yX10_seek ∈ goodTbl := mgP tb_4 21 rfl (by decide +kernel)
theorem gw_899 : Cond.selects yX10_seek.cls yX10_seek yX10_seek ∈ goodTbl := mgP tb_4 22 rfl (by decide +kernel)
theorem gw_944 : Cond.methodLink RL 61 yX10_feed ∈ goodTbl := mgP tb_4 67 rfl (by decide +kernel)
theorem gw_945 : Cond.instanceMethod yX10_feed ∈ goodTbl := mgP tb_4 68 rfl (by decide +kernel)
theorem gw_946 : Cond.selects yX10_feed.cls yX10_feed yX10_feed ∈ goodTbl := mgP tb_4 69 rfl (by decide +kernel)
theorem gw_952 : Cond.methodLink RL 66 yX10_end ∈ goodTbl := mgP tb_4 75 rfl (by decide +kernel)
theorem gw_953 : Cond.instanceMethod yX10_end ∈ goodTbl := mgP tb_4 76 rfl (by decide +kernel)
theorem gw_954 : Cond.selects yX10_end.cls yX10_end yX10_end ∈ goodTbl := mgP tb_4 77 rfl (by decide +kernel)
theorem gw_956 : Cond.methodLink RL 70 yX10_text ∈ goodTbl := mgP tb_4 79 rfl (by decide +kernel)
theorem gw_957 : Cond.instanceMethod yX10_text ∈ goodTbl := mgP tb_4 80 rfl (by decide +kernel)
theorem gw_958 : Cond.selects yX10_text.cls yX10_text yX10_text ∈ goodTbl := mgP tb_4 81 rfl (by decide +kernel)
theorem gw_1033 : Cond.methodLink RL 74 yX10_fault ∈ goodTbl := mgP tb_4 156 rfl (by decide +kernel)
theorem gw_1034 : Cond.instanceMethod yX10_fault ∈ goodTbl := mgP tb_4 157 rfl (by decide +kernel)
theorem gw_1035 : Cond.selects yX10_fault.cls yX10_fault yX10_fault ∈ goodTbl := mgP tb_4 158 rfl (by decide +kernel)
theorem gw_1037 : Cond.methodLink RL 79 yX10_collect ∈ goodTbl := mgP tb_4 160 rfl (by decide +kernel)
theorem gw_1038 : Cond.instanceMethod yX10_collect ∈ goodTbl := mgP tb_4 161 rfl (by decide +kernel)
theorem gw_1039 : Cond.selects yX10_collect.cls yX10_collect yX10_collect ∈ goodTbl := mgP tb_4 162 rfl (by decide +kernel)
theorem gw_1045 : Cond.methodLink RL 84 yX10_collected ∈ goodTbl := mgP tb_4 168 rfl (by decide +kernel)
theorem gw_1046 : Cond.instanceMethod yX10_collected ∈ goodTbl := mgP tb_4 169 rfl (by decide +kernel)
theorem gw_1047 : Cond.selects yX10_collected.cls yX10_collected yX10_collected ∈ goodTbl := mgP tb_4 170 rfl (by decide +kernel)
theorem gw_1049 : Cond.methodLink RL 92 yX10_exponent ∈ goodTbl := mgP tb_4 172 rfl (by decide +kernel)
theorem gw_1050 : Cond.instanceMethod yX10_exponent ∈ goodTbl := mgP tb_4 173 rfl (by decide +kernel)
theorem gw_1051 : Cond.selects yX10_exponent.cls yX10_exponent yX10_exponent ∈ goodTbl := mgP tb_4 174 rfl (by decide +kernel)
theorem gw_1053 : Cond.methodLink RL 114 yX10_register ∈ goodTbl := mgP tb_4 176 rfl (by decide +kernel)
theorem gw_1054 : Cond.instanceMethod yX10_register ∈ goodTbl := mgP tb_4 177 rfl (by decide +kernel)
theorem gw_1055 : Cond.selects yX10_register.cls yX10_register yX10_register ∈ goodTbl := mgP tb_4 178 rfl (by decide +kernel)
theorem gw_1172 : Cond.methodLink RL 118 yX10_both ∈ goodTbl := mgP tb_5 55 rfl (by decide +kernel)
theorem gw_1173 : Cond.instanceMethod yX10_both ∈ goodTbl := mgP tb_5 56 rfl (by decide +kernel)
theorem gw_1174 : Cond.selects yX10_both.cls yX10_both yX10_both ∈ goodTbl := mgP tb_5 57 rfl (by decide +kernel)
theorem gw_1180 : Cond.methodLink RL 122 yX10_alike ∈ goodTbl := mgP tb_5 63 rfl (by decide +kernel)
theorem gw_1181 : Cond.instanceMethod yX10_alike ∈ goodTbl := mgP tb_5 64 rfl (by decide +kernel)
theorem gw_1182 : Cond.selects yX10_alike.cls yX10_alike yX10_alike ∈ goodTbl := mgP tb_5 65 rfl (by decide +kernel)
theorem gw_1221 : Cond.methodLink RL 130 yX10_powers ∈ goodTbl := mgP tb_5 104 rfl (by decide +kernel)
theorem gw_1222 : Cond.instanceMethod yX10_powers ∈ goodTbl := mgP tb_5 105 rfl (by decide +kernel)
theorem gw_1223 : Cond.selects yX10_powers.cls yX10_powers yX10_powers ∈ goodTbl := mgP tb_5 106 rfl (by decide +kernel)
theorem gw_1228 : Cond.methodLink RL 135 yX10_associates ∈ goodTbl := mgP tb_5 111 rfl (by decide +kernel)
theorem gw_1229 : Cond.instanceMethod yX10_associates ∈ goodTbl := mgP tb_5 112 rfl (by decide +kernel)
theorem gw_1230 : Cond.selects yX10_associates.cls yX10_associates yX10_associates ∈ goodTbl := mgP tb_5 113 rfl (by decide +kernel)
theorem gw_1232 : Cond.methodLink RL 139 yX10_ball ∈ goodTbl := mgP tb_5 115 rfl (by decide +kernel)
theorem gw_1233 : Cond.instanceMethod yX10_ball ∈ goodTbl := mgP tb_5 116 rfl (by decide +kernel)
theorem gw_1234 : Cond.selects yX10_ball.cls yX10_ball yX10_ball ∈ goodTbl := mgP tb_5 117 rfl (by decide +kernel)
theorem gw_1240 : Cond.methodLink RL 143 yX10_undo ∈ goodTbl := mgP tb_5 123 rfl (by decide +kernel)
theorem gw_1241 : Cond.instanceMethod yX10_undo ∈ goodTbl := mgP tb_5 124 rfl (by decide +kernel)
theorem gw_1242 : Cond.selects yX10_undo.cls yX10_undo yX10_undo ∈ goodTbl := mgP tb_5 125 rfl (by decide +kernel)
theorem gw_1244 : Cond.methodLink RL 147 yX10_image ∈ goodTbl := mgP tb_5 127 rfl (by decide +kernel)
theorem gw_1245 : Cond.instanceMethod yX10_image ∈ goodTbl := mgP tb_5 128 rfl (by decide +kernel)
theorem gw_1246 : Cond.selects yX10_image.cls yX10_image yX10_image ∈ goodTbl := mgP tb_5 129 rfl (by decide +kernel)
theorem gw_1254 : Cond.methodLink RL 152 yX10_look ∈ goodTbl := mgP tb_5 137 rfl (by decide +kernel)
theorem gw_1255 : Cond.instanceMethod yX10_look ∈ goodTbl := mgP tb_5 138 rfl (by decide +kernel)
theorem gw_1256 : Cond.selects yX10_look.cls yX10_look yX10_look ∈ goodTbl := mgP tb_5 139 rfl (by decide +kernel)
theorem gw_1411 : Cond.methodLink RL 146 yX11_undo ∈ goodTbl := mgP tb_6 54 rfl (by decide +kernel)
theorem gw_1412 : Cond.instanceMethod yX11_undo ∈ goodTbl := mgP tb_6 55 rfl (by decide +kernel)
theorem gw_1413 : Cond.selects yX11_undo.cls yX11_undo yX11_undo ∈ goodTbl := mgP tb_6 56 rfl (by decide +kernel)
theorem gw_1415 : Cond.methodLink RL 17 yX11_group ∈ goodTbl := mgP tb_6 58 rfl (by decide +kernel)
theorem gw_1416 : Cond.instanceMethod yX11_group ∈ goodTbl := mgP tb_6 59 rfl (by decide +kernel)
theorem gw_1417 : Cond.selects yX11_group.cls yX11_group yX11_group ∈ goodTbl := mgP tb_6 60 rfl (by decide +kernel)
theorem gw_1433 : Cond.methodLink RL 22 yX11_tail_ ∈ goodTbl := mgP tb_6 76 rfl (by decide +kernel)
theorem gw_1434 : Cond.instanceMethod yX11_tail_ ∈ goodTbl := mgP tb_6 77 rfl (by decide +kernel)
theorem gw_1435 : Cond.selects yX11_tail_.cls yX11_tail_ yX11_tail_ ∈ goodTbl := mgP tb_6 78 rfl (by decide +kernel)
theorem gw_1454 : Cond.methodLink RL 27 yX11_kind ∈ goodTbl := mgP tb_6 97 rfl (by decide +kernel)
theorem gw_1455 : Cond.instanceMethod yX11_kind ∈ goodTbl := mgP tb_6 98 rfl (by decide +kernel)
theorem gw_1456 : Cond.selects yX11_kind.cls yX11_kind yX11_kind ∈ goodTbl := mgP tb_6 99 rfl (by decide +kernel)
theorem gw_1462 : Cond.methodLink RL 32 yX11_set ∈ goodTbl := mgP tb_6 105 rfl (by decide +kernel)
theorem gw_1463 : Cond.instanceMethod yX11_set ∈ goodTbl := mgP tb_6 106 rfl (by decide +kernel)
theorem gw_1464 : Cond.selects yX11_set.cls yX11_set yX11_set ∈ goodTbl := mgP tb_6 107 rfl (by decide +kernel)
theorem gw_1575 : Cond.methodLink RL 36 yX11_multiply ∈ goodTbl := mgP tb_6 218 rfl (by decide +kernel)
theorem gw_1576 : Cond.instanceMethod yX11_multiply ∈ goodTbl := mgP tb_6 219 rfl (by decide +kernel)
theorem gw_1577 : Cond.selects yX11_multiply.cls yX11_multiply yX11_multiply ∈ goodTbl := mgP tb_6 220 rfl (by decide +kernel)
theorem gw_1579 : Cond.methodLink RL 40 yX11_invert ∈ goodTbl := mgP tb_6 222 rfl (by decide +kernel)
theorem gw_1580 : Cond.instanceMethod yX11_invert ∈ goodTbl := mgP tb_6 223 rfl (by decide +kernel)
theorem gw_1581 : Cond.selects yX11_invert.cls yX11_invert yX11_invert ∈ goodTbl := mgP tb_6 224 rfl (by decide +kernel)
theorem gw_1595 : Cond.methodLink RL 44 yX11_power ∈ goodTbl := mgP tb_6 238 rfl (by decide +kernel)
theorem gw_1596 : Cond.instanceMethod yX11_power ∈ goodTbl := mgP tb_6 239 rfl (by decide +kernel)
theorem gw_1597 : Cond.selects yX11_power.cls yX11_power yX11_power ∈ goodTbl := mgP tb_7 0 rfl (by decide +kernel)
theorem gw_1605 : Cond.methodLink RL 48 yX11_commute ∈ goodTbl := mgP tb_7 8 rfl (by decide +kernel)
theorem gw_1606 : Cond.instanceMethod yX11_commute ∈ goodTbl := mgP tb_7 9 rfl (by decide +kernel)
theorem gw_1607 : Cond.selects yX11_commute.cls yX11_commute yX11_commute ∈ goodTbl := mgP tb_7 10 rfl (by decide +kernel)
theorem gw_1613 : Cond.methodLink RL 52 yX11_conjugate ∈ goodTbl := mgP tb_7 16 rfl (by decide +kernel)
theorem gw_1614 : Cond.instanceMethod yX11_conjugate ∈ goodTbl := mgP tb_7 17 rfl (by decide +kernel)
theorem gw_1615 : Cond.selects yX11_conjugate.cls yX11_conjugate yX11_conjugate ∈ goodTbl := mgP tb_7 18 rfl (by decide +kernel)
theorem gw_1621 : Cond.methodLink RL 56 yX11_root ∈ goodTbl := mgP tb_7 24 rfl (by decide +kernel)
theorem gw_1622 : Cond.instanceMethod yX11_root ∈ goodTbl := mgP tb_7 25 rfl (by decide +kernel)
theorem gw_1623 : Cond.selects yX11_root.cls yX11_root yX11_root ∈ goodTbl := mgP tb_7 26 rfl (by decide +kernel)
theorem gw_1629 : Cond.methodLink RL 60 yX11_seek ∈ goodTbl := mgP tb_7 32 rfl (by decide +kernel)
theorem gw_1630 : Cond.instanceMethod yX11_seek ∈ goodTbl := mgP tb_7 33 rfl (by decide +kernel)
theorem gw_1631 : Cond.selects yX11_seek.cls yX11_seek yX11_seek ∈ goodTbl := mgP tb_7 34 rfl (by decide +kernel)
theorem gw_1645 : Cond.methodLink RL 65 yX11_feed ∈ goodTbl := mgP tb_7 48 rfl (by decide +kernel)
theorem gw_1646 : Cond.instanceMethod yX11_feed ∈ goodTbl := mgP tb_7 49 rfl (by decide +kernel)
theorem gw_1647 : Cond.selects yX11_feed.cls yX11_feed yX11_feed ∈ goodTbl := mgP tb_7 50 rfl (by decide +kernel)
theorem gw_1653 : Cond.methodLink RL 69 yX11_end ∈ goodTbl := mgP tb_7 56 rfl (by decide +kernel)
theorem gw_1654 : Cond.instanceMethod yX11_end ∈ goodTbl := mgP tb_7 57 rfl (by decide +kernel)
theorem gw_1655 : Cond.selects yX11_end.cls yX11_end yX11_end ∈ goodTbl := mgP tb_7 58 rfl (by decide +kernel)
theorem gw_1657 : Cond.methodLink RL 73 yX11_text ∈ goodTbl := mgP tb_7 60 rfl (by decide +kernel)
theorem gw_1658 : Cond.instanceMethod yX11_text ∈ goodTbl := mgP tb_7 61 rfl (by decide +kernel)
theorem gw_1659 : Cond.selects yX11_text.cls yX11_text yX11_text ∈ goodTbl := mgP tb_7 62 rfl (by decide +kernel)
theorem gw_1713 : Cond.methodLink RL 78 yX11_fault ∈ goodTbl := mgP tb_7 116 rfl (by decide +kernel)
theorem gw_1714 : Cond.instanceMethod yX11_fault ∈ goodTbl := mgP tb_7 117 rfl (by decide +kernel)
theorem gw_1715 : Cond.selects yX11_fault.cls yX11_fault yX11_fault ∈ goodTbl := mgP tb_7 118 rfl (by decide +kernel)
theorem gw_1717 : Cond.methodLink RL 83 yX11_collect ∈ goodTbl := mgP tb_7 120 rfl (by decide +kernel)
theorem gw_1718 : Cond.instanceMethod yX11_collect ∈ goodTbl := mgP tb_7 121 rfl (by decide +kernel)
theorem gw_1719 : Cond.selects yX11_collect.cls yX11_collect yX11_collect ∈ goodTbl := mgP tb_7 122 rfl (by decide +kernel)
theorem gw_1722 : Cond.methodLink RL 87 yX11_collected ∈ goodTbl := mgP tb_7 125 rfl (by decide +kernel)
theorem gw_1723 : Cond.instanceMethod yX11_collected ∈ goodTbl := mgP tb_7 126 rfl (by decide +kernel)
theorem gw_1724 : Cond.selects yX11_collected.cls yX11_collected yX11_collected ∈ goodTbl := mgP tb_7 127 rfl (by decide +kernel)
theorem gw_1726 : Cond.methodLink RL 91 yX11_consistent ∈ goodTbl := mgP tb_7 129 rfl (by decide +kernel)
theorem gw_1727 : Cond.instanceMethod yX11_consistent ∈ goodTbl := mgP tb_7 130 rfl (by decide +kernel)
theorem gw_1728 : Cond.selects yX11_consistent.cls yX11_consistent yX11_consistent ∈ goodTbl := mgP tb_7 131 rfl (by decide +kernel)
theorem gw_1730 : Cond.methodLink RL 96 yX11_exponent ∈ goodTbl := mgP tb_7 133 rfl (by decide +kernel)
theorem gw_1731 : Cond.instanceMethod yX11_exponent ∈ goodTbl := mgP tb_7 134 rfl (by decide +kernel)
theorem gw_1732 : Cond.selects yX11_exponent.cls yX11_exponent yX11_exponent ∈ goodTbl := mgP tb_7 135 rfl (by decide +kernel)
theorem gw_1734 : Cond.methodLink RL 100 yX11_generator ∈ goodTbl := mgP tb_7 137 rfl (by decide +kernel)
theorem gw_1735 : Cond.instanceMethod yX11_generator ∈ goodTbl := mgP tb_7 138 rfl (by decide +kernel)
theorem gw_1736 : Cond.selects yX11_generator.cls yX11_generator yX11_generator ∈ goodTbl := mgP tb_7 139 rfl (by decide +kernel)
theorem gw_1754 : Cond.methodLink RL 105 yX11_tailOf ∈ goodTbl := mgP tb_7 157 rfl (by decide +kernel)
theorem gw_1755 : Cond.instanceMethod yX11_tailOf ∈ goodTbl := mgP tb_7 158 rfl (by decide +kernel)
theorem gw_1756 : Cond.selects yX11_tailOf.cls yX11_tailOf yX11_tailOf ∈ goodTbl := mgP tb_7 159 rfl (by decide +kernel)
theorem gw_1758 : Cond.methodLink RL 109 yX11_terms ∈ goodTbl := mgP tb_7 161 rfl (by decide +kernel)
theorem gw_1759 : Cond.instanceMethod yX11_terms ∈ goodTbl := mgP tb_7 162 rfl (by decide +kernel)
theorem gw_1760 : Cond.selects yX11_terms.cls yX11_terms yX11_terms ∈ goodTbl := mgP tb_7 163 rfl (by decide +kernel)
theorem gw_1766 : Cond.methodLink RL 113 yX11_term ∈ goodTbl := mgP tb_7 169 rfl (by decide +kernel)
theorem gw_1767 : Cond.instanceMethod yX11_term ∈ goodTbl := mgP tb_7 170 rfl (by decide +kernel)
theorem gw_1768 : Cond.selects yX11_term.cls yX11_term yX11_term ∈ goodTbl := mgP tb_7 171 rfl (by decide +kernel)
theorem gw_1774 : Cond.methodLink RL 129 yX11_shape ∈ goodTbl := mgP tb_7 177 rfl (by decide +kernel)
theorem gw_1775 : Cond.instanceMethod yX11_shape ∈ goodTbl := mgP tb_7 178 rfl (by decide +kernel)
theorem gw_1776 : Cond.selects yX11_shape.cls yX11_shape yX11_shape ∈ goodTbl := mgP tb_7 179 rfl (by decide +kernel)
theorem gw_1791 : Cond.methodLink RL 142 yX11_ball ∈ goodTbl := mgP tb_7 194 rfl (by decide +kernel)
theorem gw_1792 : Cond.instanceMethod yX11_ball ∈ goodTbl := mgP tb_7 195 rfl (by decide +kernel)
theorem gw_1793 : Cond.selects yX11_ball.cls yX11_ball yX11_ball ∈ goodTbl := mgP tb_7 196 rfl (by decide +kernel)
theorem gw_1808 : Cond.methodLink RL 117 yX11_register ∈ goodTbl := mgP tb_7 211 rfl (by decide +kernel)
theorem gw_1809 : Cond.instanceMethod yX11_register ∈ goodTbl := mgP tb_7 212 rfl (by decide +kernel)
theorem gw_1810 : Cond.selects yX11_register.cls yX11_register yX11_register ∈ goodTbl := mgP tb_7 213 rfl (by decide +kernel)
theorem gw_1864 : Cond.methodLink RL 121 yX11_both ∈ goodTbl := mgP tb_8 27 rfl (by decide +kernel)
theorem gw_1865 : Cond.instanceMethod yX11_both ∈ goodTbl := mgP tb_8 28 rfl (by decide +kernel)
theorem gw_1866 : Cond.selects yX11_both.cls yX11_both yX11_both ∈ goodTbl := mgP tb_8 29 rfl (by decide +kernel)
theorem gw_1872 : Cond.methodLink RL 125 yX11_alike ∈ goodTbl := mgP tb_8 35 rfl (by decide +kernel)
theorem gw_1873 : Cond.instanceMethod yX11_alike ∈ goodTbl := mgP tb_8 36 rfl (by decide +kernel)
theorem gw_1874 : Cond.selects yX11_alike.cls yX11_alike yX11_alike ∈ goodTbl := mgP tb_8 37 rfl (by decide +kernel)
theorem gw_1902 : Cond.methodLink RL 134 yX11_powers ∈ goodTbl := mgP tb_8 65 rfl (by decide +kernel)
theorem gw_1903 : Cond.instanceMethod yX11_powers ∈ goodTbl := mgP tb_8 66 rfl (by decide +kernel)
theorem gw_1904 : Cond.selects yX11_powers.cls yX11_powers yX11_powers ∈ goodTbl := mgP tb_8 67 rfl (by decide +kernel)
theorem gw_1907 : Cond.methodLink RL 138 yX11_associates ∈ goodTbl := mgP tb_8 70 rfl (by decide +kernel)
theorem gw_1908 : Cond.instanceMethod yX11_associates ∈ goodTbl := mgP tb_8 71 rfl (by decide +kernel)
theorem gw_1909 : Cond.selects yX11_associates.cls yX11_associates yX11_associates ∈ goodTbl := mgP tb_8 72 rfl (by decide +kernel)
theorem gw_1911 : Cond.methodLink RL 151 yX11_image ∈ goodTbl := mgP tb_8 74 rfl (by decide +kernel)
theorem gw_1912 : Cond.instanceMethod yX11_image ∈ goodTbl := mgP tb_8 75 rfl (by decide +kernel)
theorem gw_1913 : Cond.selects yX11_image.cls yX11_image yX11_image ∈ goodTbl := mgP tb_8 76 rfl (by decide +kernel)
theorem gw_1915 : Cond.methodLink RL 155 yX11_look ∈ goodTbl := mgP tb_8 78 rfl (by decide +kernel)
theorem gw_1916 : Cond.instanceMethod yX11_look ∈ goodTbl := mgP tb_8 79 rfl (by decide +kernel)
theorem gw_1917 : Cond.selects yX11_look.cls yX11_look yX11_look ∈ goodTbl := mgP tb_8 80 rfl (by decide +kernel)
def Ok_0 (I : Nat → Mem → Prop) : Prop := ∀ (c : Nat) (σ : Mem) (x0 : Int32) (x1 : Int32), c < 520 → I c σ → ∃ (r : Bool) (σ1 : Mem) (σ2 : Mem), f_X10_group σ x0 x1 = some (r, σ1) ∧ f_X11_group σ1 x0 x1 = some (r, σ2) ∧ I (c + 1) σ2
def Ok_1 (I : Nat → Mem → Prop) : Prop := ∀ (c : Nat) (σ : Mem) (x0 : Int32) (x1 : Int32) (x2 : Int32) (x3 : Int32), c < 520 → I c σ → ∃ (r : Bool) (σ1 : Mem) (σ2 : Mem), f_X10_tail σ x0 x1 x2 x3 = some (r, σ1) ∧ f_X11_tail_ σ1 x0 x1 x2 x3 = some (r, σ2) ∧ I (c + 1) σ2
def Ok_2 (I : Nat → Mem → Prop) : Prop := ∀ (c : Nat) (σ : Mem) (x0 : Int32), c < 520 → I c σ → ∃ (r : Bool) (σ1 : Mem) (σ2 : Mem), f_X10_kind σ x0 = some (r, σ1) ∧ f_X11_kind σ1 x0 = some (r, σ2) ∧ I (c + 1) σ2
def Ok_3 (I : Nat → Mem → Prop) : Prop := ∀ (c : Nat) (σ : Mem) (x0 : Int32) (x1 : Int32) (x2 : Int32), c < 520 → I c σ → ∃ (r : Bool) (σ1 : Mem) (σ2 : Mem), f_X10_set σ x0 x1 x2 = some (r, σ1) ∧ f_X11_set σ1 x0 x1 x2 = some (r, σ2) ∧ I (c + 1) σ2
def Ok_4 (I : Nat → Mem → Prop) : Prop := ∀ (c : Nat) (σ : Mem) (x0 : Int32) (x1 : Int32) (x2 : Int32), c < 520 → I c σ → ∃ (r : Bool) (σ1 : Mem) (σ2 : Mem), f_X10_multiply σ x0 x1 x2 = some (r, σ1) ∧ f_X11_multiply σ1 x0 x1 x2 = some (r, σ2) ∧ I (c + 1) σ2
def Ok_5 (I : Nat → Mem → Prop) : Prop := ∀ (c : Nat) (σ : Mem) (x0 : Int32) (x1 : Int32), c < 520 → I c σ → ∃ (r : Bool) (σ1 : Mem) (σ2 : Mem), f_X10_invert σ x0 x1 = some (r, σ1) ∧ f_X11_invert σ1 x0 x1 = some (r, σ2) ∧ I (c + 1) σ2
def Ok_6 (I : Nat → Mem → Prop) : Prop := ∀ (c : Nat) (σ : Mem) (x0 : Int32) (x1 : Int32) (x2 : Int32), c < 520 → I c σ → ∃ (r : Bool) (σ1 : Mem) (σ2 : Mem), f_X10_power σ x0 x1 x2 = some (r, σ1) ∧ f_X11_power σ1 x0 x1 x2 = some (r, σ2) ∧ I (c + 1) σ2
def Ok_7 (I : Nat → Mem → Prop) : Prop := ∀ (c : Nat) (σ : Mem) (x0 : Int32) (x1 : Int32) (x2 : Int32), c < 520 → I c σ → ∃ (r : Bool) (σ1 : Mem) (σ2 : Mem), f_X10_commute σ x0 x1 x2 = some (r, σ1) ∧ f_X11_commute σ1 x0 x1 x2 = some (r, σ2) ∧ I (c + 1) σ2
def Ok_8 (I : Nat → Mem → Prop) : Prop := ∀ (c : Nat) (σ : Mem) (x0 : Int32) (x1 : Int32) (x2 : Int32), c < 520 → I c σ → ∃ (r : Bool) (σ1 : Mem) (σ2 : Mem), f_X10_conjugate σ x0 x1 x2 = some (r, σ1) ∧ f_X11_conjugate σ1 x0 x1 x2 = some (r, σ2) ∧ I (c + 1) σ2
def Ok_9 (I : Nat → Mem → Prop) : Prop := ∀ (c : Nat) (σ : Mem) (x0 : Int32) (x1 : Int32) (x2 : Int32), c < 520 → I c σ → ∃ (r : Bool) (σ1 : Mem) (σ2 : Mem), f_X10_root σ x0 x1 x2 = some (r, σ1) ∧ f_X11_root σ1 x0 x1 x2 = some (r, σ2) ∧ I (c + 1) σ2
def Ok_10 (I : Nat → Mem → Prop) : Prop := ∀ (c : Nat) (σ : Mem) (x0 : Int32) (x1 : Int32) (x2 : Int32) (x3 : Int32), c < 520 → I c σ → ∃ (r : Bool) (σ1 : Mem) (σ2 : Mem), f_X10_seek σ x0 x1 x2 x3 = some (r, σ1) ∧ f_X11_seek σ1 x0 x1 x2 x3 = some (r, σ2) ∧ I (c + 1) σ2
def Ok_11 (I : Nat → Mem → Prop) : Prop := ∀ (c : Nat) (σ : Mem) (x0 : Int32) (x1 : Int32) (x2 : Int32) (x3 : Int32) (x4 : Int32), c < 520 → I c σ → ∃ (r : Int32) (σ1 : Mem) (σ2 : Mem), f_X10_feed σ x0 x1 x2 x3 x4 = some (r, σ1) ∧ f_X11_feed σ1 x0 x1 x2 x3 x4 = some (r, σ2) ∧ I (c + 1) σ2
def Ok_12 (I : Nat → Mem → Prop) : Prop := ∀ (c : Nat) (σ : Mem) (x0 : Int32), c < 520 → I c σ → ∃ (r : Bool) (σ1 : Mem) (σ2 : Mem), f_X10_end σ x0 = some (r, σ1) ∧ f_X11_end σ1 x0 = some (r, σ2) ∧ I (c + 1) σ2
def Ok_13 (I : Nat → Mem → Prop) : Prop := ∀ (c : Nat) (σ : Mem) (x0 : Int32), c < 520 → I c σ → ∃ (r : Bool) (σ1 : Mem) (σ2 : Mem), f_X10_text σ x0 = some (r, σ1) ∧ f_X11_text σ1 x0 = some (r, σ2) ∧ I (c + 1) σ2
def Ok_14 (I : Nat → Mem → Prop) : Prop := ∀ (c : Nat) (σ : Mem) (x0 : Int32), c < 520 → I c σ → ∃ (r : Int32) (σ2 : Mem), f_X10_fault σ x0 = some r ∧ f_X11_fault σ x0 = some (r, σ2) ∧ I (c + 1) σ2
def Ok_15 (I : Nat → Mem → Prop) : Prop := ∀ (c : Nat) (σ : Mem), c < 520 → I c σ → ∃ (r : Int32) (σ1 : Mem) (σ2 : Mem), f_X10_collect σ = some (r, σ1) ∧ f_X11_collect σ1 = some (r, σ2) ∧ I (c + 1) σ2
def Ok_16 (I : Nat → Mem → Prop) : Prop := ∀ (c : Nat) (σ : Mem) (x0 : Int32), c < 520 → I c σ → ∃ (r : Int32) (σ2 : Mem), f_X10_collected σ x0 = some r ∧ f_X11_collected σ x0 = some (r, σ2) ∧ I (c + 1) σ2
def Ok_17 (I : Nat → Mem → Prop) : Prop := ∀ (c : Nat) (σ : Mem), c < 520 → I c σ → ∃ (r : Int32) (σ2 : Mem), f_X10_consistent σ = some r ∧ f_X11_consistent σ = some (r, σ2) ∧ I (c + 1) σ2
def Ok_18 (I : Nat → Mem → Prop) : Prop := ∀ (c : Nat) (σ : Mem) (x0 : Int32) (x1 : Int32), c < 520 → I c σ → ∃ (r : Int32) (σ2 : Mem), f_X10_exponent σ x0 x1 = some r ∧ f_X11_exponent σ x0 x1 = some (r, σ2) ∧ I (c + 1) σ2
def Ok_19 (I : Nat → Mem → Prop) : Prop := ∀ (c : Nat) (σ : Mem) (x0 : Int32) (x1 : Int32), c < 520 → I c σ → ∃ (r : Int32) (σ2 : Mem), f_X10_generator σ x0 x1 = some r ∧ f_X11_generator σ x0 x1 = some (r, σ2) ∧ I (c + 1) σ2
def Ok_20 (I : Nat → Mem → Prop) : Prop := ∀ (c : Nat) (σ : Mem) (x0 : Int32) (x1 : Int32) (x2 : Int32), c < 520 → I c σ → ∃ (r : Int32) (σ2 : Mem), f_X10_tailOf σ x0 x1 x2 = some r ∧ f_X11_tailOf σ x0 x1 x2 = some (r, σ2) ∧ I (c + 1) σ2
def Ok_21 (I : Nat → Mem → Prop) : Prop := ∀ (c : Nat) (σ : Mem) (x0 : Int32), c < 520 → I c σ → ∃ (r : Int32) (σ2 : Mem), f_X10_terms σ x0 = some r ∧ f_X11_terms σ x0 = some (r, σ2) ∧ I (c + 1) σ2
def Ok_22 (I : Nat → Mem → Prop) : Prop := ∀ (c : Nat) (σ : Mem) (x0 : Int32) (x1 : Int32) (x2 : Int32), c < 520 → I c σ → ∃ (r : Int32) (σ2 : Mem), f_X10_term σ x0 x1 x2 = some r ∧ f_X11_term σ x0 x1 x2 = some (r, σ2) ∧ I (c + 1) σ2
def Ok_23 (I : Nat → Mem → Prop) : Prop := ∀ (c : Nat) (σ : Mem) (x0 : Int32) (x1 : Int32), c < 520 → I c σ → ∃ (r : Int32) (σ1 : Mem) (σ2 : Mem), f_X10_register σ x0 x1 = some (r, σ1) ∧ f_X11_register σ1 x0 x1 = some (r, σ2) ∧ I (c + 1) σ2
def Ok_24 (I : Nat → Mem → Prop) : Prop := ∀ (c : Nat) (σ : Mem) (x0 : Int32) (x1 : Int32) (x2 : Int32), c < 520 → I c σ → ∃ (r : Int32) (σ1 : Mem) (σ2 : Mem), f_X10_both σ x0 x1 x2 = some (r, σ1) ∧ f_X11_both σ1 x0 x1 x2 = some (r, σ2) ∧ I (c + 1) σ2
def Ok_25 (I : Nat → Mem → Prop) : Prop := ∀ (c : Nat) (σ : Mem) (x0 : Int32) (x1 : Int32), c < 520 → I c σ → ∃ (r : Int32) (σ1 : Mem) (σ2 : Mem), f_X10_alike σ x0 x1 = some (r, σ1) ∧ f_X11_alike σ1 x0 x1 = some (r, σ2) ∧ I (c + 1) σ2
def Ok_26 (I : Nat → Mem → Prop) : Prop := ∀ (c : Nat) (σ : Mem) (x0 : Int32) (x1 : Int32), c < 520 → I c σ → ∃ (r : Int32) (σ2 : Mem), f_X10_shape σ x0 x1 = some r ∧ f_X11_shape σ x0 x1 = some (r, σ2) ∧ I (c + 1) σ2
def Ok_27 (I : Nat → Mem → Prop) : Prop := ∀ (c : Nat) (σ : Mem) (x0 : Int32) (x1 : Int32) (x2 : Int32), c < 520 → I c σ → ∃ (r : Int64) (σ1 : Mem) (σ2 : Mem), f_X10_powers σ x0 x1 x2 = some (r, σ1) ∧ f_X11_powers σ1 x0 x1 x2 = some (r, σ2) ∧ I (c + 1) σ2
def Ok_28 (I : Nat → Mem → Prop) : Prop := ∀ (c : Nat) (σ : Mem) (x0 : Int32) (x1 : Int32) (x2 : Int32), c < 520 → I c σ → ∃ (r : Int32) (σ1 : Mem) (σ2 : Mem), f_X10_associates σ x0 x1 x2 = some (r, σ1) ∧ f_X11_associates σ1 x0 x1 x2 = some (r, σ2) ∧ I (c + 1) σ2
def Ok_29 (I : Nat → Mem → Prop) : Prop := ∀ (c : Nat) (σ : Mem) (x0 : Int32), c < 520 → I c σ → ∃ (r : Int32) (σ1 : Mem) (σ2 : Mem), f_X10_ball σ x0 = some (r, σ1) ∧ f_X11_ball σ1 x0 = some (r, σ2) ∧ I (c + 1) σ2
def Ok_30 (I : Nat → Mem → Prop) : Prop := ∀ (c : Nat) (σ : Mem), c < 520 → I c σ → ∃ (r : Int32) (σ1 : Mem) (σ2 : Mem), f_X10_undo σ = some (r, σ1) ∧ f_X11_undo σ1 = some (r, σ2) ∧ I (c + 1) σ2
def Ok_31 (I : Nat → Mem → Prop) : Prop := ∀ (c : Nat) (σ : Mem) (x0 : Bool), c < 520 → I c σ → ∃ (r : Bool) (σ1 : Mem) (σ2 : Mem), f_X10_image σ x0 = some (r, σ1) ∧ f_X11_image σ1 x0 = some (r, σ2) ∧ I (c + 1) σ2
def Ok_32 (I : Nat → Mem → Prop) : Prop := ∀ (c : Nat) (σ : Mem) (x0 : Int32), c < 520 → I c σ → ∃ (r : Int32) (σ2 : Mem), f_X10_look σ x0 = some r ∧ f_X11_look σ x0 = some (r, σ2) ∧ I (c + 1) σ2
def Lw_0 (I : Nat → Mem → Prop) : Prop := ∀ (c : Nat) (σ : Mem) (x0 : Int32) (x1 : Int32), c < 520 → I c σ → ∃ (r1 r2 : Bool) (σ1 : Mem) (σ2 : Mem), f_X10_group σ x0 x1 = some (r1, σ1) ∧ f_X11_group σ1 x0 x1 = some (r2, σ2) ∧ I (c + 1) σ2
theorem lw_of_0 {I : Nat → Mem → Prop} (h : Ok_0 I) : Lw_0 I := fun c σ x0 x1 hc hI => by
  obtain ⟨r, σ1, σ2, e1, e2, h2⟩ := h c σ x0 x1 (by omega) hI
  exact ⟨r, r, σ1, σ2, e1, e2, h2⟩
def Lw_1 (I : Nat → Mem → Prop) : Prop := ∀ (c : Nat) (σ : Mem) (x0 : Int32) (x1 : Int32) (x2 : Int32) (x3 : Int32), c < 520 → I c σ → ∃ (r1 r2 : Bool) (σ1 : Mem) (σ2 : Mem), f_X10_tail σ x0 x1 x2 x3 = some (r1, σ1) ∧ f_X11_tail_ σ1 x0 x1 x2 x3 = some (r2, σ2) ∧ I (c + 1) σ2
theorem lw_of_1 {I : Nat → Mem → Prop} (h : Ok_1 I) : Lw_1 I := fun c σ x0 x1 x2 x3 hc hI => by
  obtain ⟨r, σ1, σ2, e1, e2, h2⟩ := h c σ x0 x1 x2 x3 (by omega) hI
  exact ⟨r, r, σ1, σ2, e1, e2, h2⟩
def Lw_2 (I : Nat → Mem → Prop) : Prop := ∀ (c : Nat) (σ : Mem) (x0 : Int32), c < 520 → I c σ → ∃ (r1 r2 : Bool) (σ1 : Mem) (σ2 : Mem), f_X10_kind σ x0 = some (r1, σ1) ∧ f_X11_kind σ1 x0 = some (r2, σ2) ∧ I (c + 1) σ2
theorem lw_of_2 {I : Nat → Mem → Prop} (h : Ok_2 I) : Lw_2 I := fun c σ x0 hc hI => by
  obtain ⟨r, σ1, σ2, e1, e2, h2⟩ := h c σ x0 (by omega) hI
  exact ⟨r, r, σ1, σ2, e1, e2, h2⟩
def Lw_3 (I : Nat → Mem → Prop) : Prop := ∀ (c : Nat) (σ : Mem) (x0 : Int32) (x1 : Int32) (x2 : Int32), c < 520 → I c σ → ∃ (r1 r2 : Bool) (σ1 : Mem) (σ2 : Mem), f_X10_set σ x0 x1 x2 = some (r1, σ1) ∧ f_X11_set σ1 x0 x1 x2 = some (r2, σ2) ∧ I (c + 1) σ2
theorem lw_of_3 {I : Nat → Mem → Prop} (h : Ok_3 I) : Lw_3 I := fun c σ x0 x1 x2 hc hI => by
  obtain ⟨r, σ1, σ2, e1, e2, h2⟩ := h c σ x0 x1 x2 (by omega) hI
  exact ⟨r, r, σ1, σ2, e1, e2, h2⟩
def Lw_4 (I : Nat → Mem → Prop) : Prop := ∀ (c : Nat) (σ : Mem) (x0 : Int32) (x1 : Int32) (x2 : Int32), c < 520 → I c σ → ∃ (r1 r2 : Bool) (σ1 : Mem) (σ2 : Mem), f_X10_multiply σ x0 x1 x2 = some (r1, σ1) ∧ f_X11_multiply σ1 x0 x1 x2 = some (r2, σ2) ∧ I (c + 1) σ2
theorem lw_of_4 {I : Nat → Mem → Prop} (h : Ok_4 I) : Lw_4 I := fun c σ x0 x1 x2 hc hI => by
  obtain ⟨r, σ1, σ2, e1, e2, h2⟩ := h c σ x0 x1 x2 (by omega) hI
  exact ⟨r, r, σ1, σ2, e1, e2, h2⟩
def Lw_5 (I : Nat → Mem → Prop) : Prop := ∀ (c : Nat) (σ : Mem) (x0 : Int32) (x1 : Int32), c < 520 → I c σ → ∃ (r1 r2 : Bool) (σ1 : Mem) (σ2 : Mem), f_X10_invert σ x0 x1 = some (r1, σ1) ∧ f_X11_invert σ1 x0 x1 = some (r2, σ2) ∧ I (c + 1) σ2
theorem lw_of_5 {I : Nat → Mem → Prop} (h : Ok_5 I) : Lw_5 I := fun c σ x0 x1 hc hI => by
  obtain ⟨r, σ1, σ2, e1, e2, h2⟩ := h c σ x0 x1 (by omega) hI
  exact ⟨r, r, σ1, σ2, e1, e2, h2⟩
def Lw_6 (I : Nat → Mem → Prop) : Prop := ∀ (c : Nat) (σ : Mem) (x0 : Int32) (x1 : Int32) (x2 : Int32), c < 520 → I c σ → ∃ (r1 r2 : Bool) (σ1 : Mem) (σ2 : Mem), f_X10_power σ x0 x1 x2 = some (r1, σ1) ∧ f_X11_power σ1 x0 x1 x2 = some (r2, σ2) ∧ I (c + 1) σ2
theorem lw_of_6 {I : Nat → Mem → Prop} (h : Ok_6 I) : Lw_6 I := fun c σ x0 x1 x2 hc hI => by
  obtain ⟨r, σ1, σ2, e1, e2, h2⟩ := h c σ x0 x1 x2 (by omega) hI
  exact ⟨r, r, σ1, σ2, e1, e2, h2⟩
def Lw_7 (I : Nat → Mem → Prop) : Prop := ∀ (c : Nat) (σ : Mem) (x0 : Int32) (x1 : Int32) (x2 : Int32), c < 520 → I c σ → ∃ (r1 r2 : Bool) (σ1 : Mem) (σ2 : Mem), f_X10_commute σ x0 x1 x2 = some (r1, σ1) ∧ f_X11_commute σ1 x0 x1 x2 = some (r2, σ2) ∧ I (c + 1) σ2
theorem lw_of_7 {I : Nat → Mem → Prop} (h : Ok_7 I) : Lw_7 I := fun c σ x0 x1 x2 hc hI => by
  obtain ⟨r, σ1, σ2, e1, e2, h2⟩ := h c σ x0 x1 x2 (by omega) hI
  exact ⟨r, r, σ1, σ2, e1, e2, h2⟩
def Lw_8 (I : Nat → Mem → Prop) : Prop := ∀ (c : Nat) (σ : Mem) (x0 : Int32) (x1 : Int32) (x2 : Int32), c < 520 → I c σ → ∃ (r1 r2 : Bool) (σ1 : Mem) (σ2 : Mem), f_X10_conjugate σ x0 x1 x2 = some (r1, σ1) ∧ f_X11_conjugate σ1 x0 x1 x2 = some (r2, σ2) ∧ I (c + 1) σ2
theorem lw_of_8 {I : Nat → Mem → Prop} (h : Ok_8 I) : Lw_8 I := fun c σ x0 x1 x2 hc hI => by
  obtain ⟨r, σ1, σ2, e1, e2, h2⟩ := h c σ x0 x1 x2 (by omega) hI
  exact ⟨r, r, σ1, σ2, e1, e2, h2⟩
def Lw_9 (I : Nat → Mem → Prop) : Prop := ∀ (c : Nat) (σ : Mem) (x0 : Int32) (x1 : Int32) (x2 : Int32), c < 520 → I c σ → ∃ (r1 r2 : Bool) (σ1 : Mem) (σ2 : Mem), f_X10_root σ x0 x1 x2 = some (r1, σ1) ∧ f_X11_root σ1 x0 x1 x2 = some (r2, σ2) ∧ I (c + 1) σ2
theorem lw_of_9 {I : Nat → Mem → Prop} (h : Ok_9 I) : Lw_9 I := fun c σ x0 x1 x2 hc hI => by
  obtain ⟨r, σ1, σ2, e1, e2, h2⟩ := h c σ x0 x1 x2 (by omega) hI
  exact ⟨r, r, σ1, σ2, e1, e2, h2⟩
def Lw_10 (I : Nat → Mem → Prop) : Prop := ∀ (c : Nat) (σ : Mem) (x0 : Int32) (x1 : Int32) (x2 : Int32) (x3 : Int32), c < 520 → I c σ → ∃ (r1 r2 : Bool) (σ1 : Mem) (σ2 : Mem), f_X10_seek σ x0 x1 x2 x3 = some (r1, σ1) ∧ f_X11_seek σ1 x0 x1 x2 x3 = some (r2, σ2) ∧ I (c + 1) σ2
theorem lw_of_10 {I : Nat → Mem → Prop} (h : Ok_10 I) : Lw_10 I := fun c σ x0 x1 x2 x3 hc hI => by
  obtain ⟨r, σ1, σ2, e1, e2, h2⟩ := h c σ x0 x1 x2 x3 (by omega) hI
  exact ⟨r, r, σ1, σ2, e1, e2, h2⟩
def Lw_11 (I : Nat → Mem → Prop) : Prop := ∀ (c : Nat) (σ : Mem) (x0 : Int32) (x1 : Int32) (x2 : Int32) (x3 : Int32) (x4 : Int32), c < 520 → I c σ → ∃ (r1 r2 : Int32) (σ1 : Mem) (σ2 : Mem), f_X10_feed σ x0 x1 x2 x3 x4 = some (r1, σ1) ∧ f_X11_feed σ1 x0 x1 x2 x3 x4 = some (r2, σ2) ∧ I (c + 1) σ2
theorem lw_of_11 {I : Nat → Mem → Prop} (h : Ok_11 I) : Lw_11 I := fun c σ x0 x1 x2 x3 x4 hc hI => by
  obtain ⟨r, σ1, σ2, e1, e2, h2⟩ := h c σ x0 x1 x2 x3 x4 (by omega) hI
  exact ⟨r, r, σ1, σ2, e1, e2, h2⟩
def Lw_12 (I : Nat → Mem → Prop) : Prop := ∀ (c : Nat) (σ : Mem) (x0 : Int32), c < 520 → I c σ → ∃ (r1 r2 : Bool) (σ1 : Mem) (σ2 : Mem), f_X10_end σ x0 = some (r1, σ1) ∧ f_X11_end σ1 x0 = some (r2, σ2) ∧ I (c + 1) σ2
theorem lw_of_12 {I : Nat → Mem → Prop} (h : Ok_12 I) : Lw_12 I := fun c σ x0 hc hI => by
  obtain ⟨r, σ1, σ2, e1, e2, h2⟩ := h c σ x0 (by omega) hI
  exact ⟨r, r, σ1, σ2, e1, e2, h2⟩
def Lw_13 (I : Nat → Mem → Prop) : Prop := ∀ (c : Nat) (σ : Mem) (x0 : Int32), c < 520 → I c σ → ∃ (r1 r2 : Bool) (σ1 : Mem) (σ2 : Mem), f_X10_text σ x0 = some (r1, σ1) ∧ f_X11_text σ1 x0 = some (r2, σ2) ∧ I (c + 1) σ2
theorem lw_of_13 {I : Nat → Mem → Prop} (h : Ok_13 I) : Lw_13 I := fun c σ x0 hc hI => by
  obtain ⟨r, σ1, σ2, e1, e2, h2⟩ := h c σ x0 (by omega) hI
  exact ⟨r, r, σ1, σ2, e1, e2, h2⟩
def Lw_14 (I : Nat → Mem → Prop) : Prop := ∀ (c : Nat) (σ : Mem) (x0 : Int32), c < 520 → I c σ → ∃ (r1 r2 : Int32) (σ2 : Mem), f_X10_fault σ x0 = some r1 ∧ f_X11_fault σ x0 = some (r2, σ2) ∧ I (c + 1) σ2
theorem lw_of_14 {I : Nat → Mem → Prop} (h : Ok_14 I) : Lw_14 I := fun c σ x0 hc hI => by
  obtain ⟨r, σ2, e1, e2, h2⟩ := h c σ x0 (by omega) hI
  exact ⟨r, r, σ2, e1, e2, h2⟩
def Lw_15 (I : Nat → Mem → Prop) : Prop := ∀ (c : Nat) (σ : Mem), c < 520 → I c σ → ∃ (r1 r2 : Int32) (σ1 : Mem) (σ2 : Mem), f_X10_collect σ = some (r1, σ1) ∧ f_X11_collect σ1 = some (r2, σ2) ∧ I (c + 1) σ2
theorem lw_of_15 {I : Nat → Mem → Prop} (h : Ok_15 I) : Lw_15 I := fun c σ hc hI => by
  obtain ⟨r, σ1, σ2, e1, e2, h2⟩ := h c σ (by omega) hI
  exact ⟨r, r, σ1, σ2, e1, e2, h2⟩
def Lw_16 (I : Nat → Mem → Prop) : Prop := ∀ (c : Nat) (σ : Mem) (x0 : Int32), c < 520 → I c σ → ∃ (r1 r2 : Int32) (σ2 : Mem), f_X10_collected σ x0 = some r1 ∧ f_X11_collected σ x0 = some (r2, σ2) ∧ I (c + 1) σ2
theorem lw_of_16 {I : Nat → Mem → Prop} (h : Ok_16 I) : Lw_16 I := fun c σ x0 hc hI => by
  obtain ⟨r, σ2, e1, e2, h2⟩ := h c σ x0 (by omega) hI
  exact ⟨r, r, σ2, e1, e2, h2⟩
def Lw_17 (I : Nat → Mem → Prop) : Prop := ∀ (c : Nat) (σ : Mem), c < 520 → I c σ → ∃ (r1 r2 : Int32) (σ2 : Mem), f_X10_consistent σ = some r1 ∧ f_X11_consistent σ = some (r2, σ2) ∧ I (c + 1) σ2
theorem lw_of_17 {I : Nat → Mem → Prop} (h : Ok_17 I) : Lw_17 I := fun c σ hc hI => by
  obtain ⟨r, σ2, e1, e2, h2⟩ := h c σ (by omega) hI
  exact ⟨r, r, σ2, e1, e2, h2⟩
def Lw_18 (I : Nat → Mem → Prop) : Prop := ∀ (c : Nat) (σ : Mem) (x0 : Int32) (x1 : Int32), c < 520 → I c σ → ∃ (r1 r2 : Int32) (σ2 : Mem), f_X10_exponent σ x0 x1 = some r1 ∧ f_X11_exponent σ x0 x1 = some (r2, σ2) ∧ I (c + 1) σ2
theorem lw_of_18 {I : Nat → Mem → Prop} (h : Ok_18 I) : Lw_18 I := fun c σ x0 x1 hc hI => by
  obtain ⟨r, σ2, e1, e2, h2⟩ := h c σ x0 x1 (by omega) hI
  exact ⟨r, r, σ2, e1, e2, h2⟩
def Lw_19 (I : Nat → Mem → Prop) : Prop := ∀ (c : Nat) (σ : Mem) (x0 : Int32) (x1 : Int32), c < 520 → I c σ → ∃ (r1 r2 : Int32) (σ2 : Mem), f_X10_generator σ x0 x1 = some r1 ∧ f_X11_generator σ x0 x1 = some (r2, σ2) ∧ I (c + 1) σ2
theorem lw_of_19 {I : Nat → Mem → Prop} (h : Ok_19 I) : Lw_19 I := fun c σ x0 x1 hc hI => by
  obtain ⟨r, σ2, e1, e2, h2⟩ := h c σ x0 x1 (by omega) hI
  exact ⟨r, r, σ2, e1, e2, h2⟩
def Lw_20 (I : Nat → Mem → Prop) : Prop := ∀ (c : Nat) (σ : Mem) (x0 : Int32) (x1 : Int32) (x2 : Int32), c < 520 → I c σ → ∃ (r1 r2 : Int32) (σ2 : Mem), f_X10_tailOf σ x0 x1 x2 = some r1 ∧ f_X11_tailOf σ x0 x1 x2 = some (r2, σ2) ∧ I (c + 1) σ2
theorem lw_of_20 {I : Nat → Mem → Prop} (h : Ok_20 I) : Lw_20 I := fun c σ x0 x1 x2 hc hI => by
  obtain ⟨r, σ2, e1, e2, h2⟩ := h c σ x0 x1 x2 (by omega) hI
  exact ⟨r, r, σ2, e1, e2, h2⟩
def Lw_21 (I : Nat → Mem → Prop) : Prop := ∀ (c : Nat) (σ : Mem) (x0 : Int32), c < 520 → I c σ → ∃ (r1 r2 : Int32) (σ2 : Mem), f_X10_terms σ x0 = some r1 ∧ f_X11_terms σ x0 = some (r2, σ2) ∧ I (c + 1) σ2
theorem lw_of_21 {I : Nat → Mem → Prop} (h : Ok_21 I) : Lw_21 I := fun c σ x0 hc hI => by
  obtain ⟨r, σ2, e1, e2, h2⟩ := h c σ x0 (by omega) hI
  exact ⟨r, r, σ2, e1, e2, h2⟩
def Lw_22 (I : Nat → Mem → Prop) : Prop := ∀ (c : Nat) (σ : Mem) (x0 : Int32) (x1 : Int32) (x2 : Int32), c < 520 → I c σ → ∃ (r1 r2 : Int32) (σ2 : Mem), f_X10_term σ x0 x1 x2 = some r1 ∧ f_X11_term σ x0 x1 x2 = some (r2, σ2) ∧ I (c + 1) σ2
theorem lw_of_22 {I : Nat → Mem → Prop} (h : Ok_22 I) : Lw_22 I := fun c σ x0 x1 x2 hc hI => by
  obtain ⟨r, σ2, e1, e2, h2⟩ := h c σ x0 x1 x2 (by omega) hI
  exact ⟨r, r, σ2, e1, e2, h2⟩
def Lw_23 (I : Nat → Mem → Prop) : Prop := ∀ (c : Nat) (σ : Mem) (x0 : Int32) (x1 : Int32), c < 520 → I c σ → ∃ (r1 r2 : Int32) (σ1 : Mem) (σ2 : Mem), f_X10_register σ x0 x1 = some (r1, σ1) ∧ f_X11_register σ1 x0 x1 = some (r2, σ2) ∧ I (c + 1) σ2
theorem lw_of_23 {I : Nat → Mem → Prop} (h : Ok_23 I) : Lw_23 I := fun c σ x0 x1 hc hI => by
  obtain ⟨r, σ1, σ2, e1, e2, h2⟩ := h c σ x0 x1 (by omega) hI
  exact ⟨r, r, σ1, σ2, e1, e2, h2⟩
def Lw_24 (I : Nat → Mem → Prop) : Prop := ∀ (c : Nat) (σ : Mem) (x0 : Int32) (x1 : Int32) (x2 : Int32), c < 520 → I c σ → ∃ (r1 r2 : Int32) (σ1 : Mem) (σ2 : Mem), f_X10_both σ x0 x1 x2 = some (r1, σ1) ∧ f_X11_both σ1 x0 x1 x2 = some (r2, σ2) ∧ I (c + 1) σ2
theorem lw_of_24 {I : Nat → Mem → Prop} (h : Ok_24 I) : Lw_24 I := fun c σ x0 x1 x2 hc hI => by
  obtain ⟨r, σ1, σ2, e1, e2, h2⟩ := h c σ x0 x1 x2 (by omega) hI
  exact ⟨r, r, σ1, σ2, e1, e2, h2⟩
def Lw_25 (I : Nat → Mem → Prop) : Prop := ∀ (c : Nat) (σ : Mem) (x0 : Int32) (x1 : Int32), c < 520 → I c σ → ∃ (r1 r2 : Int32) (σ1 : Mem) (σ2 : Mem), f_X10_alike σ x0 x1 = some (r1, σ1) ∧ f_X11_alike σ1 x0 x1 = some (r2, σ2) ∧ I (c + 1) σ2
theorem lw_of_25 {I : Nat → Mem → Prop} (h : Ok_25 I) : Lw_25 I := fun c σ x0 x1 hc hI => by
  obtain ⟨r, σ1, σ2, e1, e2, h2⟩ := h c σ x0 x1 (by omega) hI
  exact ⟨r, r, σ1, σ2, e1, e2, h2⟩
def Lw_26 (I : Nat → Mem → Prop) : Prop := ∀ (c : Nat) (σ : Mem) (x0 : Int32) (x1 : Int32), c < 520 → I c σ → ∃ (r1 r2 : Int32) (σ2 : Mem), f_X10_shape σ x0 x1 = some r1 ∧ f_X11_shape σ x0 x1 = some (r2, σ2) ∧ I (c + 1) σ2
theorem lw_of_26 {I : Nat → Mem → Prop} (h : Ok_26 I) : Lw_26 I := fun c σ x0 x1 hc hI => by
  obtain ⟨r, σ2, e1, e2, h2⟩ := h c σ x0 x1 (by omega) hI
  exact ⟨r, r, σ2, e1, e2, h2⟩
def Lw_27 (I : Nat → Mem → Prop) : Prop := ∀ (c : Nat) (σ : Mem) (x0 : Int32) (x1 : Int32) (x2 : Int32), c < 520 → I c σ → ∃ (r1 r2 : Int64) (σ1 : Mem) (σ2 : Mem), f_X10_powers σ x0 x1 x2 = some (r1, σ1) ∧ f_X11_powers σ1 x0 x1 x2 = some (r2, σ2) ∧ I (c + 1) σ2
theorem lw_of_27 {I : Nat → Mem → Prop} (h : Ok_27 I) : Lw_27 I := fun c σ x0 x1 x2 hc hI => by
  obtain ⟨r, σ1, σ2, e1, e2, h2⟩ := h c σ x0 x1 x2 (by omega) hI
  exact ⟨r, r, σ1, σ2, e1, e2, h2⟩
def Lw_28 (I : Nat → Mem → Prop) : Prop := ∀ (c : Nat) (σ : Mem) (x0 : Int32) (x1 : Int32) (x2 : Int32), c < 520 → I c σ → ∃ (r1 r2 : Int32) (σ1 : Mem) (σ2 : Mem), f_X10_associates σ x0 x1 x2 = some (r1, σ1) ∧ f_X11_associates σ1 x0 x1 x2 = some (r2, σ2) ∧ I (c + 1) σ2
theorem lw_of_28 {I : Nat → Mem → Prop} (h : Ok_28 I) : Lw_28 I := fun c σ x0 x1 x2 hc hI => by
  obtain ⟨r, σ1, σ2, e1, e2, h2⟩ := h c σ x0 x1 x2 (by omega) hI
  exact ⟨r, r, σ1, σ2, e1, e2, h2⟩
def Lw_29 (I : Nat → Mem → Prop) : Prop := ∀ (c : Nat) (σ : Mem) (x0 : Int32), c < 520 → I c σ → ∃ (r1 r2 : Int32) (σ1 : Mem) (σ2 : Mem), f_X10_ball σ x0 = some (r1, σ1) ∧ f_X11_ball σ1 x0 = some (r2, σ2) ∧ I (c + 1) σ2
theorem lw_of_29 {I : Nat → Mem → Prop} (h : Ok_29 I) : Lw_29 I := fun c σ x0 hc hI => by
  obtain ⟨r, σ1, σ2, e1, e2, h2⟩ := h c σ x0 (by omega) hI
  exact ⟨r, r, σ1, σ2, e1, e2, h2⟩
def Lw_30 (I : Nat → Mem → Prop) : Prop := ∀ (c : Nat) (σ : Mem), c < 520 → I c σ → ∃ (r1 r2 : Int32) (σ1 : Mem) (σ2 : Mem), f_X10_undo σ = some (r1, σ1) ∧ f_X11_undo σ1 = some (r2, σ2) ∧ I (c + 1) σ2
theorem lw_of_30 {I : Nat → Mem → Prop} (h : Ok_30 I) : Lw_30 I := fun c σ hc hI => by
  obtain ⟨r, σ1, σ2, e1, e2, h2⟩ := h c σ (by omega) hI
  exact ⟨r, r, σ1, σ2, e1, e2, h2⟩
def Lw_31 (I : Nat → Mem → Prop) : Prop := ∀ (c : Nat) (σ : Mem) (x0 : Bool), c < 520 → I c σ → ∃ (r1 r2 : Bool) (σ1 : Mem) (σ2 : Mem), f_X10_image σ x0 = some (r1, σ1) ∧ f_X11_image σ1 x0 = some (r2, σ2) ∧ I (c + 1) σ2
theorem lw_of_31 {I : Nat → Mem → Prop} (h : Ok_31 I) : Lw_31 I := fun c σ x0 hc hI => by
  obtain ⟨r, σ1, σ2, e1, e2, h2⟩ := h c σ x0 (by omega) hI
  exact ⟨r, r, σ1, σ2, e1, e2, h2⟩
def Lw_32 (I : Nat → Mem → Prop) : Prop := ∀ (c : Nat) (σ : Mem) (x0 : Int32), c < 520 → I c σ → ∃ (r : Int32) (σ2 : Mem), f_X10_look σ x0 = some r ∧ f_X11_look σ x0 = some (r, σ2) ∧ I (c + 1) σ2
theorem lw_of_32 {I : Nat → Mem → Prop} (h : Ok_32 I) : Lw_32 I := fun c σ x0 hc hI => h c σ x0 (by omega) hI
def LawOK (I : Nat → Mem → Prop) : Prop := Lw_0 I ∧ Lw_1 I ∧ Lw_2 I ∧ Lw_3 I ∧ Lw_4 I ∧ Lw_5 I ∧ Lw_6 I ∧ Lw_7 I ∧ Lw_8 I ∧ Lw_9 I ∧ Lw_10 I ∧ Lw_11 I ∧ Lw_12 I ∧ Lw_13 I ∧ Lw_14 I ∧ Lw_15 I ∧ Lw_16 I ∧ Lw_17 I ∧ Lw_18 I ∧ Lw_19 I ∧ Lw_20 I ∧ Lw_21 I ∧ Lw_22 I ∧ Lw_23 I ∧ Lw_24 I ∧ Lw_25 I ∧ Lw_26 I ∧ Lw_27 I ∧ Lw_28 I ∧ Lw_29 I ∧ Lw_30 I ∧ Lw_31 I ∧ Lw_32 I
theorem lj_pop {E : LEn} {w : Wd} {σ : Mem} {lv : List (Nat × Value)} {rest : List Value} {pc : Nat} {v : Value} (hd : decode cL_law pc = .ok (.pop, 1)) (hv : v.category = 1) (kk : LJ E w σ lv rest (pc + 1)) : LJ E w σ lv (v :: rest) pc := by
  intro hX H locs ls hR hS hl
  exact lv_pop hX.1.1 hX.1.2.1 hd hv (kk hX H locs ls hR hS hl)
theorem lj_pop2 {E : LEn} {w : Wd} {σ : Mem} {lv : List (Nat × Value)} {rest : List Value} {pc : Nat} {v : Value} (hd : decode cL_law pc = .ok (.pop2, 1)) (hv : v.category = 2) (kk : LJ E w σ lv rest (pc + 1)) : LJ E w σ lv (v :: rest) pc := by
  intro hX H locs ls hR hS hl
  exact lv_pop2_2 hX.1.1 hX.1.2.1 hd hv (kk hX H locs ls hR hS hl)
theorem lc_0 {E : LEn} {w : Wd} {I : Nat → Mem → Prop} (hX : LX E w ∧ True) (ok : Lw_0 I) {k c0 : Nat} (hc : c0 < 520) (hk : k + 6 ≤ eL E) (hloop : ∀ τ, I (c0 + 1) τ → LJ E w τ [(0, .ref (eb E)), (1, .ref (adr w 0)), (2, .ref (adr w 306)), (3, .int (Int32.ofNat k))] [] 1315) {σ : Mem} (hI : I c0 σ) : LJ E w σ [(0, .ref (eb E)), (1, .ref (adr w 0)), (2, .ref (adr w 306)), (3, .int (Int32.ofNat k))] [] 180 := by
  obtain ⟨r1, r2, σ1, σ2, e1, e2, hI2⟩ := ok c0 σ (exs E (k + 1)) (exs E (k + 2)) hc hI
  refine lj_aload1 (pc := 180) dL_law_180 ?_
  refine lj_arg (pc := 181) 1 hk (by decide) dL_law_181 dL_law_182 dL_law_183 dL_law_184 dL_law_185 (ic_i_1) ?_
  refine lj_arg (pc := 186) 2 hk (by decide) dL_law_186 dL_law_187 dL_law_188 dL_law_189 dL_law_190 (ic_i_2) ?_
  refine lj_call hX.1 (pc := 191) (σ1 := σ1) (r := (vB r1)) (As := [.int (exs E (k + 1)), .int (exs E (k + 2))]) (c_X10_group hX.1.2.2.2.2.2.1 _ _ e1) ok_X10_group (Nat.le_of_ble_eq_true rfl) (Nat.le_of_ble_eq_true rfl) (all3 gw_683 gw_684 gw_685) (ik_0 hX.1.2.2.2.2.2.1) (by decide) (q := (RX10, TX10, 17)) rfl rfl rfl rfl (Nat.le_of_ble_eq_true rfl) dL_law_191 ?_
  refine lj_pop (pc := 194) dL_law_194 rfl ?_
  refine lj_aload2 (pc := 195) dL_law_195 ?_
  refine lj_arg (pc := 196) 1 hk (by decide) dL_law_196 dL_law_197 dL_law_198 dL_law_199 dL_law_200 (ic_i_1) ?_
  refine lj_arg (pc := 201) 2 hk (by decide) dL_law_201 dL_law_202 dL_law_203 dL_law_204 dL_law_205 (ic_i_2) ?_
  refine lj_call hX.1 (pc := 206) (σ1 := σ2) (r := (vB r2)) (As := [.int (exs E (k + 1)), .int (exs E (k + 2))]) (c_X11_group hX.1.2.2.2.2.2.1 hX.1.2.2.2.2.2.2.1 _ _ e2) ok_X11_group (Nat.le_of_ble_eq_true rfl) (Nat.le_of_ble_eq_true rfl) (all3 gw_1415 gw_1416 gw_1417) (ik_306 hX.1.2.2.2.2.2.1 hX.1.2.2.2.2.2.2.1) (by decide) (q := (RX11, TX11, 39)) rfl rfl rfl rfl (Nat.le_of_ble_eq_true rfl) dL_law_206 ?_
  refine lj_pop (pc := 209) dL_law_209 rfl ?_
  refine lj_goto (pc := 210) (tgt := 1315) dL_law_210 rfl ?_
  exact hloop _ hI2
theorem lc_1 {E : LEn} {w : Wd} {I : Nat → Mem → Prop} (hX : LX E w ∧ True) (ok : Lw_1 I) {k c0 : Nat} (hc : c0 < 520) (hk : k + 6 ≤ eL E) (hloop : ∀ τ, I (c0 + 1) τ → LJ E w τ [(0, .ref (eb E)), (1, .ref (adr w 0)), (2, .ref (adr w 306)), (3, .int (Int32.ofNat k))] [] 1315) {σ : Mem} (hI : I c0 σ) : LJ E w σ [(0, .ref (eb E)), (1, .ref (adr w 0)), (2, .ref (adr w 306)), (3, .int (Int32.ofNat k))] [] 213 := by
  obtain ⟨r1, r2, σ1, σ2, e1, e2, hI2⟩ := ok c0 σ (exs E (k + 1)) (exs E (k + 2)) (exs E (k + 3)) (exs E (k + 4)) hc hI
  refine lj_aload1 (pc := 213) dL_law_213 ?_
  refine lj_arg (pc := 214) 1 hk (by decide) dL_law_214 dL_law_215 dL_law_216 dL_law_217 dL_law_218 (ic_i_1) ?_
  refine lj_arg (pc := 219) 2 hk (by decide) dL_law_219 dL_law_220 dL_law_221 dL_law_222 dL_law_223 (ic_i_2) ?_
  refine lj_arg (pc := 224) 3 hk (by decide) dL_law_224 dL_law_225 dL_law_226 dL_law_227 dL_law_228 (ic_i_3) ?_
  refine lj_arg (pc := 229) 4 hk (by decide) dL_law_229 dL_law_230 dL_law_231 dL_law_232 dL_law_233 (ic_i_4) ?_
  refine lj_call hX.1 (pc := 234) (σ1 := σ1) (r := (vB r1)) (As := [.int (exs E (k + 1)), .int (exs E (k + 2)), .int (exs E (k + 3)), .int (exs E (k + 4))]) (c_X10_tail hX.1.2.2.2.2.2.1 _ _ e1) ok_X10_tail (Nat.le_of_ble_eq_true rfl) (Nat.le_of_ble_eq_true rfl) (all3 gw_718 gw_719 gw_720) (ik_0 hX.1.2.2.2.2.2.1) (by decide) (q := (RX10, TX10, 17)) rfl rfl rfl rfl (Nat.le_of_ble_eq_true rfl) dL_law_234 ?_
  refine lj_pop (pc := 237) dL_law_237 rfl ?_
  refine lj_aload2 (pc := 238) dL_law_238 ?_
  refine lj_arg (pc := 239) 1 hk (by decide) dL_law_239 dL_law_240 dL_law_241 dL_law_242 dL_law_243 (ic_i_1) ?_
  refine lj_arg (pc := 244) 2 hk (by decide) dL_law_244 dL_law_245 dL_law_246 dL_law_247 dL_law_248 (ic_i_2) ?_
  refine lj_arg (pc := 249) 3 hk (by decide) dL_law_249 dL_law_250 dL_law_251 dL_law_252 dL_law_253 (ic_i_3) ?_
  refine lj_arg (pc := 254) 4 hk (by decide) dL_law_254 dL_law_255 dL_law_256 dL_law_257 dL_law_258 (ic_i_4) ?_
  refine lj_call hX.1 (pc := 259) (σ1 := σ2) (r := (vB r2)) (As := [.int (exs E (k + 1)), .int (exs E (k + 2)), .int (exs E (k + 3)), .int (exs E (k + 4))]) (c_X11_tail_ hX.1.2.2.2.2.2.1 hX.1.2.2.2.2.2.2.1 _ _ e2) ok_X11_tail_ (Nat.le_of_ble_eq_true rfl) (Nat.le_of_ble_eq_true rfl) (all3 gw_1433 gw_1434 gw_1435) (ik_306 hX.1.2.2.2.2.2.1 hX.1.2.2.2.2.2.2.1) (by decide) (q := (RX11, TX11, 39)) rfl rfl rfl rfl (Nat.le_of_ble_eq_true rfl) dL_law_259 ?_
  refine lj_pop (pc := 262) dL_law_262 rfl ?_
  refine lj_goto (pc := 263) (tgt := 1315) dL_law_263 rfl ?_
  exact hloop _ hI2
theorem lc_2 {E : LEn} {w : Wd} {I : Nat → Mem → Prop} (hX : LX E w ∧ True) (ok : Lw_2 I) {k c0 : Nat} (hc : c0 < 520) (hk : k + 6 ≤ eL E) (hloop : ∀ τ, I (c0 + 1) τ → LJ E w τ [(0, .ref (eb E)), (1, .ref (adr w 0)), (2, .ref (adr w 306)), (3, .int (Int32.ofNat k))] [] 1315) {σ : Mem} (hI : I c0 σ) : LJ E w σ [(0, .ref (eb E)), (1, .ref (adr w 0)), (2, .ref (adr w 306)), (3, .int (Int32.ofNat k))] [] 266 := by
  obtain ⟨r1, r2, σ1, σ2, e1, e2, hI2⟩ := ok c0 σ (exs E (k + 1)) hc hI
  refine lj_aload1 (pc := 266) dL_law_266 ?_
  refine lj_arg (pc := 267) 1 hk (by decide) dL_law_267 dL_law_268 dL_law_269 dL_law_270 dL_law_271 (ic_i_1) ?_
  refine lj_call hX.1 (pc := 272) (σ1 := σ1) (r := (vB r1)) (As := [.int (exs E (k + 1))]) (c_X10_kind hX.1.2.2.2.2.2.1 _ _ e1) ok_X10_kind (Nat.le_of_ble_eq_true rfl) (Nat.le_of_ble_eq_true rfl) (all3 gw_727 gw_728 gw_729) (ik_0 hX.1.2.2.2.2.2.1) (by decide) (q := (RX10, TX10, 17)) rfl rfl rfl rfl (Nat.le_of_ble_eq_true rfl) dL_law_272 ?_
  refine lj_pop (pc := 275) dL_law_275 rfl ?_
  refine lj_aload2 (pc := 276) dL_law_276 ?_
  refine lj_arg (pc := 277) 1 hk (by decide) dL_law_277 dL_law_278 dL_law_279 dL_law_280 dL_law_281 (ic_i_1) ?_
  refine lj_call hX.1 (pc := 282) (σ1 := σ2) (r := (vB r2)) (As := [.int (exs E (k + 1))]) (c_X11_kind hX.1.2.2.2.2.2.1 hX.1.2.2.2.2.2.2.1 _ _ e2) ok_X11_kind (Nat.le_of_ble_eq_true rfl) (Nat.le_of_ble_eq_true rfl) (all3 gw_1454 gw_1455 gw_1456) (ik_306 hX.1.2.2.2.2.2.1 hX.1.2.2.2.2.2.2.1) (by decide) (q := (RX11, TX11, 39)) rfl rfl rfl rfl (Nat.le_of_ble_eq_true rfl) dL_law_282 ?_
  refine lj_pop (pc := 285) dL_law_285 rfl ?_
  refine lj_goto (pc := 286) (tgt := 1315) dL_law_286 rfl ?_
  exact hloop _ hI2
theorem lc_3 {E : LEn} {w : Wd} {I : Nat → Mem → Prop} (hX : LX E w ∧ True) (ok : Lw_3 I) {k c0 : Nat} (hc : c0 < 520) (hk : k + 6 ≤ eL E) (hloop : ∀ τ, I (c0 + 1) τ → LJ E w τ [(0, .ref (eb E)), (1, .ref (adr w 0)), (2, .ref (adr w 306)), (3, .int (Int32.ofNat k))] [] 1315) {σ : Mem} (hI : I c0 σ) : LJ E w σ [(0, .ref (eb E)), (1, .ref (adr w 0)), (2, .ref (adr w 306)), (3, .int (Int32.ofNat k))] [] 289 := by
  obtain ⟨r1, r2, σ1, σ2, e1, e2, hI2⟩ := ok c0 σ (exs E (k + 1)) (exs E (k + 2)) (exs E (k + 3)) hc hI
  refine lj_aload1 (pc := 289) dL_law_289 ?_
  refine lj_arg (pc := 290) 1 hk (by decide) dL_law_290 dL_law_291 dL_law_292 dL_law_293 dL_law_294 (ic_i_1) ?_
  refine lj_arg (pc := 295) 2 hk (by decide) dL_law_295 dL_law_296 dL_law_297 dL_law_298 dL_law_299 (ic_i_2) ?_
  refine lj_arg (pc := 300) 3 hk (by decide) dL_law_300 dL_law_301 dL_law_302 dL_law_303 dL_law_304 (ic_i_3) ?_
  refine lj_call hX.1 (pc := 305) (σ1 := σ1) (r := (vB r1)) (As := [.int (exs E (k + 1)), .int (exs E (k + 2)), .int (exs E (k + 3))]) (c_X10_set hX.1.2.2.2.2.2.1 _ _ e1) ok_X10_set (Nat.le_of_ble_eq_true rfl) (Nat.le_of_ble_eq_true rfl) (all3 gw_799 gw_800 gw_801) (ik_0 hX.1.2.2.2.2.2.1) (by decide) (q := (RX10, TX10, 17)) rfl rfl rfl rfl (Nat.le_of_ble_eq_true rfl) dL_law_305 ?_
  refine lj_pop (pc := 308) dL_law_308 rfl ?_
  refine lj_aload2 (pc := 309) dL_law_309 ?_
  refine lj_arg (pc := 310) 1 hk (by decide) dL_law_310 dL_law_311 dL_law_312 dL_law_313 dL_law_314 (ic_i_1) ?_
  refine lj_arg (pc := 315) 2 hk (by decide) dL_law_315 dL_law_316 dL_law_317 dL_law_318 dL_law_319 (ic_i_2) ?_
  refine lj_arg (pc := 320) 3 hk (by decide) dL_law_320 dL_law_321 dL_law_322 dL_law_323 dL_law_324 (ic_i_3) ?_
  refine lj_call hX.1 (pc := 325) (σ1 := σ2) (r := (vB r2)) (As := [.int (exs E (k + 1)), .int (exs E (k + 2)), .int (exs E (k + 3))]) (c_X11_set hX.1.2.2.2.2.2.1 hX.1.2.2.2.2.2.2.1 _ _ e2) ok_X11_set (Nat.le_of_ble_eq_true rfl) (Nat.le_of_ble_eq_true rfl) (all3 gw_1462 gw_1463 gw_1464) (ik_306 hX.1.2.2.2.2.2.1 hX.1.2.2.2.2.2.2.1) (by decide) (q := (RX11, TX11, 39)) rfl rfl rfl rfl (Nat.le_of_ble_eq_true rfl) dL_law_325 ?_
  refine lj_pop (pc := 328) dL_law_328 rfl ?_
  refine lj_goto (pc := 329) (tgt := 1315) dL_law_329 rfl ?_
  exact hloop _ hI2
theorem lc_4 {E : LEn} {w : Wd} {I : Nat → Mem → Prop} (hX : LX E w ∧ True) (ok : Lw_4 I) {k c0 : Nat} (hc : c0 < 520) (hk : k + 6 ≤ eL E) (hloop : ∀ τ, I (c0 + 1) τ → LJ E w τ [(0, .ref (eb E)), (1, .ref (adr w 0)), (2, .ref (adr w 306)), (3, .int (Int32.ofNat k))] [] 1315) {σ : Mem} (hI : I c0 σ) : LJ E w σ [(0, .ref (eb E)), (1, .ref (adr w 0)), (2, .ref (adr w 306)), (3, .int (Int32.ofNat k))] [] 332 := by
  obtain ⟨r1, r2, σ1, σ2, e1, e2, hI2⟩ := ok c0 σ (exs E (k + 1)) (exs E (k + 2)) (exs E (k + 3)) hc hI
  refine lj_aload1 (pc := 332) dL_law_332 ?_
  refine lj_arg (pc := 333) 1 hk (by decide) dL_law_333 dL_law_334 dL_law_335 dL_law_336 dL_law_337 (ic_i_1) ?_
  refine lj_arg (pc := 338) 2 hk (by decide) dL_law_338 dL_law_339 dL_law_340 dL_law_341 dL_law_342 (ic_i_2) ?_
  refine lj_arg (pc := 343) 3 hk (by decide) dL_law_343 dL_law_344 dL_law_345 dL_law_346 dL_law_347 (ic_i_3) ?_
  refine lj_call hX.1 (pc := 348) (σ1 := σ1) (r := (vB r1)) (As := [.int (exs E (k + 1)), .int (exs E (k + 2)), .int (exs E (k + 3))]) (c_X10_multiply hX.1.2.2.2.2.2.1 _ _ e1) ok_X10_multiply (Nat.le_of_ble_eq_true rfl) (Nat.le_of_ble_eq_true rfl) (all3 gw_806 gw_807 gw_808) (ik_0 hX.1.2.2.2.2.2.1) (by decide) (q := (RX10, TX10, 17)) rfl rfl rfl rfl (Nat.le_of_ble_eq_true rfl) dL_law_348 ?_
  refine lj_pop (pc := 351) dL_law_351 rfl ?_
  refine lj_aload2 (pc := 352) dL_law_352 ?_
  refine lj_arg (pc := 353) 1 hk (by decide) dL_law_353 dL_law_354 dL_law_355 dL_law_356 dL_law_357 (ic_i_1) ?_
  refine lj_arg (pc := 358) 2 hk (by decide) dL_law_358 dL_law_359 dL_law_360 dL_law_361 dL_law_362 (ic_i_2) ?_
  refine lj_arg (pc := 363) 3 hk (by decide) dL_law_363 dL_law_364 dL_law_365 dL_law_366 dL_law_367 (ic_i_3) ?_
  refine lj_call hX.1 (pc := 368) (σ1 := σ2) (r := (vB r2)) (As := [.int (exs E (k + 1)), .int (exs E (k + 2)), .int (exs E (k + 3))]) (c_X11_multiply hX.1.2.2.2.2.2.1 hX.1.2.2.2.2.2.2.1 _ _ e2) ok_X11_multiply (Nat.le_of_ble_eq_true rfl) (Nat.le_of_ble_eq_true rfl) (all3 gw_1575 gw_1576 gw_1577) (ik_306 hX.1.2.2.2.2.2.1 hX.1.2.2.2.2.2.2.1) (by decide) (q := (RX11, TX11, 39)) rfl rfl rfl rfl (Nat.le_of_ble_eq_true rfl) dL_law_368 ?_
  refine lj_pop (pc := 371) dL_law_371 rfl ?_
  refine lj_goto (pc := 372) (tgt := 1315) dL_law_372 rfl ?_
  exact hloop _ hI2
theorem lc_5 {E : LEn} {w : Wd} {I : Nat → Mem → Prop} (hX : LX E w ∧ True) (ok : Lw_5 I) {k c0 : Nat} (hc : c0 < 520) (hk : k + 6 ≤ eL E) (hloop : ∀ τ, I (c0 + 1) τ → LJ E w τ [(0, .ref (eb E)), (1, .ref (adr w 0)), (2, .ref (adr w 306)), (3, .int (Int32.ofNat k))] [] 1315) {σ : Mem} (hI : I c0 σ) : LJ E w σ [(0, .ref (eb E)), (1, .ref (adr w 0)), (2, .ref (adr w 306)), (3, .int (Int32.ofNat k))] [] 375 := by
  obtain ⟨r1, r2, σ1, σ2, e1, e2, hI2⟩ := ok c0 σ (exs E (k + 1)) (exs E (k + 2)) hc hI
  refine lj_aload1 (pc := 375) dL_law_375 ?_
  refine lj_arg (pc := 376) 1 hk (by decide) dL_law_376 dL_law_377 dL_law_378 dL_law_379 dL_law_380 (ic_i_1) ?_
  refine lj_arg (pc := 381) 2 hk (by decide) dL_law_381 dL_law_382 dL_law_383 dL_law_384 dL_law_385 (ic_i_2) ?_
  refine lj_call hX.1 (pc := 386) (σ1 := σ1) (r := (vB r1)) (As := [.int (exs E (k + 1)), .int (exs E (k + 2))]) (c_X10_invert hX.1.2.2.2.2.2.1 _ _ e1) ok_X10_invert (Nat.le_of_ble_eq_true rfl) (Nat.le_of_ble_eq_true rfl) (all3 gw_833 gw_834 gw_835) (ik_0 hX.1.2.2.2.2.2.1) (by decide) (q := (RX10, TX10, 17)) rfl rfl rfl rfl (Nat.le_of_ble_eq_true rfl) dL_law_386 ?_
  refine lj_pop (pc := 389) dL_law_389 rfl ?_
  refine lj_aload2 (pc := 390) dL_law_390 ?_
  refine lj_arg (pc := 391) 1 hk (by decide) dL_law_391 dL_law_392 dL_law_393 dL_law_394 dL_law_395 (ic_i_1) ?_
  refine lj_arg (pc := 396) 2 hk (by decide) dL_law_396 dL_law_397 dL_law_398 dL_law_399 dL_law_400 (ic_i_2) ?_
  refine lj_call hX.1 (pc := 401) (σ1 := σ2) (r := (vB r2)) (As := [.int (exs E (k + 1)), .int (exs E (k + 2))]) (c_X11_invert hX.1.2.2.2.2.2.1 hX.1.2.2.2.2.2.2.1 _ _ e2) ok_X11_invert (Nat.le_of_ble_eq_true rfl) (Nat.le_of_ble_eq_true rfl) (all3 gw_1579 gw_1580 gw_1581) (ik_306 hX.1.2.2.2.2.2.1 hX.1.2.2.2.2.2.2.1) (by decide) (q := (RX11, TX11, 39)) rfl rfl rfl rfl (Nat.le_of_ble_eq_true rfl) dL_law_401 ?_
  refine lj_pop (pc := 404) dL_law_404 rfl ?_
  refine lj_goto (pc := 405) (tgt := 1315) dL_law_405 rfl ?_
  exact hloop _ hI2
theorem lc_6 {E : LEn} {w : Wd} {I : Nat → Mem → Prop} (hX : LX E w ∧ True) (ok : Lw_6 I) {k c0 : Nat} (hc : c0 < 520) (hk : k + 6 ≤ eL E) (hloop : ∀ τ, I (c0 + 1) τ → LJ E w τ [(0, .ref (eb E)), (1, .ref (adr w 0)), (2, .ref (adr w 306)), (3, .int (Int32.ofNat k))] [] 1315) {σ : Mem} (hI : I c0 σ) : LJ E w σ [(0, .ref (eb E)), (1, .ref (adr w 0)), (2, .ref (adr w 306)), (3, .int (Int32.ofNat k))] [] 408 := by
  obtain ⟨r1, r2, σ1, σ2, e1, e2, hI2⟩ := ok c0 σ (exs E (k + 1)) (exs E (k + 2)) (exs E (k + 3)) hc hI
  refine lj_aload1 (pc := 408) dL_law_408 ?_
  refine lj_arg (pc := 409) 1 hk (by decide) dL_law_409 dL_law_410 dL_law_411 dL_law_412 dL_law_413 (ic_i_1) ?_
  refine lj_arg (pc := 414) 2 hk (by decide) dL_law_414 dL_law_415 dL_law_416 dL_law_417 dL_law_418 (ic_i_2) ?_
  refine lj_arg (pc := 419) 3 hk (by decide) dL_law_419 dL_law_420 dL_law_421 dL_law_422 dL_law_423 (ic_i_3) ?_
  refine lj_call hX.1 (pc := 424) (σ1 := σ1) (r := (vB r1)) (As := [.int (exs E (k + 1)), .int (exs E (k + 2)), .int (exs E (k + 3))]) (c_X10_power hX.1.2.2.2.2.2.1 _ _ e1) ok_X10_power (Nat.le_of_ble_eq_true rfl) (Nat.le_of_ble_eq_true rfl) (all3 gw_841 gw_842 gw_843) (ik_0 hX.1.2.2.2.2.2.1) (by decide) (q := (RX10, TX10, 17)) rfl rfl rfl rfl (Nat.le_of_ble_eq_true rfl) dL_law_424 ?_
  refine lj_pop (pc := 427) dL_law_427 rfl ?_
  refine lj_aload2 (pc := 428) dL_law_428 ?_
  refine lj_arg (pc := 429) 1 hk (by decide) dL_law_429 dL_law_430 dL_law_431 dL_law_432 dL_law_433 (ic_i_1) ?_
  refine lj_arg (pc := 434) 2 hk (by decide) dL_law_434 dL_law_435 dL_law_436 dL_law_437 dL_law_438 (ic_i_2) ?_
  refine lj_arg (pc := 439) 3 hk (by decide) dL_law_439 dL_law_440 dL_law_441 dL_law_442 dL_law_443 (ic_i_3) ?_
  refine lj_call hX.1 (pc := 444) (σ1 := σ2) (r := (vB r2)) (As := [.int (exs E (k + 1)), .int (exs E (k + 2)), .int (exs E (k + 3))]) (c_X11_power hX.1.2.2.2.2.2.1 hX.1.2.2.2.2.2.2.1 _ _ e2) ok_X11_power (Nat.le_of_ble_eq_true rfl) (Nat.le_of_ble_eq_true rfl) (all3 gw_1595 gw_1596 gw_1597) (ik_306 hX.1.2.2.2.2.2.1 hX.1.2.2.2.2.2.2.1) (by decide) (q := (RX11, TX11, 39)) rfl rfl rfl rfl (Nat.le_of_ble_eq_true rfl) dL_law_444 ?_
  refine lj_pop (pc := 447) dL_law_447 rfl ?_
  refine lj_goto (pc := 448) (tgt := 1315) dL_law_448 rfl ?_
  exact hloop _ hI2
theorem lc_7 {E : LEn} {w : Wd} {I : Nat → Mem → Prop} (hX : LX E w ∧ True) (ok : Lw_7 I) {k c0 : Nat} (hc : c0 < 520) (hk : k + 6 ≤ eL E) (hloop : ∀ τ, I (c0 + 1) τ → LJ E w τ [(0, .ref (eb E)), (1, .ref (adr w 0)), (2, .ref (adr w 306)), (3, .int (Int32.ofNat k))] [] 1315) {σ : Mem} (hI : I c0 σ) : LJ E w σ [(0, .ref (eb E)), (1, .ref (adr w 0)), (2, .ref (adr w 306)), (3, .int (Int32.ofNat k))] [] 451 := by
  obtain ⟨r1, r2, σ1, σ2, e1, e2, hI2⟩ := ok c0 σ (exs E (k + 1)) (exs E (k + 2)) (exs E (k + 3)) hc hI
  refine lj_aload1 (pc := 451) dL_law_451 ?_
  refine lj_arg (pc := 452) 1 hk (by decide) dL_law_452 dL_law_453 dL_law_454 dL_law_455 dL_law_456 (ic_i_1) ?_
  refine lj_arg (pc := 457) 2 hk (by decide) dL_law_457 dL_law_458 dL_law_459 dL_law_460 dL_law_461 (ic_i_2) ?_
  refine lj_arg (pc := 462) 3 hk (by decide) dL_law_462 dL_law_463 dL_law_464 dL_law_465 dL_law_466 (ic_i_3) ?_
  refine lj_call hX.1 (pc := 467) (σ1 := σ1) (r := (vB r1)) (As := [.int (exs E (k + 1)), .int (exs E (k + 2)), .int (exs E (k + 3))]) (c_X10_commute hX.1.2.2.2.2.2.1 _ _ e1) ok_X10_commute (Nat.le_of_ble_eq_true rfl) (Nat.le_of_ble_eq_true rfl) (all3 gw_866 gw_867 gw_868) (ik_0 hX.1.2.2.2.2.2.1) (by decide) (q := (RX10, TX10, 17)) rfl rfl rfl rfl (Nat.le_of_ble_eq_true rfl) dL_law_467 ?_
  refine lj_pop (pc := 470) dL_law_470 rfl ?_
  refine lj_aload2 (pc := 471) dL_law_471 ?_
  refine lj_arg (pc := 472) 1 hk (by decide) dL_law_472 dL_law_473 dL_law_474 dL_law_475 dL_law_476 (ic_i_1) ?_
  refine lj_arg (pc := 477) 2 hk (by decide) dL_law_477 dL_law_478 dL_law_479 dL_law_480 dL_law_481 (ic_i_2) ?_
  refine lj_arg (pc := 482) 3 hk (by decide) dL_law_482 dL_law_483 dL_law_484 dL_law_485 dL_law_486 (ic_i_3) ?_
  refine lj_call hX.1 (pc := 487) (σ1 := σ2) (r := (vB r2)) (As := [.int (exs E (k + 1)), .int (exs E (k + 2)), .int (exs E (k + 3))]) (c_X11_commute hX.1.2.2.2.2.2.1 hX.1.2.2.2.2.2.2.1 _ _ e2) ok_X11_commute (Nat.le_of_ble_eq_true rfl) (Nat.le_of_ble_eq_true rfl) (all3 gw_1605 gw_1606 gw_1607) (ik_306 hX.1.2.2.2.2.2.1 hX.1.2.2.2.2.2.2.1) (by decide) (q := (RX11, TX11, 39)) rfl rfl rfl rfl (Nat.le_of_ble_eq_true rfl) dL_law_487 ?_
  refine lj_pop (pc := 490) dL_law_490 rfl ?_
  refine lj_goto (pc := 491) (tgt := 1315) dL_law_491 rfl ?_
  exact hloop _ hI2
theorem lc_8 {E : LEn} {w : Wd} {I : Nat → Mem → Prop} (hX : LX E w ∧ True) (ok : Lw_8 I) {k c0 : Nat} (hc : c0 < 520) (hk : k + 6 ≤ eL E) (hloop : ∀ τ, I (c0 + 1) τ → LJ E w τ [(0, .ref (eb E)), (1, .ref (adr w 0)), (2, .ref (adr w 306)), (3, .int (Int32.ofNat k))] [] 1315) {σ : Mem} (hI : I c0 σ) : LJ E w σ [(0, .ref (eb E)), (1, .ref (adr w 0)), (2, .ref (adr w 306)), (3, .int (Int32.ofNat k))] [] 494 := by
  obtain ⟨r1, r2, σ1, σ2, e1, e2, hI2⟩ := ok c0 σ (exs E (k + 1)) (exs E (k + 2)) (exs E (k + 3)) hc hI
  refine lj_aload1 (pc := 494) dL_law_494 ?_
  refine lj_arg (pc := 495) 1 hk (by decide) dL_law_495 dL_law_496 dL_law_497 dL_law_498 dL_law_499 (ic_i_1) ?_
  refine lj_arg (pc := 500) 2 hk (by decide) dL_law_500 dL_law_501 dL_law_502 dL_law_503 dL_law_504 (ic_i_2) ?_
  refine lj_arg (pc := 505) 3 hk (by decide) dL_law_505 dL_law_506 dL_law_507 dL_law_508 dL_law_509 (ic_i_3) ?_
  refine lj_call hX.1 (pc := 510) (σ1 := σ1) (r := (vB r1)) (As := [.int (exs E (k + 1)), .int (exs E (k + 2)), .int (exs E (k + 3))]) (c_X10_conjugate hX.1.2.2.2.2.2.1 _ _ e1) ok_X10_conjugate (Nat.le_of_ble_eq_true rfl) (Nat.le_of_ble_eq_true rfl) (all3 gw_875 gw_876 gw_877) (ik_0 hX.1.2.2.2.2.2.1) (by decide) (q := (RX10, TX10, 17)) rfl rfl rfl rfl (Nat.le_of_ble_eq_true rfl) dL_law_510 ?_
  refine lj_pop (pc := 513) dL_law_513 rfl ?_
  refine lj_aload2 (pc := 514) dL_law_514 ?_
  refine lj_arg (pc := 515) 1 hk (by decide) dL_law_515 dL_law_516 dL_law_517 dL_law_518 dL_law_519 (ic_i_1) ?_
  refine lj_arg (pc := 520) 2 hk (by decide) dL_law_520 dL_law_521 dL_law_522 dL_law_523 dL_law_524 (ic_i_2) ?_
  refine lj_arg (pc := 525) 3 hk (by decide) dL_law_525 dL_law_526 dL_law_527 dL_law_528 dL_law_529 (ic_i_3) ?_
  refine lj_call hX.1 (pc := 530) (σ1 := σ2) (r := (vB r2)) (As := [.int (exs E (k + 1)), .int (exs E (k + 2)), .int (exs E (k + 3))]) (c_X11_conjugate hX.1.2.2.2.2.2.1 hX.1.2.2.2.2.2.2.1 _ _ e2) ok_X11_conjugate (Nat.le_of_ble_eq_true rfl) (Nat.le_of_ble_eq_true rfl) (all3 gw_1613 gw_1614 gw_1615) (ik_306 hX.1.2.2.2.2.2.1 hX.1.2.2.2.2.2.2.1) (by decide) (q := (RX11, TX11, 39)) rfl rfl rfl rfl (Nat.le_of_ble_eq_true rfl) dL_law_530 ?_
  refine lj_pop (pc := 533) dL_law_533 rfl ?_
  refine lj_goto (pc := 534) (tgt := 1315) dL_law_534 rfl ?_
  exact hloop _ hI2
theorem lc_9 {E : LEn} {w : Wd} {I : Nat → Mem → Prop} (hX : LX E w ∧ True) (ok : Lw_9 I) {k c0 : Nat} (hc : c0 < 520) (hk : k + 6 ≤ eL E) (hloop : ∀ τ, I (c0 + 1) τ → LJ E w τ [(0, .ref (eb E)), (1, .ref (adr w 0)), (2, .ref (adr w 306)), (3, .int (Int32.ofNat k))] [] 1315) {σ : Mem} (hI : I c0 σ) : LJ E w σ [(0, .ref (eb E)), (1, .ref (adr w 0)), (2, .ref (adr w 306)), (3, .int (Int32.ofNat k))] [] 537 := by
  obtain ⟨r1, r2, σ1, σ2, e1, e2, hI2⟩ := ok c0 σ (exs E (k + 1)) (exs E (k + 2)) (exs E (k + 3)) hc hI
  refine lj_aload1 (pc := 537) dL_law_537 ?_
  refine lj_arg (pc := 538) 1 hk (by decide) dL_law_538 dL_law_539 dL_law_540 dL_law_541 dL_law_542 (ic_i_1) ?_
  refine lj_arg (pc := 543) 2 hk (by decide) dL_law_543 dL_law_544 dL_law_545 dL_law_546 dL_law_547 (ic_i_2) ?_
  refine lj_arg (pc := 548) 3 hk (by decide) dL_law_548 dL_law_549 dL_law_550 dL_law_551 dL_law_552 (ic_i_3) ?_
  refine lj_call hX.1 (pc := 553) (σ1 := σ1) (r := (vB r1)) (As := [.int (exs E (k + 1)), .int (exs E (k + 2)), .int (exs E (k + 3))]) (c_X10_root hX.1.2.2.2.2.2.1 _ _ e1) ok_X10_root (Nat.le_of_ble_eq_true rfl) (Nat.le_of_ble_eq_true rfl) (all3 gw_883 gw_884 gw_885) (ik_0 hX.1.2.2.2.2.2.1) (by decide) (q := (RX10, TX10, 17)) rfl rfl rfl rfl (Nat.le_of_ble_eq_true rfl) dL_law_553 ?_
  refine lj_pop (pc := 556) dL_law_556 rfl ?_
  refine lj_aload2 (pc := 557) dL_law_557 ?_
  refine lj_arg (pc := 558) 1 hk (by decide) dL_law_558 dL_law_559 dL_law_560 dL_law_561 dL_law_562 (ic_i_1) ?_
  refine lj_arg (pc := 563) 2 hk (by decide) dL_law_563 dL_law_564 dL_law_565 dL_law_566 dL_law_567 (ic_i_2) ?_
  refine lj_arg (pc := 568) 3 hk (by decide) dL_law_568 dL_law_569 dL_law_570 dL_law_571 dL_law_572 (ic_i_3) ?_
  refine lj_call hX.1 (pc := 573) (σ1 := σ2) (r := (vB r2)) (As := [.int (exs E (k + 1)), .int (exs E (k + 2)), .int (exs E (k + 3))]) (c_X11_root hX.1.2.2.2.2.2.1 hX.1.2.2.2.2.2.2.1 _ _ e2) ok_X11_root (Nat.le_of_ble_eq_true rfl) (Nat.le_of_ble_eq_true rfl) (all3 gw_1621 gw_1622 gw_1623) (ik_306 hX.1.2.2.2.2.2.1 hX.1.2.2.2.2.2.2.1) (by decide) (q := (RX11, TX11, 39)) rfl rfl rfl rfl (Nat.le_of_ble_eq_true rfl) dL_law_573 ?_
  refine lj_pop (pc := 576) dL_law_576 rfl ?_
  refine lj_goto (pc := 577) (tgt := 1315) dL_law_577 rfl ?_
  exact hloop _ hI2
theorem lc_10 {E : LEn} {w : Wd} {I : Nat → Mem → Prop} (hX : LX E w ∧ True) (ok : Lw_10 I) {k c0 : Nat} (hc : c0 < 520) (hk : k + 6 ≤ eL E) (hloop : ∀ τ, I (c0 + 1) τ → LJ E w τ [(0, .ref (eb E)), (1, .ref (adr w 0)), (2, .ref (adr w 306)), (3, .int (Int32.ofNat k))] [] 1315) {σ : Mem} (hI : I c0 σ) : LJ E w σ [(0, .ref (eb E)), (1, .ref (adr w 0)), (2, .ref (adr w 306)), (3, .int (Int32.ofNat k))] [] 580 := by
  obtain ⟨r1, r2, σ1, σ2, e1, e2, hI2⟩ := ok c0 σ (exs E (k + 1)) (exs E (k + 2)) (exs E (k + 3)) (exs E (k + 4)) hc hI
  refine lj_aload1 (pc := 580) dL_law_580 ?_
  refine lj_arg (pc := 581) 1 hk (by decide) dL_law_581 dL_law_582 dL_law_583 dL_law_584 dL_law_585 (ic_i_1) ?_
  refine lj_arg (pc := 586) 2 hk (by decide) dL_law_586 dL_law_587 dL_law_588 dL_law_589 dL_law_590 (ic_i_2) ?_
  refine lj_arg (pc := 591) 3 hk (by decide) dL_law_591 dL_law_592 dL_law_593 dL_law_594 dL_law_595 (ic_i_3) ?_
  refine lj_arg (pc := 596) 4 hk (by decide) dL_law_596 dL_law_597 dL_law_598 dL_law_599 dL_law_600 (ic_i_4) ?_
  refine lj_call hX.1 (pc := 601) (σ1 := σ1) (r := (vB r1)) (As := [.int (exs E (k + 1)), .int (exs E (k + 2)), .int (exs E (k + 3)), .int (exs E (k + 4))]) (c_X10_seek hX.1.2.2.2.2.2.1 _ _ e1) ok_X10_seek (Nat.le_of_ble_eq_true rfl) (Nat.le_of_ble_eq_true rfl) (all3 gw_897 gw_898 gw_899) (ik_0 hX.1.2.2.2.2.2.1) (by decide) (q := (RX10, TX10, 17)) rfl rfl rfl rfl (Nat.le_of_ble_eq_true rfl) dL_law_601 ?_
  refine lj_pop (pc := 604) dL_law_604 rfl ?_
  refine lj_aload2 (pc := 605) dL_law_605 ?_
  refine lj_arg (pc := 606) 1 hk (by decide) dL_law_606 dL_law_607 dL_law_608 dL_law_609 dL_law_610 (ic_i_1) ?_
  refine lj_arg (pc := 611) 2 hk (by decide) dL_law_611 dL_law_612 dL_law_613 dL_law_614 dL_law_615 (ic_i_2) ?_
  refine lj_arg (pc := 616) 3 hk (by decide) dL_law_616 dL_law_617 dL_law_618 dL_law_619 dL_law_620 (ic_i_3) ?_
  refine lj_arg (pc := 621) 4 hk (by decide) dL_law_621 dL_law_622 dL_law_623 dL_law_624 dL_law_625 (ic_i_4) ?_
  refine lj_call hX.1 (pc := 626) (σ1 := σ2) (r := (vB r2)) (As := [.int (exs E (k + 1)), .int (exs E (k + 2)), .int (exs E (k + 3)), .int (exs E (k + 4))]) (c_X11_seek hX.1.2.2.2.2.2.1 hX.1.2.2.2.2.2.2.1 _ _ e2) ok_X11_seek (Nat.le_of_ble_eq_true rfl) (Nat.le_of_ble_eq_true rfl) (all3 gw_1629 gw_1630 gw_1631) (ik_306 hX.1.2.2.2.2.2.1 hX.1.2.2.2.2.2.2.1) (by decide) (q := (RX11, TX11, 39)) rfl rfl rfl rfl (Nat.le_of_ble_eq_true rfl) dL_law_626 ?_
  refine lj_pop (pc := 629) dL_law_629 rfl ?_
  refine lj_goto (pc := 630) (tgt := 1315) dL_law_630 rfl ?_
  exact hloop _ hI2
theorem lc_11 {E : LEn} {w : Wd} {I : Nat → Mem → Prop} (hX : LX E w ∧ True) (ok : Lw_11 I) {k c0 : Nat} (hc : c0 < 520) (hk : k + 6 ≤ eL E) (hloop : ∀ τ, I (c0 + 1) τ → LJ E w τ [(0, .ref (eb E)), (1, .ref (adr w 0)), (2, .ref (adr w 306)), (3, .int (Int32.ofNat k))] [] 1315) {σ : Mem} (hI : I c0 σ) : LJ E w σ [(0, .ref (eb E)), (1, .ref (adr w 0)), (2, .ref (adr w 306)), (3, .int (Int32.ofNat k))] [] 633 := by
  obtain ⟨r1, r2, σ1, σ2, e1, e2, hI2⟩ := ok c0 σ (exs E (k + 1)) (exs E (k + 2)) (exs E (k + 3)) (exs E (k + 4)) (exs E (k + 5)) hc hI
  refine lj_aload1 (pc := 633) dL_law_633 ?_
  refine lj_arg (pc := 634) 1 hk (by decide) dL_law_634 dL_law_635 dL_law_636 dL_law_637 dL_law_638 (ic_i_1) ?_
  refine lj_arg (pc := 639) 2 hk (by decide) dL_law_639 dL_law_640 dL_law_641 dL_law_642 dL_law_643 (ic_i_2) ?_
  refine lj_arg (pc := 644) 3 hk (by decide) dL_law_644 dL_law_645 dL_law_646 dL_law_647 dL_law_648 (ic_i_3) ?_
  refine lj_arg (pc := 649) 4 hk (by decide) dL_law_649 dL_law_650 dL_law_651 dL_law_652 dL_law_653 (ic_i_4) ?_
  refine lj_arg (pc := 654) 5 hk (by decide) dL_law_654 dL_law_655 dL_law_656 dL_law_657 dL_law_658 (ic_i_5) ?_
  refine lj_call hX.1 (pc := 659) (σ1 := σ1) (r := (vI r1)) (As := [.int (exs E (k + 1)), .int (exs E (k + 2)), .int (exs E (k + 3)), .int (exs E (k + 4)), .int (exs E (k + 5))]) (c_X10_feed hX.1.2.2.2.2.2.1 _ _ e1) ok_X10_feed (Nat.le_of_ble_eq_true rfl) (Nat.le_of_ble_eq_true rfl) (all3 gw_944 gw_945 gw_946) (ik_0 hX.1.2.2.2.2.2.1) (by decide) (q := (RX10, TX10, 17)) rfl rfl rfl rfl (Nat.le_of_ble_eq_true rfl) dL_law_659 ?_
  refine lj_pop (pc := 662) dL_law_662 rfl ?_
  refine lj_aload2 (pc := 663) dL_law_663 ?_
  refine lj_arg (pc := 664) 1 hk (by decide) dL_law_664 dL_law_665 dL_law_666 dL_law_667 dL_law_668 (ic_i_1) ?_
  refine lj_arg (pc := 669) 2 hk (by decide) dL_law_669 dL_law_670 dL_law_671 dL_law_672 dL_law_673 (ic_i_2) ?_
  refine lj_arg (pc := 674) 3 hk (by decide) dL_law_674 dL_law_675 dL_law_676 dL_law_677 dL_law_678 (ic_i_3) ?_
  refine lj_arg (pc := 679) 4 hk (by decide) dL_law_679 dL_law_680 dL_law_681 dL_law_682 dL_law_683 (ic_i_4) ?_
  refine lj_arg (pc := 684) 5 hk (by decide) dL_law_684 dL_law_685 dL_law_686 dL_law_687 dL_law_688 (ic_i_5) ?_
  refine lj_call hX.1 (pc := 689) (σ1 := σ2) (r := (vI r2)) (As := [.int (exs E (k + 1)), .int (exs E (k + 2)), .int (exs E (k + 3)), .int (exs E (k + 4)), .int (exs E (k + 5))]) (c_X11_feed hX.1.2.2.2.2.2.1 hX.1.2.2.2.2.2.2.1 _ _ e2) ok_X11_feed (Nat.le_of_ble_eq_true rfl) (Nat.le_of_ble_eq_true rfl) (all3 gw_1645 gw_1646 gw_1647) (ik_306 hX.1.2.2.2.2.2.1 hX.1.2.2.2.2.2.2.1) (by decide) (q := (RX11, TX11, 39)) rfl rfl rfl rfl (Nat.le_of_ble_eq_true rfl) dL_law_689 ?_
  refine lj_pop (pc := 692) dL_law_692 rfl ?_
  refine lj_goto (pc := 693) (tgt := 1315) dL_law_693 rfl ?_
  exact hloop _ hI2
theorem lc_12 {E : LEn} {w : Wd} {I : Nat → Mem → Prop} (hX : LX E w ∧ True) (ok : Lw_12 I) {k c0 : Nat} (hc : c0 < 520) (hk : k + 6 ≤ eL E) (hloop : ∀ τ, I (c0 + 1) τ → LJ E w τ [(0, .ref (eb E)), (1, .ref (adr w 0)), (2, .ref (adr w 306)), (3, .int (Int32.ofNat k))] [] 1315) {σ : Mem} (hI : I c0 σ) : LJ E w σ [(0, .ref (eb E)), (1, .ref (adr w 0)), (2, .ref (adr w 306)), (3, .int (Int32.ofNat k))] [] 696 := by
  obtain ⟨r1, r2, σ1, σ2, e1, e2, hI2⟩ := ok c0 σ (exs E (k + 1)) hc hI
  refine lj_aload1 (pc := 696) dL_law_696 ?_
  refine lj_arg (pc := 697) 1 hk (by decide) dL_law_697 dL_law_698 dL_law_699 dL_law_700 dL_law_701 (ic_i_1) ?_
  refine lj_call hX.1 (pc := 702) (σ1 := σ1) (r := (vB r1)) (As := [.int (exs E (k + 1))]) (c_X10_end hX.1.2.2.2.2.2.1 _ _ e1) ok_X10_end (Nat.le_of_ble_eq_true rfl) (Nat.le_of_ble_eq_true rfl) (all3 gw_952 gw_953 gw_954) (ik_0 hX.1.2.2.2.2.2.1) (by decide) (q := (RX10, TX10, 17)) rfl rfl rfl rfl (Nat.le_of_ble_eq_true rfl) dL_law_702 ?_
  refine lj_pop (pc := 705) dL_law_705 rfl ?_
  refine lj_aload2 (pc := 706) dL_law_706 ?_
  refine lj_arg (pc := 707) 1 hk (by decide) dL_law_707 dL_law_708 dL_law_709 dL_law_710 dL_law_711 (ic_i_1) ?_
  refine lj_call hX.1 (pc := 712) (σ1 := σ2) (r := (vB r2)) (As := [.int (exs E (k + 1))]) (c_X11_end hX.1.2.2.2.2.2.1 hX.1.2.2.2.2.2.2.1 _ _ e2) ok_X11_end (Nat.le_of_ble_eq_true rfl) (Nat.le_of_ble_eq_true rfl) (all3 gw_1653 gw_1654 gw_1655) (ik_306 hX.1.2.2.2.2.2.1 hX.1.2.2.2.2.2.2.1) (by decide) (q := (RX11, TX11, 39)) rfl rfl rfl rfl (Nat.le_of_ble_eq_true rfl) dL_law_712 ?_
  refine lj_pop (pc := 715) dL_law_715 rfl ?_
  refine lj_goto (pc := 716) (tgt := 1315) dL_law_716 rfl ?_
  exact hloop _ hI2
theorem lc_13 {E : LEn} {w : Wd} {I : Nat → Mem → Prop} (hX : LX E w ∧ True) (ok : Lw_13 I) {k c0 : Nat} (hc : c0 < 520) (hk : k + 6 ≤ eL E) (hloop : ∀ τ, I (c0 + 1) τ → LJ E w τ [(0, .ref (eb E)), (1, .ref (adr w 0)), (2, .ref (adr w 306)), (3, .int (Int32.ofNat k))] [] 1315) {σ : Mem} (hI : I c0 σ) : LJ E w σ [(0, .ref (eb E)), (1, .ref (adr w 0)), (2, .ref (adr w 306)), (3, .int (Int32.ofNat k))] [] 719 := by
  obtain ⟨r1, r2, σ1, σ2, e1, e2, hI2⟩ := ok c0 σ (exs E (k + 1)) hc hI
  refine lj_aload1 (pc := 719) dL_law_719 ?_
  refine lj_arg (pc := 720) 1 hk (by decide) dL_law_720 dL_law_721 dL_law_722 dL_law_723 dL_law_724 (ic_i_1) ?_
  refine lj_call hX.1 (pc := 725) (σ1 := σ1) (r := (vB r1)) (As := [.int (exs E (k + 1))]) (c_X10_text hX.1.2.2.2.2.2.1 _ _ e1) ok_X10_text (Nat.le_of_ble_eq_true rfl) (Nat.le_of_ble_eq_true rfl) (all3 gw_956 gw_957 gw_958) (ik_0 hX.1.2.2.2.2.2.1) (by decide) (q := (RX10, TX10, 17)) rfl rfl rfl rfl (Nat.le_of_ble_eq_true rfl) dL_law_725 ?_
  refine lj_pop (pc := 728) dL_law_728 rfl ?_
  refine lj_aload2 (pc := 729) dL_law_729 ?_
  refine lj_arg (pc := 730) 1 hk (by decide) dL_law_730 dL_law_731 dL_law_732 dL_law_733 dL_law_734 (ic_i_1) ?_
  refine lj_call hX.1 (pc := 735) (σ1 := σ2) (r := (vB r2)) (As := [.int (exs E (k + 1))]) (c_X11_text hX.1.2.2.2.2.2.1 hX.1.2.2.2.2.2.2.1 _ _ e2) ok_X11_text (Nat.le_of_ble_eq_true rfl) (Nat.le_of_ble_eq_true rfl) (all3 gw_1657 gw_1658 gw_1659) (ik_306 hX.1.2.2.2.2.2.1 hX.1.2.2.2.2.2.2.1) (by decide) (q := (RX11, TX11, 39)) rfl rfl rfl rfl (Nat.le_of_ble_eq_true rfl) dL_law_735 ?_
  refine lj_pop (pc := 738) dL_law_738 rfl ?_
  refine lj_goto (pc := 739) (tgt := 1315) dL_law_739 rfl ?_
  exact hloop _ hI2
theorem lc_14 {E : LEn} {w : Wd} {I : Nat → Mem → Prop} (hX : LX E w ∧ True) (ok : Lw_14 I) {k c0 : Nat} (hc : c0 < 520) (hk : k + 6 ≤ eL E) (hloop : ∀ τ, I (c0 + 1) τ → LJ E w τ [(0, .ref (eb E)), (1, .ref (adr w 0)), (2, .ref (adr w 306)), (3, .int (Int32.ofNat k))] [] 1315) {σ : Mem} (hI : I c0 σ) : LJ E w σ [(0, .ref (eb E)), (1, .ref (adr w 0)), (2, .ref (adr w 306)), (3, .int (Int32.ofNat k))] [] 742 := by
  obtain ⟨r1, r2, σ2, e1, e2, hI2⟩ := ok c0 σ (exs E (k + 1)) hc hI
  refine lj_aload1 (pc := 742) dL_law_742 ?_
  refine lj_arg (pc := 743) 1 hk (by decide) dL_law_743 dL_law_744 dL_law_745 dL_law_746 dL_law_747 (ic_i_1) ?_
  refine lj_call hX.1 (pc := 748) (σ1 := σ) (r := (vI r1)) (As := [.int (exs E (k + 1))]) (c_X10_fault hX.1.2.2.2.2.2.1 _ e1) ok_X10_fault (Nat.le_of_ble_eq_true rfl) (Nat.le_of_ble_eq_true rfl) (all3 gw_1033 gw_1034 gw_1035) (ik_0 hX.1.2.2.2.2.2.1) (by decide) (q := (RX10, TX10, 17)) rfl rfl rfl rfl (Nat.le_of_ble_eq_true rfl) dL_law_748 ?_
  refine lj_pop (pc := 751) dL_law_751 rfl ?_
  refine lj_aload2 (pc := 752) dL_law_752 ?_
  refine lj_arg (pc := 753) 1 hk (by decide) dL_law_753 dL_law_754 dL_law_755 dL_law_756 dL_law_757 (ic_i_1) ?_
  refine lj_call hX.1 (pc := 758) (σ1 := σ2) (r := (vI r2)) (As := [.int (exs E (k + 1))]) (c_X11_fault hX.1.2.2.2.2.2.1 hX.1.2.2.2.2.2.2.1 _ _ e2) ok_X11_fault (Nat.le_of_ble_eq_true rfl) (Nat.le_of_ble_eq_true rfl) (all3 gw_1713 gw_1714 gw_1715) (ik_306 hX.1.2.2.2.2.2.1 hX.1.2.2.2.2.2.2.1) (by decide) (q := (RX11, TX11, 39)) rfl rfl rfl rfl (Nat.le_of_ble_eq_true rfl) dL_law_758 ?_
  refine lj_pop (pc := 761) dL_law_761 rfl ?_
  refine lj_goto (pc := 762) (tgt := 1315) dL_law_762 rfl ?_
  exact hloop _ hI2
theorem lc_15 {E : LEn} {w : Wd} {I : Nat → Mem → Prop} (hX : LX E w ∧ True) (ok : Lw_15 I) {k c0 : Nat} (hc : c0 < 520) (hk : k + 6 ≤ eL E) (hloop : ∀ τ, I (c0 + 1) τ → LJ E w τ [(0, .ref (eb E)), (1, .ref (adr w 0)), (2, .ref (adr w 306)), (3, .int (Int32.ofNat k))] [] 1315) {σ : Mem} (hI : I c0 σ) : LJ E w σ [(0, .ref (eb E)), (1, .ref (adr w 0)), (2, .ref (adr w 306)), (3, .int (Int32.ofNat k))] [] 765 := by
  obtain ⟨r1, r2, σ1, σ2, e1, e2, hI2⟩ := ok c0 σ hc hI
  refine lj_aload1 (pc := 765) dL_law_765 ?_
  refine lj_call hX.1 (pc := 766) (σ1 := σ1) (r := (vI r1)) (As := []) (c_X10_collect hX.1.2.2.2.2.2.1 _ _ e1) ok_X10_collect (Nat.le_of_ble_eq_true rfl) (Nat.le_of_ble_eq_true rfl) (all3 gw_1037 gw_1038 gw_1039) (ik_0 hX.1.2.2.2.2.2.1) (by decide) (q := (RX10, TX10, 17)) rfl rfl rfl rfl (Nat.le_of_ble_eq_true rfl) dL_law_766 ?_
  refine lj_pop (pc := 769) dL_law_769 rfl ?_
  refine lj_aload2 (pc := 770) dL_law_770 ?_
  refine lj_call hX.1 (pc := 771) (σ1 := σ2) (r := (vI r2)) (As := []) (c_X11_collect hX.1.2.2.2.2.2.1 hX.1.2.2.2.2.2.2.1 _ _ e2) ok_X11_collect (Nat.le_of_ble_eq_true rfl) (Nat.le_of_ble_eq_true rfl) (all3 gw_1717 gw_1718 gw_1719) (ik_306 hX.1.2.2.2.2.2.1 hX.1.2.2.2.2.2.2.1) (by decide) (q := (RX11, TX11, 39)) rfl rfl rfl rfl (Nat.le_of_ble_eq_true rfl) dL_law_771 ?_
  refine lj_pop (pc := 774) dL_law_774 rfl ?_
  refine lj_goto (pc := 775) (tgt := 1315) dL_law_775 rfl ?_
  exact hloop _ hI2
theorem lc_16 {E : LEn} {w : Wd} {I : Nat → Mem → Prop} (hX : LX E w ∧ True) (ok : Lw_16 I) {k c0 : Nat} (hc : c0 < 520) (hk : k + 6 ≤ eL E) (hloop : ∀ τ, I (c0 + 1) τ → LJ E w τ [(0, .ref (eb E)), (1, .ref (adr w 0)), (2, .ref (adr w 306)), (3, .int (Int32.ofNat k))] [] 1315) {σ : Mem} (hI : I c0 σ) : LJ E w σ [(0, .ref (eb E)), (1, .ref (adr w 0)), (2, .ref (adr w 306)), (3, .int (Int32.ofNat k))] [] 778 := by
  obtain ⟨r1, r2, σ2, e1, e2, hI2⟩ := ok c0 σ (exs E (k + 1)) hc hI
  refine lj_aload1 (pc := 778) dL_law_778 ?_
  refine lj_arg (pc := 779) 1 hk (by decide) dL_law_779 dL_law_780 dL_law_781 dL_law_782 dL_law_783 (ic_i_1) ?_
  refine lj_call hX.1 (pc := 784) (σ1 := σ) (r := (vI r1)) (As := [.int (exs E (k + 1))]) (c_X10_collected hX.1.2.2.2.2.2.1 _ e1) ok_X10_collected (Nat.le_of_ble_eq_true rfl) (Nat.le_of_ble_eq_true rfl) (all3 gw_1045 gw_1046 gw_1047) (ik_0 hX.1.2.2.2.2.2.1) (by decide) (q := (RX10, TX10, 17)) rfl rfl rfl rfl (Nat.le_of_ble_eq_true rfl) dL_law_784 ?_
  refine lj_pop (pc := 787) dL_law_787 rfl ?_
  refine lj_aload2 (pc := 788) dL_law_788 ?_
  refine lj_arg (pc := 789) 1 hk (by decide) dL_law_789 dL_law_790 dL_law_791 dL_law_792 dL_law_793 (ic_i_1) ?_
  refine lj_call hX.1 (pc := 794) (σ1 := σ2) (r := (vI r2)) (As := [.int (exs E (k + 1))]) (c_X11_collected hX.1.2.2.2.2.2.1 hX.1.2.2.2.2.2.2.1 _ _ e2) ok_X11_collected (Nat.le_of_ble_eq_true rfl) (Nat.le_of_ble_eq_true rfl) (all3 gw_1722 gw_1723 gw_1724) (ik_306 hX.1.2.2.2.2.2.1 hX.1.2.2.2.2.2.2.1) (by decide) (q := (RX11, TX11, 39)) rfl rfl rfl rfl (Nat.le_of_ble_eq_true rfl) dL_law_794 ?_
  refine lj_pop (pc := 797) dL_law_797 rfl ?_
  refine lj_goto (pc := 798) (tgt := 1315) dL_law_798 rfl ?_
  exact hloop _ hI2
theorem lc_17 {E : LEn} {w : Wd} {I : Nat → Mem → Prop} (hX : LX E w ∧ True) (ok : Lw_17 I) {k c0 : Nat} (hc : c0 < 520) (hk : k + 6 ≤ eL E) (hloop : ∀ τ, I (c0 + 1) τ → LJ E w τ [(0, .ref (eb E)), (1, .ref (adr w 0)), (2, .ref (adr w 306)), (3, .int (Int32.ofNat k))] [] 1315) {σ : Mem} (hI : I c0 σ) : LJ E w σ [(0, .ref (eb E)), (1, .ref (adr w 0)), (2, .ref (adr w 306)), (3, .int (Int32.ofNat k))] [] 801 := by
  obtain ⟨r1, r2, σ2, e1, e2, hI2⟩ := ok c0 σ hc hI
  refine lj_aload1 (pc := 801) dL_law_801 ?_
  refine lj_call hX.1 (pc := 802) (σ1 := σ) (r := (vI r1)) (As := []) (c_X10_consistent hX.1.2.2.2.2.2.1 _ e1) ok_X10_consistent (Nat.le_of_ble_eq_true rfl) (Nat.le_of_ble_eq_true rfl) (all3 gw_732 gw_733 gw_734) (ik_0 hX.1.2.2.2.2.2.1) (by decide) (q := (RX10, TX10, 17)) rfl rfl rfl rfl (Nat.le_of_ble_eq_true rfl) dL_law_802 ?_
  refine lj_pop (pc := 805) dL_law_805 rfl ?_
  refine lj_aload2 (pc := 806) dL_law_806 ?_
  refine lj_call hX.1 (pc := 807) (σ1 := σ2) (r := (vI r2)) (As := []) (c_X11_consistent hX.1.2.2.2.2.2.1 hX.1.2.2.2.2.2.2.1 _ _ e2) ok_X11_consistent (Nat.le_of_ble_eq_true rfl) (Nat.le_of_ble_eq_true rfl) (all3 gw_1726 gw_1727 gw_1728) (ik_306 hX.1.2.2.2.2.2.1 hX.1.2.2.2.2.2.2.1) (by decide) (q := (RX11, TX11, 39)) rfl rfl rfl rfl (Nat.le_of_ble_eq_true rfl) dL_law_807 ?_
  refine lj_pop (pc := 810) dL_law_810 rfl ?_
  refine lj_goto (pc := 811) (tgt := 1315) dL_law_811 rfl ?_
  exact hloop _ hI2
theorem lc_18 {E : LEn} {w : Wd} {I : Nat → Mem → Prop} (hX : LX E w ∧ True) (ok : Lw_18 I) {k c0 : Nat} (hc : c0 < 520) (hk : k + 6 ≤ eL E) (hloop : ∀ τ, I (c0 + 1) τ → LJ E w τ [(0, .ref (eb E)), (1, .ref (adr w 0)), (2, .ref (adr w 306)), (3, .int (Int32.ofNat k))] [] 1315) {σ : Mem} (hI : I c0 σ) : LJ E w σ [(0, .ref (eb E)), (1, .ref (adr w 0)), (2, .ref (adr w 306)), (3, .int (Int32.ofNat k))] [] 814 := by
  obtain ⟨r1, r2, σ2, e1, e2, hI2⟩ := ok c0 σ (exs E (k + 1)) (exs E (k + 2)) hc hI
  refine lj_aload1 (pc := 814) dL_law_814 ?_
  refine lj_arg (pc := 815) 1 hk (by decide) dL_law_815 dL_law_816 dL_law_817 dL_law_818 dL_law_819 (ic_i_1) ?_
  refine lj_arg (pc := 820) 2 hk (by decide) dL_law_820 dL_law_821 dL_law_822 dL_law_823 dL_law_824 (ic_i_2) ?_
  refine lj_call hX.1 (pc := 825) (σ1 := σ) (r := (vI r1)) (As := [.int (exs E (k + 1)), .int (exs E (k + 2))]) (c_X10_exponent hX.1.2.2.2.2.2.1 _ e1) ok_X10_exponent (Nat.le_of_ble_eq_true rfl) (Nat.le_of_ble_eq_true rfl) (all3 gw_1049 gw_1050 gw_1051) (ik_0 hX.1.2.2.2.2.2.1) (by decide) (q := (RX10, TX10, 17)) rfl rfl rfl rfl (Nat.le_of_ble_eq_true rfl) dL_law_825 ?_
  refine lj_pop (pc := 828) dL_law_828 rfl ?_
  refine lj_aload2 (pc := 829) dL_law_829 ?_
  refine lj_arg (pc := 830) 1 hk (by decide) dL_law_830 dL_law_831 dL_law_832 dL_law_833 dL_law_834 (ic_i_1) ?_
  refine lj_arg (pc := 835) 2 hk (by decide) dL_law_835 dL_law_836 dL_law_837 dL_law_838 dL_law_839 (ic_i_2) ?_
  refine lj_call hX.1 (pc := 840) (σ1 := σ2) (r := (vI r2)) (As := [.int (exs E (k + 1)), .int (exs E (k + 2))]) (c_X11_exponent hX.1.2.2.2.2.2.1 hX.1.2.2.2.2.2.2.1 _ _ e2) ok_X11_exponent (Nat.le_of_ble_eq_true rfl) (Nat.le_of_ble_eq_true rfl) (all3 gw_1730 gw_1731 gw_1732) (ik_306 hX.1.2.2.2.2.2.1 hX.1.2.2.2.2.2.2.1) (by decide) (q := (RX11, TX11, 39)) rfl rfl rfl rfl (Nat.le_of_ble_eq_true rfl) dL_law_840 ?_
  refine lj_pop (pc := 843) dL_law_843 rfl ?_
  refine lj_goto (pc := 844) (tgt := 1315) dL_law_844 rfl ?_
  exact hloop _ hI2
theorem lc_19 {E : LEn} {w : Wd} {I : Nat → Mem → Prop} (hX : LX E w ∧ True) (ok : Lw_19 I) {k c0 : Nat} (hc : c0 < 520) (hk : k + 6 ≤ eL E) (hloop : ∀ τ, I (c0 + 1) τ → LJ E w τ [(0, .ref (eb E)), (1, .ref (adr w 0)), (2, .ref (adr w 306)), (3, .int (Int32.ofNat k))] [] 1315) {σ : Mem} (hI : I c0 σ) : LJ E w σ [(0, .ref (eb E)), (1, .ref (adr w 0)), (2, .ref (adr w 306)), (3, .int (Int32.ofNat k))] [] 847 := by
  obtain ⟨r1, r2, σ2, e1, e2, hI2⟩ := ok c0 σ (exs E (k + 1)) (exs E (k + 2)) hc hI
  refine lj_aload1 (pc := 847) dL_law_847 ?_
  refine lj_arg (pc := 848) 1 hk (by decide) dL_law_848 dL_law_849 dL_law_850 dL_law_851 dL_law_852 (ic_i_1) ?_
  refine lj_arg (pc := 853) 2 hk (by decide) dL_law_853 dL_law_854 dL_law_855 dL_law_856 dL_law_857 (ic_i_2) ?_
  refine lj_call hX.1 (pc := 858) (σ1 := σ) (r := (vI r1)) (As := [.int (exs E (k + 1)), .int (exs E (k + 2))]) (c_X10_generator hX.1.2.2.2.2.2.1 _ e1) ok_X10_generator (Nat.le_of_ble_eq_true rfl) (Nat.le_of_ble_eq_true rfl) (all3 gw_739 gw_740 gw_741) (ik_0 hX.1.2.2.2.2.2.1) (by decide) (q := (RX10, TX10, 17)) rfl rfl rfl rfl (Nat.le_of_ble_eq_true rfl) dL_law_858 ?_
  refine lj_pop (pc := 861) dL_law_861 rfl ?_
  refine lj_aload2 (pc := 862) dL_law_862 ?_
  refine lj_arg (pc := 863) 1 hk (by decide) dL_law_863 dL_law_864 dL_law_865 dL_law_866 dL_law_867 (ic_i_1) ?_
  refine lj_arg (pc := 868) 2 hk (by decide) dL_law_868 dL_law_869 dL_law_870 dL_law_871 dL_law_872 (ic_i_2) ?_
  refine lj_call hX.1 (pc := 873) (σ1 := σ2) (r := (vI r2)) (As := [.int (exs E (k + 1)), .int (exs E (k + 2))]) (c_X11_generator hX.1.2.2.2.2.2.1 hX.1.2.2.2.2.2.2.1 _ _ e2) ok_X11_generator (Nat.le_of_ble_eq_true rfl) (Nat.le_of_ble_eq_true rfl) (all3 gw_1734 gw_1735 gw_1736) (ik_306 hX.1.2.2.2.2.2.1 hX.1.2.2.2.2.2.2.1) (by decide) (q := (RX11, TX11, 39)) rfl rfl rfl rfl (Nat.le_of_ble_eq_true rfl) dL_law_873 ?_
  refine lj_pop (pc := 876) dL_law_876 rfl ?_
  refine lj_goto (pc := 877) (tgt := 1315) dL_law_877 rfl ?_
  exact hloop _ hI2
theorem lc_20 {E : LEn} {w : Wd} {I : Nat → Mem → Prop} (hX : LX E w ∧ True) (ok : Lw_20 I) {k c0 : Nat} (hc : c0 < 520) (hk : k + 6 ≤ eL E) (hloop : ∀ τ, I (c0 + 1) τ → LJ E w τ [(0, .ref (eb E)), (1, .ref (adr w 0)), (2, .ref (adr w 306)), (3, .int (Int32.ofNat k))] [] 1315) {σ : Mem} (hI : I c0 σ) : LJ E w σ [(0, .ref (eb E)), (1, .ref (adr w 0)), (2, .ref (adr w 306)), (3, .int (Int32.ofNat k))] [] 880 := by
  obtain ⟨r1, r2, σ2, e1, e2, hI2⟩ := ok c0 σ (exs E (k + 1)) (exs E (k + 2)) (exs E (k + 3)) hc hI
  refine lj_aload1 (pc := 880) dL_law_880 ?_
  refine lj_arg (pc := 881) 1 hk (by decide) dL_law_881 dL_law_882 dL_law_883 dL_law_884 dL_law_885 (ic_i_1) ?_
  refine lj_arg (pc := 886) 2 hk (by decide) dL_law_886 dL_law_887 dL_law_888 dL_law_889 dL_law_890 (ic_i_2) ?_
  refine lj_arg (pc := 891) 3 hk (by decide) dL_law_891 dL_law_892 dL_law_893 dL_law_894 dL_law_895 (ic_i_3) ?_
  refine lj_call hX.1 (pc := 896) (σ1 := σ) (r := (vI r1)) (As := [.int (exs E (k + 1)), .int (exs E (k + 2)), .int (exs E (k + 3))]) (c_X10_tailOf hX.1.2.2.2.2.2.1 _ e1) ok_X10_tailOf (Nat.le_of_ble_eq_true rfl) (Nat.le_of_ble_eq_true rfl) (all3 gw_756 gw_757 gw_758) (ik_0 hX.1.2.2.2.2.2.1) (by decide) (q := (RX10, TX10, 17)) rfl rfl rfl rfl (Nat.le_of_ble_eq_true rfl) dL_law_896 ?_
  refine lj_pop (pc := 899) dL_law_899 rfl ?_
  refine lj_aload2 (pc := 900) dL_law_900 ?_
  refine lj_arg (pc := 901) 1 hk (by decide) dL_law_901 dL_law_902 dL_law_903 dL_law_904 dL_law_905 (ic_i_1) ?_
  refine lj_arg (pc := 906) 2 hk (by decide) dL_law_906 dL_law_907 dL_law_908 dL_law_909 dL_law_910 (ic_i_2) ?_
  refine lj_arg (pc := 911) 3 hk (by decide) dL_law_911 dL_law_912 dL_law_913 dL_law_914 dL_law_915 (ic_i_3) ?_
  refine lj_call hX.1 (pc := 916) (σ1 := σ2) (r := (vI r2)) (As := [.int (exs E (k + 1)), .int (exs E (k + 2)), .int (exs E (k + 3))]) (c_X11_tailOf hX.1.2.2.2.2.2.1 hX.1.2.2.2.2.2.2.1 _ _ e2) ok_X11_tailOf (Nat.le_of_ble_eq_true rfl) (Nat.le_of_ble_eq_true rfl) (all3 gw_1754 gw_1755 gw_1756) (ik_306 hX.1.2.2.2.2.2.1 hX.1.2.2.2.2.2.2.1) (by decide) (q := (RX11, TX11, 39)) rfl rfl rfl rfl (Nat.le_of_ble_eq_true rfl) dL_law_916 ?_
  refine lj_pop (pc := 919) dL_law_919 rfl ?_
  refine lj_goto (pc := 920) (tgt := 1315) dL_law_920 rfl ?_
  exact hloop _ hI2
theorem lc_21 {E : LEn} {w : Wd} {I : Nat → Mem → Prop} (hX : LX E w ∧ True) (ok : Lw_21 I) {k c0 : Nat} (hc : c0 < 520) (hk : k + 6 ≤ eL E) (hloop : ∀ τ, I (c0 + 1) τ → LJ E w τ [(0, .ref (eb E)), (1, .ref (adr w 0)), (2, .ref (adr w 306)), (3, .int (Int32.ofNat k))] [] 1315) {σ : Mem} (hI : I c0 σ) : LJ E w σ [(0, .ref (eb E)), (1, .ref (adr w 0)), (2, .ref (adr w 306)), (3, .int (Int32.ofNat k))] [] 923 := by
  obtain ⟨r1, r2, σ2, e1, e2, hI2⟩ := ok c0 σ (exs E (k + 1)) hc hI
  refine lj_aload1 (pc := 923) dL_law_923 ?_
  refine lj_arg (pc := 924) 1 hk (by decide) dL_law_924 dL_law_925 dL_law_926 dL_law_927 dL_law_928 (ic_i_1) ?_
  refine lj_call hX.1 (pc := 929) (σ1 := σ) (r := (vI r1)) (As := [.int (exs E (k + 1))]) (c_X10_terms hX.1.2.2.2.2.2.1 _ e1) ok_X10_terms (Nat.le_of_ble_eq_true rfl) (Nat.le_of_ble_eq_true rfl) (all3 gw_762 gw_763 gw_764) (ik_0 hX.1.2.2.2.2.2.1) (by decide) (q := (RX10, TX10, 17)) rfl rfl rfl rfl (Nat.le_of_ble_eq_true rfl) dL_law_929 ?_
  refine lj_pop (pc := 932) dL_law_932 rfl ?_
  refine lj_aload2 (pc := 933) dL_law_933 ?_
  refine lj_arg (pc := 934) 1 hk (by decide) dL_law_934 dL_law_935 dL_law_936 dL_law_937 dL_law_938 (ic_i_1) ?_
  refine lj_call hX.1 (pc := 939) (σ1 := σ2) (r := (vI r2)) (As := [.int (exs E (k + 1))]) (c_X11_terms hX.1.2.2.2.2.2.1 hX.1.2.2.2.2.2.2.1 _ _ e2) ok_X11_terms (Nat.le_of_ble_eq_true rfl) (Nat.le_of_ble_eq_true rfl) (all3 gw_1758 gw_1759 gw_1760) (ik_306 hX.1.2.2.2.2.2.1 hX.1.2.2.2.2.2.2.1) (by decide) (q := (RX11, TX11, 39)) rfl rfl rfl rfl (Nat.le_of_ble_eq_true rfl) dL_law_939 ?_
  refine lj_pop (pc := 942) dL_law_942 rfl ?_
  refine lj_goto (pc := 943) (tgt := 1315) dL_law_943 rfl ?_
  exact hloop _ hI2
theorem lc_22 {E : LEn} {w : Wd} {I : Nat → Mem → Prop} (hX : LX E w ∧ True) (ok : Lw_22 I) {k c0 : Nat} (hc : c0 < 520) (hk : k + 6 ≤ eL E) (hloop : ∀ τ, I (c0 + 1) τ → LJ E w τ [(0, .ref (eb E)), (1, .ref (adr w 0)), (2, .ref (adr w 306)), (3, .int (Int32.ofNat k))] [] 1315) {σ : Mem} (hI : I c0 σ) : LJ E w σ [(0, .ref (eb E)), (1, .ref (adr w 0)), (2, .ref (adr w 306)), (3, .int (Int32.ofNat k))] [] 946 := by
  obtain ⟨r1, r2, σ2, e1, e2, hI2⟩ := ok c0 σ (exs E (k + 1)) (exs E (k + 2)) (exs E (k + 3)) hc hI
  refine lj_aload1 (pc := 946) dL_law_946 ?_
  refine lj_arg (pc := 947) 1 hk (by decide) dL_law_947 dL_law_948 dL_law_949 dL_law_950 dL_law_951 (ic_i_1) ?_
  refine lj_arg (pc := 952) 2 hk (by decide) dL_law_952 dL_law_953 dL_law_954 dL_law_955 dL_law_956 (ic_i_2) ?_
  refine lj_arg (pc := 957) 3 hk (by decide) dL_law_957 dL_law_958 dL_law_959 dL_law_960 dL_law_961 (ic_i_3) ?_
  refine lj_call hX.1 (pc := 962) (σ1 := σ) (r := (vI r1)) (As := [.int (exs E (k + 1)), .int (exs E (k + 2)), .int (exs E (k + 3))]) (c_X10_term hX.1.2.2.2.2.2.1 _ e1) ok_X10_term (Nat.le_of_ble_eq_true rfl) (Nat.le_of_ble_eq_true rfl) (all3 gw_770 gw_771 gw_772) (ik_0 hX.1.2.2.2.2.2.1) (by decide) (q := (RX10, TX10, 17)) rfl rfl rfl rfl (Nat.le_of_ble_eq_true rfl) dL_law_962 ?_
  refine lj_pop (pc := 965) dL_law_965 rfl ?_
  refine lj_aload2 (pc := 966) dL_law_966 ?_
  refine lj_arg (pc := 967) 1 hk (by decide) dL_law_967 dL_law_968 dL_law_969 dL_law_970 dL_law_971 (ic_i_1) ?_
  refine lj_arg (pc := 972) 2 hk (by decide) dL_law_972 dL_law_973 dL_law_974 dL_law_975 dL_law_976 (ic_i_2) ?_
  refine lj_arg (pc := 977) 3 hk (by decide) dL_law_977 dL_law_978 dL_law_979 dL_law_980 dL_law_981 (ic_i_3) ?_
  refine lj_call hX.1 (pc := 982) (σ1 := σ2) (r := (vI r2)) (As := [.int (exs E (k + 1)), .int (exs E (k + 2)), .int (exs E (k + 3))]) (c_X11_term hX.1.2.2.2.2.2.1 hX.1.2.2.2.2.2.2.1 _ _ e2) ok_X11_term (Nat.le_of_ble_eq_true rfl) (Nat.le_of_ble_eq_true rfl) (all3 gw_1766 gw_1767 gw_1768) (ik_306 hX.1.2.2.2.2.2.1 hX.1.2.2.2.2.2.2.1) (by decide) (q := (RX11, TX11, 39)) rfl rfl rfl rfl (Nat.le_of_ble_eq_true rfl) dL_law_982 ?_
  refine lj_pop (pc := 985) dL_law_985 rfl ?_
  refine lj_goto (pc := 986) (tgt := 1315) dL_law_986 rfl ?_
  exact hloop _ hI2
theorem lc_23 {E : LEn} {w : Wd} {I : Nat → Mem → Prop} (hX : LX E w ∧ True) (ok : Lw_23 I) {k c0 : Nat} (hc : c0 < 520) (hk : k + 6 ≤ eL E) (hloop : ∀ τ, I (c0 + 1) τ → LJ E w τ [(0, .ref (eb E)), (1, .ref (adr w 0)), (2, .ref (adr w 306)), (3, .int (Int32.ofNat k))] [] 1315) {σ : Mem} (hI : I c0 σ) : LJ E w σ [(0, .ref (eb E)), (1, .ref (adr w 0)), (2, .ref (adr w 306)), (3, .int (Int32.ofNat k))] [] 989 := by
  obtain ⟨r1, r2, σ1, σ2, e1, e2, hI2⟩ := ok c0 σ (exs E (k + 1)) (exs E (k + 2)) hc hI
  refine lj_aload1 (pc := 989) dL_law_989 ?_
  refine lj_arg (pc := 990) 1 hk (by decide) dL_law_990 dL_law_991 dL_law_992 dL_law_993 dL_law_994 (ic_i_1) ?_
  refine lj_arg (pc := 995) 2 hk (by decide) dL_law_995 dL_law_996 dL_law_997 dL_law_998 dL_law_999 (ic_i_2) ?_
  refine lj_call hX.1 (pc := 1000) (σ1 := σ1) (r := (vI r1)) (As := [.int (exs E (k + 1)), .int (exs E (k + 2))]) (c_X10_register hX.1.2.2.2.2.2.1 _ _ e1) ok_X10_register (Nat.le_of_ble_eq_true rfl) (Nat.le_of_ble_eq_true rfl) (all3 gw_1053 gw_1054 gw_1055) (ik_0 hX.1.2.2.2.2.2.1) (by decide) (q := (RX10, TX10, 17)) rfl rfl rfl rfl (Nat.le_of_ble_eq_true rfl) dL_law_1000 ?_
  refine lj_pop (pc := 1003) dL_law_1003 rfl ?_
  refine lj_aload2 (pc := 1004) dL_law_1004 ?_
  refine lj_arg (pc := 1005) 1 hk (by decide) dL_law_1005 dL_law_1006 dL_law_1007 dL_law_1008 dL_law_1009 (ic_i_1) ?_
  refine lj_arg (pc := 1010) 2 hk (by decide) dL_law_1010 dL_law_1011 dL_law_1012 dL_law_1013 dL_law_1014 (ic_i_2) ?_
  refine lj_call hX.1 (pc := 1015) (σ1 := σ2) (r := (vI r2)) (As := [.int (exs E (k + 1)), .int (exs E (k + 2))]) (c_X11_register hX.1.2.2.2.2.2.1 hX.1.2.2.2.2.2.2.1 _ _ e2) ok_X11_register (Nat.le_of_ble_eq_true rfl) (Nat.le_of_ble_eq_true rfl) (all3 gw_1808 gw_1809 gw_1810) (ik_306 hX.1.2.2.2.2.2.1 hX.1.2.2.2.2.2.2.1) (by decide) (q := (RX11, TX11, 39)) rfl rfl rfl rfl (Nat.le_of_ble_eq_true rfl) dL_law_1015 ?_
  refine lj_pop (pc := 1018) dL_law_1018 rfl ?_
  refine lj_goto (pc := 1019) (tgt := 1315) dL_law_1019 rfl ?_
  exact hloop _ hI2
theorem lc_24 {E : LEn} {w : Wd} {I : Nat → Mem → Prop} (hX : LX E w ∧ True) (ok : Lw_24 I) {k c0 : Nat} (hc : c0 < 520) (hk : k + 6 ≤ eL E) (hloop : ∀ τ, I (c0 + 1) τ → LJ E w τ [(0, .ref (eb E)), (1, .ref (adr w 0)), (2, .ref (adr w 306)), (3, .int (Int32.ofNat k))] [] 1315) {σ : Mem} (hI : I c0 σ) : LJ E w σ [(0, .ref (eb E)), (1, .ref (adr w 0)), (2, .ref (adr w 306)), (3, .int (Int32.ofNat k))] [] 1022 := by
  obtain ⟨r1, r2, σ1, σ2, e1, e2, hI2⟩ := ok c0 σ (exs E (k + 1)) (exs E (k + 2)) (exs E (k + 3)) hc hI
  refine lj_aload1 (pc := 1022) dL_law_1022 ?_
  refine lj_arg (pc := 1023) 1 hk (by decide) dL_law_1023 dL_law_1024 dL_law_1025 dL_law_1026 dL_law_1027 (ic_i_1) ?_
  refine lj_arg (pc := 1028) 2 hk (by decide) dL_law_1028 dL_law_1029 dL_law_1030 dL_law_1031 dL_law_1032 (ic_i_2) ?_
  refine lj_arg (pc := 1033) 3 hk (by decide) dL_law_1033 dL_law_1034 dL_law_1035 dL_law_1036 dL_law_1037 (ic_i_3) ?_
  refine lj_call hX.1 (pc := 1038) (σ1 := σ1) (r := (vI r1)) (As := [.int (exs E (k + 1)), .int (exs E (k + 2)), .int (exs E (k + 3))]) (c_X10_both hX.1.2.2.2.2.2.1 _ _ e1) ok_X10_both (Nat.le_of_ble_eq_true rfl) (Nat.le_of_ble_eq_true rfl) (all3 gw_1172 gw_1173 gw_1174) (ik_0 hX.1.2.2.2.2.2.1) (by decide) (q := (RX10, TX10, 17)) rfl rfl rfl rfl (Nat.le_of_ble_eq_true rfl) dL_law_1038 ?_
  refine lj_pop (pc := 1041) dL_law_1041 rfl ?_
  refine lj_aload2 (pc := 1042) dL_law_1042 ?_
  refine lj_arg (pc := 1043) 1 hk (by decide) dL_law_1043 dL_law_1044 dL_law_1045 dL_law_1046 dL_law_1047 (ic_i_1) ?_
  refine lj_arg (pc := 1048) 2 hk (by decide) dL_law_1048 dL_law_1049 dL_law_1050 dL_law_1051 dL_law_1052 (ic_i_2) ?_
  refine lj_arg (pc := 1053) 3 hk (by decide) dL_law_1053 dL_law_1054 dL_law_1055 dL_law_1056 dL_law_1057 (ic_i_3) ?_
  refine lj_call hX.1 (pc := 1058) (σ1 := σ2) (r := (vI r2)) (As := [.int (exs E (k + 1)), .int (exs E (k + 2)), .int (exs E (k + 3))]) (c_X11_both hX.1.2.2.2.2.2.1 hX.1.2.2.2.2.2.2.1 _ _ e2) ok_X11_both (Nat.le_of_ble_eq_true rfl) (Nat.le_of_ble_eq_true rfl) (all3 gw_1864 gw_1865 gw_1866) (ik_306 hX.1.2.2.2.2.2.1 hX.1.2.2.2.2.2.2.1) (by decide) (q := (RX11, TX11, 39)) rfl rfl rfl rfl (Nat.le_of_ble_eq_true rfl) dL_law_1058 ?_
  refine lj_pop (pc := 1061) dL_law_1061 rfl ?_
  refine lj_goto (pc := 1062) (tgt := 1315) dL_law_1062 rfl ?_
  exact hloop _ hI2
theorem lc_25 {E : LEn} {w : Wd} {I : Nat → Mem → Prop} (hX : LX E w ∧ True) (ok : Lw_25 I) {k c0 : Nat} (hc : c0 < 520) (hk : k + 6 ≤ eL E) (hloop : ∀ τ, I (c0 + 1) τ → LJ E w τ [(0, .ref (eb E)), (1, .ref (adr w 0)), (2, .ref (adr w 306)), (3, .int (Int32.ofNat k))] [] 1315) {σ : Mem} (hI : I c0 σ) : LJ E w σ [(0, .ref (eb E)), (1, .ref (adr w 0)), (2, .ref (adr w 306)), (3, .int (Int32.ofNat k))] [] 1065 := by
  obtain ⟨r1, r2, σ1, σ2, e1, e2, hI2⟩ := ok c0 σ (exs E (k + 1)) (exs E (k + 2)) hc hI
  refine lj_aload1 (pc := 1065) dL_law_1065 ?_
  refine lj_arg (pc := 1066) 1 hk (by decide) dL_law_1066 dL_law_1067 dL_law_1068 dL_law_1069 dL_law_1070 (ic_i_1) ?_
  refine lj_arg (pc := 1071) 2 hk (by decide) dL_law_1071 dL_law_1072 dL_law_1073 dL_law_1074 dL_law_1075 (ic_i_2) ?_
  refine lj_call hX.1 (pc := 1076) (σ1 := σ1) (r := (vI r1)) (As := [.int (exs E (k + 1)), .int (exs E (k + 2))]) (c_X10_alike hX.1.2.2.2.2.2.1 _ _ e1) ok_X10_alike (Nat.le_of_ble_eq_true rfl) (Nat.le_of_ble_eq_true rfl) (all3 gw_1180 gw_1181 gw_1182) (ik_0 hX.1.2.2.2.2.2.1) (by decide) (q := (RX10, TX10, 17)) rfl rfl rfl rfl (Nat.le_of_ble_eq_true rfl) dL_law_1076 ?_
  refine lj_pop (pc := 1079) dL_law_1079 rfl ?_
  refine lj_aload2 (pc := 1080) dL_law_1080 ?_
  refine lj_arg (pc := 1081) 1 hk (by decide) dL_law_1081 dL_law_1082 dL_law_1083 dL_law_1084 dL_law_1085 (ic_i_1) ?_
  refine lj_arg (pc := 1086) 2 hk (by decide) dL_law_1086 dL_law_1087 dL_law_1088 dL_law_1089 dL_law_1090 (ic_i_2) ?_
  refine lj_call hX.1 (pc := 1091) (σ1 := σ2) (r := (vI r2)) (As := [.int (exs E (k + 1)), .int (exs E (k + 2))]) (c_X11_alike hX.1.2.2.2.2.2.1 hX.1.2.2.2.2.2.2.1 _ _ e2) ok_X11_alike (Nat.le_of_ble_eq_true rfl) (Nat.le_of_ble_eq_true rfl) (all3 gw_1872 gw_1873 gw_1874) (ik_306 hX.1.2.2.2.2.2.1 hX.1.2.2.2.2.2.2.1) (by decide) (q := (RX11, TX11, 39)) rfl rfl rfl rfl (Nat.le_of_ble_eq_true rfl) dL_law_1091 ?_
  refine lj_pop (pc := 1094) dL_law_1094 rfl ?_
  refine lj_goto (pc := 1095) (tgt := 1315) dL_law_1095 rfl ?_
  exact hloop _ hI2
theorem lc_26 {E : LEn} {w : Wd} {I : Nat → Mem → Prop} (hX : LX E w ∧ True) (ok : Lw_26 I) {k c0 : Nat} (hc : c0 < 520) (hk : k + 6 ≤ eL E) (hloop : ∀ τ, I (c0 + 1) τ → LJ E w τ [(0, .ref (eb E)), (1, .ref (adr w 0)), (2, .ref (adr w 306)), (3, .int (Int32.ofNat k))] [] 1315) {σ : Mem} (hI : I c0 σ) : LJ E w σ [(0, .ref (eb E)), (1, .ref (adr w 0)), (2, .ref (adr w 306)), (3, .int (Int32.ofNat k))] [] 1098 := by
  obtain ⟨r1, r2, σ2, e1, e2, hI2⟩ := ok c0 σ (exs E (k + 1)) (exs E (k + 2)) hc hI
  refine lj_aload1 (pc := 1098) dL_law_1098 ?_
  refine lj_arg (pc := 1099) 1 hk (by decide) dL_law_1099 dL_law_1100 dL_law_1101 dL_law_1102 dL_law_1103 (ic_i_1) ?_
  refine lj_arg (pc := 1104) 2 hk (by decide) dL_law_1104 dL_law_1105 dL_law_1106 dL_law_1107 dL_law_1108 (ic_i_2) ?_
  refine lj_call hX.1 (pc := 1109) (σ1 := σ) (r := (vI r1)) (As := [.int (exs E (k + 1)), .int (exs E (k + 2))]) (c_X10_shape hX.1.2.2.2.2.2.1 _ e1) ok_X10_shape (Nat.le_of_ble_eq_true rfl) (Nat.le_of_ble_eq_true rfl) (all3 gw_775 gw_776 gw_777) (ik_0 hX.1.2.2.2.2.2.1) (by decide) (q := (RX10, TX10, 17)) rfl rfl rfl rfl (Nat.le_of_ble_eq_true rfl) dL_law_1109 ?_
  refine lj_pop (pc := 1112) dL_law_1112 rfl ?_
  refine lj_aload2 (pc := 1113) dL_law_1113 ?_
  refine lj_arg (pc := 1114) 1 hk (by decide) dL_law_1114 dL_law_1115 dL_law_1116 dL_law_1117 dL_law_1118 (ic_i_1) ?_
  refine lj_arg (pc := 1119) 2 hk (by decide) dL_law_1119 dL_law_1120 dL_law_1121 dL_law_1122 dL_law_1123 (ic_i_2) ?_
  refine lj_call hX.1 (pc := 1124) (σ1 := σ2) (r := (vI r2)) (As := [.int (exs E (k + 1)), .int (exs E (k + 2))]) (c_X11_shape hX.1.2.2.2.2.2.1 hX.1.2.2.2.2.2.2.1 _ _ e2) ok_X11_shape (Nat.le_of_ble_eq_true rfl) (Nat.le_of_ble_eq_true rfl) (all3 gw_1774 gw_1775 gw_1776) (ik_306 hX.1.2.2.2.2.2.1 hX.1.2.2.2.2.2.2.1) (by decide) (q := (RX11, TX11, 39)) rfl rfl rfl rfl (Nat.le_of_ble_eq_true rfl) dL_law_1124 ?_
  refine lj_pop (pc := 1127) dL_law_1127 rfl ?_
  refine lj_goto (pc := 1128) (tgt := 1315) dL_law_1128 rfl ?_
  exact hloop _ hI2
theorem lc_27 {E : LEn} {w : Wd} {I : Nat → Mem → Prop} (hX : LX E w ∧ True) (ok : Lw_27 I) {k c0 : Nat} (hc : c0 < 520) (hk : k + 6 ≤ eL E) (hloop : ∀ τ, I (c0 + 1) τ → LJ E w τ [(0, .ref (eb E)), (1, .ref (adr w 0)), (2, .ref (adr w 306)), (3, .int (Int32.ofNat k))] [] 1315) {σ : Mem} (hI : I c0 σ) : LJ E w σ [(0, .ref (eb E)), (1, .ref (adr w 0)), (2, .ref (adr w 306)), (3, .int (Int32.ofNat k))] [] 1131 := by
  obtain ⟨r1, r2, σ1, σ2, e1, e2, hI2⟩ := ok c0 σ (exs E (k + 1)) (exs E (k + 2)) (exs E (k + 3)) hc hI
  refine lj_aload1 (pc := 1131) dL_law_1131 ?_
  refine lj_arg (pc := 1132) 1 hk (by decide) dL_law_1132 dL_law_1133 dL_law_1134 dL_law_1135 dL_law_1136 (ic_i_1) ?_
  refine lj_arg (pc := 1137) 2 hk (by decide) dL_law_1137 dL_law_1138 dL_law_1139 dL_law_1140 dL_law_1141 (ic_i_2) ?_
  refine lj_arg (pc := 1142) 3 hk (by decide) dL_law_1142 dL_law_1143 dL_law_1144 dL_law_1145 dL_law_1146 (ic_i_3) ?_
  refine lj_call hX.1 (pc := 1147) (σ1 := σ1) (r := (vL r1)) (As := [.int (exs E (k + 1)), .int (exs E (k + 2)), .int (exs E (k + 3))]) (c_X10_powers hX.1.2.2.2.2.2.1 _ _ e1) ok_X10_powers (Nat.le_of_ble_eq_true rfl) (Nat.le_of_ble_eq_true rfl) (all3 gw_1221 gw_1222 gw_1223) (ik_0 hX.1.2.2.2.2.2.1) (by decide) (q := (RX10, TX10, 17)) rfl rfl rfl rfl (Nat.le_of_ble_eq_true rfl) dL_law_1147 ?_
  refine lj_pop2 (pc := 1150) dL_law_1150 rfl ?_
  refine lj_aload2 (pc := 1151) dL_law_1151 ?_
  refine lj_arg (pc := 1152) 1 hk (by decide) dL_law_1152 dL_law_1153 dL_law_1154 dL_law_1155 dL_law_1156 (ic_i_1) ?_
  refine lj_arg (pc := 1157) 2 hk (by decide) dL_law_1157 dL_law_1158 dL_law_1159 dL_law_1160 dL_law_1161 (ic_i_2) ?_
  refine lj_arg (pc := 1162) 3 hk (by decide) dL_law_1162 dL_law_1163 dL_law_1164 dL_law_1165 dL_law_1166 (ic_i_3) ?_
  refine lj_call hX.1 (pc := 1167) (σ1 := σ2) (r := (vL r2)) (As := [.int (exs E (k + 1)), .int (exs E (k + 2)), .int (exs E (k + 3))]) (c_X11_powers hX.1.2.2.2.2.2.1 hX.1.2.2.2.2.2.2.1 _ _ e2) ok_X11_powers (Nat.le_of_ble_eq_true rfl) (Nat.le_of_ble_eq_true rfl) (all3 gw_1902 gw_1903 gw_1904) (ik_306 hX.1.2.2.2.2.2.1 hX.1.2.2.2.2.2.2.1) (by decide) (q := (RX11, TX11, 39)) rfl rfl rfl rfl (Nat.le_of_ble_eq_true rfl) dL_law_1167 ?_
  refine lj_pop2 (pc := 1170) dL_law_1170 rfl ?_
  refine lj_goto (pc := 1171) (tgt := 1315) dL_law_1171 rfl ?_
  exact hloop _ hI2
theorem lc_28 {E : LEn} {w : Wd} {I : Nat → Mem → Prop} (hX : LX E w ∧ True) (ok : Lw_28 I) {k c0 : Nat} (hc : c0 < 520) (hk : k + 6 ≤ eL E) (hloop : ∀ τ, I (c0 + 1) τ → LJ E w τ [(0, .ref (eb E)), (1, .ref (adr w 0)), (2, .ref (adr w 306)), (3, .int (Int32.ofNat k))] [] 1315) {σ : Mem} (hI : I c0 σ) : LJ E w σ [(0, .ref (eb E)), (1, .ref (adr w 0)), (2, .ref (adr w 306)), (3, .int (Int32.ofNat k))] [] 1174 := by
  obtain ⟨r1, r2, σ1, σ2, e1, e2, hI2⟩ := ok c0 σ (exs E (k + 1)) (exs E (k + 2)) (exs E (k + 3)) hc hI
  refine lj_aload1 (pc := 1174) dL_law_1174 ?_
  refine lj_arg (pc := 1175) 1 hk (by decide) dL_law_1175 dL_law_1176 dL_law_1177 dL_law_1178 dL_law_1179 (ic_i_1) ?_
  refine lj_arg (pc := 1180) 2 hk (by decide) dL_law_1180 dL_law_1181 dL_law_1182 dL_law_1183 dL_law_1184 (ic_i_2) ?_
  refine lj_arg (pc := 1185) 3 hk (by decide) dL_law_1185 dL_law_1186 dL_law_1187 dL_law_1188 dL_law_1189 (ic_i_3) ?_
  refine lj_call hX.1 (pc := 1190) (σ1 := σ1) (r := (vI r1)) (As := [.int (exs E (k + 1)), .int (exs E (k + 2)), .int (exs E (k + 3))]) (c_X10_associates hX.1.2.2.2.2.2.1 _ _ e1) ok_X10_associates (Nat.le_of_ble_eq_true rfl) (Nat.le_of_ble_eq_true rfl) (all3 gw_1228 gw_1229 gw_1230) (ik_0 hX.1.2.2.2.2.2.1) (by decide) (q := (RX10, TX10, 17)) rfl rfl rfl rfl (Nat.le_of_ble_eq_true rfl) dL_law_1190 ?_
  refine lj_pop (pc := 1193) dL_law_1193 rfl ?_
  refine lj_aload2 (pc := 1194) dL_law_1194 ?_
  refine lj_arg (pc := 1195) 1 hk (by decide) dL_law_1195 dL_law_1196 dL_law_1197 dL_law_1198 dL_law_1199 (ic_i_1) ?_
  refine lj_arg (pc := 1200) 2 hk (by decide) dL_law_1200 dL_law_1201 dL_law_1202 dL_law_1203 dL_law_1204 (ic_i_2) ?_
  refine lj_arg (pc := 1205) 3 hk (by decide) dL_law_1205 dL_law_1206 dL_law_1207 dL_law_1208 dL_law_1209 (ic_i_3) ?_
  refine lj_call hX.1 (pc := 1210) (σ1 := σ2) (r := (vI r2)) (As := [.int (exs E (k + 1)), .int (exs E (k + 2)), .int (exs E (k + 3))]) (c_X11_associates hX.1.2.2.2.2.2.1 hX.1.2.2.2.2.2.2.1 _ _ e2) ok_X11_associates (Nat.le_of_ble_eq_true rfl) (Nat.le_of_ble_eq_true rfl) (all3 gw_1907 gw_1908 gw_1909) (ik_306 hX.1.2.2.2.2.2.1 hX.1.2.2.2.2.2.2.1) (by decide) (q := (RX11, TX11, 39)) rfl rfl rfl rfl (Nat.le_of_ble_eq_true rfl) dL_law_1210 ?_
  refine lj_pop (pc := 1213) dL_law_1213 rfl ?_
  refine lj_goto (pc := 1214) (tgt := 1315) dL_law_1214 rfl ?_
  exact hloop _ hI2
theorem lc_29 {E : LEn} {w : Wd} {I : Nat → Mem → Prop} (hX : LX E w ∧ True) (ok : Lw_29 I) {k c0 : Nat} (hc : c0 < 520) (hk : k + 6 ≤ eL E) (hloop : ∀ τ, I (c0 + 1) τ → LJ E w τ [(0, .ref (eb E)), (1, .ref (adr w 0)), (2, .ref (adr w 306)), (3, .int (Int32.ofNat k))] [] 1315) {σ : Mem} (hI : I c0 σ) : LJ E w σ [(0, .ref (eb E)), (1, .ref (adr w 0)), (2, .ref (adr w 306)), (3, .int (Int32.ofNat k))] [] 1217 := by
  obtain ⟨r1, r2, σ1, σ2, e1, e2, hI2⟩ := ok c0 σ (exs E (k + 1)) hc hI
  refine lj_aload1 (pc := 1217) dL_law_1217 ?_
  refine lj_arg (pc := 1218) 1 hk (by decide) dL_law_1218 dL_law_1219 dL_law_1220 dL_law_1221 dL_law_1222 (ic_i_1) ?_
  refine lj_call hX.1 (pc := 1223) (σ1 := σ1) (r := (vI r1)) (As := [.int (exs E (k + 1))]) (c_X10_ball hX.1.2.2.2.2.2.1 _ _ e1) ok_X10_ball (Nat.le_of_ble_eq_true rfl) (Nat.le_of_ble_eq_true rfl) (all3 gw_1232 gw_1233 gw_1234) (ik_0 hX.1.2.2.2.2.2.1) (by decide) (q := (RX10, TX10, 17)) rfl rfl rfl rfl (Nat.le_of_ble_eq_true rfl) dL_law_1223 ?_
  refine lj_pop (pc := 1226) dL_law_1226 rfl ?_
  refine lj_aload2 (pc := 1227) dL_law_1227 ?_
  refine lj_arg (pc := 1228) 1 hk (by decide) dL_law_1228 dL_law_1229 dL_law_1230 dL_law_1231 dL_law_1232 (ic_i_1) ?_
  refine lj_call hX.1 (pc := 1233) (σ1 := σ2) (r := (vI r2)) (As := [.int (exs E (k + 1))]) (c_X11_ball hX.1.2.2.2.2.2.1 hX.1.2.2.2.2.2.2.1 _ _ e2) ok_X11_ball (Nat.le_of_ble_eq_true rfl) (Nat.le_of_ble_eq_true rfl) (all3 gw_1791 gw_1792 gw_1793) (ik_306 hX.1.2.2.2.2.2.1 hX.1.2.2.2.2.2.2.1) (by decide) (q := (RX11, TX11, 39)) rfl rfl rfl rfl (Nat.le_of_ble_eq_true rfl) dL_law_1233 ?_
  refine lj_pop (pc := 1236) dL_law_1236 rfl ?_
  refine lj_goto (pc := 1237) (tgt := 1315) dL_law_1237 rfl ?_
  exact hloop _ hI2
theorem lc_30 {E : LEn} {w : Wd} {I : Nat → Mem → Prop} (hX : LX E w ∧ True) (ok : Lw_30 I) {k c0 : Nat} (hc : c0 < 520) (hk : k + 6 ≤ eL E) (hloop : ∀ τ, I (c0 + 1) τ → LJ E w τ [(0, .ref (eb E)), (1, .ref (adr w 0)), (2, .ref (adr w 306)), (3, .int (Int32.ofNat k))] [] 1315) {σ : Mem} (hI : I c0 σ) : LJ E w σ [(0, .ref (eb E)), (1, .ref (adr w 0)), (2, .ref (adr w 306)), (3, .int (Int32.ofNat k))] [] 1240 := by
  obtain ⟨r1, r2, σ1, σ2, e1, e2, hI2⟩ := ok c0 σ hc hI
  refine lj_aload1 (pc := 1240) dL_law_1240 ?_
  refine lj_call hX.1 (pc := 1241) (σ1 := σ1) (r := (vI r1)) (As := []) (c_X10_undo hX.1.2.2.2.2.2.1 _ _ e1) ok_X10_undo (Nat.le_of_ble_eq_true rfl) (Nat.le_of_ble_eq_true rfl) (all3 gw_1240 gw_1241 gw_1242) (ik_0 hX.1.2.2.2.2.2.1) (by decide) (q := (RX10, TX10, 17)) rfl rfl rfl rfl (Nat.le_of_ble_eq_true rfl) dL_law_1241 ?_
  refine lj_pop (pc := 1244) dL_law_1244 rfl ?_
  refine lj_aload2 (pc := 1245) dL_law_1245 ?_
  refine lj_call hX.1 (pc := 1246) (σ1 := σ2) (r := (vI r2)) (As := []) (c_X11_undo hX.1.2.2.2.2.2.1 hX.1.2.2.2.2.2.2.1 _ _ e2) ok_X11_undo (Nat.le_of_ble_eq_true rfl) (Nat.le_of_ble_eq_true rfl) (all3 gw_1411 gw_1412 gw_1413) (ik_306 hX.1.2.2.2.2.2.1 hX.1.2.2.2.2.2.2.1) (by decide) (q := (RX11, TX11, 39)) rfl rfl rfl rfl (Nat.le_of_ble_eq_true rfl) dL_law_1246 ?_
  refine lj_pop (pc := 1249) dL_law_1249 rfl ?_
  refine lj_goto (pc := 1250) (tgt := 1315) dL_law_1250 rfl ?_
  exact hloop _ hI2
theorem lc_31 {E : LEn} {w : Wd} {I : Nat → Mem → Prop} (hX : LX E w ∧ True) (ok : Lw_31 I) {k c0 : Nat} (hc : c0 < 520) (hk : k + 6 ≤ eL E) (hloop : ∀ τ, I (c0 + 1) τ → LJ E w τ [(0, .ref (eb E)), (1, .ref (adr w 0)), (2, .ref (adr w 306)), (3, .int (Int32.ofNat k))] [] 1315) {σ : Mem} (hI : I c0 σ) : LJ E w σ [(0, .ref (eb E)), (1, .ref (adr w 0)), (2, .ref (adr w 306)), (3, .int (Int32.ofNat k))] [] 1253 := by
  obtain ⟨r1, r2, σ1, σ2, e1, e2, hI2⟩ := ok c0 σ (decide (exs E (k + 1) ≠ 0)) hc hI
  refine lj_aload1 (pc := 1253) dL_law_1253 ?_
  refine lj_arg (pc := 1254) 1 hk (by decide) dL_law_1254 dL_law_1255 dL_law_1256 dL_law_1257 dL_law_1258 (ic_i_1) ?_
  refine lj_nz (pc := 1259) (t := 1266) (a1 := 1262) (l2 := 1267) dL_law_1259 rfl rfl dL_law_1262 dL_law_1263 rfl dL_law_1266 rfl ?_
  refine lj_call hX.1 (pc := 1267) (σ1 := σ1) (r := (vB r1)) (As := [.int (b2i (decide (exs E (k + 1) ≠ 0)))]) (c_X10_image hX.1.2.2.2.2.2.1 _ _ e1) ok_X10_image (Nat.le_of_ble_eq_true rfl) (Nat.le_of_ble_eq_true rfl) (all3 gw_1244 gw_1245 gw_1246) (ik_0 hX.1.2.2.2.2.2.1) (by decide) (q := (RX10, TX10, 17)) rfl rfl rfl rfl (Nat.le_of_ble_eq_true rfl) dL_law_1267 ?_
  refine lj_pop (pc := 1270) dL_law_1270 rfl ?_
  refine lj_aload2 (pc := 1271) dL_law_1271 ?_
  refine lj_arg (pc := 1272) 1 hk (by decide) dL_law_1272 dL_law_1273 dL_law_1274 dL_law_1275 dL_law_1276 (ic_i_1) ?_
  refine lj_nz (pc := 1277) (t := 1284) (a1 := 1280) (l2 := 1285) dL_law_1277 rfl rfl dL_law_1280 dL_law_1281 rfl dL_law_1284 rfl ?_
  refine lj_call hX.1 (pc := 1285) (σ1 := σ2) (r := (vB r2)) (As := [.int (b2i (decide (exs E (k + 1) ≠ 0)))]) (c_X11_image hX.1.2.2.2.2.2.1 hX.1.2.2.2.2.2.2.1 _ _ e2) ok_X11_image (Nat.le_of_ble_eq_true rfl) (Nat.le_of_ble_eq_true rfl) (all3 gw_1911 gw_1912 gw_1913) (ik_306 hX.1.2.2.2.2.2.1 hX.1.2.2.2.2.2.2.1) (by decide) (q := (RX11, TX11, 39)) rfl rfl rfl rfl (Nat.le_of_ble_eq_true rfl) dL_law_1285 ?_
  refine lj_pop (pc := 1288) dL_law_1288 rfl ?_
  refine lj_goto (pc := 1289) (tgt := 1315) dL_law_1289 rfl ?_
  exact hloop _ hI2
theorem lc_32 {E : LEn} {w : Wd} {I : Nat → Mem → Prop} (hX : LX E w ∧ True) (ok : Lw_32 I) {k c0 : Nat} (hc : c0 < 520) (hk : k + 6 ≤ eL E) (hloop : ∀ τ, I (c0 + 1) τ → LJ E w τ [(0, .ref (eb E)), (1, .ref (adr w 0)), (2, .ref (adr w 306)), (3, .int (Int32.ofNat k))] [] 1315) {σ : Mem} (hI : I c0 σ) : LJ E w σ [(0, .ref (eb E)), (1, .ref (adr w 0)), (2, .ref (adr w 306)), (3, .int (Int32.ofNat k))] [] 1292 := by
  obtain ⟨r, σ2, e1, e2, hI2⟩ := ok c0 σ (exs E (k + 1)) hc hI
  refine lj_aload1 (pc := 1292) dL_law_1292 ?_
  refine lj_arg (pc := 1293) 1 hk (by decide) dL_law_1293 dL_law_1294 dL_law_1295 dL_law_1296 dL_law_1297 (ic_i_1) ?_
  refine lj_call hX.1 (pc := 1298) (σ1 := σ) (r := (vI r)) (As := [.int (exs E (k + 1))]) (c_X10_look hX.1.2.2.2.2.2.1 _ e1) ok_X10_look (Nat.le_of_ble_eq_true rfl) (Nat.le_of_ble_eq_true rfl) (all3 gw_1254 gw_1255 gw_1256) (ik_0 hX.1.2.2.2.2.2.1) (by decide) (q := (RX10, TX10, 17)) rfl rfl rfl rfl (Nat.le_of_ble_eq_true rfl) dL_law_1298 ?_
  refine lj_aload2 (pc := 1301) dL_law_1301 ?_
  refine lj_arg (pc := 1302) 1 hk (by decide) dL_law_1302 dL_law_1303 dL_law_1304 dL_law_1305 dL_law_1306 (ic_i_1) ?_
  refine lj_call hX.1 (pc := 1307) (σ1 := σ2) (r := (vI r)) (As := [.int (exs E (k + 1))]) (c_X11_look hX.1.2.2.2.2.2.1 hX.1.2.2.2.2.2.2.1 _ _ e2) ok_X11_look (Nat.le_of_ble_eq_true rfl) (Nat.le_of_ble_eq_true rfl) (all3 gw_1915 gw_1916 gw_1917) (ik_306 hX.1.2.2.2.2.2.1 hX.1.2.2.2.2.2.2.1) (by decide) (q := (RX11, TX11, 39)) rfl rfl rfl rfl (Nat.le_of_ble_eq_true rfl) dL_law_1307 ?_
  refine lj_eq (pc := 1310) (tgt := 1315) dL_law_1310 rfl ?_
  exact hloop _ hI2
theorem law_loop {E : LEn} {w : Wd} {I : Nat → Mem → Prop} (hX : LX E w ∧ True) (ok : LawOK I) (up : ∀ c σ, I c σ → I (c + 1) σ) : ∀ (N k c0 : Nat) (σ : Mem), k = 6 * c0 → eL E < N + k → k ≤ eL E + 6 → I c0 σ → LJ E w σ [(0, .ref (eb E)), (1, .ref (adr w 0)), (2, .ref (adr w 306)), (3, .int (Int32.ofNat k))] [] 18 := by
  have hL3 : eL E ≤ 3072 := hX.1.2.2.2.2.2.2.2
  intro N
  induction N with
  | zero =>
    intro k c0 σ hkc h1 h2 hI
    refine lj_head_out (pc := 18) hX.1 (by omega) (by omega) dL_law_18 dL_law_19 dL_law_20 dL_law_21 (ic_b_6) dL_law_23 dL_law_24 (tgt := 1321) rfl ?_
    exact lj_end hX.1 (pc := 1321) dL_law_1321 (ic_i_1) dL_law_1322
  | succ N ih =>
    intro k c0 σ hkc h1 h2 hI
    by_cases hk : k + 6 ≤ eL E
    · refine lj_head_in (pc := 18) hX.1 hk dL_law_18 dL_law_19 dL_law_20 dL_law_21 (ic_b_6) dL_law_23 dL_law_24 (tgt := 1321) rfl ?_
      have hc : c0 < 520 := by have := hX.2; omega
      have hloop : ∀ τ, I (c0 + 1) τ → LJ E w τ [(0, .ref (eb E)), (1, .ref (adr w 0)), (2, .ref (adr w 306)), (3, .int (Int32.ofNat k))] [] 1315 := fun τ hτ => lj_inc (pc := 1315) hX.1 hk dL_law_1315 dL_law_1318 (tgt := 18) rfl (ih (k + 6) (c0 + 1) τ (by omega) (by omega) (by omega) hτ)
      refine lj_op (pc := 27) hX.1 hk dL_law_27 dL_law_28 dL_law_29 dL_law_30 (ic_b_63) dL_law_32 ?_
      generalize (exs E k &&& 63) = x
      by_cases h0 : x = 0
      · exact lj_tsHit hX.1 (pc := 33) dL_law_33 h0 (by decide) (by decide) (off := 147) (by rfl) (tgt := 180) rfl (lc_0 hX ok.1 hc hk hloop hI)
      by_cases h1 : x = 1
      · exact lj_tsHit hX.1 (pc := 33) dL_law_33 h1 (by decide) (by decide) (off := 180) (by rfl) (tgt := 213) rfl (lc_1 hX ok.2.1 hc hk hloop hI)
      by_cases h2 : x = 2
      · exact lj_tsHit hX.1 (pc := 33) dL_law_33 h2 (by decide) (by decide) (off := 233) (by rfl) (tgt := 266) rfl (lc_2 hX ok.2.2.1 hc hk hloop hI)
      by_cases h3 : x = 3
      · exact lj_tsHit hX.1 (pc := 33) dL_law_33 h3 (by decide) (by decide) (off := 256) (by rfl) (tgt := 289) rfl (lc_3 hX ok.2.2.2.1 hc hk hloop hI)
      by_cases h4 : x = 4
      · exact lj_tsHit hX.1 (pc := 33) dL_law_33 h4 (by decide) (by decide) (off := 299) (by rfl) (tgt := 332) rfl (lc_4 hX ok.2.2.2.2.1 hc hk hloop hI)
      by_cases h5 : x = 5
      · exact lj_tsHit hX.1 (pc := 33) dL_law_33 h5 (by decide) (by decide) (off := 342) (by rfl) (tgt := 375) rfl (lc_5 hX ok.2.2.2.2.2.1 hc hk hloop hI)
      by_cases h6 : x = 6
      · exact lj_tsHit hX.1 (pc := 33) dL_law_33 h6 (by decide) (by decide) (off := 375) (by rfl) (tgt := 408) rfl (lc_6 hX ok.2.2.2.2.2.2.1 hc hk hloop hI)
      by_cases h7 : x = 7
      · exact lj_tsHit hX.1 (pc := 33) dL_law_33 h7 (by decide) (by decide) (off := 418) (by rfl) (tgt := 451) rfl (lc_7 hX ok.2.2.2.2.2.2.2.1 hc hk hloop hI)
      by_cases h8 : x = 8
      · exact lj_tsHit hX.1 (pc := 33) dL_law_33 h8 (by decide) (by decide) (off := 461) (by rfl) (tgt := 494) rfl (lc_8 hX ok.2.2.2.2.2.2.2.2.1 hc hk hloop hI)
      by_cases h9 : x = 9
      · exact lj_tsHit hX.1 (pc := 33) dL_law_33 h9 (by decide) (by decide) (off := 504) (by rfl) (tgt := 537) rfl (lc_9 hX ok.2.2.2.2.2.2.2.2.2.1 hc hk hloop hI)
      by_cases h10 : x = 10
      · exact lj_tsHit hX.1 (pc := 33) dL_law_33 h10 (by decide) (by decide) (off := 547) (by rfl) (tgt := 580) rfl (lc_10 hX ok.2.2.2.2.2.2.2.2.2.2.1 hc hk hloop hI)
      by_cases h11 : x = 11
      · exact lj_tsHit hX.1 (pc := 33) dL_law_33 h11 (by decide) (by decide) (off := 600) (by rfl) (tgt := 633) rfl (lc_11 hX ok.2.2.2.2.2.2.2.2.2.2.2.1 hc hk hloop hI)
      by_cases h12 : x = 12
      · exact lj_tsHit hX.1 (pc := 33) dL_law_33 h12 (by decide) (by decide) (off := 663) (by rfl) (tgt := 696) rfl (lc_12 hX ok.2.2.2.2.2.2.2.2.2.2.2.2.1 hc hk hloop hI)
      by_cases h13 : x = 13
      · exact lj_tsHit hX.1 (pc := 33) dL_law_33 h13 (by decide) (by decide) (off := 686) (by rfl) (tgt := 719) rfl (lc_13 hX ok.2.2.2.2.2.2.2.2.2.2.2.2.2.1 hc hk hloop hI)
      by_cases h14 : x = 14
      · exact lj_tsHit hX.1 (pc := 33) dL_law_33 h14 (by decide) (by decide) (off := 709) (by rfl) (tgt := 742) rfl (lc_14 hX ok.2.2.2.2.2.2.2.2.2.2.2.2.2.2.1 hc hk hloop hI)
      by_cases h15 : x = 15
      · exact lj_tsHit hX.1 (pc := 33) dL_law_33 h15 (by decide) (by decide) (off := 732) (by rfl) (tgt := 765) rfl (lc_15 hX ok.2.2.2.2.2.2.2.2.2.2.2.2.2.2.2.1 hc hk hloop hI)
      by_cases h16 : x = 16
      · exact lj_tsHit hX.1 (pc := 33) dL_law_33 h16 (by decide) (by decide) (off := 745) (by rfl) (tgt := 778) rfl (lc_16 hX ok.2.2.2.2.2.2.2.2.2.2.2.2.2.2.2.2.1 hc hk hloop hI)
      by_cases h17 : x = 17
      · exact lj_tsHit hX.1 (pc := 33) dL_law_33 h17 (by decide) (by decide) (off := 768) (by rfl) (tgt := 801) rfl (lc_17 hX ok.2.2.2.2.2.2.2.2.2.2.2.2.2.2.2.2.2.1 hc hk hloop hI)
      by_cases h18 : x = 18
      · exact lj_tsHit hX.1 (pc := 33) dL_law_33 h18 (by decide) (by decide) (off := 781) (by rfl) (tgt := 814) rfl (lc_18 hX ok.2.2.2.2.2.2.2.2.2.2.2.2.2.2.2.2.2.2.1 hc hk hloop hI)
      by_cases h19 : x = 19
      · exact lj_tsHit hX.1 (pc := 33) dL_law_33 h19 (by decide) (by decide) (off := 814) (by rfl) (tgt := 847) rfl (lc_19 hX ok.2.2.2.2.2.2.2.2.2.2.2.2.2.2.2.2.2.2.2.1 hc hk hloop hI)
      by_cases h20 : x = 20
      · exact lj_tsHit hX.1 (pc := 33) dL_law_33 h20 (by decide) (by decide) (off := 847) (by rfl) (tgt := 880) rfl (lc_20 hX ok.2.2.2.2.2.2.2.2.2.2.2.2.2.2.2.2.2.2.2.2.1 hc hk hloop hI)
      by_cases h21 : x = 21
      · exact lj_tsHit hX.1 (pc := 33) dL_law_33 h21 (by decide) (by decide) (off := 890) (by rfl) (tgt := 923) rfl (lc_21 hX ok.2.2.2.2.2.2.2.2.2.2.2.2.2.2.2.2.2.2.2.2.2.1 hc hk hloop hI)
      by_cases h22 : x = 22
      · exact lj_tsHit hX.1 (pc := 33) dL_law_33 h22 (by decide) (by decide) (off := 913) (by rfl) (tgt := 946) rfl (lc_22 hX ok.2.2.2.2.2.2.2.2.2.2.2.2.2.2.2.2.2.2.2.2.2.2.1 hc hk hloop hI)
      by_cases h23 : x = 23
      · exact lj_tsHit hX.1 (pc := 33) dL_law_33 h23 (by decide) (by decide) (off := 956) (by rfl) (tgt := 989) rfl (lc_23 hX ok.2.2.2.2.2.2.2.2.2.2.2.2.2.2.2.2.2.2.2.2.2.2.2.1 hc hk hloop hI)
      by_cases h24 : x = 24
      · exact lj_tsHit hX.1 (pc := 33) dL_law_33 h24 (by decide) (by decide) (off := 989) (by rfl) (tgt := 1022) rfl (lc_24 hX ok.2.2.2.2.2.2.2.2.2.2.2.2.2.2.2.2.2.2.2.2.2.2.2.2.1 hc hk hloop hI)
      by_cases h25 : x = 25
      · exact lj_tsHit hX.1 (pc := 33) dL_law_33 h25 (by decide) (by decide) (off := 1032) (by rfl) (tgt := 1065) rfl (lc_25 hX ok.2.2.2.2.2.2.2.2.2.2.2.2.2.2.2.2.2.2.2.2.2.2.2.2.2.1 hc hk hloop hI)
      by_cases h26 : x = 26
      · exact lj_tsHit hX.1 (pc := 33) dL_law_33 h26 (by decide) (by decide) (off := 1065) (by rfl) (tgt := 1098) rfl (lc_26 hX ok.2.2.2.2.2.2.2.2.2.2.2.2.2.2.2.2.2.2.2.2.2.2.2.2.2.2.1 hc hk hloop hI)
      by_cases h27 : x = 27
      · exact lj_tsHit hX.1 (pc := 33) dL_law_33 h27 (by decide) (by decide) (off := 1098) (by rfl) (tgt := 1131) rfl (lc_27 hX ok.2.2.2.2.2.2.2.2.2.2.2.2.2.2.2.2.2.2.2.2.2.2.2.2.2.2.2.1 hc hk hloop hI)
      by_cases h28 : x = 28
      · exact lj_tsHit hX.1 (pc := 33) dL_law_33 h28 (by decide) (by decide) (off := 1141) (by rfl) (tgt := 1174) rfl (lc_28 hX ok.2.2.2.2.2.2.2.2.2.2.2.2.2.2.2.2.2.2.2.2.2.2.2.2.2.2.2.2.1 hc hk hloop hI)
      by_cases h29 : x = 29
      · exact lj_tsHit hX.1 (pc := 33) dL_law_33 h29 (by decide) (by decide) (off := 1184) (by rfl) (tgt := 1217) rfl (lc_29 hX ok.2.2.2.2.2.2.2.2.2.2.2.2.2.2.2.2.2.2.2.2.2.2.2.2.2.2.2.2.2.1 hc hk hloop hI)
      by_cases h30 : x = 30
      · exact lj_tsHit hX.1 (pc := 33) dL_law_33 h30 (by decide) (by decide) (off := 1207) (by rfl) (tgt := 1240) rfl (lc_30 hX ok.2.2.2.2.2.2.2.2.2.2.2.2.2.2.2.2.2.2.2.2.2.2.2.2.2.2.2.2.2.2.1 hc hk hloop hI)
      by_cases h31 : x = 31
      · exact lj_tsHit hX.1 (pc := 33) dL_law_33 h31 (by decide) (by decide) (off := 1220) (by rfl) (tgt := 1253) rfl (lc_31 hX ok.2.2.2.2.2.2.2.2.2.2.2.2.2.2.2.2.2.2.2.2.2.2.2.2.2.2.2.2.2.2.2.1 hc hk hloop hI)
      by_cases h32 : x = 32
      · exact lj_tsHit hX.1 (pc := 33) dL_law_33 h32 (by decide) (by decide) (off := 1259) (by rfl) (tgt := 1292) rfl (lc_32 hX ok.2.2.2.2.2.2.2.2.2.2.2.2.2.2.2.2.2.2.2.2.2.2.2.2.2.2.2.2.2.2.2.2 hc hk hloop hI)
      have q0 : x.toInt ≠ 0 := fun e => h0 (Int32.toInt_inj.mp (e.trans (by decide)))
      have q1 : x.toInt ≠ 1 := fun e => h1 (Int32.toInt_inj.mp (e.trans (by decide)))
      have q2 : x.toInt ≠ 2 := fun e => h2 (Int32.toInt_inj.mp (e.trans (by decide)))
      have q3 : x.toInt ≠ 3 := fun e => h3 (Int32.toInt_inj.mp (e.trans (by decide)))
      have q4 : x.toInt ≠ 4 := fun e => h4 (Int32.toInt_inj.mp (e.trans (by decide)))
      have q5 : x.toInt ≠ 5 := fun e => h5 (Int32.toInt_inj.mp (e.trans (by decide)))
      have q6 : x.toInt ≠ 6 := fun e => h6 (Int32.toInt_inj.mp (e.trans (by decide)))
      have q7 : x.toInt ≠ 7 := fun e => h7 (Int32.toInt_inj.mp (e.trans (by decide)))
      have q8 : x.toInt ≠ 8 := fun e => h8 (Int32.toInt_inj.mp (e.trans (by decide)))
      have q9 : x.toInt ≠ 9 := fun e => h9 (Int32.toInt_inj.mp (e.trans (by decide)))
      have q10 : x.toInt ≠ 10 := fun e => h10 (Int32.toInt_inj.mp (e.trans (by decide)))
      have q11 : x.toInt ≠ 11 := fun e => h11 (Int32.toInt_inj.mp (e.trans (by decide)))
      have q12 : x.toInt ≠ 12 := fun e => h12 (Int32.toInt_inj.mp (e.trans (by decide)))
      have q13 : x.toInt ≠ 13 := fun e => h13 (Int32.toInt_inj.mp (e.trans (by decide)))
      have q14 : x.toInt ≠ 14 := fun e => h14 (Int32.toInt_inj.mp (e.trans (by decide)))
      have q15 : x.toInt ≠ 15 := fun e => h15 (Int32.toInt_inj.mp (e.trans (by decide)))
      have q16 : x.toInt ≠ 16 := fun e => h16 (Int32.toInt_inj.mp (e.trans (by decide)))
      have q17 : x.toInt ≠ 17 := fun e => h17 (Int32.toInt_inj.mp (e.trans (by decide)))
      have q18 : x.toInt ≠ 18 := fun e => h18 (Int32.toInt_inj.mp (e.trans (by decide)))
      have q19 : x.toInt ≠ 19 := fun e => h19 (Int32.toInt_inj.mp (e.trans (by decide)))
      have q20 : x.toInt ≠ 20 := fun e => h20 (Int32.toInt_inj.mp (e.trans (by decide)))
      have q21 : x.toInt ≠ 21 := fun e => h21 (Int32.toInt_inj.mp (e.trans (by decide)))
      have q22 : x.toInt ≠ 22 := fun e => h22 (Int32.toInt_inj.mp (e.trans (by decide)))
      have q23 : x.toInt ≠ 23 := fun e => h23 (Int32.toInt_inj.mp (e.trans (by decide)))
      have q24 : x.toInt ≠ 24 := fun e => h24 (Int32.toInt_inj.mp (e.trans (by decide)))
      have q25 : x.toInt ≠ 25 := fun e => h25 (Int32.toInt_inj.mp (e.trans (by decide)))
      have q26 : x.toInt ≠ 26 := fun e => h26 (Int32.toInt_inj.mp (e.trans (by decide)))
      have q27 : x.toInt ≠ 27 := fun e => h27 (Int32.toInt_inj.mp (e.trans (by decide)))
      have q28 : x.toInt ≠ 28 := fun e => h28 (Int32.toInt_inj.mp (e.trans (by decide)))
      have q29 : x.toInt ≠ 29 := fun e => h29 (Int32.toInt_inj.mp (e.trans (by decide)))
      have q30 : x.toInt ≠ 30 := fun e => h30 (Int32.toInt_inj.mp (e.trans (by decide)))
      have q31 : x.toInt ≠ 31 := fun e => h31 (Int32.toInt_inj.mp (e.trans (by decide)))
      have q32 : x.toInt ≠ 32 := fun e => h32 (Int32.toInt_inj.mp (e.trans (by decide)))
      exact lj_tsOut hX.1 (pc := 33) dL_law_33 (by omega) (tgt := 1315) rfl (hloop σ (up _ _ hI))
    · refine lj_head_out (pc := 18) hX.1 (by omega) (by omega) dL_law_18 dL_law_19 dL_law_20 dL_law_21 (ic_b_6) dL_law_23 dL_law_24 (tgt := 1321) rfl ?_
      exact lj_end hX.1 (pc := 1321) dL_law_1321 (ic_i_1) dL_law_1322

