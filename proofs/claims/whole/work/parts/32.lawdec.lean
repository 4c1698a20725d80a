theorem tb_649 : Cond.code yX10_feed cX10_feed 6 (some .int) ∈ aw_TB := aw_tb 649 (by decide +kernel) (by decide +kernel)
theorem tb_646 : Cond.methodLink RL 25 yX10_feed ∈ aw_TB := aw_tb 646 (by decide +kernel) (by decide +kernel)
theorem tb_647 : Cond.instanceMethod yX10_feed ∈ aw_TB := aw_tb 647 (by decide +kernel) (by decide +kernel)
theorem tb_648 : Cond.selects RX10 yX10_feed yX10_feed ∈ aw_TB := aw_tb 648 (by decide +kernel) (by decide +kernel)
theorem cw_RL_25 : aw_cv RL 25 yX10_feed cX10_feed 6 (some .int) 5 := ⟨⟨tb_649, tb_1, ⟨by decide, by decide⟩, by decide +kernel, tb_646⟩, tb_647, tb_648⟩
theorem tb_1446 : Cond.code yX11_feed cX11_feed 6 (some .int) ∈ aw_TB := aw_tb 1446 (by decide +kernel) (by decide +kernel)
theorem tb_1443 : Cond.methodLink RL 29 yX11_feed ∈ aw_TB := aw_tb 1443 (by decide +kernel) (by decide +kernel)
theorem tb_1444 : Cond.instanceMethod yX11_feed ∈ aw_TB := aw_tb 1444 (by decide +kernel) (by decide +kernel)
theorem tb_1445 : Cond.selects RX11 yX11_feed yX11_feed ∈ aw_TB := aw_tb 1445 (by decide +kernel) (by decide +kernel)
theorem cw_RL_29 : aw_cv RL 29 yX11_feed cX11_feed 6 (some .int) 5 := ⟨⟨tb_1446, tb_17, ⟨by decide, by decide⟩, by decide +kernel, tb_1443⟩, tb_1444, tb_1445⟩
theorem tb_661 : Cond.code yX10_end cX10_end 2 (some .boolean) ∈ aw_TB := aw_tb 661 (by decide +kernel) (by decide +kernel)
theorem tb_658 : Cond.methodLink RL 30 yX10_end ∈ aw_TB := aw_tb 658 (by decide +kernel) (by decide +kernel)
theorem tb_659 : Cond.instanceMethod yX10_end ∈ aw_TB := aw_tb 659 (by decide +kernel) (by decide +kernel)
theorem tb_660 : Cond.selects RX10 yX10_end yX10_end ∈ aw_TB := aw_tb 660 (by decide +kernel) (by decide +kernel)
theorem cw_RL_30 : aw_cv RL 30 yX10_end cX10_end 2 (some .boolean) 1 := ⟨⟨tb_661, tb_1, ⟨by decide, by decide⟩, by decide +kernel, tb_658⟩, tb_659, tb_660⟩
theorem tb_1455 : Cond.code yX11_end cX11_end 2 (some .boolean) ∈ aw_TB := aw_tb 1455 (by decide +kernel) (by decide +kernel)
theorem tb_1452 : Cond.methodLink RL 34 yX11_end ∈ aw_TB := aw_tb 1452 (by decide +kernel) (by decide +kernel)
theorem tb_1453 : Cond.instanceMethod yX11_end ∈ aw_TB := aw_tb 1453 (by decide +kernel) (by decide +kernel)
theorem tb_1454 : Cond.selects RX11 yX11_end yX11_end ∈ aw_TB := aw_tb 1454 (by decide +kernel) (by decide +kernel)
theorem cw_RL_34 : aw_cv RL 34 yX11_end cX11_end 2 (some .boolean) 1 := ⟨⟨tb_1455, tb_17, ⟨by decide, by decide⟩, by decide +kernel, tb_1452⟩, tb_1453, tb_1454⟩
theorem tb_665 : Cond.code yX10_town cX10_town 2 (some .int) ∈ aw_TB := aw_tb 665 (by decide +kernel) (by decide +kernel)
theorem tb_662 : Cond.methodLink RL 35 yX10_town ∈ aw_TB := aw_tb 662 (by decide +kernel) (by decide +kernel)
theorem tb_663 : Cond.instanceMethod yX10_town ∈ aw_TB := aw_tb 663 (by decide +kernel) (by decide +kernel)
theorem tb_664 : Cond.selects RX10 yX10_town yX10_town ∈ aw_TB := aw_tb 664 (by decide +kernel) (by decide +kernel)
theorem cw_RL_35 : aw_cv RL 35 yX10_town cX10_town 2 (some .int) 0 := ⟨⟨tb_665, tb_1, ⟨by decide, by decide⟩, by decide +kernel, tb_662⟩, tb_663, tb_664⟩
theorem tb_1642 : Cond.code yX11_town cX11_town 2 (some .int) ∈ aw_TB := aw_tb 1642 (by decide +kernel) (by decide +kernel)
theorem tb_1639 : Cond.methodLink RL 39 yX11_town ∈ aw_TB := aw_tb 1639 (by decide +kernel) (by decide +kernel)
theorem tb_1640 : Cond.instanceMethod yX11_town ∈ aw_TB := aw_tb 1640 (by decide +kernel) (by decide +kernel)
theorem tb_1641 : Cond.selects RX11 yX11_town yX11_town ∈ aw_TB := aw_tb 1641 (by decide +kernel) (by decide +kernel)
theorem cw_RL_39 : aw_cv RL 39 yX11_town cX11_town 2 (some .int) 0 := ⟨⟨tb_1642, tb_17, ⟨by decide, by decide⟩, by decide +kernel, tb_1639⟩, tb_1640, tb_1641⟩
theorem tb_852 : Cond.code yX10_plans cX10_plans 2 (some .int) ∈ aw_TB := aw_tb 852 (by decide +kernel) (by decide +kernel)
theorem tb_849 : Cond.methodLink RL 40 yX10_plans ∈ aw_TB := aw_tb 849 (by decide +kernel) (by decide +kernel)
theorem tb_850 : Cond.instanceMethod yX10_plans ∈ aw_TB := aw_tb 850 (by decide +kernel) (by decide +kernel)
theorem tb_851 : Cond.selects RX10 yX10_plans yX10_plans ∈ aw_TB := aw_tb 851 (by decide +kernel) (by decide +kernel)
theorem cw_RL_40 : aw_cv RL 40 yX10_plans cX10_plans 2 (some .int) 0 := ⟨⟨tb_852, tb_1, ⟨by decide, by decide⟩, by decide +kernel, tb_849⟩, tb_850, tb_851⟩
theorem tb_1727 : Cond.code yX11_plans cX11_plans 3 (some .int) ∈ aw_TB := aw_tb 1727 (by decide +kernel) (by decide +kernel)
theorem tb_1724 : Cond.methodLink RL 43 yX11_plans ∈ aw_TB := aw_tb 1724 (by decide +kernel) (by decide +kernel)
theorem tb_1725 : Cond.instanceMethod yX11_plans ∈ aw_TB := aw_tb 1725 (by decide +kernel) (by decide +kernel)
theorem tb_1726 : Cond.selects RX11 yX11_plans yX11_plans ∈ aw_TB := aw_tb 1726 (by decide +kernel) (by decide +kernel)
theorem cw_RL_43 : aw_cv RL 43 yX11_plans cX11_plans 3 (some .int) 0 := ⟨⟨tb_1727, tb_17, ⟨by decide, by decide⟩, by decide +kernel, tb_1724⟩, tb_1725, tb_1726⟩
theorem tb_930 : Cond.code yX10_fault cX10_fault 1 (some .int) ∈ aw_TB := aw_tb 930 (by decide +kernel) (by decide +kernel)
theorem tb_927 : Cond.methodLink RL 44 yX10_fault ∈ aw_TB := aw_tb 927 (by decide +kernel) (by decide +kernel)
theorem tb_928 : Cond.instanceMethod yX10_fault ∈ aw_TB := aw_tb 928 (by decide +kernel) (by decide +kernel)
theorem tb_929 : Cond.selects RX10 yX10_fault yX10_fault ∈ aw_TB := aw_tb 929 (by decide +kernel) (by decide +kernel)
theorem cw_RL_44 : aw_cv RL 44 yX10_fault cX10_fault 1 (some .int) 0 := ⟨⟨tb_930, tb_1, ⟨by decide, by decide⟩, by decide +kernel, tb_927⟩, tb_928, tb_929⟩
theorem tb_1723 : Cond.code yX11_fault cX11_fault 1 (some .int) ∈ aw_TB := aw_tb 1723 (by decide +kernel) (by decide +kernel)
theorem tb_1720 : Cond.methodLink RL 47 yX11_fault ∈ aw_TB := aw_tb 1720 (by decide +kernel) (by decide +kernel)
theorem tb_1721 : Cond.instanceMethod yX11_fault ∈ aw_TB := aw_tb 1721 (by decide +kernel) (by decide +kernel)
theorem tb_1722 : Cond.selects RX11 yX11_fault yX11_fault ∈ aw_TB := aw_tb 1722 (by decide +kernel) (by decide +kernel)
theorem cw_RL_47 : aw_cv RL 47 yX11_fault cX11_fault 1 (some .int) 0 := ⟨⟨tb_1723, tb_17, ⟨by decide, by decide⟩, by decide +kernel, tb_1720⟩, tb_1721, tb_1722⟩
theorem tb_1346 : Cond.methodLink RL 48 yL_quarter ∈ aw_TB := aw_tb 1346 (by decide +kernel) (by decide +kernel)
theorem tb_1347 : Cond.static yL_quarter ∈ aw_TB := aw_tb 1347 (by decide +kernel) (by decide +kernel)
theorem tb_0 : Cond.initialized RL ∈ aw_TB := aw_tb 0 (by decide +kernel) (by decide +kernel)
theorem tb_1348 : Cond.codeWith yL_quarter cL_quarter 5 (some .int) [(0, 10, 13, 13)] ∈ aw_TB := aw_tb 1348 (by decide +kernel) (by decide +kernel)
theorem tb_1735 : Cond.code yX11_quarter cX11_quarter 4 (some .int) ∈ aw_TB := aw_tb 1735 (by decide +kernel) (by decide +kernel)
theorem tb_1732 : Cond.methodLink RL 53 yX11_quarter ∈ aw_TB := aw_tb 1732 (by decide +kernel) (by decide +kernel)
theorem tb_1733 : Cond.instanceMethod yX11_quarter ∈ aw_TB := aw_tb 1733 (by decide +kernel) (by decide +kernel)
theorem tb_1734 : Cond.selects RX11 yX11_quarter yX11_quarter ∈ aw_TB := aw_tb 1734 (by decide +kernel) (by decide +kernel)
theorem cw_RL_53 : aw_cv RL 53 yX11_quarter cX11_quarter 4 (some .int) 2 := ⟨⟨tb_1735, tb_17, ⟨by decide, by decide⟩, by decide +kernel, tb_1732⟩, tb_1733, tb_1734⟩
theorem tb_1442 : Cond.code yX11_thrown cX11_thrown 1 (some .int) ∈ aw_TB := aw_tb 1442 (by decide +kernel) (by decide +kernel)
theorem tb_1439 : Cond.methodLink RL 54 yX11_thrown ∈ aw_TB := aw_tb 1439 (by decide +kernel) (by decide +kernel)
theorem tb_1440 : Cond.instanceMethod yX11_thrown ∈ aw_TB := aw_tb 1440 (by decide +kernel) (by decide +kernel)
theorem tb_1441 : Cond.selects RX11 yX11_thrown yX11_thrown ∈ aw_TB := aw_tb 1441 (by decide +kernel) (by decide +kernel)
theorem cw_RL_54 : aw_cv RL 54 yX11_thrown cX11_thrown 1 (some .int) 0 := ⟨⟨tb_1442, tb_17, ⟨by decide, by decide⟩, by decide +kernel, tb_1439⟩, tb_1440, tb_1441⟩
theorem tb_1423 : Cond.methodLink RL 57 yL_cart ∈ aw_TB := aw_tb 1423 (by decide +kernel) (by decide +kernel)
theorem tb_1424 : Cond.static yL_cart ∈ aw_TB := aw_tb 1424 (by decide +kernel) (by decide +kernel)
theorem tb_1425 : Cond.codeWith yL_cart cL_cart 5 (some .int) [(0, 10, 13, 13)] ∈ aw_TB := aw_tb 1425 (by decide +kernel) (by decide +kernel)
theorem tb_1747 : Cond.code yX11_cart cX11_cart 3 (some .int) ∈ aw_TB := aw_tb 1747 (by decide +kernel) (by decide +kernel)
theorem tb_1744 : Cond.methodLink RL 59 yX11_cart ∈ aw_TB := aw_tb 1744 (by decide +kernel) (by decide +kernel)
theorem tb_1745 : Cond.instanceMethod yX11_cart ∈ aw_TB := aw_tb 1745 (by decide +kernel) (by decide +kernel)
theorem tb_1746 : Cond.selects RX11 yX11_cart yX11_cart ∈ aw_TB := aw_tb 1746 (by decide +kernel) (by decide +kernel)
theorem cw_RL_59 : aw_cv RL 59 yX11_cart cX11_cart 3 (some .int) 2 := ⟨⟨tb_1747, tb_17, ⟨by decide, by decide⟩, by decide +kernel, tb_1744⟩, tb_1745, tb_1746⟩
theorem tb_1431 : Cond.methodLink RL 60 yL_cell ∈ aw_TB := aw_tb 1431 (by decide +kernel) (by decide +kernel)
theorem tb_1432 : Cond.static yL_cell ∈ aw_TB := aw_tb 1432 (by decide +kernel) (by decide +kernel)
theorem tb_1433 : Cond.codeWith yL_cell cL_cell 5 (some .int) [(0, 10, 13, 13)] ∈ aw_TB := aw_tb 1433 (by decide +kernel) (by decide +kernel)
theorem tb_1759 : Cond.code yX11_cell cX11_cell 5 (some .int) ∈ aw_TB := aw_tb 1759 (by decide +kernel) (by decide +kernel)
theorem tb_1756 : Cond.methodLink RL 62 yX11_cell ∈ aw_TB := aw_tb 1756 (by decide +kernel) (by decide +kernel)
theorem tb_1757 : Cond.instanceMethod yX11_cell ∈ aw_TB := aw_tb 1757 (by decide +kernel) (by decide +kernel)
theorem tb_1758 : Cond.selects RX11 yX11_cell yX11_cell ∈ aw_TB := aw_tb 1758 (by decide +kernel) (by decide +kernel)
theorem cw_RL_62 : aw_cv RL 62 yX11_cell cX11_cell 5 (some .int) 2 := ⟨⟨tb_1759, tb_17, ⟨by decide, by decide⟩, by decide +kernel, tb_1756⟩, tb_1757, tb_1758⟩
theorem tb_934 : Cond.code yX10_begin cX10_begin 2 none ∈ aw_TB := aw_tb 934 (by decide +kernel) (by decide +kernel)
theorem tb_931 : Cond.methodLink RL 63 yX10_begin ∈ aw_TB := aw_tb 931 (by decide +kernel) (by decide +kernel)
theorem tb_932 : Cond.instanceMethod yX10_begin ∈ aw_TB := aw_tb 932 (by decide +kernel) (by decide +kernel)
theorem tb_933 : Cond.selects RX10 yX10_begin yX10_begin ∈ aw_TB := aw_tb 933 (by decide +kernel) (by decide +kernel)
theorem cw_RL_63 : aw_cv RL 63 yX10_begin cX10_begin 2 none 1 := ⟨⟨tb_934, tb_1, ⟨by decide, by decide⟩, by decide +kernel, tb_931⟩, tb_932, tb_933⟩
theorem tb_1767 : Cond.code yX11_begin cX11_begin 2 none ∈ aw_TB := aw_tb 1767 (by decide +kernel) (by decide +kernel)
theorem tb_1764 : Cond.methodLink RL 67 yX11_begin ∈ aw_TB := aw_tb 1764 (by decide +kernel) (by decide +kernel)
theorem tb_1765 : Cond.instanceMethod yX11_begin ∈ aw_TB := aw_tb 1765 (by decide +kernel) (by decide +kernel)
theorem tb_1766 : Cond.selects RX11 yX11_begin yX11_begin ∈ aw_TB := aw_tb 1766 (by decide +kernel) (by decide +kernel)
theorem cw_RL_67 : aw_cv RL 67 yX11_begin cX11_begin 2 none 1 := ⟨⟨tb_1767, tb_17, ⟨by decide, by decide⟩, by decide +kernel, tb_1764⟩, tb_1765, tb_1766⟩
theorem tb_939 : Cond.code yX10_on cX10_on 2 (some .int) ∈ aw_TB := aw_tb 939 (by decide +kernel) (by decide +kernel)
theorem tb_936 : Cond.methodLink RL 68 yX10_on ∈ aw_TB := aw_tb 936 (by decide +kernel) (by decide +kernel)
theorem tb_937 : Cond.instanceMethod yX10_on ∈ aw_TB := aw_tb 937 (by decide +kernel) (by decide +kernel)
theorem tb_938 : Cond.selects RX10 yX10_on yX10_on ∈ aw_TB := aw_tb 938 (by decide +kernel) (by decide +kernel)
theorem cw_RL_68 : aw_cv RL 68 yX10_on cX10_on 2 (some .int) 1 := ⟨⟨tb_939, tb_1, ⟨by decide, by decide⟩, by decide +kernel, tb_936⟩, tb_937, tb_938⟩
theorem tb_1771 : Cond.code yX11_on cX11_on 3 (some .int) ∈ aw_TB := aw_tb 1771 (by decide +kernel) (by decide +kernel)
theorem tb_1768 : Cond.methodLink RL 72 yX11_on ∈ aw_TB := aw_tb 1768 (by decide +kernel) (by decide +kernel)
theorem tb_1769 : Cond.instanceMethod yX11_on ∈ aw_TB := aw_tb 1769 (by decide +kernel) (by decide +kernel)
theorem tb_1770 : Cond.selects RX11 yX11_on yX11_on ∈ aw_TB := aw_tb 1770 (by decide +kernel) (by decide +kernel)
theorem cw_RL_72 : aw_cv RL 72 yX11_on cX11_on 3 (some .int) 1 := ⟨⟨tb_1771, tb_17, ⟨by decide, by decide⟩, by decide +kernel, tb_1768⟩, tb_1769, tb_1770⟩
theorem tb_1021 : Cond.code yX10_now cX10_now 3 (some .int) ∈ aw_TB := aw_tb 1021 (by decide +kernel) (by decide +kernel)
theorem tb_1018 : Cond.methodLink RL 73 yX10_now ∈ aw_TB := aw_tb 1018 (by decide +kernel) (by decide +kernel)
theorem tb_1019 : Cond.instanceMethod yX10_now ∈ aw_TB := aw_tb 1019 (by decide +kernel) (by decide +kernel)
theorem tb_1020 : Cond.selects RX10 yX10_now yX10_now ∈ aw_TB := aw_tb 1020 (by decide +kernel) (by decide +kernel)
theorem cw_RL_73 : aw_cv RL 73 yX10_now cX10_now 3 (some .int) 1 := ⟨⟨tb_1021, tb_1, ⟨by decide, by decide⟩, by decide +kernel, tb_1018⟩, tb_1019, tb_1020⟩
theorem tb_1826 : Cond.code yX11_now cX11_now 4 (some .int) ∈ aw_TB := aw_tb 1826 (by decide +kernel) (by decide +kernel)
theorem tb_1823 : Cond.methodLink RL 76 yX11_now ∈ aw_TB := aw_tb 1823 (by decide +kernel) (by decide +kernel)
theorem tb_1824 : Cond.instanceMethod yX11_now ∈ aw_TB := aw_tb 1824 (by decide +kernel) (by decide +kernel)
theorem tb_1825 : Cond.selects RX11 yX11_now yX11_now ∈ aw_TB := aw_tb 1825 (by decide +kernel) (by decide +kernel)
theorem cw_RL_76 : aw_cv RL 76 yX11_now cX11_now 4 (some .int) 1 := ⟨⟨tb_1826, tb_17, ⟨by decide, by decide⟩, by decide +kernel, tb_1823⟩, tb_1824, tb_1825⟩
theorem tb_1029 : Cond.code yX10_thrown cX10_thrown 3 (some .int) ∈ aw_TB := aw_tb 1029 (by decide +kernel) (by decide +kernel)
theorem tb_1026 : Cond.methodLink RL 77 yX10_thrown ∈ aw_TB := aw_tb 1026 (by decide +kernel) (by decide +kernel)
theorem tb_1027 : Cond.instanceMethod yX10_thrown ∈ aw_TB := aw_tb 1027 (by decide +kernel) (by decide +kernel)
theorem tb_1028 : Cond.selects RX10 yX10_thrown yX10_thrown ∈ aw_TB := aw_tb 1028 (by decide +kernel) (by decide +kernel)
theorem cw_RL_77 : aw_cv RL 77 yX10_thrown cX10_thrown 3 (some .int) 2 := ⟨⟨tb_1029, tb_1, ⟨by decide, by decide⟩, by decide +kernel, tb_1026⟩, tb_1027, tb_1028⟩
theorem tb_1830 : Cond.code yX11_thrown_ cX11_thrown_ 3 (some .int) ∈ aw_TB := aw_tb 1830 (by decide +kernel) (by decide +kernel)
theorem tb_1827 : Cond.methodLink RL 79 yX11_thrown_ ∈ aw_TB := aw_tb 1827 (by decide +kernel) (by decide +kernel)
theorem tb_1828 : Cond.instanceMethod yX11_thrown_ ∈ aw_TB := aw_tb 1828 (by decide +kernel) (by decide +kernel)
theorem tb_1829 : Cond.selects RX11 yX11_thrown_ yX11_thrown_ ∈ aw_TB := aw_tb 1829 (by decide +kernel) (by decide +kernel)
theorem cw_RL_79 : aw_cv RL 79 yX11_thrown_ cX11_thrown_ 3 (some .int) 2 := ⟨⟨tb_1830, tb_17, ⟨by decide, by decide⟩, by decide +kernel, tb_1827⟩, tb_1828, tb_1829⟩
theorem tb_1033 : Cond.code yX10_sand cX10_sand 2 (some .boolean) ∈ aw_TB := aw_tb 1033 (by decide +kernel) (by decide +kernel)
theorem tb_1030 : Cond.methodLink RL 80 yX10_sand ∈ aw_TB := aw_tb 1030 (by decide +kernel) (by decide +kernel)
theorem tb_1031 : Cond.instanceMethod yX10_sand ∈ aw_TB := aw_tb 1031 (by decide +kernel) (by decide +kernel)
theorem tb_1032 : Cond.selects RX10 yX10_sand yX10_sand ∈ aw_TB := aw_tb 1032 (by decide +kernel) (by decide +kernel)
theorem cw_RL_80 : aw_cv RL 80 yX10_sand cX10_sand 2 (some .boolean) 1 := ⟨⟨tb_1033, tb_1, ⟨by decide, by decide⟩, by decide +kernel, tb_1030⟩, tb_1031, tb_1032⟩
theorem tb_1834 : Cond.code yX11_sand cX11_sand 2 (some .boolean) ∈ aw_TB := aw_tb 1834 (by decide +kernel) (by decide +kernel)
theorem tb_1831 : Cond.methodLink RL 83 yX11_sand ∈ aw_TB := aw_tb 1831 (by decide +kernel) (by decide +kernel)
theorem tb_1832 : Cond.instanceMethod yX11_sand ∈ aw_TB := aw_tb 1832 (by decide +kernel) (by decide +kernel)
theorem tb_1833 : Cond.selects RX11 yX11_sand yX11_sand ∈ aw_TB := aw_tb 1833 (by decide +kernel) (by decide +kernel)
theorem cw_RL_83 : aw_cv RL 83 yX11_sand cX11_sand 2 (some .boolean) 1 := ⟨⟨tb_1834, tb_17, ⟨by decide, by decide⟩, by decide +kernel, tb_1831⟩, tb_1832, tb_1833⟩
theorem tb_1038 : Cond.code yX10_aims cX10_aims 3 (some .int) ∈ aw_TB := aw_tb 1038 (by decide +kernel) (by decide +kernel)
theorem tb_1035 : Cond.methodLink RL 84 yX10_aims ∈ aw_TB := aw_tb 1035 (by decide +kernel) (by decide +kernel)
theorem tb_1036 : Cond.instanceMethod yX10_aims ∈ aw_TB := aw_tb 1036 (by decide +kernel) (by decide +kernel)
theorem tb_1037 : Cond.selects RX10 yX10_aims yX10_aims ∈ aw_TB := aw_tb 1037 (by decide +kernel) (by decide +kernel)
theorem cw_RL_84 : aw_cv RL 84 yX10_aims cX10_aims 3 (some .int) 2 := ⟨⟨tb_1038, tb_1, ⟨by decide, by decide⟩, by decide +kernel, tb_1035⟩, tb_1036, tb_1037⟩
theorem tb_1838 : Cond.code yX11_aims cX11_aims 3 (some .int) ∈ aw_TB := aw_tb 1838 (by decide +kernel) (by decide +kernel)
theorem tb_1835 : Cond.methodLink RL 87 yX11_aims ∈ aw_TB := aw_tb 1835 (by decide +kernel) (by decide +kernel)
theorem tb_1836 : Cond.instanceMethod yX11_aims ∈ aw_TB := aw_tb 1836 (by decide +kernel) (by decide +kernel)
theorem tb_1837 : Cond.selects RX11 yX11_aims yX11_aims ∈ aw_TB := aw_tb 1837 (by decide +kernel) (by decide +kernel)
theorem cw_RL_87 : aw_cv RL 87 yX11_aims cX11_aims 3 (some .int) 2 := ⟨⟨tb_1838, tb_17, ⟨by decide, by decide⟩, by decide +kernel, tb_1835⟩, tb_1836, tb_1837⟩
theorem tb_1050 : Cond.code yX10_sure cX10_sure 2 (some .int) ∈ aw_TB := aw_tb 1050 (by decide +kernel) (by decide +kernel)
theorem tb_1047 : Cond.methodLink RL 88 yX10_sure ∈ aw_TB := aw_tb 1047 (by decide +kernel) (by decide +kernel)
theorem tb_1048 : Cond.instanceMethod yX10_sure ∈ aw_TB := aw_tb 1048 (by decide +kernel) (by decide +kernel)
theorem tb_1049 : Cond.selects RX10 yX10_sure yX10_sure ∈ aw_TB := aw_tb 1049 (by decide +kernel) (by decide +kernel)
theorem cw_RL_88 : aw_cv RL 88 yX10_sure cX10_sure 2 (some .int) 1 := ⟨⟨tb_1050, tb_1, ⟨by decide, by decide⟩, by decide +kernel, tb_1047⟩, tb_1048, tb_1049⟩
theorem tb_1842 : Cond.code yX11_sure cX11_sure 2 (some .int) ∈ aw_TB := aw_tb 1842 (by decide +kernel) (by decide +kernel)
theorem tb_1839 : Cond.methodLink RL 91 yX11_sure ∈ aw_TB := aw_tb 1839 (by decide +kernel) (by decide +kernel)
theorem tb_1840 : Cond.instanceMethod yX11_sure ∈ aw_TB := aw_tb 1840 (by decide +kernel) (by decide +kernel)
theorem tb_1841 : Cond.selects RX11 yX11_sure yX11_sure ∈ aw_TB := aw_tb 1841 (by decide +kernel) (by decide +kernel)
theorem cw_RL_91 : aw_cv RL 91 yX11_sure cX11_sure 2 (some .int) 1 := ⟨⟨tb_1842, tb_17, ⟨by decide, by decide⟩, by decide +kernel, tb_1839⟩, tb_1840, tb_1841⟩
theorem tb_1083 : Cond.code yX10_grid cX10_grid 4 (some .int) ∈ aw_TB := aw_tb 1083 (by decide +kernel) (by decide +kernel)
theorem tb_1080 : Cond.methodLink RL 92 yX10_grid ∈ aw_TB := aw_tb 1080 (by decide +kernel) (by decide +kernel)
theorem tb_1081 : Cond.instanceMethod yX10_grid ∈ aw_TB := aw_tb 1081 (by decide +kernel) (by decide +kernel)
theorem tb_1082 : Cond.selects RX10 yX10_grid yX10_grid ∈ aw_TB := aw_tb 1082 (by decide +kernel) (by decide +kernel)
theorem cw_RL_92 : aw_cv RL 92 yX10_grid cX10_grid 4 (some .int) 3 := ⟨⟨tb_1083, tb_1, ⟨by decide, by decide⟩, by decide +kernel, tb_1080⟩, tb_1081, tb_1082⟩
theorem tb_1858 : Cond.code yX11_grid cX11_grid 4 (some .int) ∈ aw_TB := aw_tb 1858 (by decide +kernel) (by decide +kernel)
theorem tb_1855 : Cond.methodLink RL 96 yX11_grid ∈ aw_TB := aw_tb 1855 (by decide +kernel) (by decide +kernel)
theorem tb_1856 : Cond.instanceMethod yX11_grid ∈ aw_TB := aw_tb 1856 (by decide +kernel) (by decide +kernel)
theorem tb_1857 : Cond.selects RX11 yX11_grid yX11_grid ∈ aw_TB := aw_tb 1857 (by decide +kernel) (by decide +kernel)
theorem cw_RL_96 : aw_cv RL 96 yX11_grid cX11_grid 4 (some .int) 3 := ⟨⟨tb_1858, tb_17, ⟨by decide, by decide⟩, by decide +kernel, tb_1855⟩, tb_1856, tb_1857⟩
theorem tb_1094 : Cond.code yX10_best cX10_best 2 (some .int) ∈ aw_TB := aw_tb 1094 (by decide +kernel) (by decide +kernel)
theorem tb_1091 : Cond.methodLink RL 97 yX10_best ∈ aw_TB := aw_tb 1091 (by decide +kernel) (by decide +kernel)
theorem tb_1092 : Cond.instanceMethod yX10_best ∈ aw_TB := aw_tb 1092 (by decide +kernel) (by decide +kernel)
theorem tb_1093 : Cond.selects RX10 yX10_best yX10_best ∈ aw_TB := aw_tb 1093 (by decide +kernel) (by decide +kernel)
theorem cw_RL_97 : aw_cv RL 97 yX10_best cX10_best 2 (some .int) 1 := ⟨⟨tb_1094, tb_1, ⟨by decide, by decide⟩, by decide +kernel, tb_1091⟩, tb_1092, tb_1093⟩
theorem tb_1866 : Cond.code yX11_best cX11_best 7 (some .int) ∈ aw_TB := aw_tb 1866 (by decide +kernel) (by decide +kernel)
theorem tb_1863 : Cond.methodLink RL 100 yX11_best ∈ aw_TB := aw_tb 1863 (by decide +kernel) (by decide +kernel)
theorem tb_1864 : Cond.instanceMethod yX11_best ∈ aw_TB := aw_tb 1864 (by decide +kernel) (by decide +kernel)
theorem tb_1865 : Cond.selects RX11 yX11_best yX11_best ∈ aw_TB := aw_tb 1865 (by decide +kernel) (by decide +kernel)
theorem cw_RL_100 : aw_cv RL 100 yX11_best cX11_best 7 (some .int) 1 := ⟨⟨tb_1866, tb_17, ⟨by decide, by decide⟩, by decide +kernel, tb_1863⟩, tb_1864, tb_1865⟩
theorem tb_1102 : Cond.code yX10_days cX10_days 3 (some .int) ∈ aw_TB := aw_tb 1102 (by decide +kernel) (by decide +kernel)
theorem tb_1099 : Cond.methodLink RL 101 yX10_days ∈ aw_TB := aw_tb 1099 (by decide +kernel) (by decide +kernel)
theorem tb_1100 : Cond.instanceMethod yX10_days ∈ aw_TB := aw_tb 1100 (by decide +kernel) (by decide +kernel)
theorem tb_1101 : Cond.selects RX10 yX10_days yX10_days ∈ aw_TB := aw_tb 1101 (by decide +kernel) (by decide +kernel)
theorem cw_RL_101 : aw_cv RL 101 yX10_days cX10_days 3 (some .int) 1 := ⟨⟨tb_1102, tb_1, ⟨by decide, by decide⟩, by decide +kernel, tb_1099⟩, tb_1100, tb_1101⟩
theorem tb_1870 : Cond.code yX11_days cX11_days 8 (some .int) ∈ aw_TB := aw_tb 1870 (by decide +kernel) (by decide +kernel)
theorem tb_1867 : Cond.methodLink RL 104 yX11_days ∈ aw_TB := aw_tb 1867 (by decide +kernel) (by decide +kernel)
theorem tb_1868 : Cond.instanceMethod yX11_days ∈ aw_TB := aw_tb 1868 (by decide +kernel) (by decide +kernel)
theorem tb_1869 : Cond.selects RX11 yX11_days yX11_days ∈ aw_TB := aw_tb 1869 (by decide +kernel) (by decide +kernel)
theorem cw_RL_104 : aw_cv RL 104 yX11_days cX11_days 8 (some .int) 1 := ⟨⟨tb_1870, tb_17, ⟨by decide, by decide⟩, by decide +kernel, tb_1867⟩, tb_1868, tb_1869⟩
theorem tb_1113 : Cond.code yX10_rows cX10_rows 2 (some .int) ∈ aw_TB := aw_tb 1113 (by decide +kernel) (by decide +kernel)
theorem tb_1110 : Cond.methodLink RL 105 yX10_rows ∈ aw_TB := aw_tb 1110 (by decide +kernel) (by decide +kernel)
theorem tb_1111 : Cond.instanceMethod yX10_rows ∈ aw_TB := aw_tb 1111 (by decide +kernel) (by decide +kernel)
theorem tb_1112 : Cond.selects RX10 yX10_rows yX10_rows ∈ aw_TB := aw_tb 1112 (by decide +kernel) (by decide +kernel)
theorem cw_RL_105 : aw_cv RL 105 yX10_rows cX10_rows 2 (some .int) 1 := ⟨⟨tb_1113, tb_1, ⟨by decide, by decide⟩, by decide +kernel, tb_1110⟩, tb_1111, tb_1112⟩
theorem tb_1878 : Cond.code yX11_rows cX11_rows 2 (some .int) ∈ aw_TB := aw_tb 1878 (by decide +kernel) (by decide +kernel)
theorem tb_1875 : Cond.methodLink RL 108 yX11_rows ∈ aw_TB := aw_tb 1875 (by decide +kernel) (by decide +kernel)
theorem tb_1876 : Cond.instanceMethod yX11_rows ∈ aw_TB := aw_tb 1876 (by decide +kernel) (by decide +kernel)
theorem tb_1877 : Cond.selects RX11 yX11_rows yX11_rows ∈ aw_TB := aw_tb 1877 (by decide +kernel) (by decide +kernel)
theorem cw_RL_108 : aw_cv RL 108 yX11_rows cX11_rows 2 (some .int) 1 := ⟨⟨tb_1878, tb_17, ⟨by decide, by decide⟩, by decide +kernel, tb_1875⟩, tb_1876, tb_1877⟩
theorem tb_1117 : Cond.code yX10_stand cX10_stand 3 (some .int) ∈ aw_TB := aw_tb 1117 (by decide +kernel) (by decide +kernel)
theorem tb_1114 : Cond.methodLink RL 109 yX10_stand ∈ aw_TB := aw_tb 1114 (by decide +kernel) (by decide +kernel)
theorem tb_1115 : Cond.instanceMethod yX10_stand ∈ aw_TB := aw_tb 1115 (by decide +kernel) (by decide +kernel)
theorem tb_1116 : Cond.selects RX10 yX10_stand yX10_stand ∈ aw_TB := aw_tb 1116 (by decide +kernel) (by decide +kernel)
theorem cw_RL_109 : aw_cv RL 109 yX10_stand cX10_stand 3 (some .int) 2 := ⟨⟨tb_1117, tb_1, ⟨by decide, by decide⟩, by decide +kernel, tb_1114⟩, tb_1115, tb_1116⟩
theorem tb_1882 : Cond.code yX11_stand cX11_stand 3 (some .int) ∈ aw_TB := aw_tb 1882 (by decide +kernel) (by decide +kernel)
theorem tb_1879 : Cond.methodLink RL 112 yX11_stand ∈ aw_TB := aw_tb 1879 (by decide +kernel) (by decide +kernel)
theorem tb_1880 : Cond.instanceMethod yX11_stand ∈ aw_TB := aw_tb 1880 (by decide +kernel) (by decide +kernel)
theorem tb_1881 : Cond.selects RX11 yX11_stand yX11_stand ∈ aw_TB := aw_tb 1881 (by decide +kernel) (by decide +kernel)
theorem cw_RL_112 : aw_cv RL 112 yX11_stand cX11_stand 3 (some .int) 2 := ⟨⟨tb_1882, tb_17, ⟨by decide, by decide⟩, by decide +kernel, tb_1879⟩, tb_1880, tb_1881⟩
theorem tb_1129 : Cond.code yX10_rests cX10_rests 2 (some .int) ∈ aw_TB := aw_tb 1129 (by decide +kernel) (by decide +kernel)
theorem tb_1126 : Cond.methodLink RL 113 yX10_rests ∈ aw_TB := aw_tb 1126 (by decide +kernel) (by decide +kernel)
theorem tb_1127 : Cond.instanceMethod yX10_rests ∈ aw_TB := aw_tb 1127 (by decide +kernel) (by decide +kernel)
theorem tb_1128 : Cond.selects RX10 yX10_rests yX10_rests ∈ aw_TB := aw_tb 1128 (by decide +kernel) (by decide +kernel)
theorem cw_RL_113 : aw_cv RL 113 yX10_rests cX10_rests 2 (some .int) 1 := ⟨⟨tb_1129, tb_1, ⟨by decide, by decide⟩, by decide +kernel, tb_1126⟩, tb_1127, tb_1128⟩
theorem tb_1897 : Cond.code yX11_rests cX11_rests 10 (some .int) ∈ aw_TB := aw_tb 1897 (by decide +kernel) (by decide +kernel)
theorem tb_1894 : Cond.methodLink RL 116 yX11_rests ∈ aw_TB := aw_tb 1894 (by decide +kernel) (by decide +kernel)
theorem tb_1895 : Cond.instanceMethod yX11_rests ∈ aw_TB := aw_tb 1895 (by decide +kernel) (by decide +kernel)
theorem tb_1896 : Cond.selects RX11 yX11_rests yX11_rests ∈ aw_TB := aw_tb 1896 (by decide +kernel) (by decide +kernel)
theorem cw_RL_116 : aw_cv RL 116 yX11_rests cX11_rests 10 (some .int) 1 := ⟨⟨tb_1897, tb_17, ⟨by decide, by decide⟩, by decide +kernel, tb_1894⟩, tb_1895, tb_1896⟩
theorem tb_1153 : Cond.code yX10_join cX10_join 3 (some .int) ∈ aw_TB := aw_tb 1153 (by decide +kernel) (by decide +kernel)
theorem tb_1150 : Cond.methodLink RL 117 yX10_join ∈ aw_TB := aw_tb 1150 (by decide +kernel) (by decide +kernel)
theorem tb_1151 : Cond.instanceMethod yX10_join ∈ aw_TB := aw_tb 1151 (by decide +kernel) (by decide +kernel)
theorem tb_1152 : Cond.selects RX10 yX10_join yX10_join ∈ aw_TB := aw_tb 1152 (by decide +kernel) (by decide +kernel)
theorem cw_RL_117 : aw_cv RL 117 yX10_join cX10_join 3 (some .int) 2 := ⟨⟨tb_1153, tb_1, ⟨by decide, by decide⟩, by decide +kernel, tb_1150⟩, tb_1151, tb_1152⟩
theorem tb_1901 : Cond.code yX11_join cX11_join 7 (some .int) ∈ aw_TB := aw_tb 1901 (by decide +kernel) (by decide +kernel)
theorem tb_1898 : Cond.methodLink RL 120 yX11_join ∈ aw_TB := aw_tb 1898 (by decide +kernel) (by decide +kernel)
theorem tb_1899 : Cond.instanceMethod yX11_join ∈ aw_TB := aw_tb 1899 (by decide +kernel) (by decide +kernel)
theorem tb_1900 : Cond.selects RX11 yX11_join yX11_join ∈ aw_TB := aw_tb 1900 (by decide +kernel) (by decide +kernel)
theorem cw_RL_120 : aw_cv RL 120 yX11_join cX11_join 7 (some .int) 2 := ⟨⟨tb_1901, tb_17, ⟨by decide, by decide⟩, by decide +kernel, tb_1898⟩, tb_1899, tb_1900⟩
theorem tb_1162 : Cond.code yX10_look cX10_look 2 (some .int) ∈ aw_TB := aw_tb 1162 (by decide +kernel) (by decide +kernel)
theorem tb_1159 : Cond.methodLink RL 121 yX10_look ∈ aw_TB := aw_tb 1159 (by decide +kernel) (by decide +kernel)
theorem tb_1160 : Cond.instanceMethod yX10_look ∈ aw_TB := aw_tb 1160 (by decide +kernel) (by decide +kernel)
theorem tb_1161 : Cond.selects RX10 yX10_look yX10_look ∈ aw_TB := aw_tb 1161 (by decide +kernel) (by decide +kernel)
theorem cw_RL_121 : aw_cv RL 121 yX10_look cX10_look 2 (some .int) 0 := ⟨⟨tb_1162, tb_1, ⟨by decide, by decide⟩, by decide +kernel, tb_1159⟩, tb_1160, tb_1161⟩
theorem tb_1905 : Cond.code yX11_look cX11_look 3 (some .int) ∈ aw_TB := aw_tb 1905 (by decide +kernel) (by decide +kernel)
theorem tb_1902 : Cond.methodLink RL 124 yX11_look ∈ aw_TB := aw_tb 1902 (by decide +kernel) (by decide +kernel)
theorem tb_1903 : Cond.instanceMethod yX11_look ∈ aw_TB := aw_tb 1903 (by decide +kernel) (by decide +kernel)
theorem tb_1904 : Cond.selects RX11 yX11_look yX11_look ∈ aw_TB := aw_tb 1904 (by decide +kernel) (by decide +kernel)
theorem cw_RL_124 : aw_cv RL 124 yX11_look cX11_look 3 (some .int) 0 := ⟨⟨tb_1905, tb_17, ⟨by decide, by decide⟩, by decide +kernel, tb_1902⟩, tb_1903, tb_1904⟩
theorem tb_1176 : Cond.code yX10_held cX10_held 2 (some .int) ∈ aw_TB := aw_tb 1176 (by decide +kernel) (by decide +kernel)
theorem tb_1173 : Cond.methodLink RL 125 yX10_held ∈ aw_TB := aw_tb 1173 (by decide +kernel) (by decide +kernel)
theorem tb_1174 : Cond.instanceMethod yX10_held ∈ aw_TB := aw_tb 1174 (by decide +kernel) (by decide +kernel)
theorem tb_1175 : Cond.selects RX10 yX10_held yX10_held ∈ aw_TB := aw_tb 1175 (by decide +kernel) (by decide +kernel)
theorem cw_RL_125 : aw_cv RL 125 yX10_held cX10_held 2 (some .int) 1 := ⟨⟨tb_1176, tb_1, ⟨by decide, by decide⟩, by decide +kernel, tb_1173⟩, tb_1174, tb_1175⟩
theorem tb_1913 : Cond.code yX11_held cX11_held 2 (some .int) ∈ aw_TB := aw_tb 1913 (by decide +kernel) (by decide +kernel)
theorem tb_1910 : Cond.methodLink RL 128 yX11_held ∈ aw_TB := aw_tb 1910 (by decide +kernel) (by decide +kernel)
theorem tb_1911 : Cond.instanceMethod yX11_held ∈ aw_TB := aw_tb 1911 (by decide +kernel) (by decide +kernel)
theorem tb_1912 : Cond.selects RX11 yX11_held yX11_held ∈ aw_TB := aw_tb 1912 (by decide +kernel) (by decide +kernel)
theorem cw_RL_128 : aw_cv RL 128 yX11_held cX11_held 2 (some .int) 1 := ⟨⟨tb_1913, tb_17, ⟨by decide, by decide⟩, by decide +kernel, tb_1910⟩, tb_1911, tb_1912⟩
theorem tb_1184 : Cond.code yX10_walk cX10_walk 3 (some .int) ∈ aw_TB := aw_tb 1184 (by decide +kernel) (by decide +kernel)
theorem tb_1181 : Cond.methodLink RL 129 yX10_walk ∈ aw_TB := aw_tb 1181 (by decide +kernel) (by decide +kernel)
theorem tb_1182 : Cond.instanceMethod yX10_walk ∈ aw_TB := aw_tb 1182 (by decide +kernel) (by decide +kernel)
theorem tb_1183 : Cond.selects RX10 yX10_walk yX10_walk ∈ aw_TB := aw_tb 1183 (by decide +kernel) (by decide +kernel)
theorem cw_RL_129 : aw_cv RL 129 yX10_walk cX10_walk 3 (some .int) 2 := ⟨⟨tb_1184, tb_1, ⟨by decide, by decide⟩, by decide +kernel, tb_1181⟩, tb_1182, tb_1183⟩
theorem tb_1917 : Cond.code yX11_walk cX11_walk 3 (some .int) ∈ aw_TB := aw_tb 1917 (by decide +kernel) (by decide +kernel)
theorem tb_1914 : Cond.methodLink RL 132 yX11_walk ∈ aw_TB := aw_tb 1914 (by decide +kernel) (by decide +kernel)
theorem tb_1915 : Cond.instanceMethod yX11_walk ∈ aw_TB := aw_tb 1915 (by decide +kernel) (by decide +kernel)
theorem tb_1916 : Cond.selects RX11 yX11_walk yX11_walk ∈ aw_TB := aw_tb 1916 (by decide +kernel) (by decide +kernel)
theorem cw_RL_132 : aw_cv RL 132 yX11_walk cX11_walk 3 (some .int) 2 := ⟨⟨tb_1917, tb_17, ⟨by decide, by decide⟩, by decide +kernel, tb_1914⟩, tb_1915, tb_1916⟩
theorem tb_1192 : Cond.code yX10_alike cX10_alike 5 (some .int) ∈ aw_TB := aw_tb 1192 (by decide +kernel) (by decide +kernel)
theorem tb_1189 : Cond.methodLink RL 133 yX10_alike ∈ aw_TB := aw_tb 1189 (by decide +kernel) (by decide +kernel)
theorem tb_1190 : Cond.instanceMethod yX10_alike ∈ aw_TB := aw_tb 1190 (by decide +kernel) (by decide +kernel)
theorem tb_1191 : Cond.selects RX10 yX10_alike yX10_alike ∈ aw_TB := aw_tb 1191 (by decide +kernel) (by decide +kernel)
theorem cw_RL_133 : aw_cv RL 133 yX10_alike cX10_alike 5 (some .int) 4 := ⟨⟨tb_1192, tb_1, ⟨by decide, by decide⟩, by decide +kernel, tb_1189⟩, tb_1190, tb_1191⟩
theorem tb_1927 : Cond.code yX11_alike cX11_alike 5 (some .int) ∈ aw_TB := aw_tb 1927 (by decide +kernel) (by decide +kernel)
theorem tb_1924 : Cond.methodLink RL 137 yX11_alike ∈ aw_TB := aw_tb 1924 (by decide +kernel) (by decide +kernel)
theorem tb_1925 : Cond.instanceMethod yX11_alike ∈ aw_TB := aw_tb 1925 (by decide +kernel) (by decide +kernel)
theorem tb_1926 : Cond.selects RX11 yX11_alike yX11_alike ∈ aw_TB := aw_tb 1926 (by decide +kernel) (by decide +kernel)
theorem cw_RL_137 : aw_cv RL 137 yX11_alike cX11_alike 5 (some .int) 4 := ⟨⟨tb_1927, tb_17, ⟨by decide, by decide⟩, by decide +kernel, tb_1924⟩, tb_1925, tb_1926⟩
theorem tb_1196 : Cond.code yX10_order cX10_order 1 (some .int) ∈ aw_TB := aw_tb 1196 (by decide +kernel) (by decide +kernel)
theorem tb_1193 : Cond.methodLink RL 138 yX10_order ∈ aw_TB := aw_tb 1193 (by decide +kernel) (by decide +kernel)
theorem tb_1194 : Cond.instanceMethod yX10_order ∈ aw_TB := aw_tb 1194 (by decide +kernel) (by decide +kernel)
theorem tb_1195 : Cond.selects RX10 yX10_order yX10_order ∈ aw_TB := aw_tb 1195 (by decide +kernel) (by decide +kernel)
theorem cw_RL_138 : aw_cv RL 138 yX10_order cX10_order 1 (some .int) 0 := ⟨⟨tb_1196, tb_1, ⟨by decide, by decide⟩, by decide +kernel, tb_1193⟩, tb_1194, tb_1195⟩
theorem tb_1931 : Cond.code yX11_order cX11_order 6 (some .int) ∈ aw_TB := aw_tb 1931 (by decide +kernel) (by decide +kernel)
theorem tb_1928 : Cond.methodLink RL 141 yX11_order ∈ aw_TB := aw_tb 1928 (by decide +kernel) (by decide +kernel)
theorem tb_1929 : Cond.instanceMethod yX11_order ∈ aw_TB := aw_tb 1929 (by decide +kernel) (by decide +kernel)
theorem tb_1930 : Cond.selects RX11 yX11_order yX11_order ∈ aw_TB := aw_tb 1930 (by decide +kernel) (by decide +kernel)
theorem cw_RL_141 : aw_cv RL 141 yX11_order cX11_order 6 (some .int) 0 := ⟨⟨tb_1931, tb_17, ⟨by decide, by decide⟩, by decide +kernel, tb_1928⟩, tb_1929, tb_1930⟩
theorem tb_1219 : Cond.code yX10_comes cX10_comes 2 (some .int) ∈ aw_TB := aw_tb 1219 (by decide +kernel) (by decide +kernel)
theorem tb_1216 : Cond.methodLink RL 142 yX10_comes ∈ aw_TB := aw_tb 1216 (by decide +kernel) (by decide +kernel)
theorem tb_1217 : Cond.instanceMethod yX10_comes ∈ aw_TB := aw_tb 1217 (by decide +kernel) (by decide +kernel)
theorem tb_1218 : Cond.selects RX10 yX10_comes yX10_comes ∈ aw_TB := aw_tb 1218 (by decide +kernel) (by decide +kernel)
theorem cw_RL_142 : aw_cv RL 142 yX10_comes cX10_comes 2 (some .int) 1 := ⟨⟨tb_1219, tb_1, ⟨by decide, by decide⟩, by decide +kernel, tb_1216⟩, tb_1217, tb_1218⟩
theorem tb_1944 : Cond.code yX11_comes cX11_comes 2 (some .int) ∈ aw_TB := aw_tb 1944 (by decide +kernel) (by decide +kernel)
theorem tb_1941 : Cond.methodLink RL 145 yX11_comes ∈ aw_TB := aw_tb 1941 (by decide +kernel) (by decide +kernel)
theorem tb_1942 : Cond.instanceMethod yX11_comes ∈ aw_TB := aw_tb 1942 (by decide +kernel) (by decide +kernel)
theorem tb_1943 : Cond.selects RX11 yX11_comes yX11_comes ∈ aw_TB := aw_tb 1943 (by decide +kernel) (by decide +kernel)
theorem cw_RL_145 : aw_cv RL 145 yX11_comes cX11_comes 2 (some .int) 1 := ⟨⟨tb_1944, tb_17, ⟨by decide, by decide⟩, by decide +kernel, tb_1941⟩, tb_1942, tb_1943⟩
theorem tb_1223 : Cond.code yX10_slippery cX10_slippery 1 (some .int) ∈ aw_TB := aw_tb 1223 (by decide +kernel) (by decide +kernel)
theorem tb_1220 : Cond.methodLink RL 146 yX10_slippery ∈ aw_TB := aw_tb 1220 (by decide +kernel) (by decide +kernel)
theorem tb_1221 : Cond.instanceMethod yX10_slippery ∈ aw_TB := aw_tb 1221 (by decide +kernel) (by decide +kernel)
theorem tb_1222 : Cond.selects RX10 yX10_slippery yX10_slippery ∈ aw_TB := aw_tb 1222 (by decide +kernel) (by decide +kernel)
theorem cw_RL_146 : aw_cv RL 146 yX10_slippery cX10_slippery 1 (some .int) 0 := ⟨⟨tb_1223, tb_1, ⟨by decide, by decide⟩, by decide +kernel, tb_1220⟩, tb_1221, tb_1222⟩
theorem tb_1948 : Cond.code yX11_slippery cX11_slippery 7 (some .int) ∈ aw_TB := aw_tb 1948 (by decide +kernel) (by decide +kernel)
theorem tb_1945 : Cond.methodLink RL 149 yX11_slippery ∈ aw_TB := aw_tb 1945 (by decide +kernel) (by decide +kernel)
theorem tb_1946 : Cond.instanceMethod yX11_slippery ∈ aw_TB := aw_tb 1946 (by decide +kernel) (by decide +kernel)
theorem tb_1947 : Cond.selects RX11 yX11_slippery yX11_slippery ∈ aw_TB := aw_tb 1947 (by decide +kernel) (by decide +kernel)
theorem cw_RL_149 : aw_cv RL 149 yX11_slippery cX11_slippery 7 (some .int) 0 := ⟨⟨tb_1948, tb_17, ⟨by decide, by decide⟩, by decide +kernel, tb_1945⟩, tb_1946, tb_1947⟩
theorem tb_1243 : Cond.code yX10_dry cX10_dry 2 (some .int) ∈ aw_TB := aw_tb 1243 (by decide +kernel) (by decide +kernel)
theorem tb_1240 : Cond.methodLink RL 150 yX10_dry ∈ aw_TB := aw_tb 1240 (by decide +kernel) (by decide +kernel)
theorem tb_1241 : Cond.instanceMethod yX10_dry ∈ aw_TB := aw_tb 1241 (by decide +kernel) (by decide +kernel)
theorem tb_1242 : Cond.selects RX10 yX10_dry yX10_dry ∈ aw_TB := aw_tb 1242 (by decide +kernel) (by decide +kernel)
theorem cw_RL_150 : aw_cv RL 150 yX10_dry cX10_dry 2 (some .int) 1 := ⟨⟨tb_1243, tb_1, ⟨by decide, by decide⟩, by decide +kernel, tb_1240⟩, tb_1241, tb_1242⟩
theorem tb_1957 : Cond.code yX11_dry cX11_dry 2 (some .int) ∈ aw_TB := aw_tb 1957 (by decide +kernel) (by decide +kernel)
theorem tb_1954 : Cond.methodLink RL 153 yX11_dry ∈ aw_TB := aw_tb 1954 (by decide +kernel) (by decide +kernel)
theorem tb_1955 : Cond.instanceMethod yX11_dry ∈ aw_TB := aw_tb 1955 (by decide +kernel) (by decide +kernel)
theorem tb_1956 : Cond.selects RX11 yX11_dry yX11_dry ∈ aw_TB := aw_tb 1956 (by decide +kernel) (by decide +kernel)
theorem cw_RL_153 : aw_cv RL 153 yX11_dry cX11_dry 2 (some .int) 1 := ⟨⟨tb_1957, tb_17, ⟨by decide, by decide⟩, by decide +kernel, tb_1954⟩, tb_1955, tb_1956⟩
theorem tb_1251 : Cond.code yX10_table cX10_table 2 (some .int) ∈ aw_TB := aw_tb 1251 (by decide +kernel) (by decide +kernel)
theorem tb_1248 : Cond.methodLink RL 154 yX10_table ∈ aw_TB := aw_tb 1248 (by decide +kernel) (by decide +kernel)
theorem tb_1249 : Cond.instanceMethod yX10_table ∈ aw_TB := aw_tb 1249 (by decide +kernel) (by decide +kernel)
theorem tb_1250 : Cond.selects RX10 yX10_table yX10_table ∈ aw_TB := aw_tb 1250 (by decide +kernel) (by decide +kernel)
theorem cw_RL_154 : aw_cv RL 154 yX10_table cX10_table 2 (some .int) 0 := ⟨⟨tb_1251, tb_1, ⟨by decide, by decide⟩, by decide +kernel, tb_1248⟩, tb_1249, tb_1250⟩
theorem tb_1961 : Cond.code yX11_table cX11_table 4 (some .int) ∈ aw_TB := aw_tb 1961 (by decide +kernel) (by decide +kernel)
theorem tb_1958 : Cond.methodLink RL 157 yX11_table ∈ aw_TB := aw_tb 1958 (by decide +kernel) (by decide +kernel)
theorem tb_1959 : Cond.instanceMethod yX11_table ∈ aw_TB := aw_tb 1959 (by decide +kernel) (by decide +kernel)
theorem tb_1960 : Cond.selects RX11 yX11_table yX11_table ∈ aw_TB := aw_tb 1960 (by decide +kernel) (by decide +kernel)
theorem cw_RL_157 : aw_cv RL 157 yX11_table cX11_table 4 (some .int) 0 := ⟨⟨tb_1961, tb_17, ⟨by decide, by decide⟩, by decide +kernel, tb_1958⟩, tb_1959, tb_1960⟩
theorem tb_1264 : Cond.code yX10_against cX10_against 4 (some .int) ∈ aw_TB := aw_tb 1264 (by decide +kernel) (by decide +kernel)
theorem tb_1261 : Cond.methodLink RL 158 yX10_against ∈ aw_TB := aw_tb 1261 (by decide +kernel) (by decide +kernel)
theorem tb_1262 : Cond.instanceMethod yX10_against ∈ aw_TB := aw_tb 1262 (by decide +kernel) (by decide +kernel)
theorem tb_1263 : Cond.selects RX10 yX10_against yX10_against ∈ aw_TB := aw_tb 1263 (by decide +kernel) (by decide +kernel)
theorem cw_RL_158 : aw_cv RL 158 yX10_against cX10_against 4 (some .int) 3 := ⟨⟨tb_1264, tb_1, ⟨by decide, by decide⟩, by decide +kernel, tb_1261⟩, tb_1262, tb_1263⟩
theorem tb_1965 : Cond.code yX11_against cX11_against 4 (some .int) ∈ aw_TB := aw_tb 1965 (by decide +kernel) (by decide +kernel)
theorem tb_1962 : Cond.methodLink RL 161 yX11_against ∈ aw_TB := aw_tb 1962 (by decide +kernel) (by decide +kernel)
theorem tb_1963 : Cond.instanceMethod yX11_against ∈ aw_TB := aw_tb 1963 (by decide +kernel) (by decide +kernel)
theorem tb_1964 : Cond.selects RX11 yX11_against yX11_against ∈ aw_TB := aw_tb 1964 (by decide +kernel) (by decide +kernel)
theorem cw_RL_161 : aw_cv RL 161 yX11_against cX11_against 4 (some .int) 3 := ⟨⟨tb_1965, tb_17, ⟨by decide, by decide⟩, by decide +kernel, tb_1962⟩, tb_1963, tb_1964⟩
theorem tb_1272 : Cond.code yX10_reply cX10_reply 2 (some .int) ∈ aw_TB := aw_tb 1272 (by decide +kernel) (by decide +kernel)
theorem tb_1269 : Cond.methodLink RL 162 yX10_reply ∈ aw_TB := aw_tb 1269 (by decide +kernel) (by decide +kernel)
theorem tb_1270 : Cond.instanceMethod yX10_reply ∈ aw_TB := aw_tb 1270 (by decide +kernel) (by decide +kernel)
theorem tb_1271 : Cond.selects RX10 yX10_reply yX10_reply ∈ aw_TB := aw_tb 1271 (by decide +kernel) (by decide +kernel)
theorem cw_RL_162 : aw_cv RL 162 yX10_reply cX10_reply 2 (some .int) 1 := ⟨⟨tb_1272, tb_1, ⟨by decide, by decide⟩, by decide +kernel, tb_1269⟩, tb_1270, tb_1271⟩
theorem tb_1969 : Cond.code yX11_reply cX11_reply 4 (some .int) ∈ aw_TB := aw_tb 1969 (by decide +kernel) (by decide +kernel)
theorem tb_1966 : Cond.methodLink RL 165 yX11_reply ∈ aw_TB := aw_tb 1966 (by decide +kernel) (by decide +kernel)
theorem tb_1967 : Cond.instanceMethod yX11_reply ∈ aw_TB := aw_tb 1967 (by decide +kernel) (by decide +kernel)
theorem tb_1968 : Cond.selects RX11 yX11_reply yX11_reply ∈ aw_TB := aw_tb 1968 (by decide +kernel) (by decide +kernel)
theorem cw_RL_165 : aw_cv RL 165 yX11_reply cX11_reply 4 (some .int) 1 := ⟨⟨tb_1969, tb_17, ⟨by decide, by decide⟩, by decide +kernel, tb_1966⟩, tb_1967, tb_1968⟩
theorem tb_1281 : Cond.code yX10_who cX10_who 3 (some .int) ∈ aw_TB := aw_tb 1281 (by decide +kernel) (by decide +kernel)
theorem tb_1278 : Cond.methodLink RL 166 yX10_who ∈ aw_TB := aw_tb 1278 (by decide +kernel) (by decide +kernel)
theorem tb_1279 : Cond.instanceMethod yX10_who ∈ aw_TB := aw_tb 1279 (by decide +kernel) (by decide +kernel)
theorem tb_1280 : Cond.selects RX10 yX10_who yX10_who ∈ aw_TB := aw_tb 1280 (by decide +kernel) (by decide +kernel)
theorem cw_RL_166 : aw_cv RL 166 yX10_who cX10_who 3 (some .int) 2 := ⟨⟨tb_1281, tb_1, ⟨by decide, by decide⟩, by decide +kernel, tb_1278⟩, tb_1279, tb_1280⟩
theorem tb_1973 : Cond.code yX11_who cX11_who 5 (some .int) ∈ aw_TB := aw_tb 1973 (by decide +kernel) (by decide +kernel)
theorem tb_1970 : Cond.methodLink RL 169 yX11_who ∈ aw_TB := aw_tb 1970 (by decide +kernel) (by decide +kernel)
theorem tb_1971 : Cond.instanceMethod yX11_who ∈ aw_TB := aw_tb 1971 (by decide +kernel) (by decide +kernel)
theorem tb_1972 : Cond.selects RX11 yX11_who yX11_who ∈ aw_TB := aw_tb 1972 (by decide +kernel) (by decide +kernel)
theorem cw_RL_169 : aw_cv RL 169 yX11_who cX11_who 5 (some .int) 2 := ⟨⟨tb_1973, tb_17, ⟨by decide, by decide⟩, by decide +kernel, tb_1970⟩, tb_1971, tb_1972⟩
theorem tb_1293 : Cond.code yX10_odds cX10_odds 7 (some .int) ∈ aw_TB := aw_tb 1293 (by decide +kernel) (by decide +kernel)
theorem tb_1290 : Cond.methodLink RL 170 yX10_odds ∈ aw_TB := aw_tb 1290 (by decide +kernel) (by decide +kernel)
theorem tb_1291 : Cond.instanceMethod yX10_odds ∈ aw_TB := aw_tb 1291 (by decide +kernel) (by decide +kernel)
theorem tb_1292 : Cond.selects RX10 yX10_odds yX10_odds ∈ aw_TB := aw_tb 1292 (by decide +kernel) (by decide +kernel)
theorem cw_RL_170 : aw_cv RL 170 yX10_odds cX10_odds 7 (some .int) 3 := ⟨⟨tb_1293, tb_1, ⟨by decide, by decide⟩, by decide +kernel, tb_1290⟩, tb_1291, tb_1292⟩
theorem tb_1977 : Cond.code yX11_odds cX11_odds 7 (some .int) ∈ aw_TB := aw_tb 1977 (by decide +kernel) (by decide +kernel)
theorem tb_1974 : Cond.methodLink RL 173 yX11_odds ∈ aw_TB := aw_tb 1974 (by decide +kernel) (by decide +kernel)
theorem tb_1975 : Cond.instanceMethod yX11_odds ∈ aw_TB := aw_tb 1975 (by decide +kernel) (by decide +kernel)
theorem tb_1976 : Cond.selects RX11 yX11_odds yX11_odds ∈ aw_TB := aw_tb 1976 (by decide +kernel) (by decide +kernel)
theorem cw_RL_173 : aw_cv RL 173 yX11_odds cX11_odds 7 (some .int) 3 := ⟨⟨tb_1977, tb_17, ⟨by decide, by decide⟩, by decide +kernel, tb_1974⟩, tb_1975, tb_1976⟩
theorem tb_884 : Cond.code yX10_sentence cX10_sentence 2 (some .int) ∈ aw_TB := aw_tb 884 (by decide +kernel) (by decide +kernel)
theorem tb_881 : Cond.methodLink RL 174 yX10_sentence ∈ aw_TB := aw_tb 881 (by decide +kernel) (by decide +kernel)
theorem tb_882 : Cond.instanceMethod yX10_sentence ∈ aw_TB := aw_tb 882 (by decide +kernel) (by decide +kernel)
theorem tb_883 : Cond.selects RX10 yX10_sentence yX10_sentence ∈ aw_TB := aw_tb 883 (by decide +kernel) (by decide +kernel)
theorem cw_RL_174 : aw_cv RL 174 yX10_sentence cX10_sentence 2 (some .int) 0 := ⟨⟨tb_884, tb_1, ⟨by decide, by decide⟩, by decide +kernel, tb_881⟩, tb_882, tb_883⟩
theorem tb_1981 : Cond.code yX11_sentence cX11_sentence 3 (some .int) ∈ aw_TB := aw_tb 1981 (by decide +kernel) (by decide +kernel)
theorem tb_1978 : Cond.methodLink RL 177 yX11_sentence ∈ aw_TB := aw_tb 1978 (by decide +kernel) (by decide +kernel)
theorem tb_1979 : Cond.instanceMethod yX11_sentence ∈ aw_TB := aw_tb 1979 (by decide +kernel) (by decide +kernel)
theorem tb_1980 : Cond.selects RX11 yX11_sentence yX11_sentence ∈ aw_TB := aw_tb 1980 (by decide +kernel) (by decide +kernel)
theorem cw_RL_177 : aw_cv RL 177 yX11_sentence cX11_sentence 3 (some .int) 0 := ⟨⟨tb_1981, tb_17, ⟨by decide, by decide⟩, by decide +kernel, tb_1978⟩, tb_1979, tb_1980⟩
theorem tb_1301 : Cond.code yX10_said cX10_said 4 (some .int) ∈ aw_TB := aw_tb 1301 (by decide +kernel) (by decide +kernel)
theorem tb_1298 : Cond.methodLink RL 178 yX10_said ∈ aw_TB := aw_tb 1298 (by decide +kernel) (by decide +kernel)
theorem tb_1299 : Cond.instanceMethod yX10_said ∈ aw_TB := aw_tb 1299 (by decide +kernel) (by decide +kernel)
theorem tb_1300 : Cond.selects RX10 yX10_said yX10_said ∈ aw_TB := aw_tb 1300 (by decide +kernel) (by decide +kernel)
theorem cw_RL_178 : aw_cv RL 178 yX10_said cX10_said 4 (some .int) 1 := ⟨⟨tb_1301, tb_1, ⟨by decide, by decide⟩, by decide +kernel, tb_1298⟩, tb_1299, tb_1300⟩
theorem tb_2009 : Cond.code yX11_said cX11_said 4 (some .int) ∈ aw_TB := aw_tb 2009 (by decide +kernel) (by decide +kernel)
theorem tb_2006 : Cond.methodLink RL 181 yX11_said ∈ aw_TB := aw_tb 2006 (by decide +kernel) (by decide +kernel)
theorem tb_2007 : Cond.instanceMethod yX11_said ∈ aw_TB := aw_tb 2007 (by decide +kernel) (by decide +kernel)
theorem tb_2008 : Cond.selects RX11 yX11_said yX11_said ∈ aw_TB := aw_tb 2008 (by decide +kernel) (by decide +kernel)
theorem cw_RL_181 : aw_cv RL 181 yX11_said cX11_said 4 (some .int) 1 := ⟨⟨tb_2009, tb_17, ⟨by decide, by decide⟩, by decide +kernel, tb_2006⟩, tb_2007, tb_2008⟩
theorem tb_1326 : Cond.code yX10_image cX10_image 2 (some .boolean) ∈ aw_TB := aw_tb 1326 (by decide +kernel) (by decide +kernel)
theorem tb_1323 : Cond.methodLink RL 182 yX10_image ∈ aw_TB := aw_tb 1323 (by decide +kernel) (by decide +kernel)
theorem tb_1324 : Cond.instanceMethod yX10_image ∈ aw_TB := aw_tb 1324 (by decide +kernel) (by decide +kernel)
theorem tb_1325 : Cond.selects RX10 yX10_image yX10_image ∈ aw_TB := aw_tb 1325 (by decide +kernel) (by decide +kernel)
theorem cw_RL_182 : aw_cv RL 182 yX10_image cX10_image 2 (some .boolean) 1 := ⟨⟨tb_1326, tb_1, ⟨by decide, by decide⟩, by decide +kernel, tb_1323⟩, tb_1324, tb_1325⟩
theorem tb_2021 : Cond.code yX11_image cX11_image 3 (some .boolean) ∈ aw_TB := aw_tb 2021 (by decide +kernel) (by decide +kernel)
theorem tb_2018 : Cond.methodLink RL 185 yX11_image ∈ aw_TB := aw_tb 2018 (by decide +kernel) (by decide +kernel)
theorem tb_2019 : Cond.instanceMethod yX11_image ∈ aw_TB := aw_tb 2019 (by decide +kernel) (by decide +kernel)
theorem tb_2020 : Cond.selects RX11 yX11_image yX11_image ∈ aw_TB := aw_tb 2020 (by decide +kernel) (by decide +kernel)
theorem cw_RL_185 : aw_cv RL 185 yX11_image cX11_image 3 (some .boolean) 1 := ⟨⟨tb_2021, tb_17, ⟨by decide, by decide⟩, by decide +kernel, tb_2018⟩, tb_2019, tb_2020⟩
theorem tb_1341 : Cond.code yX10_restore cX10_restore 2 (some .boolean) ∈ aw_TB := aw_tb 1341 (by decide +kernel) (by decide +kernel)
theorem tb_1338 : Cond.methodLink RL 186 yX10_restore ∈ aw_TB := aw_tb 1338 (by decide +kernel) (by decide +kernel)
theorem tb_1339 : Cond.instanceMethod yX10_restore ∈ aw_TB := aw_tb 1339 (by decide +kernel) (by decide +kernel)
theorem tb_1340 : Cond.selects RX10 yX10_restore yX10_restore ∈ aw_TB := aw_tb 1340 (by decide +kernel) (by decide +kernel)
theorem cw_RL_186 : aw_cv RL 186 yX10_restore cX10_restore 2 (some .boolean) 1 := ⟨⟨tb_1341, tb_1, ⟨by decide, by decide⟩, by decide +kernel, tb_1338⟩, tb_1339, tb_1340⟩
theorem tb_2025 : Cond.code yX11_restore cX11_restore 3 (some .boolean) ∈ aw_TB := aw_tb 2025 (by decide +kernel) (by decide +kernel)
theorem tb_2022 : Cond.methodLink RL 189 yX11_restore ∈ aw_TB := aw_tb 2022 (by decide +kernel) (by decide +kernel)
theorem tb_2023 : Cond.instanceMethod yX11_restore ∈ aw_TB := aw_tb 2023 (by decide +kernel) (by decide +kernel)
theorem tb_2024 : Cond.selects RX11 yX11_restore yX11_restore ∈ aw_TB := aw_tb 2024 (by decide +kernel) (by decide +kernel)
theorem cw_RL_189 : aw_cv RL 189 yX11_restore cX11_restore 3 (some .boolean) 1 := ⟨⟨tb_2025, tb_17, ⟨by decide, by decide⟩, by decide +kernel, tb_2022⟩, tb_2023, tb_2024⟩
theorem tb_1345 : Cond.code yX10_count cX10_count 3 (some .int) ∈ aw_TB := aw_tb 1345 (by decide +kernel) (by decide +kernel)
theorem tb_1342 : Cond.methodLink RL 190 yX10_count ∈ aw_TB := aw_tb 1342 (by decide +kernel) (by decide +kernel)
theorem tb_1343 : Cond.instanceMethod yX10_count ∈ aw_TB := aw_tb 1343 (by decide +kernel) (by decide +kernel)
theorem tb_1344 : Cond.selects RX10 yX10_count yX10_count ∈ aw_TB := aw_tb 1344 (by decide +kernel) (by decide +kernel)
theorem cw_RL_190 : aw_cv RL 190 yX10_count cX10_count 3 (some .int) 1 := ⟨⟨tb_1345, tb_1, ⟨by decide, by decide⟩, by decide +kernel, tb_1342⟩, tb_1343, tb_1344⟩
theorem tb_2029 : Cond.code yX11_count cX11_count 2 (some .int) ∈ aw_TB := aw_tb 2029 (by decide +kernel) (by decide +kernel)
theorem tb_2026 : Cond.methodLink RL 193 yX11_count ∈ aw_TB := aw_tb 2026 (by decide +kernel) (by decide +kernel)
theorem tb_2027 : Cond.instanceMethod yX11_count ∈ aw_TB := aw_tb 2027 (by decide +kernel) (by decide +kernel)
theorem tb_2028 : Cond.selects RX11 yX11_count yX11_count ∈ aw_TB := aw_tb 2028 (by decide +kernel) (by decide +kernel)
theorem cw_RL_193 : aw_cv RL 193 yX11_count cX11_count 2 (some .int) 1 := ⟨⟨tb_2029, tb_17, ⟨by decide, by decide⟩, by decide +kernel, tb_2026⟩, tb_2027, tb_2028⟩
theorem dL_law_0 : decode cL_law 0 = .ok (.new 8, 3) := by decide +kernel
theorem dL_law_3 : decode cL_law 3 = .ok (.dup, 1) := by decide +kernel
theorem dL_law_4 : decode cL_law 4 = .ok (.invokespecial 21, 3) := by decide +kernel
theorem dL_law_7 : decode cL_law 7 = .ok (.astore_n 1, 1) := by decide +kernel
theorem dL_law_8 : decode cL_law 8 = .ok (.new 22, 3) := by decide +kernel
theorem dL_law_11 : decode cL_law 11 = .ok (.dup, 1) := by decide +kernel
theorem dL_law_12 : decode cL_law 12 = .ok (.invokespecial 24, 3) := by decide +kernel
theorem dL_law_15 : decode cL_law 15 = .ok (.astore_n 2, 1) := by decide +kernel
theorem dL_law_16 : decode cL_law 16 = .ok (.iconst 1, 1) := by decide +kernel
theorem dL_law_17 : decode cL_law 17 = .ok (.newarray .long, 2) := by decide +kernel
theorem dL_law_19 : decode cL_law 19 = .ok (.astore_n 3, 1) := by decide +kernel
theorem dL_law_20 : decode cL_law 20 = .ok (.iconst 0, 1) := by decide +kernel
theorem dL_law_21 : decode cL_law 21 = .ok (.istore 4, 2) := by decide +kernel
theorem dL_law_23 : decode cL_law 23 = .ok (.iload 4, 2) := by decide +kernel
theorem dL_law_25 : decode cL_law 25 = .ok (.aload_n 0, 1) := by decide +kernel
theorem dL_law_26 : decode cL_law 26 = .ok (.arraylength, 1) := by decide +kernel
theorem dL_law_27 : decode cL_law 27 = .ok (.bipush 6, 2) := by decide +kernel
theorem dL_law_29 : decode cL_law 29 = .ok (.isub, 1) := by decide +kernel
theorem dL_law_30 : decode cL_law 30 = .ok (.if_icmp .gt 1451, 3) := by decide +kernel
theorem dL_law_33 : decode cL_law 33 = .ok (.aload_n 0, 1) := by decide +kernel
theorem dL_law_34 : decode cL_law 34 = .ok (.iload 4, 2) := by decide +kernel
theorem dL_law_36 : decode cL_law 36 = .ok (.iaload, 1) := by decide +kernel
theorem dL_law_37 : decode cL_law 37 = .ok (.bipush 63, 2) := by decide +kernel
theorem dL_law_39 : decode cL_law 39 = .ok (.iand, 1) := by decide +kernel
theorem dL_law_40 : decode cL_law 40 = .ok (.tableswitch 1435 0 39 #[176, 249, 274, 287, 300, 313, 381, 449, 517, 540, 565, 590, 627, 652, 689, 714, 763, 788, 813, 838, 875, 900, 937, 950, 975, 1012, 1073, 1086, 1111, 1124, 1149, 1162, 1211, 1236, 1273, 1322, 1335, 1360, 1385, 1410], 176) := by decide +kernel
theorem dL_law_216 : decode cL_law 216 = .ok (.aload_n 1, 1) := by decide +kernel
theorem dL_law_217 : decode cL_law 217 = .ok (.aload_n 0, 1) := by decide +kernel
theorem dL_law_218 : decode cL_law 218 = .ok (.iload 4, 2) := by decide +kernel
theorem dL_law_220 : decode cL_law 220 = .ok (.iconst 1, 1) := by decide +kernel
theorem dL_law_221 : decode cL_law 221 = .ok (.iadd, 1) := by decide +kernel
theorem dL_law_222 : decode cL_law 222 = .ok (.iaload, 1) := by decide +kernel
theorem dL_law_223 : decode cL_law 223 = .ok (.aload_n 0, 1) := by decide +kernel
theorem dL_law_224 : decode cL_law 224 = .ok (.iload 4, 2) := by decide +kernel
theorem dL_law_226 : decode cL_law 226 = .ok (.iconst 2, 1) := by decide +kernel
theorem dL_law_227 : decode cL_law 227 = .ok (.iadd, 1) := by decide +kernel
theorem dL_law_228 : decode cL_law 228 = .ok (.iaload, 1) := by decide +kernel
theorem dL_law_229 : decode cL_law 229 = .ok (.aload_n 0, 1) := by decide +kernel
theorem dL_law_230 : decode cL_law 230 = .ok (.iload 4, 2) := by decide +kernel
theorem dL_law_232 : decode cL_law 232 = .ok (.iconst 3, 1) := by decide +kernel
theorem dL_law_233 : decode cL_law 233 = .ok (.iadd, 1) := by decide +kernel
theorem dL_law_234 : decode cL_law 234 = .ok (.iaload, 1) := by decide +kernel
theorem dL_law_235 : decode cL_law 235 = .ok (.aload_n 0, 1) := by decide +kernel
theorem dL_law_236 : decode cL_law 236 = .ok (.iload 4, 2) := by decide +kernel
theorem dL_law_238 : decode cL_law 238 = .ok (.iconst 4, 1) := by decide +kernel
theorem dL_law_239 : decode cL_law 239 = .ok (.iadd, 1) := by decide +kernel
theorem dL_law_240 : decode cL_law 240 = .ok (.iaload, 1) := by decide +kernel
theorem dL_law_241 : decode cL_law 241 = .ok (.aload_n 0, 1) := by decide +kernel
theorem dL_law_242 : decode cL_law 242 = .ok (.iload 4, 2) := by decide +kernel
theorem dL_law_244 : decode cL_law 244 = .ok (.iconst 5, 1) := by decide +kernel
theorem dL_law_245 : decode cL_law 245 = .ok (.iadd, 1) := by decide +kernel
theorem dL_law_246 : decode cL_law 246 = .ok (.iaload, 1) := by decide +kernel
theorem dL_law_247 : decode cL_law 247 = .ok (.invokevirtual 25, 3) := by decide +kernel
theorem dL_law_250 : decode cL_law 250 = .ok (.aload_n 2, 1) := by decide +kernel
theorem dL_law_251 : decode cL_law 251 = .ok (.aload_n 0, 1) := by decide +kernel
theorem dL_law_252 : decode cL_law 252 = .ok (.iload 4, 2) := by decide +kernel
theorem dL_law_254 : decode cL_law 254 = .ok (.iconst 1, 1) := by decide +kernel
theorem dL_law_255 : decode cL_law 255 = .ok (.iadd, 1) := by decide +kernel
theorem dL_law_256 : decode cL_law 256 = .ok (.iaload, 1) := by decide +kernel
theorem dL_law_257 : decode cL_law 257 = .ok (.aload_n 0, 1) := by decide +kernel
theorem dL_law_258 : decode cL_law 258 = .ok (.iload 4, 2) := by decide +kernel
theorem dL_law_260 : decode cL_law 260 = .ok (.iconst 2, 1) := by decide +kernel
theorem dL_law_261 : decode cL_law 261 = .ok (.iadd, 1) := by decide +kernel
theorem dL_law_262 : decode cL_law 262 = .ok (.iaload, 1) := by decide +kernel
theorem dL_law_263 : decode cL_law 263 = .ok (.aload_n 0, 1) := by decide +kernel
theorem dL_law_264 : decode cL_law 264 = .ok (.iload 4, 2) := by decide +kernel
theorem dL_law_266 : decode cL_law 266 = .ok (.iconst 3, 1) := by decide +kernel
theorem dL_law_267 : decode cL_law 267 = .ok (.iadd, 1) := by decide +kernel
theorem dL_law_268 : decode cL_law 268 = .ok (.iaload, 1) := by decide +kernel
theorem dL_law_269 : decode cL_law 269 = .ok (.aload_n 0, 1) := by decide +kernel
theorem dL_law_270 : decode cL_law 270 = .ok (.iload 4, 2) := by decide +kernel
theorem dL_law_272 : decode cL_law 272 = .ok (.iconst 4, 1) := by decide +kernel
theorem dL_law_273 : decode cL_law 273 = .ok (.iadd, 1) := by decide +kernel
theorem dL_law_274 : decode cL_law 274 = .ok (.iaload, 1) := by decide +kernel
theorem dL_law_275 : decode cL_law 275 = .ok (.aload_n 0, 1) := by decide +kernel
theorem dL_law_276 : decode cL_law 276 = .ok (.iload 4, 2) := by decide +kernel
theorem dL_law_278 : decode cL_law 278 = .ok (.iconst 5, 1) := by decide +kernel
theorem dL_law_279 : decode cL_law 279 = .ok (.iadd, 1) := by decide +kernel
theorem dL_law_280 : decode cL_law 280 = .ok (.iaload, 1) := by decide +kernel
theorem dL_law_281 : decode cL_law 281 = .ok (.invokevirtual 29, 3) := by decide +kernel
theorem dL_law_284 : decode cL_law 284 = .ok (.if_icmp .eq 1191, 3) := by decide +kernel
theorem dL_law_287 : decode cL_law 287 = .ok (.iconst 0, 1) := by decide +kernel
theorem dL_law_288 : decode cL_law 288 = .ok (.ireturn, 1) := by decide +kernel
theorem dL_law_289 : decode cL_law 289 = .ok (.aload_n 1, 1) := by decide +kernel
theorem dL_law_290 : decode cL_law 290 = .ok (.aload_n 0, 1) := by decide +kernel
theorem dL_law_291 : decode cL_law 291 = .ok (.iload 4, 2) := by decide +kernel
theorem dL_law_293 : decode cL_law 293 = .ok (.iconst 1, 1) := by decide +kernel
theorem dL_law_294 : decode cL_law 294 = .ok (.iadd, 1) := by decide +kernel
theorem dL_law_295 : decode cL_law 295 = .ok (.iaload, 1) := by decide +kernel
theorem dL_law_296 : decode cL_law 296 = .ok (.invokevirtual 30, 3) := by decide +kernel
theorem dL_law_299 : decode cL_law 299 = .ok (.aload_n 2, 1) := by decide +kernel
theorem dL_law_300 : decode cL_law 300 = .ok (.aload_n 0, 1) := by decide +kernel
theorem dL_law_301 : decode cL_law 301 = .ok (.iload 4, 2) := by decide +kernel
theorem dL_law_303 : decode cL_law 303 = .ok (.iconst 1, 1) := by decide +kernel
theorem dL_law_304 : decode cL_law 304 = .ok (.iadd, 1) := by decide +kernel
theorem dL_law_305 : decode cL_law 305 = .ok (.iaload, 1) := by decide +kernel
theorem dL_law_306 : decode cL_law 306 = .ok (.invokevirtual 34, 3) := by decide +kernel
theorem dL_law_309 : decode cL_law 309 = .ok (.if_icmp .eq 1166, 3) := by decide +kernel
theorem dL_law_312 : decode cL_law 312 = .ok (.iconst 0, 1) := by decide +kernel
theorem dL_law_313 : decode cL_law 313 = .ok (.ireturn, 1) := by decide +kernel
theorem dL_law_314 : decode cL_law 314 = .ok (.aload_n 1, 1) := by decide +kernel
theorem dL_law_315 : decode cL_law 315 = .ok (.invokevirtual 35, 3) := by decide +kernel
theorem dL_law_318 : decode cL_law 318 = .ok (.aload_n 2, 1) := by decide +kernel
theorem dL_law_319 : decode cL_law 319 = .ok (.invokevirtual 39, 3) := by decide +kernel
theorem dL_law_322 : decode cL_law 322 = .ok (.if_icmp .eq 1153, 3) := by decide +kernel
theorem dL_law_325 : decode cL_law 325 = .ok (.iconst 0, 1) := by decide +kernel
theorem dL_law_326 : decode cL_law 326 = .ok (.ireturn, 1) := by decide +kernel
theorem dL_law_327 : decode cL_law 327 = .ok (.aload_n 1, 1) := by decide +kernel
theorem dL_law_328 : decode cL_law 328 = .ok (.invokevirtual 40, 3) := by decide +kernel
theorem dL_law_331 : decode cL_law 331 = .ok (.aload_n 2, 1) := by decide +kernel
theorem dL_law_332 : decode cL_law 332 = .ok (.invokevirtual 43, 3) := by decide +kernel
theorem dL_law_335 : decode cL_law 335 = .ok (.if_icmp .eq 1140, 3) := by decide +kernel
theorem dL_law_338 : decode cL_law 338 = .ok (.iconst 0, 1) := by decide +kernel
theorem dL_law_339 : decode cL_law 339 = .ok (.ireturn, 1) := by decide +kernel
theorem dL_law_340 : decode cL_law 340 = .ok (.aload_n 1, 1) := by decide +kernel
theorem dL_law_341 : decode cL_law 341 = .ok (.invokevirtual 44, 3) := by decide +kernel
theorem dL_law_344 : decode cL_law 344 = .ok (.aload_n 2, 1) := by decide +kernel
theorem dL_law_345 : decode cL_law 345 = .ok (.invokevirtual 47, 3) := by decide +kernel
theorem dL_law_348 : decode cL_law 348 = .ok (.if_icmp .eq 1127, 3) := by decide +kernel
theorem dL_law_351 : decode cL_law 351 = .ok (.iconst 0, 1) := by decide +kernel
theorem dL_law_352 : decode cL_law 352 = .ok (.ireturn, 1) := by decide +kernel
theorem dL_law_353 : decode cL_law 353 = .ok (.aload_n 1, 1) := by decide +kernel
theorem dL_law_354 : decode cL_law 354 = .ok (.aload_n 0, 1) := by decide +kernel
theorem dL_law_355 : decode cL_law 355 = .ok (.iload 4, 2) := by decide +kernel
theorem dL_law_357 : decode cL_law 357 = .ok (.iconst 1, 1) := by decide +kernel
theorem dL_law_358 : decode cL_law 358 = .ok (.iadd, 1) := by decide +kernel
theorem dL_law_359 : decode cL_law 359 = .ok (.iaload, 1) := by decide +kernel
theorem dL_law_360 : decode cL_law 360 = .ok (.aload_n 0, 1) := by decide +kernel
theorem dL_law_361 : decode cL_law 361 = .ok (.iload 4, 2) := by decide +kernel
theorem dL_law_363 : decode cL_law 363 = .ok (.iconst 2, 1) := by decide +kernel
theorem dL_law_364 : decode cL_law 364 = .ok (.iadd, 1) := by decide +kernel
theorem dL_law_365 : decode cL_law 365 = .ok (.iaload, 1) := by decide +kernel
theorem dL_law_366 : decode cL_law 366 = .ok (.aload_n 3, 1) := by decide +kernel
theorem dL_law_367 : decode cL_law 367 = .ok (.invokestatic 48, 3) := by decide +kernel
theorem dL_law_370 : decode cL_law 370 = .ok (.istore 5, 2) := by decide +kernel
theorem dL_law_372 : decode cL_law 372 = .ok (.aload_n 2, 1) := by decide +kernel
theorem dL_law_373 : decode cL_law 373 = .ok (.aload_n 0, 1) := by decide +kernel
theorem dL_law_374 : decode cL_law 374 = .ok (.iload 4, 2) := by decide +kernel
theorem dL_law_376 : decode cL_law 376 = .ok (.iconst 1, 1) := by decide +kernel
theorem dL_law_377 : decode cL_law 377 = .ok (.iadd, 1) := by decide +kernel
theorem dL_law_378 : decode cL_law 378 = .ok (.iaload, 1) := by decide +kernel
theorem dL_law_379 : decode cL_law 379 = .ok (.aload_n 0, 1) := by decide +kernel
theorem dL_law_380 : decode cL_law 380 = .ok (.iload 4, 2) := by decide +kernel
theorem dL_law_382 : decode cL_law 382 = .ok (.iconst 2, 1) := by decide +kernel
theorem dL_law_383 : decode cL_law 383 = .ok (.iadd, 1) := by decide +kernel
theorem dL_law_384 : decode cL_law 384 = .ok (.iaload, 1) := by decide +kernel
theorem dL_law_385 : decode cL_law 385 = .ok (.invokevirtual 53, 3) := by decide +kernel
theorem dL_law_388 : decode cL_law 388 = .ok (.istore 6, 2) := by decide +kernel
theorem dL_law_390 : decode cL_law 390 = .ok (.aload_n 2, 1) := by decide +kernel
theorem dL_law_391 : decode cL_law 391 = .ok (.invokevirtual 54, 3) := by decide +kernel
theorem dL_law_394 : decode cL_law 394 = .ok (.iload 5, 2) := by decide +kernel
theorem dL_law_396 : decode cL_law 396 = .ok (.if_icmp .eq 5, 3) := by decide +kernel
theorem dL_law_399 : decode cL_law 399 = .ok (.iconst 0, 1) := by decide +kernel
theorem dL_law_400 : decode cL_law 400 = .ok (.ireturn, 1) := by decide +kernel
theorem dL_law_401 : decode cL_law 401 = .ok (.iload 5, 2) := by decide +kernel
theorem dL_law_403 : decode cL_law 403 = .ok (.ifCond .ne 15, 3) := by decide +kernel
theorem dL_law_406 : decode cL_law 406 = .ok (.aload_n 3, 1) := by decide +kernel
theorem dL_law_407 : decode cL_law 407 = .ok (.iconst 0, 1) := by decide +kernel
theorem dL_law_408 : decode cL_law 408 = .ok (.laload, 1) := by decide +kernel
theorem dL_law_409 : decode cL_law 409 = .ok (.iload 6, 2) := by decide +kernel
theorem dL_law_411 : decode cL_law 411 = .ok (.i2l, 1) := by decide +kernel
theorem dL_law_412 : decode cL_law 412 = .ok (.lcmp, 1) := by decide +kernel
theorem dL_law_413 : decode cL_law 413 = .ok (.ifCond .eq 5, 3) := by decide +kernel
theorem dL_law_416 : decode cL_law 416 = .ok (.iconst 0, 1) := by decide +kernel
theorem dL_law_417 : decode cL_law 417 = .ok (.ireturn, 1) := by decide +kernel
theorem dL_law_418 : decode cL_law 418 = .ok (.goto 1057, 3) := by decide +kernel
theorem dL_law_421 : decode cL_law 421 = .ok (.aload_n 1, 1) := by decide +kernel
theorem dL_law_422 : decode cL_law 422 = .ok (.aload_n 0, 1) := by decide +kernel
theorem dL_law_423 : decode cL_law 423 = .ok (.iload 4, 2) := by decide +kernel
theorem dL_law_425 : decode cL_law 425 = .ok (.iconst 1, 1) := by decide +kernel
theorem dL_law_426 : decode cL_law 426 = .ok (.iadd, 1) := by decide +kernel
theorem dL_law_427 : decode cL_law 427 = .ok (.iaload, 1) := by decide +kernel
theorem dL_law_428 : decode cL_law 428 = .ok (.aload_n 0, 1) := by decide +kernel
theorem dL_law_429 : decode cL_law 429 = .ok (.iload 4, 2) := by decide +kernel
theorem dL_law_431 : decode cL_law 431 = .ok (.iconst 2, 1) := by decide +kernel
theorem dL_law_432 : decode cL_law 432 = .ok (.iadd, 1) := by decide +kernel
theorem dL_law_433 : decode cL_law 433 = .ok (.iaload, 1) := by decide +kernel
theorem dL_law_434 : decode cL_law 434 = .ok (.aload_n 3, 1) := by decide +kernel
theorem dL_law_435 : decode cL_law 435 = .ok (.invokestatic 57, 3) := by decide +kernel
theorem dL_law_438 : decode cL_law 438 = .ok (.istore 5, 2) := by decide +kernel
theorem dL_law_440 : decode cL_law 440 = .ok (.aload_n 2, 1) := by decide +kernel
theorem dL_law_441 : decode cL_law 441 = .ok (.aload_n 0, 1) := by decide +kernel
theorem dL_law_442 : decode cL_law 442 = .ok (.iload 4, 2) := by decide +kernel
theorem dL_law_444 : decode cL_law 444 = .ok (.iconst 1, 1) := by decide +kernel
theorem dL_law_445 : decode cL_law 445 = .ok (.iadd, 1) := by decide +kernel
theorem dL_law_446 : decode cL_law 446 = .ok (.iaload, 1) := by decide +kernel
theorem dL_law_447 : decode cL_law 447 = .ok (.aload_n 0, 1) := by decide +kernel
theorem dL_law_448 : decode cL_law 448 = .ok (.iload 4, 2) := by decide +kernel
theorem dL_law_450 : decode cL_law 450 = .ok (.iconst 2, 1) := by decide +kernel
theorem dL_law_451 : decode cL_law 451 = .ok (.iadd, 1) := by decide +kernel
theorem dL_law_452 : decode cL_law 452 = .ok (.iaload, 1) := by decide +kernel
theorem dL_law_453 : decode cL_law 453 = .ok (.invokevirtual 59, 3) := by decide +kernel
theorem dL_law_456 : decode cL_law 456 = .ok (.istore 6, 2) := by decide +kernel
theorem dL_law_458 : decode cL_law 458 = .ok (.aload_n 2, 1) := by decide +kernel
theorem dL_law_459 : decode cL_law 459 = .ok (.invokevirtual 54, 3) := by decide +kernel
theorem dL_law_462 : decode cL_law 462 = .ok (.iload 5, 2) := by decide +kernel
theorem dL_law_464 : decode cL_law 464 = .ok (.if_icmp .eq 5, 3) := by decide +kernel
theorem dL_law_467 : decode cL_law 467 = .ok (.iconst 0, 1) := by decide +kernel
theorem dL_law_468 : decode cL_law 468 = .ok (.ireturn, 1) := by decide +kernel
theorem dL_law_469 : decode cL_law 469 = .ok (.iload 5, 2) := by decide +kernel
theorem dL_law_471 : decode cL_law 471 = .ok (.ifCond .ne 15, 3) := by decide +kernel
theorem dL_law_474 : decode cL_law 474 = .ok (.aload_n 3, 1) := by decide +kernel
theorem dL_law_475 : decode cL_law 475 = .ok (.iconst 0, 1) := by decide +kernel
theorem dL_law_476 : decode cL_law 476 = .ok (.laload, 1) := by decide +kernel
theorem dL_law_477 : decode cL_law 477 = .ok (.iload 6, 2) := by decide +kernel
theorem dL_law_479 : decode cL_law 479 = .ok (.i2l, 1) := by decide +kernel
theorem dL_law_480 : decode cL_law 480 = .ok (.lcmp, 1) := by decide +kernel
theorem dL_law_481 : decode cL_law 481 = .ok (.ifCond .eq 5, 3) := by decide +kernel
theorem dL_law_484 : decode cL_law 484 = .ok (.iconst 0, 1) := by decide +kernel
theorem dL_law_485 : decode cL_law 485 = .ok (.ireturn, 1) := by decide +kernel
theorem dL_law_486 : decode cL_law 486 = .ok (.goto 989, 3) := by decide +kernel
theorem dL_law_489 : decode cL_law 489 = .ok (.aload_n 1, 1) := by decide +kernel
theorem dL_law_490 : decode cL_law 490 = .ok (.aload_n 0, 1) := by decide +kernel
theorem dL_law_491 : decode cL_law 491 = .ok (.iload 4, 2) := by decide +kernel
theorem dL_law_493 : decode cL_law 493 = .ok (.iconst 1, 1) := by decide +kernel
theorem dL_law_494 : decode cL_law 494 = .ok (.iadd, 1) := by decide +kernel
theorem dL_law_495 : decode cL_law 495 = .ok (.iaload, 1) := by decide +kernel
theorem dL_law_496 : decode cL_law 496 = .ok (.aload_n 0, 1) := by decide +kernel
theorem dL_law_497 : decode cL_law 497 = .ok (.iload 4, 2) := by decide +kernel
theorem dL_law_499 : decode cL_law 499 = .ok (.iconst 2, 1) := by decide +kernel
theorem dL_law_500 : decode cL_law 500 = .ok (.iadd, 1) := by decide +kernel
theorem dL_law_501 : decode cL_law 501 = .ok (.iaload, 1) := by decide +kernel
theorem dL_law_502 : decode cL_law 502 = .ok (.aload_n 3, 1) := by decide +kernel
theorem dL_law_503 : decode cL_law 503 = .ok (.invokestatic 60, 3) := by decide +kernel
theorem dL_law_506 : decode cL_law 506 = .ok (.istore 5, 2) := by decide +kernel
theorem dL_law_508 : decode cL_law 508 = .ok (.aload_n 2, 1) := by decide +kernel
theorem dL_law_509 : decode cL_law 509 = .ok (.aload_n 0, 1) := by decide +kernel
theorem dL_law_510 : decode cL_law 510 = .ok (.iload 4, 2) := by decide +kernel
theorem dL_law_512 : decode cL_law 512 = .ok (.iconst 1, 1) := by decide +kernel
theorem dL_law_513 : decode cL_law 513 = .ok (.iadd, 1) := by decide +kernel
theorem dL_law_514 : decode cL_law 514 = .ok (.iaload, 1) := by decide +kernel
theorem dL_law_515 : decode cL_law 515 = .ok (.aload_n 0, 1) := by decide +kernel
theorem dL_law_516 : decode cL_law 516 = .ok (.iload 4, 2) := by decide +kernel
theorem dL_law_518 : decode cL_law 518 = .ok (.iconst 2, 1) := by decide +kernel
theorem dL_law_519 : decode cL_law 519 = .ok (.iadd, 1) := by decide +kernel
theorem dL_law_520 : decode cL_law 520 = .ok (.iaload, 1) := by decide +kernel
theorem dL_law_521 : decode cL_law 521 = .ok (.invokevirtual 62, 3) := by decide +kernel
theorem dL_law_524 : decode cL_law 524 = .ok (.istore 6, 2) := by decide +kernel
theorem dL_law_526 : decode cL_law 526 = .ok (.aload_n 2, 1) := by decide +kernel
theorem dL_law_527 : decode cL_law 527 = .ok (.invokevirtual 54, 3) := by decide +kernel
theorem dL_law_530 : decode cL_law 530 = .ok (.iload 5, 2) := by decide +kernel
theorem dL_law_532 : decode cL_law 532 = .ok (.if_icmp .eq 5, 3) := by decide +kernel
theorem dL_law_535 : decode cL_law 535 = .ok (.iconst 0, 1) := by decide +kernel
theorem dL_law_536 : decode cL_law 536 = .ok (.ireturn, 1) := by decide +kernel
theorem dL_law_537 : decode cL_law 537 = .ok (.iload 5, 2) := by decide +kernel
theorem dL_law_539 : decode cL_law 539 = .ok (.ifCond .ne 15, 3) := by decide +kernel
theorem dL_law_542 : decode cL_law 542 = .ok (.aload_n 3, 1) := by decide +kernel
theorem dL_law_543 : decode cL_law 543 = .ok (.iconst 0, 1) := by decide +kernel
theorem dL_law_544 : decode cL_law 544 = .ok (.laload, 1) := by decide +kernel
theorem dL_law_545 : decode cL_law 545 = .ok (.iload 6, 2) := by decide +kernel
theorem dL_law_547 : decode cL_law 547 = .ok (.i2l, 1) := by decide +kernel
theorem dL_law_548 : decode cL_law 548 = .ok (.lcmp, 1) := by decide +kernel
theorem dL_law_549 : decode cL_law 549 = .ok (.ifCond .eq 5, 3) := by decide +kernel
theorem dL_law_552 : decode cL_law 552 = .ok (.iconst 0, 1) := by decide +kernel
theorem dL_law_553 : decode cL_law 553 = .ok (.ireturn, 1) := by decide +kernel
theorem dL_law_554 : decode cL_law 554 = .ok (.goto 921, 3) := by decide +kernel
theorem dL_law_557 : decode cL_law 557 = .ok (.aload_n 1, 1) := by decide +kernel
theorem dL_law_558 : decode cL_law 558 = .ok (.aload_n 0, 1) := by decide +kernel
theorem dL_law_559 : decode cL_law 559 = .ok (.iload 4, 2) := by decide +kernel
theorem dL_law_561 : decode cL_law 561 = .ok (.iconst 1, 1) := by decide +kernel
theorem dL_law_562 : decode cL_law 562 = .ok (.iadd, 1) := by decide +kernel
theorem dL_law_563 : decode cL_law 563 = .ok (.iaload, 1) := by decide +kernel
theorem dL_law_564 : decode cL_law 564 = .ok (.invokevirtual 63, 3) := by decide +kernel
theorem dL_law_567 : decode cL_law 567 = .ok (.aload_n 2, 1) := by decide +kernel
theorem dL_law_568 : decode cL_law 568 = .ok (.aload_n 0, 1) := by decide +kernel
theorem dL_law_569 : decode cL_law 569 = .ok (.iload 4, 2) := by decide +kernel
theorem dL_law_571 : decode cL_law 571 = .ok (.iconst 1, 1) := by decide +kernel
theorem dL_law_572 : decode cL_law 572 = .ok (.iadd, 1) := by decide +kernel
theorem dL_law_573 : decode cL_law 573 = .ok (.iaload, 1) := by decide +kernel
theorem dL_law_574 : decode cL_law 574 = .ok (.invokevirtual 67, 3) := by decide +kernel
theorem dL_law_577 : decode cL_law 577 = .ok (.goto 898, 3) := by decide +kernel
theorem dL_law_580 : decode cL_law 580 = .ok (.aload_n 1, 1) := by decide +kernel
theorem dL_law_581 : decode cL_law 581 = .ok (.aload_n 0, 1) := by decide +kernel
theorem dL_law_582 : decode cL_law 582 = .ok (.iload 4, 2) := by decide +kernel
theorem dL_law_584 : decode cL_law 584 = .ok (.iconst 1, 1) := by decide +kernel
theorem dL_law_585 : decode cL_law 585 = .ok (.iadd, 1) := by decide +kernel
theorem dL_law_586 : decode cL_law 586 = .ok (.iaload, 1) := by decide +kernel
theorem dL_law_587 : decode cL_law 587 = .ok (.invokevirtual 68, 3) := by decide +kernel
theorem dL_law_590 : decode cL_law 590 = .ok (.aload_n 2, 1) := by decide +kernel
theorem dL_law_591 : decode cL_law 591 = .ok (.aload_n 0, 1) := by decide +kernel
theorem dL_law_592 : decode cL_law 592 = .ok (.iload 4, 2) := by decide +kernel
theorem dL_law_594 : decode cL_law 594 = .ok (.iconst 1, 1) := by decide +kernel
theorem dL_law_595 : decode cL_law 595 = .ok (.iadd, 1) := by decide +kernel
theorem dL_law_596 : decode cL_law 596 = .ok (.iaload, 1) := by decide +kernel
theorem dL_law_597 : decode cL_law 597 = .ok (.invokevirtual 72, 3) := by decide +kernel
theorem dL_law_600 : decode cL_law 600 = .ok (.if_icmp .eq 875, 3) := by decide +kernel
theorem dL_law_603 : decode cL_law 603 = .ok (.iconst 0, 1) := by decide +kernel
theorem dL_law_604 : decode cL_law 604 = .ok (.ireturn, 1) := by decide +kernel
theorem dL_law_605 : decode cL_law 605 = .ok (.aload_n 1, 1) := by decide +kernel
theorem dL_law_606 : decode cL_law 606 = .ok (.aload_n 0, 1) := by decide +kernel
theorem dL_law_607 : decode cL_law 607 = .ok (.iload 4, 2) := by decide +kernel
theorem dL_law_609 : decode cL_law 609 = .ok (.iconst 1, 1) := by decide +kernel
theorem dL_law_610 : decode cL_law 610 = .ok (.iadd, 1) := by decide +kernel
theorem dL_law_611 : decode cL_law 611 = .ok (.iaload, 1) := by decide +kernel
theorem dL_law_612 : decode cL_law 612 = .ok (.invokevirtual 73, 3) := by decide +kernel
theorem dL_law_615 : decode cL_law 615 = .ok (.aload_n 2, 1) := by decide +kernel
theorem dL_law_616 : decode cL_law 616 = .ok (.aload_n 0, 1) := by decide +kernel
theorem dL_law_617 : decode cL_law 617 = .ok (.iload 4, 2) := by decide +kernel
theorem dL_law_619 : decode cL_law 619 = .ok (.iconst 1, 1) := by decide +kernel
theorem dL_law_620 : decode cL_law 620 = .ok (.iadd, 1) := by decide +kernel
theorem dL_law_621 : decode cL_law 621 = .ok (.iaload, 1) := by decide +kernel
theorem dL_law_622 : decode cL_law 622 = .ok (.invokevirtual 76, 3) := by decide +kernel
theorem dL_law_625 : decode cL_law 625 = .ok (.if_icmp .eq 850, 3) := by decide +kernel
theorem dL_law_628 : decode cL_law 628 = .ok (.iconst 0, 1) := by decide +kernel
theorem dL_law_629 : decode cL_law 629 = .ok (.ireturn, 1) := by decide +kernel
theorem dL_law_630 : decode cL_law 630 = .ok (.aload_n 1, 1) := by decide +kernel
theorem dL_law_631 : decode cL_law 631 = .ok (.aload_n 0, 1) := by decide +kernel
theorem dL_law_632 : decode cL_law 632 = .ok (.iload 4, 2) := by decide +kernel
theorem dL_law_634 : decode cL_law 634 = .ok (.iconst 1, 1) := by decide +kernel
theorem dL_law_635 : decode cL_law 635 = .ok (.iadd, 1) := by decide +kernel
theorem dL_law_636 : decode cL_law 636 = .ok (.iaload, 1) := by decide +kernel
theorem dL_law_637 : decode cL_law 637 = .ok (.aload_n 0, 1) := by decide +kernel
theorem dL_law_638 : decode cL_law 638 = .ok (.iload 4, 2) := by decide +kernel
theorem dL_law_640 : decode cL_law 640 = .ok (.iconst 2, 1) := by decide +kernel
theorem dL_law_641 : decode cL_law 641 = .ok (.iadd, 1) := by decide +kernel
theorem dL_law_642 : decode cL_law 642 = .ok (.iaload, 1) := by decide +kernel
theorem dL_law_643 : decode cL_law 643 = .ok (.invokevirtual 77, 3) := by decide +kernel
theorem dL_law_646 : decode cL_law 646 = .ok (.aload_n 2, 1) := by decide +kernel
theorem dL_law_647 : decode cL_law 647 = .ok (.aload_n 0, 1) := by decide +kernel
theorem dL_law_648 : decode cL_law 648 = .ok (.iload 4, 2) := by decide +kernel
theorem dL_law_650 : decode cL_law 650 = .ok (.iconst 1, 1) := by decide +kernel
theorem dL_law_651 : decode cL_law 651 = .ok (.iadd, 1) := by decide +kernel
theorem dL_law_652 : decode cL_law 652 = .ok (.iaload, 1) := by decide +kernel
theorem dL_law_653 : decode cL_law 653 = .ok (.aload_n 0, 1) := by decide +kernel
theorem dL_law_654 : decode cL_law 654 = .ok (.iload 4, 2) := by decide +kernel
theorem dL_law_656 : decode cL_law 656 = .ok (.iconst 2, 1) := by decide +kernel
theorem dL_law_657 : decode cL_law 657 = .ok (.iadd, 1) := by decide +kernel
theorem dL_law_658 : decode cL_law 658 = .ok (.iaload, 1) := by decide +kernel
theorem dL_law_659 : decode cL_law 659 = .ok (.invokevirtual 79, 3) := by decide +kernel
theorem dL_law_662 : decode cL_law 662 = .ok (.if_icmp .eq 813, 3) := by decide +kernel
theorem dL_law_665 : decode cL_law 665 = .ok (.iconst 0, 1) := by decide +kernel
theorem dL_law_666 : decode cL_law 666 = .ok (.ireturn, 1) := by decide +kernel
theorem dL_law_667 : decode cL_law 667 = .ok (.aload_n 1, 1) := by decide +kernel
theorem dL_law_668 : decode cL_law 668 = .ok (.aload_n 0, 1) := by decide +kernel
theorem dL_law_669 : decode cL_law 669 = .ok (.iload 4, 2) := by decide +kernel
theorem dL_law_671 : decode cL_law 671 = .ok (.iconst 1, 1) := by decide +kernel
theorem dL_law_672 : decode cL_law 672 = .ok (.iadd, 1) := by decide +kernel
theorem dL_law_673 : decode cL_law 673 = .ok (.iaload, 1) := by decide +kernel
theorem dL_law_674 : decode cL_law 674 = .ok (.invokevirtual 80, 3) := by decide +kernel
theorem dL_law_677 : decode cL_law 677 = .ok (.aload_n 2, 1) := by decide +kernel
theorem dL_law_678 : decode cL_law 678 = .ok (.aload_n 0, 1) := by decide +kernel
theorem dL_law_679 : decode cL_law 679 = .ok (.iload 4, 2) := by decide +kernel
theorem dL_law_681 : decode cL_law 681 = .ok (.iconst 1, 1) := by decide +kernel
theorem dL_law_682 : decode cL_law 682 = .ok (.iadd, 1) := by decide +kernel
theorem dL_law_683 : decode cL_law 683 = .ok (.iaload, 1) := by decide +kernel
theorem dL_law_684 : decode cL_law 684 = .ok (.invokevirtual 83, 3) := by decide +kernel
theorem dL_law_687 : decode cL_law 687 = .ok (.if_icmp .eq 788, 3) := by decide +kernel
theorem dL_law_690 : decode cL_law 690 = .ok (.iconst 0, 1) := by decide +kernel
theorem dL_law_691 : decode cL_law 691 = .ok (.ireturn, 1) := by decide +kernel
theorem dL_law_692 : decode cL_law 692 = .ok (.aload_n 1, 1) := by decide +kernel
theorem dL_law_693 : decode cL_law 693 = .ok (.aload_n 0, 1) := by decide +kernel
theorem dL_law_694 : decode cL_law 694 = .ok (.iload 4, 2) := by decide +kernel
theorem dL_law_696 : decode cL_law 696 = .ok (.iconst 1, 1) := by decide +kernel
theorem dL_law_697 : decode cL_law 697 = .ok (.iadd, 1) := by decide +kernel
theorem dL_law_698 : decode cL_law 698 = .ok (.iaload, 1) := by decide +kernel
theorem dL_law_699 : decode cL_law 699 = .ok (.aload_n 0, 1) := by decide +kernel
theorem dL_law_700 : decode cL_law 700 = .ok (.iload 4, 2) := by decide +kernel
theorem dL_law_702 : decode cL_law 702 = .ok (.iconst 2, 1) := by decide +kernel
theorem dL_law_703 : decode cL_law 703 = .ok (.iadd, 1) := by decide +kernel
theorem dL_law_704 : decode cL_law 704 = .ok (.iaload, 1) := by decide +kernel
theorem dL_law_705 : decode cL_law 705 = .ok (.invokevirtual 84, 3) := by decide +kernel
theorem dL_law_708 : decode cL_law 708 = .ok (.aload_n 2, 1) := by decide +kernel
theorem dL_law_709 : decode cL_law 709 = .ok (.aload_n 0, 1) := by decide +kernel
theorem dL_law_710 : decode cL_law 710 = .ok (.iload 4, 2) := by decide +kernel
theorem dL_law_712 : decode cL_law 712 = .ok (.iconst 1, 1) := by decide +kernel
theorem dL_law_713 : decode cL_law 713 = .ok (.iadd, 1) := by decide +kernel
theorem dL_law_714 : decode cL_law 714 = .ok (.iaload, 1) := by decide +kernel
theorem dL_law_715 : decode cL_law 715 = .ok (.aload_n 0, 1) := by decide +kernel
theorem dL_law_716 : decode cL_law 716 = .ok (.iload 4, 2) := by decide +kernel
theorem dL_law_718 : decode cL_law 718 = .ok (.iconst 2, 1) := by decide +kernel
theorem dL_law_719 : decode cL_law 719 = .ok (.iadd, 1) := by decide +kernel
theorem dL_law_720 : decode cL_law 720 = .ok (.iaload, 1) := by decide +kernel
theorem dL_law_721 : decode cL_law 721 = .ok (.invokevirtual 87, 3) := by decide +kernel
theorem dL_law_724 : decode cL_law 724 = .ok (.if_icmp .eq 751, 3) := by decide +kernel
theorem dL_law_727 : decode cL_law 727 = .ok (.iconst 0, 1) := by decide +kernel
theorem dL_law_728 : decode cL_law 728 = .ok (.ireturn, 1) := by decide +kernel
theorem dL_law_729 : decode cL_law 729 = .ok (.aload_n 1, 1) := by decide +kernel
theorem dL_law_730 : decode cL_law 730 = .ok (.aload_n 0, 1) := by decide +kernel
theorem dL_law_731 : decode cL_law 731 = .ok (.iload 4, 2) := by decide +kernel
theorem dL_law_733 : decode cL_law 733 = .ok (.iconst 1, 1) := by decide +kernel
theorem dL_law_734 : decode cL_law 734 = .ok (.iadd, 1) := by decide +kernel
theorem dL_law_735 : decode cL_law 735 = .ok (.iaload, 1) := by decide +kernel
theorem dL_law_736 : decode cL_law 736 = .ok (.invokevirtual 88, 3) := by decide +kernel
theorem dL_law_739 : decode cL_law 739 = .ok (.aload_n 2, 1) := by decide +kernel
theorem dL_law_740 : decode cL_law 740 = .ok (.aload_n 0, 1) := by decide +kernel
theorem dL_law_741 : decode cL_law 741 = .ok (.iload 4, 2) := by decide +kernel
theorem dL_law_743 : decode cL_law 743 = .ok (.iconst 1, 1) := by decide +kernel
theorem dL_law_744 : decode cL_law 744 = .ok (.iadd, 1) := by decide +kernel
theorem dL_law_745 : decode cL_law 745 = .ok (.iaload, 1) := by decide +kernel
theorem dL_law_746 : decode cL_law 746 = .ok (.invokevirtual 91, 3) := by decide +kernel
theorem dL_law_749 : decode cL_law 749 = .ok (.if_icmp .eq 726, 3) := by decide +kernel
theorem dL_law_752 : decode cL_law 752 = .ok (.iconst 0, 1) := by decide +kernel
theorem dL_law_753 : decode cL_law 753 = .ok (.ireturn, 1) := by decide +kernel
theorem dL_law_754 : decode cL_law 754 = .ok (.aload_n 1, 1) := by decide +kernel
theorem dL_law_755 : decode cL_law 755 = .ok (.aload_n 0, 1) := by decide +kernel
theorem dL_law_756 : decode cL_law 756 = .ok (.iload 4, 2) := by decide +kernel
theorem dL_law_758 : decode cL_law 758 = .ok (.iconst 1, 1) := by decide +kernel
theorem dL_law_759 : decode cL_law 759 = .ok (.iadd, 1) := by decide +kernel
theorem dL_law_760 : decode cL_law 760 = .ok (.iaload, 1) := by decide +kernel
theorem dL_law_761 : decode cL_law 761 = .ok (.aload_n 0, 1) := by decide +kernel
theorem dL_law_762 : decode cL_law 762 = .ok (.iload 4, 2) := by decide +kernel
theorem dL_law_764 : decode cL_law 764 = .ok (.iconst 2, 1) := by decide +kernel
theorem dL_law_765 : decode cL_law 765 = .ok (.iadd, 1) := by decide +kernel
theorem dL_law_766 : decode cL_law 766 = .ok (.iaload, 1) := by decide +kernel
theorem dL_law_767 : decode cL_law 767 = .ok (.aload_n 0, 1) := by decide +kernel
theorem dL_law_768 : decode cL_law 768 = .ok (.iload 4, 2) := by decide +kernel
theorem dL_law_770 : decode cL_law 770 = .ok (.iconst 3, 1) := by decide +kernel
theorem dL_law_771 : decode cL_law 771 = .ok (.iadd, 1) := by decide +kernel
theorem dL_law_772 : decode cL_law 772 = .ok (.iaload, 1) := by decide +kernel
theorem dL_law_773 : decode cL_law 773 = .ok (.invokevirtual 92, 3) := by decide +kernel
theorem dL_law_776 : decode cL_law 776 = .ok (.aload_n 2, 1) := by decide +kernel
theorem dL_law_777 : decode cL_law 777 = .ok (.aload_n 0, 1) := by decide +kernel
theorem dL_law_778 : decode cL_law 778 = .ok (.iload 4, 2) := by decide +kernel
theorem dL_law_780 : decode cL_law 780 = .ok (.iconst 1, 1) := by decide +kernel
theorem dL_law_781 : decode cL_law 781 = .ok (.iadd, 1) := by decide +kernel
theorem dL_law_782 : decode cL_law 782 = .ok (.iaload, 1) := by decide +kernel
theorem dL_law_783 : decode cL_law 783 = .ok (.aload_n 0, 1) := by decide +kernel
theorem dL_law_784 : decode cL_law 784 = .ok (.iload 4, 2) := by decide +kernel
theorem dL_law_786 : decode cL_law 786 = .ok (.iconst 2, 1) := by decide +kernel
theorem dL_law_787 : decode cL_law 787 = .ok (.iadd, 1) := by decide +kernel
theorem dL_law_788 : decode cL_law 788 = .ok (.iaload, 1) := by decide +kernel
theorem dL_law_789 : decode cL_law 789 = .ok (.aload_n 0, 1) := by decide +kernel
theorem dL_law_790 : decode cL_law 790 = .ok (.iload 4, 2) := by decide +kernel
theorem dL_law_792 : decode cL_law 792 = .ok (.iconst 3, 1) := by decide +kernel
theorem dL_law_793 : decode cL_law 793 = .ok (.iadd, 1) := by decide +kernel
theorem dL_law_794 : decode cL_law 794 = .ok (.iaload, 1) := by decide +kernel
theorem dL_law_795 : decode cL_law 795 = .ok (.invokevirtual 96, 3) := by decide +kernel
theorem dL_law_798 : decode cL_law 798 = .ok (.if_icmp .eq 677, 3) := by decide +kernel
theorem dL_law_801 : decode cL_law 801 = .ok (.iconst 0, 1) := by decide +kernel
theorem dL_law_802 : decode cL_law 802 = .ok (.ireturn, 1) := by decide +kernel
theorem dL_law_803 : decode cL_law 803 = .ok (.aload_n 1, 1) := by decide +kernel
theorem dL_law_804 : decode cL_law 804 = .ok (.aload_n 0, 1) := by decide +kernel
theorem dL_law_805 : decode cL_law 805 = .ok (.iload 4, 2) := by decide +kernel
theorem dL_law_807 : decode cL_law 807 = .ok (.iconst 1, 1) := by decide +kernel
theorem dL_law_808 : decode cL_law 808 = .ok (.iadd, 1) := by decide +kernel
theorem dL_law_809 : decode cL_law 809 = .ok (.iaload, 1) := by decide +kernel
theorem dL_law_810 : decode cL_law 810 = .ok (.invokevirtual 97, 3) := by decide +kernel
theorem dL_law_813 : decode cL_law 813 = .ok (.aload_n 2, 1) := by decide +kernel
theorem dL_law_814 : decode cL_law 814 = .ok (.aload_n 0, 1) := by decide +kernel
theorem dL_law_815 : decode cL_law 815 = .ok (.iload 4, 2) := by decide +kernel
theorem dL_law_817 : decode cL_law 817 = .ok (.iconst 1, 1) := by decide +kernel
theorem dL_law_818 : decode cL_law 818 = .ok (.iadd, 1) := by decide +kernel
theorem dL_law_819 : decode cL_law 819 = .ok (.iaload, 1) := by decide +kernel
theorem dL_law_820 : decode cL_law 820 = .ok (.invokevirtual 100, 3) := by decide +kernel
theorem dL_law_823 : decode cL_law 823 = .ok (.if_icmp .eq 652, 3) := by decide +kernel
theorem dL_law_826 : decode cL_law 826 = .ok (.iconst 0, 1) := by decide +kernel
theorem dL_law_827 : decode cL_law 827 = .ok (.ireturn, 1) := by decide +kernel
theorem dL_law_828 : decode cL_law 828 = .ok (.aload_n 1, 1) := by decide +kernel
theorem dL_law_829 : decode cL_law 829 = .ok (.aload_n 0, 1) := by decide +kernel
theorem dL_law_830 : decode cL_law 830 = .ok (.iload 4, 2) := by decide +kernel
theorem dL_law_832 : decode cL_law 832 = .ok (.iconst 1, 1) := by decide +kernel
theorem dL_law_833 : decode cL_law 833 = .ok (.iadd, 1) := by decide +kernel
theorem dL_law_834 : decode cL_law 834 = .ok (.iaload, 1) := by decide +kernel
theorem dL_law_835 : decode cL_law 835 = .ok (.invokevirtual 101, 3) := by decide +kernel
theorem dL_law_838 : decode cL_law 838 = .ok (.aload_n 2, 1) := by decide +kernel
theorem dL_law_839 : decode cL_law 839 = .ok (.aload_n 0, 1) := by decide +kernel
theorem dL_law_840 : decode cL_law 840 = .ok (.iload 4, 2) := by decide +kernel
theorem dL_law_842 : decode cL_law 842 = .ok (.iconst 1, 1) := by decide +kernel
theorem dL_law_843 : decode cL_law 843 = .ok (.iadd, 1) := by decide +kernel
theorem dL_law_844 : decode cL_law 844 = .ok (.iaload, 1) := by decide +kernel
theorem dL_law_845 : decode cL_law 845 = .ok (.invokevirtual 104, 3) := by decide +kernel
theorem dL_law_848 : decode cL_law 848 = .ok (.if_icmp .eq 627, 3) := by decide +kernel
theorem dL_law_851 : decode cL_law 851 = .ok (.iconst 0, 1) := by decide +kernel
theorem dL_law_852 : decode cL_law 852 = .ok (.ireturn, 1) := by decide +kernel
theorem dL_law_853 : decode cL_law 853 = .ok (.aload_n 1, 1) := by decide +kernel
theorem dL_law_854 : decode cL_law 854 = .ok (.aload_n 0, 1) := by decide +kernel
theorem dL_law_855 : decode cL_law 855 = .ok (.iload 4, 2) := by decide +kernel
theorem dL_law_857 : decode cL_law 857 = .ok (.iconst 1, 1) := by decide +kernel
theorem dL_law_858 : decode cL_law 858 = .ok (.iadd, 1) := by decide +kernel
theorem dL_law_859 : decode cL_law 859 = .ok (.iaload, 1) := by decide +kernel
theorem dL_law_860 : decode cL_law 860 = .ok (.invokevirtual 105, 3) := by decide +kernel
theorem dL_law_863 : decode cL_law 863 = .ok (.aload_n 2, 1) := by decide +kernel
theorem dL_law_864 : decode cL_law 864 = .ok (.aload_n 0, 1) := by decide +kernel
theorem dL_law_865 : decode cL_law 865 = .ok (.iload 4, 2) := by decide +kernel
theorem dL_law_867 : decode cL_law 867 = .ok (.iconst 1, 1) := by decide +kernel
theorem dL_law_868 : decode cL_law 868 = .ok (.iadd, 1) := by decide +kernel
theorem dL_law_869 : decode cL_law 869 = .ok (.iaload, 1) := by decide +kernel
theorem dL_law_870 : decode cL_law 870 = .ok (.invokevirtual 108, 3) := by decide +kernel
theorem dL_law_873 : decode cL_law 873 = .ok (.if_icmp .eq 602, 3) := by decide +kernel
theorem dL_law_876 : decode cL_law 876 = .ok (.iconst 0, 1) := by decide +kernel
theorem dL_law_877 : decode cL_law 877 = .ok (.ireturn, 1) := by decide +kernel
theorem dL_law_878 : decode cL_law 878 = .ok (.aload_n 1, 1) := by decide +kernel
theorem dL_law_879 : decode cL_law 879 = .ok (.aload_n 0, 1) := by decide +kernel
theorem dL_law_880 : decode cL_law 880 = .ok (.iload 4, 2) := by decide +kernel
theorem dL_law_882 : decode cL_law 882 = .ok (.iconst 1, 1) := by decide +kernel
theorem dL_law_883 : decode cL_law 883 = .ok (.iadd, 1) := by decide +kernel
theorem dL_law_884 : decode cL_law 884 = .ok (.iaload, 1) := by decide +kernel
theorem dL_law_885 : decode cL_law 885 = .ok (.aload_n 0, 1) := by decide +kernel
theorem dL_law_886 : decode cL_law 886 = .ok (.iload 4, 2) := by decide +kernel
theorem dL_law_888 : decode cL_law 888 = .ok (.iconst 2, 1) := by decide +kernel
theorem dL_law_889 : decode cL_law 889 = .ok (.iadd, 1) := by decide +kernel
theorem dL_law_890 : decode cL_law 890 = .ok (.iaload, 1) := by decide +kernel
theorem dL_law_891 : decode cL_law 891 = .ok (.invokevirtual 109, 3) := by decide +kernel
theorem dL_law_894 : decode cL_law 894 = .ok (.aload_n 2, 1) := by decide +kernel
theorem dL_law_895 : decode cL_law 895 = .ok (.aload_n 0, 1) := by decide +kernel
theorem dL_law_896 : decode cL_law 896 = .ok (.iload 4, 2) := by decide +kernel
theorem dL_law_898 : decode cL_law 898 = .ok (.iconst 1, 1) := by decide +kernel
theorem dL_law_899 : decode cL_law 899 = .ok (.iadd, 1) := by decide +kernel
theorem dL_law_900 : decode cL_law 900 = .ok (.iaload, 1) := by decide +kernel
theorem dL_law_901 : decode cL_law 901 = .ok (.aload_n 0, 1) := by decide +kernel
theorem dL_law_902 : decode cL_law 902 = .ok (.iload 4, 2) := by decide +kernel
theorem dL_law_904 : decode cL_law 904 = .ok (.iconst 2, 1) := by decide +kernel
theorem dL_law_905 : decode cL_law 905 = .ok (.iadd, 1) := by decide +kernel
theorem dL_law_906 : decode cL_law 906 = .ok (.iaload, 1) := by decide +kernel
theorem dL_law_907 : decode cL_law 907 = .ok (.invokevirtual 112, 3) := by decide +kernel
theorem dL_law_910 : decode cL_law 910 = .ok (.if_icmp .eq 565, 3) := by decide +kernel
theorem dL_law_913 : decode cL_law 913 = .ok (.iconst 0, 1) := by decide +kernel
theorem dL_law_914 : decode cL_law 914 = .ok (.ireturn, 1) := by decide +kernel
theorem dL_law_915 : decode cL_law 915 = .ok (.aload_n 1, 1) := by decide +kernel
theorem dL_law_916 : decode cL_law 916 = .ok (.aload_n 0, 1) := by decide +kernel
theorem dL_law_917 : decode cL_law 917 = .ok (.iload 4, 2) := by decide +kernel
theorem dL_law_919 : decode cL_law 919 = .ok (.iconst 1, 1) := by decide +kernel
theorem dL_law_920 : decode cL_law 920 = .ok (.iadd, 1) := by decide +kernel
theorem dL_law_921 : decode cL_law 921 = .ok (.iaload, 1) := by decide +kernel
theorem dL_law_922 : decode cL_law 922 = .ok (.invokevirtual 113, 3) := by decide +kernel
theorem dL_law_925 : decode cL_law 925 = .ok (.aload_n 2, 1) := by decide +kernel
theorem dL_law_926 : decode cL_law 926 = .ok (.aload_n 0, 1) := by decide +kernel
theorem dL_law_927 : decode cL_law 927 = .ok (.iload 4, 2) := by decide +kernel
theorem dL_law_929 : decode cL_law 929 = .ok (.iconst 1, 1) := by decide +kernel
theorem dL_law_930 : decode cL_law 930 = .ok (.iadd, 1) := by decide +kernel
theorem dL_law_931 : decode cL_law 931 = .ok (.iaload, 1) := by decide +kernel
theorem dL_law_932 : decode cL_law 932 = .ok (.invokevirtual 116, 3) := by decide +kernel
theorem dL_law_935 : decode cL_law 935 = .ok (.if_icmp .eq 540, 3) := by decide +kernel
theorem dL_law_938 : decode cL_law 938 = .ok (.iconst 0, 1) := by decide +kernel
theorem dL_law_939 : decode cL_law 939 = .ok (.ireturn, 1) := by decide +kernel
theorem dL_law_940 : decode cL_law 940 = .ok (.aload_n 1, 1) := by decide +kernel
theorem dL_law_941 : decode cL_law 941 = .ok (.aload_n 0, 1) := by decide +kernel
theorem dL_law_942 : decode cL_law 942 = .ok (.iload 4, 2) := by decide +kernel
theorem dL_law_944 : decode cL_law 944 = .ok (.iconst 1, 1) := by decide +kernel
theorem dL_law_945 : decode cL_law 945 = .ok (.iadd, 1) := by decide +kernel
theorem dL_law_946 : decode cL_law 946 = .ok (.iaload, 1) := by decide +kernel
theorem dL_law_947 : decode cL_law 947 = .ok (.aload_n 0, 1) := by decide +kernel
theorem dL_law_948 : decode cL_law 948 = .ok (.iload 4, 2) := by decide +kernel
theorem dL_law_950 : decode cL_law 950 = .ok (.iconst 2, 1) := by decide +kernel
theorem dL_law_951 : decode cL_law 951 = .ok (.iadd, 1) := by decide +kernel
theorem dL_law_952 : decode cL_law 952 = .ok (.iaload, 1) := by decide +kernel
theorem dL_law_953 : decode cL_law 953 = .ok (.invokevirtual 117, 3) := by decide +kernel
theorem dL_law_956 : decode cL_law 956 = .ok (.aload_n 2, 1) := by decide +kernel
theorem dL_law_957 : decode cL_law 957 = .ok (.aload_n 0, 1) := by decide +kernel
theorem dL_law_958 : decode cL_law 958 = .ok (.iload 4, 2) := by decide +kernel
theorem dL_law_960 : decode cL_law 960 = .ok (.iconst 1, 1) := by decide +kernel
theorem dL_law_961 : decode cL_law 961 = .ok (.iadd, 1) := by decide +kernel
theorem dL_law_962 : decode cL_law 962 = .ok (.iaload, 1) := by decide +kernel
theorem dL_law_963 : decode cL_law 963 = .ok (.aload_n 0, 1) := by decide +kernel
theorem dL_law_964 : decode cL_law 964 = .ok (.iload 4, 2) := by decide +kernel
theorem dL_law_966 : decode cL_law 966 = .ok (.iconst 2, 1) := by decide +kernel
theorem dL_law_967 : decode cL_law 967 = .ok (.iadd, 1) := by decide +kernel
theorem dL_law_968 : decode cL_law 968 = .ok (.iaload, 1) := by decide +kernel
theorem dL_law_969 : decode cL_law 969 = .ok (.invokevirtual 120, 3) := by decide +kernel
theorem dL_law_972 : decode cL_law 972 = .ok (.if_icmp .eq 503, 3) := by decide +kernel
theorem dL_law_975 : decode cL_law 975 = .ok (.iconst 0, 1) := by decide +kernel
theorem dL_law_976 : decode cL_law 976 = .ok (.ireturn, 1) := by decide +kernel
theorem dL_law_977 : decode cL_law 977 = .ok (.aload_n 1, 1) := by decide +kernel
theorem dL_law_978 : decode cL_law 978 = .ok (.invokevirtual 121, 3) := by decide +kernel
theorem dL_law_981 : decode cL_law 981 = .ok (.aload_n 2, 1) := by decide +kernel
theorem dL_law_982 : decode cL_law 982 = .ok (.invokevirtual 124, 3) := by decide +kernel
theorem dL_law_985 : decode cL_law 985 = .ok (.if_icmp .eq 490, 3) := by decide +kernel
theorem dL_law_988 : decode cL_law 988 = .ok (.iconst 0, 1) := by decide +kernel
theorem dL_law_989 : decode cL_law 989 = .ok (.ireturn, 1) := by decide +kernel
theorem dL_law_990 : decode cL_law 990 = .ok (.aload_n 1, 1) := by decide +kernel
theorem dL_law_991 : decode cL_law 991 = .ok (.aload_n 0, 1) := by decide +kernel
theorem dL_law_992 : decode cL_law 992 = .ok (.iload 4, 2) := by decide +kernel
theorem dL_law_994 : decode cL_law 994 = .ok (.iconst 1, 1) := by decide +kernel
theorem dL_law_995 : decode cL_law 995 = .ok (.iadd, 1) := by decide +kernel
theorem dL_law_996 : decode cL_law 996 = .ok (.iaload, 1) := by decide +kernel
theorem dL_law_997 : decode cL_law 997 = .ok (.invokevirtual 125, 3) := by decide +kernel
theorem dL_law_1000 : decode cL_law 1000 = .ok (.aload_n 2, 1) := by decide +kernel
theorem dL_law_1001 : decode cL_law 1001 = .ok (.aload_n 0, 1) := by decide +kernel
theorem dL_law_1002 : decode cL_law 1002 = .ok (.iload 4, 2) := by decide +kernel
theorem dL_law_1004 : decode cL_law 1004 = .ok (.iconst 1, 1) := by decide +kernel
theorem dL_law_1005 : decode cL_law 1005 = .ok (.iadd, 1) := by decide +kernel
theorem dL_law_1006 : decode cL_law 1006 = .ok (.iaload, 1) := by decide +kernel
theorem dL_law_1007 : decode cL_law 1007 = .ok (.invokevirtual 128, 3) := by decide +kernel
theorem dL_law_1010 : decode cL_law 1010 = .ok (.if_icmp .eq 465, 3) := by decide +kernel
theorem dL_law_1013 : decode cL_law 1013 = .ok (.iconst 0, 1) := by decide +kernel
theorem dL_law_1014 : decode cL_law 1014 = .ok (.ireturn, 1) := by decide +kernel
theorem dL_law_1015 : decode cL_law 1015 = .ok (.aload_n 1, 1) := by decide +kernel
theorem dL_law_1016 : decode cL_law 1016 = .ok (.aload_n 0, 1) := by decide +kernel
theorem dL_law_1017 : decode cL_law 1017 = .ok (.iload 4, 2) := by decide +kernel
theorem dL_law_1019 : decode cL_law 1019 = .ok (.iconst 1, 1) := by decide +kernel
theorem dL_law_1020 : decode cL_law 1020 = .ok (.iadd, 1) := by decide +kernel
theorem dL_law_1021 : decode cL_law 1021 = .ok (.iaload, 1) := by decide +kernel
theorem dL_law_1022 : decode cL_law 1022 = .ok (.aload_n 0, 1) := by decide +kernel
theorem dL_law_1023 : decode cL_law 1023 = .ok (.iload 4, 2) := by decide +kernel
theorem dL_law_1025 : decode cL_law 1025 = .ok (.iconst 2, 1) := by decide +kernel
theorem dL_law_1026 : decode cL_law 1026 = .ok (.iadd, 1) := by decide +kernel
theorem dL_law_1027 : decode cL_law 1027 = .ok (.iaload, 1) := by decide +kernel
theorem dL_law_1028 : decode cL_law 1028 = .ok (.invokevirtual 129, 3) := by decide +kernel
theorem dL_law_1031 : decode cL_law 1031 = .ok (.aload_n 2, 1) := by decide +kernel
theorem dL_law_1032 : decode cL_law 1032 = .ok (.aload_n 0, 1) := by decide +kernel
theorem dL_law_1033 : decode cL_law 1033 = .ok (.iload 4, 2) := by decide +kernel
theorem dL_law_1035 : decode cL_law 1035 = .ok (.iconst 1, 1) := by decide +kernel
theorem dL_law_1036 : decode cL_law 1036 = .ok (.iadd, 1) := by decide +kernel
theorem dL_law_1037 : decode cL_law 1037 = .ok (.iaload, 1) := by decide +kernel
theorem dL_law_1038 : decode cL_law 1038 = .ok (.aload_n 0, 1) := by decide +kernel
theorem dL_law_1039 : decode cL_law 1039 = .ok (.iload 4, 2) := by decide +kernel
theorem dL_law_1041 : decode cL_law 1041 = .ok (.iconst 2, 1) := by decide +kernel
theorem dL_law_1042 : decode cL_law 1042 = .ok (.iadd, 1) := by decide +kernel
theorem dL_law_1043 : decode cL_law 1043 = .ok (.iaload, 1) := by decide +kernel
theorem dL_law_1044 : decode cL_law 1044 = .ok (.invokevirtual 132, 3) := by decide +kernel
theorem dL_law_1047 : decode cL_law 1047 = .ok (.if_icmp .eq 428, 3) := by decide +kernel
theorem dL_law_1050 : decode cL_law 1050 = .ok (.iconst 0, 1) := by decide +kernel
theorem dL_law_1051 : decode cL_law 1051 = .ok (.ireturn, 1) := by decide +kernel
theorem dL_law_1052 : decode cL_law 1052 = .ok (.aload_n 1, 1) := by decide +kernel
theorem dL_law_1053 : decode cL_law 1053 = .ok (.aload_n 0, 1) := by decide +kernel
theorem dL_law_1054 : decode cL_law 1054 = .ok (.iload 4, 2) := by decide +kernel
theorem dL_law_1056 : decode cL_law 1056 = .ok (.iconst 1, 1) := by decide +kernel
theorem dL_law_1057 : decode cL_law 1057 = .ok (.iadd, 1) := by decide +kernel
theorem dL_law_1058 : decode cL_law 1058 = .ok (.iaload, 1) := by decide +kernel
theorem dL_law_1059 : decode cL_law 1059 = .ok (.aload_n 0, 1) := by decide +kernel
theorem dL_law_1060 : decode cL_law 1060 = .ok (.iload 4, 2) := by decide +kernel
theorem dL_law_1062 : decode cL_law 1062 = .ok (.iconst 2, 1) := by decide +kernel
theorem dL_law_1063 : decode cL_law 1063 = .ok (.iadd, 1) := by decide +kernel
theorem dL_law_1064 : decode cL_law 1064 = .ok (.iaload, 1) := by decide +kernel
theorem dL_law_1065 : decode cL_law 1065 = .ok (.aload_n 0, 1) := by decide +kernel
theorem dL_law_1066 : decode cL_law 1066 = .ok (.iload 4, 2) := by decide +kernel
theorem dL_law_1068 : decode cL_law 1068 = .ok (.iconst 3, 1) := by decide +kernel
theorem dL_law_1069 : decode cL_law 1069 = .ok (.iadd, 1) := by decide +kernel
theorem dL_law_1070 : decode cL_law 1070 = .ok (.iaload, 1) := by decide +kernel
theorem dL_law_1071 : decode cL_law 1071 = .ok (.aload_n 0, 1) := by decide +kernel
theorem dL_law_1072 : decode cL_law 1072 = .ok (.iload 4, 2) := by decide +kernel
theorem dL_law_1074 : decode cL_law 1074 = .ok (.iconst 4, 1) := by decide +kernel
theorem dL_law_1075 : decode cL_law 1075 = .ok (.iadd, 1) := by decide +kernel
theorem dL_law_1076 : decode cL_law 1076 = .ok (.iaload, 1) := by decide +kernel
theorem dL_law_1077 : decode cL_law 1077 = .ok (.invokevirtual 133, 3) := by decide +kernel
theorem dL_law_1080 : decode cL_law 1080 = .ok (.aload_n 2, 1) := by decide +kernel
theorem dL_law_1081 : decode cL_law 1081 = .ok (.aload_n 0, 1) := by decide +kernel
theorem dL_law_1082 : decode cL_law 1082 = .ok (.iload 4, 2) := by decide +kernel
theorem dL_law_1084 : decode cL_law 1084 = .ok (.iconst 1, 1) := by decide +kernel
theorem dL_law_1085 : decode cL_law 1085 = .ok (.iadd, 1) := by decide +kernel
theorem dL_law_1086 : decode cL_law 1086 = .ok (.iaload, 1) := by decide +kernel
theorem dL_law_1087 : decode cL_law 1087 = .ok (.aload_n 0, 1) := by decide +kernel
theorem dL_law_1088 : decode cL_law 1088 = .ok (.iload 4, 2) := by decide +kernel
theorem dL_law_1090 : decode cL_law 1090 = .ok (.iconst 2, 1) := by decide +kernel
theorem dL_law_1091 : decode cL_law 1091 = .ok (.iadd, 1) := by decide +kernel
theorem dL_law_1092 : decode cL_law 1092 = .ok (.iaload, 1) := by decide +kernel
theorem dL_law_1093 : decode cL_law 1093 = .ok (.aload_n 0, 1) := by decide +kernel
theorem dL_law_1094 : decode cL_law 1094 = .ok (.iload 4, 2) := by decide +kernel
theorem dL_law_1096 : decode cL_law 1096 = .ok (.iconst 3, 1) := by decide +kernel
theorem dL_law_1097 : decode cL_law 1097 = .ok (.iadd, 1) := by decide +kernel
theorem dL_law_1098 : decode cL_law 1098 = .ok (.iaload, 1) := by decide +kernel
theorem dL_law_1099 : decode cL_law 1099 = .ok (.aload_n 0, 1) := by decide +kernel
theorem dL_law_1100 : decode cL_law 1100 = .ok (.iload 4, 2) := by decide +kernel
theorem dL_law_1102 : decode cL_law 1102 = .ok (.iconst 4, 1) := by decide +kernel
theorem dL_law_1103 : decode cL_law 1103 = .ok (.iadd, 1) := by decide +kernel
theorem dL_law_1104 : decode cL_law 1104 = .ok (.iaload, 1) := by decide +kernel
theorem dL_law_1105 : decode cL_law 1105 = .ok (.invokevirtual 137, 3) := by decide +kernel
theorem dL_law_1108 : decode cL_law 1108 = .ok (.if_icmp .eq 367, 3) := by decide +kernel
theorem dL_law_1111 : decode cL_law 1111 = .ok (.iconst 0, 1) := by decide +kernel
theorem dL_law_1112 : decode cL_law 1112 = .ok (.ireturn, 1) := by decide +kernel
theorem dL_law_1113 : decode cL_law 1113 = .ok (.aload_n 1, 1) := by decide +kernel
theorem dL_law_1114 : decode cL_law 1114 = .ok (.invokevirtual 138, 3) := by decide +kernel
theorem dL_law_1117 : decode cL_law 1117 = .ok (.aload_n 2, 1) := by decide +kernel
theorem dL_law_1118 : decode cL_law 1118 = .ok (.invokevirtual 141, 3) := by decide +kernel
theorem dL_law_1121 : decode cL_law 1121 = .ok (.if_icmp .eq 354, 3) := by decide +kernel
theorem dL_law_1124 : decode cL_law 1124 = .ok (.iconst 0, 1) := by decide +kernel
theorem dL_law_1125 : decode cL_law 1125 = .ok (.ireturn, 1) := by decide +kernel
theorem dL_law_1126 : decode cL_law 1126 = .ok (.aload_n 1, 1) := by decide +kernel
theorem dL_law_1127 : decode cL_law 1127 = .ok (.aload_n 0, 1) := by decide +kernel
theorem dL_law_1128 : decode cL_law 1128 = .ok (.iload 4, 2) := by decide +kernel
theorem dL_law_1130 : decode cL_law 1130 = .ok (.iconst 1, 1) := by decide +kernel
theorem dL_law_1131 : decode cL_law 1131 = .ok (.iadd, 1) := by decide +kernel
theorem dL_law_1132 : decode cL_law 1132 = .ok (.iaload, 1) := by decide +kernel
theorem dL_law_1133 : decode cL_law 1133 = .ok (.invokevirtual 142, 3) := by decide +kernel
theorem dL_law_1136 : decode cL_law 1136 = .ok (.aload_n 2, 1) := by decide +kernel
theorem dL_law_1137 : decode cL_law 1137 = .ok (.aload_n 0, 1) := by decide +kernel
theorem dL_law_1138 : decode cL_law 1138 = .ok (.iload 4, 2) := by decide +kernel
theorem dL_law_1140 : decode cL_law 1140 = .ok (.iconst 1, 1) := by decide +kernel
theorem dL_law_1141 : decode cL_law 1141 = .ok (.iadd, 1) := by decide +kernel
theorem dL_law_1142 : decode cL_law 1142 = .ok (.iaload, 1) := by decide +kernel
theorem dL_law_1143 : decode cL_law 1143 = .ok (.invokevirtual 145, 3) := by decide +kernel
theorem dL_law_1146 : decode cL_law 1146 = .ok (.if_icmp .eq 329, 3) := by decide +kernel
theorem dL_law_1149 : decode cL_law 1149 = .ok (.iconst 0, 1) := by decide +kernel
theorem dL_law_1150 : decode cL_law 1150 = .ok (.ireturn, 1) := by decide +kernel
theorem dL_law_1151 : decode cL_law 1151 = .ok (.aload_n 1, 1) := by decide +kernel
theorem dL_law_1152 : decode cL_law 1152 = .ok (.invokevirtual 146, 3) := by decide +kernel
theorem dL_law_1155 : decode cL_law 1155 = .ok (.aload_n 2, 1) := by decide +kernel
theorem dL_law_1156 : decode cL_law 1156 = .ok (.invokevirtual 149, 3) := by decide +kernel
theorem dL_law_1159 : decode cL_law 1159 = .ok (.if_icmp .eq 316, 3) := by decide +kernel
theorem dL_law_1162 : decode cL_law 1162 = .ok (.iconst 0, 1) := by decide +kernel
theorem dL_law_1163 : decode cL_law 1163 = .ok (.ireturn, 1) := by decide +kernel
theorem dL_law_1164 : decode cL_law 1164 = .ok (.aload_n 1, 1) := by decide +kernel
theorem dL_law_1165 : decode cL_law 1165 = .ok (.aload_n 0, 1) := by decide +kernel
theorem dL_law_1166 : decode cL_law 1166 = .ok (.iload 4, 2) := by decide +kernel
theorem dL_law_1168 : decode cL_law 1168 = .ok (.iconst 1, 1) := by decide +kernel
theorem dL_law_1169 : decode cL_law 1169 = .ok (.iadd, 1) := by decide +kernel
theorem dL_law_1170 : decode cL_law 1170 = .ok (.iaload, 1) := by decide +kernel
theorem dL_law_1171 : decode cL_law 1171 = .ok (.invokevirtual 150, 3) := by decide +kernel
theorem dL_law_1174 : decode cL_law 1174 = .ok (.aload_n 2, 1) := by decide +kernel
theorem dL_law_1175 : decode cL_law 1175 = .ok (.aload_n 0, 1) := by decide +kernel
theorem dL_law_1176 : decode cL_law 1176 = .ok (.iload 4, 2) := by decide +kernel
theorem dL_law_1178 : decode cL_law 1178 = .ok (.iconst 1, 1) := by decide +kernel
theorem dL_law_1179 : decode cL_law 1179 = .ok (.iadd, 1) := by decide +kernel
theorem dL_law_1180 : decode cL_law 1180 = .ok (.iaload, 1) := by decide +kernel
theorem dL_law_1181 : decode cL_law 1181 = .ok (.invokevirtual 153, 3) := by decide +kernel
theorem dL_law_1184 : decode cL_law 1184 = .ok (.if_icmp .eq 291, 3) := by decide +kernel
theorem dL_law_1187 : decode cL_law 1187 = .ok (.iconst 0, 1) := by decide +kernel
theorem dL_law_1188 : decode cL_law 1188 = .ok (.ireturn, 1) := by decide +kernel
theorem dL_law_1189 : decode cL_law 1189 = .ok (.aload_n 1, 1) := by decide +kernel
theorem dL_law_1190 : decode cL_law 1190 = .ok (.invokevirtual 154, 3) := by decide +kernel
theorem dL_law_1193 : decode cL_law 1193 = .ok (.aload_n 2, 1) := by decide +kernel
theorem dL_law_1194 : decode cL_law 1194 = .ok (.invokevirtual 157, 3) := by decide +kernel
theorem dL_law_1197 : decode cL_law 1197 = .ok (.if_icmp .eq 278, 3) := by decide +kernel
theorem dL_law_1200 : decode cL_law 1200 = .ok (.iconst 0, 1) := by decide +kernel
theorem dL_law_1201 : decode cL_law 1201 = .ok (.ireturn, 1) := by decide +kernel
theorem dL_law_1202 : decode cL_law 1202 = .ok (.aload_n 1, 1) := by decide +kernel
theorem dL_law_1203 : decode cL_law 1203 = .ok (.aload_n 0, 1) := by decide +kernel
theorem dL_law_1204 : decode cL_law 1204 = .ok (.iload 4, 2) := by decide +kernel
theorem dL_law_1206 : decode cL_law 1206 = .ok (.iconst 1, 1) := by decide +kernel
theorem dL_law_1207 : decode cL_law 1207 = .ok (.iadd, 1) := by decide +kernel
theorem dL_law_1208 : decode cL_law 1208 = .ok (.iaload, 1) := by decide +kernel
theorem dL_law_1209 : decode cL_law 1209 = .ok (.aload_n 0, 1) := by decide +kernel
theorem dL_law_1210 : decode cL_law 1210 = .ok (.iload 4, 2) := by decide +kernel
theorem dL_law_1212 : decode cL_law 1212 = .ok (.iconst 2, 1) := by decide +kernel
theorem dL_law_1213 : decode cL_law 1213 = .ok (.iadd, 1) := by decide +kernel
theorem dL_law_1214 : decode cL_law 1214 = .ok (.iaload, 1) := by decide +kernel
theorem dL_law_1215 : decode cL_law 1215 = .ok (.aload_n 0, 1) := by decide +kernel
theorem dL_law_1216 : decode cL_law 1216 = .ok (.iload 4, 2) := by decide +kernel
theorem dL_law_1218 : decode cL_law 1218 = .ok (.iconst 3, 1) := by decide +kernel
theorem dL_law_1219 : decode cL_law 1219 = .ok (.iadd, 1) := by decide +kernel
theorem dL_law_1220 : decode cL_law 1220 = .ok (.iaload, 1) := by decide +kernel
theorem dL_law_1221 : decode cL_law 1221 = .ok (.invokevirtual 158, 3) := by decide +kernel
theorem dL_law_1224 : decode cL_law 1224 = .ok (.aload_n 2, 1) := by decide +kernel
theorem dL_law_1225 : decode cL_law 1225 = .ok (.aload_n 0, 1) := by decide +kernel
theorem dL_law_1226 : decode cL_law 1226 = .ok (.iload 4, 2) := by decide +kernel
theorem dL_law_1228 : decode cL_law 1228 = .ok (.iconst 1, 1) := by decide +kernel
theorem dL_law_1229 : decode cL_law 1229 = .ok (.iadd, 1) := by decide +kernel
theorem dL_law_1230 : decode cL_law 1230 = .ok (.iaload, 1) := by decide +kernel
theorem dL_law_1231 : decode cL_law 1231 = .ok (.aload_n 0, 1) := by decide +kernel
theorem dL_law_1232 : decode cL_law 1232 = .ok (.iload 4, 2) := by decide +kernel
theorem dL_law_1234 : decode cL_law 1234 = .ok (.iconst 2, 1) := by decide +kernel
theorem dL_law_1235 : decode cL_law 1235 = .ok (.iadd, 1) := by decide +kernel
theorem dL_law_1236 : decode cL_law 1236 = .ok (.iaload, 1) := by decide +kernel
theorem dL_law_1237 : decode cL_law 1237 = .ok (.aload_n 0, 1) := by decide +kernel
theorem dL_law_1238 : decode cL_law 1238 = .ok (.iload 4, 2) := by decide +kernel
theorem dL_law_1240 : decode cL_law 1240 = .ok (.iconst 3, 1) := by decide +kernel
theorem dL_law_1241 : decode cL_law 1241 = .ok (.iadd, 1) := by decide +kernel
theorem dL_law_1242 : decode cL_law 1242 = .ok (.iaload, 1) := by decide +kernel
theorem dL_law_1243 : decode cL_law 1243 = .ok (.invokevirtual 161, 3) := by decide +kernel
theorem dL_law_1246 : decode cL_law 1246 = .ok (.if_icmp .eq 229, 3) := by decide +kernel
theorem dL_law_1249 : decode cL_law 1249 = .ok (.iconst 0, 1) := by decide +kernel
theorem dL_law_1250 : decode cL_law 1250 = .ok (.ireturn, 1) := by decide +kernel
theorem dL_law_1251 : decode cL_law 1251 = .ok (.aload_n 1, 1) := by decide +kernel
theorem dL_law_1252 : decode cL_law 1252 = .ok (.aload_n 0, 1) := by decide +kernel
theorem dL_law_1253 : decode cL_law 1253 = .ok (.iload 4, 2) := by decide +kernel
theorem dL_law_1255 : decode cL_law 1255 = .ok (.iconst 1, 1) := by decide +kernel
theorem dL_law_1256 : decode cL_law 1256 = .ok (.iadd, 1) := by decide +kernel
theorem dL_law_1257 : decode cL_law 1257 = .ok (.iaload, 1) := by decide +kernel
theorem dL_law_1258 : decode cL_law 1258 = .ok (.invokevirtual 162, 3) := by decide +kernel
theorem dL_law_1261 : decode cL_law 1261 = .ok (.aload_n 2, 1) := by decide +kernel
theorem dL_law_1262 : decode cL_law 1262 = .ok (.aload_n 0, 1) := by decide +kernel
theorem dL_law_1263 : decode cL_law 1263 = .ok (.iload 4, 2) := by decide +kernel
theorem dL_law_1265 : decode cL_law 1265 = .ok (.iconst 1, 1) := by decide +kernel
theorem dL_law_1266 : decode cL_law 1266 = .ok (.iadd, 1) := by decide +kernel
theorem dL_law_1267 : decode cL_law 1267 = .ok (.iaload, 1) := by decide +kernel
theorem dL_law_1268 : decode cL_law 1268 = .ok (.invokevirtual 165, 3) := by decide +kernel
theorem dL_law_1271 : decode cL_law 1271 = .ok (.if_icmp .eq 204, 3) := by decide +kernel
theorem dL_law_1274 : decode cL_law 1274 = .ok (.iconst 0, 1) := by decide +kernel
theorem dL_law_1275 : decode cL_law 1275 = .ok (.ireturn, 1) := by decide +kernel
theorem dL_law_1276 : decode cL_law 1276 = .ok (.aload_n 1, 1) := by decide +kernel
theorem dL_law_1277 : decode cL_law 1277 = .ok (.aload_n 0, 1) := by decide +kernel
theorem dL_law_1278 : decode cL_law 1278 = .ok (.iload 4, 2) := by decide +kernel
theorem dL_law_1280 : decode cL_law 1280 = .ok (.iconst 1, 1) := by decide +kernel
theorem dL_law_1281 : decode cL_law 1281 = .ok (.iadd, 1) := by decide +kernel
theorem dL_law_1282 : decode cL_law 1282 = .ok (.iaload, 1) := by decide +kernel
theorem dL_law_1283 : decode cL_law 1283 = .ok (.aload_n 0, 1) := by decide +kernel
theorem dL_law_1284 : decode cL_law 1284 = .ok (.iload 4, 2) := by decide +kernel
theorem dL_law_1286 : decode cL_law 1286 = .ok (.iconst 2, 1) := by decide +kernel
theorem dL_law_1287 : decode cL_law 1287 = .ok (.iadd, 1) := by decide +kernel
theorem dL_law_1288 : decode cL_law 1288 = .ok (.iaload, 1) := by decide +kernel
theorem dL_law_1289 : decode cL_law 1289 = .ok (.invokevirtual 166, 3) := by decide +kernel
theorem dL_law_1292 : decode cL_law 1292 = .ok (.aload_n 2, 1) := by decide +kernel
theorem dL_law_1293 : decode cL_law 1293 = .ok (.aload_n 0, 1) := by decide +kernel
theorem dL_law_1294 : decode cL_law 1294 = .ok (.iload 4, 2) := by decide +kernel
theorem dL_law_1296 : decode cL_law 1296 = .ok (.iconst 1, 1) := by decide +kernel
theorem dL_law_1297 : decode cL_law 1297 = .ok (.iadd, 1) := by decide +kernel
theorem dL_law_1298 : decode cL_law 1298 = .ok (.iaload, 1) := by decide +kernel
theorem dL_law_1299 : decode cL_law 1299 = .ok (.aload_n 0, 1) := by decide +kernel
theorem dL_law_1300 : decode cL_law 1300 = .ok (.iload 4, 2) := by decide +kernel
theorem dL_law_1302 : decode cL_law 1302 = .ok (.iconst 2, 1) := by decide +kernel
theorem dL_law_1303 : decode cL_law 1303 = .ok (.iadd, 1) := by decide +kernel
theorem dL_law_1304 : decode cL_law 1304 = .ok (.iaload, 1) := by decide +kernel
theorem dL_law_1305 : decode cL_law 1305 = .ok (.invokevirtual 169, 3) := by decide +kernel
theorem dL_law_1308 : decode cL_law 1308 = .ok (.if_icmp .eq 167, 3) := by decide +kernel
theorem dL_law_1311 : decode cL_law 1311 = .ok (.iconst 0, 1) := by decide +kernel
theorem dL_law_1312 : decode cL_law 1312 = .ok (.ireturn, 1) := by decide +kernel
theorem dL_law_1313 : decode cL_law 1313 = .ok (.aload_n 1, 1) := by decide +kernel
theorem dL_law_1314 : decode cL_law 1314 = .ok (.aload_n 0, 1) := by decide +kernel
theorem dL_law_1315 : decode cL_law 1315 = .ok (.iload 4, 2) := by decide +kernel
theorem dL_law_1317 : decode cL_law 1317 = .ok (.iconst 1, 1) := by decide +kernel
theorem dL_law_1318 : decode cL_law 1318 = .ok (.iadd, 1) := by decide +kernel
theorem dL_law_1319 : decode cL_law 1319 = .ok (.iaload, 1) := by decide +kernel
theorem dL_law_1320 : decode cL_law 1320 = .ok (.aload_n 0, 1) := by decide +kernel
theorem dL_law_1321 : decode cL_law 1321 = .ok (.iload 4, 2) := by decide +kernel
theorem dL_law_1323 : decode cL_law 1323 = .ok (.iconst 2, 1) := by decide +kernel
theorem dL_law_1324 : decode cL_law 1324 = .ok (.iadd, 1) := by decide +kernel
theorem dL_law_1325 : decode cL_law 1325 = .ok (.iaload, 1) := by decide +kernel
theorem dL_law_1326 : decode cL_law 1326 = .ok (.aload_n 0, 1) := by decide +kernel
theorem dL_law_1327 : decode cL_law 1327 = .ok (.iload 4, 2) := by decide +kernel
theorem dL_law_1329 : decode cL_law 1329 = .ok (.iconst 3, 1) := by decide +kernel
theorem dL_law_1330 : decode cL_law 1330 = .ok (.iadd, 1) := by decide +kernel
theorem dL_law_1331 : decode cL_law 1331 = .ok (.iaload, 1) := by decide +kernel
theorem dL_law_1332 : decode cL_law 1332 = .ok (.invokevirtual 170, 3) := by decide +kernel
theorem dL_law_1335 : decode cL_law 1335 = .ok (.aload_n 2, 1) := by decide +kernel
theorem dL_law_1336 : decode cL_law 1336 = .ok (.aload_n 0, 1) := by decide +kernel
theorem dL_law_1337 : decode cL_law 1337 = .ok (.iload 4, 2) := by decide +kernel
theorem dL_law_1339 : decode cL_law 1339 = .ok (.iconst 1, 1) := by decide +kernel
theorem dL_law_1340 : decode cL_law 1340 = .ok (.iadd, 1) := by decide +kernel
theorem dL_law_1341 : decode cL_law 1341 = .ok (.iaload, 1) := by decide +kernel
theorem dL_law_1342 : decode cL_law 1342 = .ok (.aload_n 0, 1) := by decide +kernel
theorem dL_law_1343 : decode cL_law 1343 = .ok (.iload 4, 2) := by decide +kernel
theorem dL_law_1345 : decode cL_law 1345 = .ok (.iconst 2, 1) := by decide +kernel
theorem dL_law_1346 : decode cL_law 1346 = .ok (.iadd, 1) := by decide +kernel
theorem dL_law_1347 : decode cL_law 1347 = .ok (.iaload, 1) := by decide +kernel
theorem dL_law_1348 : decode cL_law 1348 = .ok (.aload_n 0, 1) := by decide +kernel
theorem dL_law_1349 : decode cL_law 1349 = .ok (.iload 4, 2) := by decide +kernel
theorem dL_law_1351 : decode cL_law 1351 = .ok (.iconst 3, 1) := by decide +kernel
theorem dL_law_1352 : decode cL_law 1352 = .ok (.iadd, 1) := by decide +kernel
theorem dL_law_1353 : decode cL_law 1353 = .ok (.iaload, 1) := by decide +kernel
theorem dL_law_1354 : decode cL_law 1354 = .ok (.invokevirtual 173, 3) := by decide +kernel
theorem dL_law_1357 : decode cL_law 1357 = .ok (.if_icmp .eq 118, 3) := by decide +kernel
theorem dL_law_1360 : decode cL_law 1360 = .ok (.iconst 0, 1) := by decide +kernel
theorem dL_law_1361 : decode cL_law 1361 = .ok (.ireturn, 1) := by decide +kernel
theorem dL_law_1362 : decode cL_law 1362 = .ok (.aload_n 1, 1) := by decide +kernel
theorem dL_law_1363 : decode cL_law 1363 = .ok (.invokevirtual 174, 3) := by decide +kernel
theorem dL_law_1366 : decode cL_law 1366 = .ok (.aload_n 2, 1) := by decide +kernel
theorem dL_law_1367 : decode cL_law 1367 = .ok (.invokevirtual 177, 3) := by decide +kernel
theorem dL_law_1370 : decode cL_law 1370 = .ok (.if_icmp .eq 105, 3) := by decide +kernel
theorem dL_law_1373 : decode cL_law 1373 = .ok (.iconst 0, 1) := by decide +kernel
theorem dL_law_1374 : decode cL_law 1374 = .ok (.ireturn, 1) := by decide +kernel
theorem dL_law_1375 : decode cL_law 1375 = .ok (.aload_n 1, 1) := by decide +kernel
theorem dL_law_1376 : decode cL_law 1376 = .ok (.aload_n 0, 1) := by decide +kernel
theorem dL_law_1377 : decode cL_law 1377 = .ok (.iload 4, 2) := by decide +kernel
theorem dL_law_1379 : decode cL_law 1379 = .ok (.iconst 1, 1) := by decide +kernel
theorem dL_law_1380 : decode cL_law 1380 = .ok (.iadd, 1) := by decide +kernel
theorem dL_law_1381 : decode cL_law 1381 = .ok (.iaload, 1) := by decide +kernel
theorem dL_law_1382 : decode cL_law 1382 = .ok (.invokevirtual 178, 3) := by decide +kernel
theorem dL_law_1385 : decode cL_law 1385 = .ok (.aload_n 2, 1) := by decide +kernel
theorem dL_law_1386 : decode cL_law 1386 = .ok (.aload_n 0, 1) := by decide +kernel
theorem dL_law_1387 : decode cL_law 1387 = .ok (.iload 4, 2) := by decide +kernel
theorem dL_law_1389 : decode cL_law 1389 = .ok (.iconst 1, 1) := by decide +kernel
theorem dL_law_1390 : decode cL_law 1390 = .ok (.iadd, 1) := by decide +kernel
theorem dL_law_1391 : decode cL_law 1391 = .ok (.iaload, 1) := by decide +kernel
theorem dL_law_1392 : decode cL_law 1392 = .ok (.invokevirtual 181, 3) := by decide +kernel
theorem dL_law_1395 : decode cL_law 1395 = .ok (.if_icmp .eq 80, 3) := by decide +kernel
theorem dL_law_1398 : decode cL_law 1398 = .ok (.iconst 0, 1) := by decide +kernel
theorem dL_law_1399 : decode cL_law 1399 = .ok (.ireturn, 1) := by decide +kernel
theorem dL_law_1400 : decode cL_law 1400 = .ok (.aload_n 1, 1) := by decide +kernel
theorem dL_law_1401 : decode cL_law 1401 = .ok (.aload_n 0, 1) := by decide +kernel
theorem dL_law_1402 : decode cL_law 1402 = .ok (.iload 4, 2) := by decide +kernel
theorem dL_law_1404 : decode cL_law 1404 = .ok (.iconst 1, 1) := by decide +kernel
theorem dL_law_1405 : decode cL_law 1405 = .ok (.iadd, 1) := by decide +kernel
theorem dL_law_1406 : decode cL_law 1406 = .ok (.iaload, 1) := by decide +kernel
theorem dL_law_1407 : decode cL_law 1407 = .ok (.invokevirtual 182, 3) := by decide +kernel
theorem dL_law_1410 : decode cL_law 1410 = .ok (.aload_n 2, 1) := by decide +kernel
theorem dL_law_1411 : decode cL_law 1411 = .ok (.aload_n 0, 1) := by decide +kernel
theorem dL_law_1412 : decode cL_law 1412 = .ok (.iload 4, 2) := by decide +kernel
theorem dL_law_1414 : decode cL_law 1414 = .ok (.iconst 1, 1) := by decide +kernel
theorem dL_law_1415 : decode cL_law 1415 = .ok (.iadd, 1) := by decide +kernel
theorem dL_law_1416 : decode cL_law 1416 = .ok (.iaload, 1) := by decide +kernel
theorem dL_law_1417 : decode cL_law 1417 = .ok (.invokevirtual 185, 3) := by decide +kernel
theorem dL_law_1420 : decode cL_law 1420 = .ok (.if_icmp .eq 55, 3) := by decide +kernel
theorem dL_law_1423 : decode cL_law 1423 = .ok (.iconst 0, 1) := by decide +kernel
theorem dL_law_1424 : decode cL_law 1424 = .ok (.ireturn, 1) := by decide +kernel
theorem dL_law_1425 : decode cL_law 1425 = .ok (.aload_n 1, 1) := by decide +kernel
theorem dL_law_1426 : decode cL_law 1426 = .ok (.aload_n 0, 1) := by decide +kernel
theorem dL_law_1427 : decode cL_law 1427 = .ok (.iload 4, 2) := by decide +kernel
theorem dL_law_1429 : decode cL_law 1429 = .ok (.iconst 1, 1) := by decide +kernel
theorem dL_law_1430 : decode cL_law 1430 = .ok (.iadd, 1) := by decide +kernel
theorem dL_law_1431 : decode cL_law 1431 = .ok (.iaload, 1) := by decide +kernel
theorem dL_law_1432 : decode cL_law 1432 = .ok (.invokevirtual 186, 3) := by decide +kernel
theorem dL_law_1435 : decode cL_law 1435 = .ok (.aload_n 2, 1) := by decide +kernel
theorem dL_law_1436 : decode cL_law 1436 = .ok (.aload_n 0, 1) := by decide +kernel
theorem dL_law_1437 : decode cL_law 1437 = .ok (.iload 4, 2) := by decide +kernel
theorem dL_law_1439 : decode cL_law 1439 = .ok (.iconst 1, 1) := by decide +kernel
theorem dL_law_1440 : decode cL_law 1440 = .ok (.iadd, 1) := by decide +kernel
theorem dL_law_1441 : decode cL_law 1441 = .ok (.iaload, 1) := by decide +kernel
theorem dL_law_1442 : decode cL_law 1442 = .ok (.invokevirtual 189, 3) := by decide +kernel
theorem dL_law_1445 : decode cL_law 1445 = .ok (.if_icmp .eq 30, 3) := by decide +kernel
theorem dL_law_1448 : decode cL_law 1448 = .ok (.iconst 0, 1) := by decide +kernel
theorem dL_law_1449 : decode cL_law 1449 = .ok (.ireturn, 1) := by decide +kernel
theorem dL_law_1450 : decode cL_law 1450 = .ok (.aload_n 1, 1) := by decide +kernel
theorem dL_law_1451 : decode cL_law 1451 = .ok (.aload_n 0, 1) := by decide +kernel
theorem dL_law_1452 : decode cL_law 1452 = .ok (.iload 4, 2) := by decide +kernel
theorem dL_law_1454 : decode cL_law 1454 = .ok (.iconst 1, 1) := by decide +kernel
theorem dL_law_1455 : decode cL_law 1455 = .ok (.iadd, 1) := by decide +kernel
theorem dL_law_1456 : decode cL_law 1456 = .ok (.iaload, 1) := by decide +kernel
theorem dL_law_1457 : decode cL_law 1457 = .ok (.invokevirtual 190, 3) := by decide +kernel
theorem dL_law_1460 : decode cL_law 1460 = .ok (.aload_n 2, 1) := by decide +kernel
theorem dL_law_1461 : decode cL_law 1461 = .ok (.aload_n 0, 1) := by decide +kernel
theorem dL_law_1462 : decode cL_law 1462 = .ok (.iload 4, 2) := by decide +kernel
theorem dL_law_1464 : decode cL_law 1464 = .ok (.iconst 1, 1) := by decide +kernel
theorem dL_law_1465 : decode cL_law 1465 = .ok (.iadd, 1) := by decide +kernel
theorem dL_law_1466 : decode cL_law 1466 = .ok (.iaload, 1) := by decide +kernel
theorem dL_law_1467 : decode cL_law 1467 = .ok (.invokevirtual 193, 3) := by decide +kernel
theorem dL_law_1470 : decode cL_law 1470 = .ok (.if_icmp .eq 5, 3) := by decide +kernel
theorem dL_law_1473 : decode cL_law 1473 = .ok (.iconst 0, 1) := by decide +kernel
theorem dL_law_1474 : decode cL_law 1474 = .ok (.ireturn, 1) := by decide +kernel
theorem dL_law_1475 : decode cL_law 1475 = .ok (.iinc 4 6, 3) := by decide +kernel
theorem dL_law_1478 : decode cL_law 1478 = .ok (.goto (-1455), 3) := by decide +kernel
theorem dL_law_1481 : decode cL_law 1481 = .ok (.iconst 1, 1) := by decide +kernel
theorem dL_law_1482 : decode cL_law 1482 = .ok (.ireturn, 1) := by decide +kernel
