/-! THE LAW'S LOOP. Written by wip/programs/gen_law.py. -/
theorem w_456 : (Jvm.Cond.methodLink "StillYardLaw" (19 : Nat) ({ cls := "StillYard", name := "feed", desc := "(IIIII)I" } : Jvm.MethodName)) ∈ lw_big := big_at 456 (by decide +kernel) (by decide +kernel)
theorem w_464 : (Jvm.Cond.methodLink "StillYardLaw" (24 : Nat) ({ cls := "StillYard", name := "game", desc := "(I)I" } : Jvm.MethodName)) ∈ lw_big := big_at 464 (by decide +kernel) (by decide +kernel)
theorem w_681 : (Jvm.Cond.methodLink "StillYardLaw" (28 : Nat) ({ cls := "StillYard", name := "fault", desc := "()I" } : Jvm.MethodName)) ∈ lw_big := big_at 681 (by decide +kernel) (by decide +kernel)
theorem w_685 : (Jvm.Cond.methodLink "StillYardLaw" (33 : Nat) ({ cls := "StillYard", name := "where", desc := "()I" } : Jvm.MethodName)) ∈ lw_big := big_at 685 (by decide +kernel) (by decide +kernel)
theorem w_689 : (Jvm.Cond.methodLink "StillYardLaw" (37 : Nat) ({ cls := "StillYard", name := "start", desc := "(I)Z" } : Jvm.MethodName)) ∈ lw_big := big_at 689 (by decide +kernel) (by decide +kernel)
theorem w_706 : (Jvm.Cond.methodLink "StillYardLaw" (42 : Nat) ({ cls := "StillYard", name := "tenths", desc := "(I)I" } : Jvm.MethodName)) ∈ lw_big := big_at 706 (by decide +kernel) (by decide +kernel)
theorem w_804 : (Jvm.Cond.methodLink "StillYardLaw" (46 : Nat) ({ cls := "StillYard", name := "round", desc := "()I" } : Jvm.MethodName)) ∈ lw_big := big_at 804 (by decide +kernel) (by decide +kernel)
theorem w_812 : (Jvm.Cond.methodLink "StillYardLaw" (50 : Nat) ({ cls := "StillYard", name := "bring", desc := "(II)Z" } : Jvm.MethodName)) ∈ lw_big := big_at 812 (by decide +kernel) (by decide +kernel)
theorem w_824 : (Jvm.Cond.methodLink "StillYardLaw" (55 : Nat) ({ cls := "StillYard", name := "right", desc := "(I)Z" } : Jvm.MethodName)) ∈ lw_big := big_at 824 (by decide +kernel) (by decide +kernel)
theorem w_832 : (Jvm.Cond.methodLink "StillYardLaw" (59 : Nat) ({ cls := "StillYard", name := "about", desc := "(II)I" } : Jvm.MethodName)) ∈ lw_big := big_at 832 (by decide +kernel) (by decide +kernel)
theorem w_837 : (Jvm.Cond.methodLink "StillYardLaw" (64 : Nat) ({ cls := "StillYard", name := "play", desc := "(I)I" } : Jvm.MethodName)) ∈ lw_big := big_at 837 (by decide +kernel) (by decide +kernel)
theorem w_867 : (Jvm.Cond.methodLink "StillYardLaw" (68 : Nat) ({ cls := "StillYard", name := "often", desc := "(I)I" } : Jvm.MethodName)) ∈ lw_big := big_at 867 (by decide +kernel) (by decide +kernel)
theorem w_872 : (Jvm.Cond.methodLink "StillYardLaw" (72 : Nat) ({ cls := "StillYard", name := "mark", desc := "()I" } : Jvm.MethodName)) ∈ lw_big := big_at 872 (by decide +kernel) (by decide +kernel)
theorem w_880 : (Jvm.Cond.methodLink "StillYardLaw" (76 : Nat) ({ cls := "StillYard", name := "back", desc := "(I)Z" } : Jvm.MethodName)) ∈ lw_big := big_at 880 (by decide +kernel) (by decide +kernel)
theorem w_884 : (Jvm.Cond.methodLink "StillYardLaw" (80 : Nat) ({ cls := "StillYard", name := "behind", desc := "(I)J" } : Jvm.MethodName)) ∈ lw_big := big_at 884 (by decide +kernel) (by decide +kernel)
theorem w_896 : (Jvm.Cond.methodLink "StillYardLaw" (85 : Nat) ({ cls := "StillYard", name := "ways", desc := "()J" } : Jvm.MethodName)) ∈ lw_big := big_at 896 (by decide +kernel) (by decide +kernel)
theorem w_903 : (Jvm.Cond.methodLink "StillYardLaw" (90 : Nat) ({ cls := "StillYard", name := "risk", desc := "(III)J" } : Jvm.MethodName)) ∈ lw_big := big_at 903 (by decide +kernel) (by decide +kernel)
theorem w_930 : (Jvm.Cond.methodLink "StillYardLaw" (95 : Nat) ({ cls := "StillYard", name := "gain", desc := "(IIIZ)J" } : Jvm.MethodName)) ∈ lw_big := big_at 930 (by decide +kernel) (by decide +kernel)
theorem w_941 : (Jvm.Cond.methodLink "StillYardLaw" (100 : Nat) ({ cls := "StillYard", name := "best", desc := "(IIZ)I" } : Jvm.MethodName)) ∈ lw_big := big_at 941 (by decide +kernel) (by decide +kernel)
theorem w_950 : (Jvm.Cond.methodLink "StillYardLaw" (105 : Nat) ({ cls := "StillYard", name := "worth", desc := "(II)J" } : Jvm.MethodName)) ∈ lw_big := big_at 950 (by decide +kernel) (by decide +kernel)
theorem w_954 : (Jvm.Cond.methodLink "StillYardLaw" (110 : Nat) ({ cls := "StillYard", name := "rests", desc := "(II)I" } : Jvm.MethodName)) ∈ lw_big := big_at 954 (by decide +kernel) (by decide +kernel)
theorem w_964 : (Jvm.Cond.methodLink "StillYardLaw" (114 : Nat) ({ cls := "StillYard", name := "rest", desc := "(III)I" } : Jvm.MethodName)) ∈ lw_big := big_at 964 (by decide +kernel) (by decide +kernel)
theorem w_971 : (Jvm.Cond.methodLink "StillYardLaw" (119 : Nat) ({ cls := "StillYard", name := "watch", desc := "()I" } : Jvm.MethodName)) ∈ lw_big := big_at 971 (by decide +kernel) (by decide +kernel)
theorem w_996 : (Jvm.Cond.methodLink "StillYardLaw" (123 : Nat) ({ cls := "StillYard", name := "both", desc := "(I)J" } : Jvm.MethodName)) ∈ lw_big := big_at 996 (by decide +kernel) (by decide +kernel)
theorem w_1001 : (Jvm.Cond.methodLink "StillYardLaw" (127 : Nat) ({ cls := "StillYard", name := "wins", desc := "(III)I" } : Jvm.MethodName)) ∈ lw_big := big_at 1001 (by decide +kernel) (by decide +kernel)
theorem w_1023 : (Jvm.Cond.methodLink "StillYardLaw" (131 : Nat) ({ cls := "StillYard", name := "lasts", desc := "(II)I" } : Jvm.MethodName)) ∈ lw_big := big_at 1023 (by decide +kernel) (by decide +kernel)
theorem w_1027 : (Jvm.Cond.methodLink "StillYardLaw" (135 : Nat) ({ cls := "StillYard", name := "sent", desc := "(II)I" } : Jvm.MethodName)) ∈ lw_big := big_at 1027 (by decide +kernel) (by decide +kernel)
theorem w_1031 : (Jvm.Cond.methodLink "StillYardLaw" (139 : Nat) ({ cls := "StillYard", name := "looking", desc := "(II)I" } : Jvm.MethodName)) ∈ lw_big := big_at 1031 (by decide +kernel) (by decide +kernel)
theorem w_1035 : (Jvm.Cond.methodLink "StillYardLaw" (143 : Nat) ({ cls := "StillYard", name := "film", desc := "(IZZ)I" } : Jvm.MethodName)) ∈ lw_big := big_at 1035 (by decide +kernel) (by decide +kernel)
theorem w_1048 : (Jvm.Cond.methodLink "StillYardLaw" (148 : Nat) ({ cls := "StillYard", name := "law", desc := "(I)I" } : Jvm.MethodName)) ∈ lw_big := big_at 1048 (by decide +kernel) (by decide +kernel)
theorem w_1062 : (Jvm.Cond.methodLink "StillYardLaw" (152 : Nat) ({ cls := "StillYard", name := "says", desc := "(IZ)I" } : Jvm.MethodName)) ∈ lw_big := big_at 1062 (by decide +kernel) (by decide +kernel)
theorem w_1070 : (Jvm.Cond.methodLink "StillYardLaw" (157 : Nat) ({ cls := "StillYard", name := "off", desc := "()I" } : Jvm.MethodName)) ∈ lw_big := big_at 1070 (by decide +kernel) (by decide +kernel)
theorem w_1077 : (Jvm.Cond.methodLink "StillYardLaw" (161 : Nat) ({ cls := "StillYard", name := "stop", desc := "(IZ)I" } : Jvm.MethodName)) ∈ lw_big := big_at 1077 (by decide +kernel) (by decide +kernel)
theorem w_1085 : (Jvm.Cond.methodLink "StillYardLaw" (165 : Nat) ({ cls := "StillYard", name := "span", desc := "(IZ)I" } : Jvm.MethodName)) ∈ lw_big := big_at 1085 (by decide +kernel) (by decide +kernel)
theorem w_1112 : (Jvm.Cond.methodLink "StillYardLaw" (169 : Nat) ({ cls := "StillYard", name := "fits", desc := "(I)I" } : Jvm.MethodName)) ∈ lw_big := big_at 1112 (by decide +kernel) (by decide +kernel)
theorem w_1118 : (Jvm.Cond.methodLink "StillYardLaw" (173 : Nat) ({ cls := "StillYard", name := "home", desc := "(II)I" } : Jvm.MethodName)) ∈ lw_big := big_at 1118 (by decide +kernel) (by decide +kernel)
theorem w_1123 : (Jvm.Cond.methodLink "StillYardLaw" (177 : Nat) ({ cls := "StillYard", name := "far", desc := "(I)I" } : Jvm.MethodName)) ∈ lw_big := big_at 1123 (by decide +kernel) (by decide +kernel)
theorem w_1127 : (Jvm.Cond.methodLink "StillYardLaw" (181 : Nat) ({ cls := "StillYard", name := "fair", desc := "()I" } : Jvm.MethodName)) ∈ lw_big := big_at 1127 (by decide +kernel) (by decide +kernel)
theorem w_1151 : (Jvm.Cond.methodLink "StillYardLaw" (185 : Nat) ({ cls := "StillYard", name := "from", desc := "(I)I" } : Jvm.MethodName)) ∈ lw_big := big_at 1151 (by decide +kernel) (by decide +kernel)
theorem w_1155 : (Jvm.Cond.methodLink "StillYardLaw" (189 : Nat) ({ cls := "StillYard", name := "lay", desc := "(I)I" } : Jvm.MethodName)) ∈ lw_big := big_at 1155 (by decide +kernel) (by decide +kernel)
theorem w_1172 : (Jvm.Cond.methodLink "StillYardLaw" (193 : Nat) ({ cls := "StillYard", name := "heard", desc := "(I)I" } : Jvm.MethodName)) ∈ lw_big := big_at 1172 (by decide +kernel) (by decide +kernel)
theorem w_1176 : (Jvm.Cond.methodLink "StillYardLaw" (197 : Nat) ({ cls := "StillYard", name := "loud", desc := "(II)I" } : Jvm.MethodName)) ∈ lw_big := big_at 1176 (by decide +kernel) (by decide +kernel)
theorem w_1181 : (Jvm.Cond.methodLink "StillYardLaw" (210 : Nat) ({ cls := "StillYard", name := "size", desc := "(I)I" } : Jvm.MethodName)) ∈ lw_big := big_at 1181 (by decide +kernel) (by decide +kernel)
theorem w_1185 : (Jvm.Cond.methodLink "StillYardLaw" (214 : Nat) ({ cls := "StillYard", name := "creeper", desc := "(II)I" } : Jvm.MethodName)) ∈ lw_big := big_at 1185 (by decide +kernel) (by decide +kernel)
theorem w_1189 : (Jvm.Cond.methodLink "StillYardLaw" (218 : Nat) ({ cls := "StillYard", name := "trouble", desc := "()I" } : Jvm.MethodName)) ∈ lw_big := big_at 1189 (by decide +kernel) (by decide +kernel)
theorem w_1369 : (Jvm.Cond.methodLink "StillYardLaw" (207 : Nat) ({ cls := "StillYardModel", name := "thrown", desc := "()I" } : Jvm.MethodName)) ∈ lw_big := big_at 1369 (by decide +kernel) (by decide +kernel)
theorem w_1373 : (Jvm.Cond.methodLink "StillYardLaw" (23 : Nat) ({ cls := "StillYardModel", name := "feed", desc := "(IIIII)I" } : Jvm.MethodName)) ∈ lw_big := big_at 1373 (by decide +kernel) (by decide +kernel)
theorem w_1377 : (Jvm.Cond.methodLink "StillYardLaw" (27 : Nat) ({ cls := "StillYardModel", name := "game", desc := "(I)I" } : Jvm.MethodName)) ∈ lw_big := big_at 1377 (by decide +kernel) (by decide +kernel)
theorem w_1495 : (Jvm.Cond.methodLink "StillYardLaw" (32 : Nat) ({ cls := "StillYardModel", name := "fault", desc := "()I" } : Jvm.MethodName)) ∈ lw_big := big_at 1495 (by decide +kernel) (by decide +kernel)
theorem w_1499 : (Jvm.Cond.methodLink "StillYardLaw" (36 : Nat) ({ cls := "StillYardModel", name := "where", desc := "()I" } : Jvm.MethodName)) ∈ lw_big := big_at 1499 (by decide +kernel) (by decide +kernel)
theorem w_1503 : (Jvm.Cond.methodLink "StillYardLaw" (41 : Nat) ({ cls := "StillYardModel", name := "start", desc := "(I)Z" } : Jvm.MethodName)) ∈ lw_big := big_at 1503 (by decide +kernel) (by decide +kernel)
theorem w_1512 : (Jvm.Cond.methodLink "StillYardLaw" (45 : Nat) ({ cls := "StillYardModel", name := "tenths", desc := "(I)I" } : Jvm.MethodName)) ∈ lw_big := big_at 1512 (by decide +kernel) (by decide +kernel)
theorem w_1564 : (Jvm.Cond.methodLink "StillYardLaw" (49 : Nat) ({ cls := "StillYardModel", name := "round", desc := "()I" } : Jvm.MethodName)) ∈ lw_big := big_at 1564 (by decide +kernel) (by decide +kernel)
theorem w_1568 : (Jvm.Cond.methodLink "StillYardLaw" (54 : Nat) ({ cls := "StillYardModel", name := "bring", desc := "(II)Z" } : Jvm.MethodName)) ∈ lw_big := big_at 1568 (by decide +kernel) (by decide +kernel)
theorem w_1576 : (Jvm.Cond.methodLink "StillYardLaw" (58 : Nat) ({ cls := "StillYardModel", name := "right", desc := "(I)Z" } : Jvm.MethodName)) ∈ lw_big := big_at 1576 (by decide +kernel) (by decide +kernel)
theorem w_1580 : (Jvm.Cond.methodLink "StillYardLaw" (63 : Nat) ({ cls := "StillYardModel", name := "about", desc := "(II)I" } : Jvm.MethodName)) ∈ lw_big := big_at 1580 (by decide +kernel) (by decide +kernel)
theorem w_1584 : (Jvm.Cond.methodLink "StillYardLaw" (67 : Nat) ({ cls := "StillYardModel", name := "play", desc := "(I)I" } : Jvm.MethodName)) ∈ lw_big := big_at 1584 (by decide +kernel) (by decide +kernel)
theorem w_1592 : (Jvm.Cond.methodLink "StillYardLaw" (71 : Nat) ({ cls := "StillYardModel", name := "often", desc := "(I)I" } : Jvm.MethodName)) ∈ lw_big := big_at 1592 (by decide +kernel) (by decide +kernel)
theorem w_1596 : (Jvm.Cond.methodLink "StillYardLaw" (75 : Nat) ({ cls := "StillYardModel", name := "mark", desc := "()I" } : Jvm.MethodName)) ∈ lw_big := big_at 1596 (by decide +kernel) (by decide +kernel)
theorem w_1604 : (Jvm.Cond.methodLink "StillYardLaw" (79 : Nat) ({ cls := "StillYardModel", name := "back", desc := "(I)Z" } : Jvm.MethodName)) ∈ lw_big := big_at 1604 (by decide +kernel) (by decide +kernel)
theorem w_1612 : (Jvm.Cond.methodLink "StillYardLaw" (84 : Nat) ({ cls := "StillYardModel", name := "behind", desc := "(I)J" } : Jvm.MethodName)) ∈ lw_big := big_at 1612 (by decide +kernel) (by decide +kernel)
theorem w_1621 : (Jvm.Cond.methodLink "StillYardLaw" (89 : Nat) ({ cls := "StillYardModel", name := "ways", desc := "()J" } : Jvm.MethodName)) ∈ lw_big := big_at 1621 (by decide +kernel) (by decide +kernel)
theorem w_1629 : (Jvm.Cond.methodLink "StillYardLaw" (94 : Nat) ({ cls := "StillYardModel", name := "risk", desc := "(III)J" } : Jvm.MethodName)) ∈ lw_big := big_at 1629 (by decide +kernel) (by decide +kernel)
theorem w_1660 : (Jvm.Cond.methodLink "StillYardLaw" (99 : Nat) ({ cls := "StillYardModel", name := "gain", desc := "(IIIZ)J" } : Jvm.MethodName)) ∈ lw_big := big_at 1660 (by decide +kernel) (by decide +kernel)
theorem w_1673 : (Jvm.Cond.methodLink "StillYardLaw" (104 : Nat) ({ cls := "StillYardModel", name := "best", desc := "(IIZ)I" } : Jvm.MethodName)) ∈ lw_big := big_at 1673 (by decide +kernel) (by decide +kernel)
theorem w_1681 : (Jvm.Cond.methodLink "StillYardLaw" (109 : Nat) ({ cls := "StillYardModel", name := "worth", desc := "(II)J" } : Jvm.MethodName)) ∈ lw_big := big_at 1681 (by decide +kernel) (by decide +kernel)
theorem w_1685 : (Jvm.Cond.methodLink "StillYardLaw" (113 : Nat) ({ cls := "StillYardModel", name := "rests", desc := "(II)I" } : Jvm.MethodName)) ∈ lw_big := big_at 1685 (by decide +kernel) (by decide +kernel)
theorem w_1697 : (Jvm.Cond.methodLink "StillYardLaw" (118 : Nat) ({ cls := "StillYardModel", name := "rest", desc := "(III)I" } : Jvm.MethodName)) ∈ lw_big := big_at 1697 (by decide +kernel) (by decide +kernel)
theorem w_1701 : (Jvm.Cond.methodLink "StillYardLaw" (122 : Nat) ({ cls := "StillYardModel", name := "watch", desc := "()I" } : Jvm.MethodName)) ∈ lw_big := big_at 1701 (by decide +kernel) (by decide +kernel)
theorem w_1712 : (Jvm.Cond.methodLink "StillYardLaw" (126 : Nat) ({ cls := "StillYardModel", name := "both", desc := "(I)J" } : Jvm.MethodName)) ∈ lw_big := big_at 1712 (by decide +kernel) (by decide +kernel)
theorem w_1716 : (Jvm.Cond.methodLink "StillYardLaw" (130 : Nat) ({ cls := "StillYardModel", name := "wins", desc := "(III)I" } : Jvm.MethodName)) ∈ lw_big := big_at 1716 (by decide +kernel) (by decide +kernel)
theorem w_1728 : (Jvm.Cond.methodLink "StillYardLaw" (134 : Nat) ({ cls := "StillYardModel", name := "lasts", desc := "(II)I" } : Jvm.MethodName)) ∈ lw_big := big_at 1728 (by decide +kernel) (by decide +kernel)
theorem w_1732 : (Jvm.Cond.methodLink "StillYardLaw" (138 : Nat) ({ cls := "StillYardModel", name := "sent", desc := "(II)I" } : Jvm.MethodName)) ∈ lw_big := big_at 1732 (by decide +kernel) (by decide +kernel)
theorem w_1736 : (Jvm.Cond.methodLink "StillYardLaw" (142 : Nat) ({ cls := "StillYardModel", name := "looking", desc := "(II)I" } : Jvm.MethodName)) ∈ lw_big := big_at 1736 (by decide +kernel) (by decide +kernel)
theorem w_1740 : (Jvm.Cond.methodLink "StillYardLaw" (147 : Nat) ({ cls := "StillYardModel", name := "film", desc := "(IZZ)I" } : Jvm.MethodName)) ∈ lw_big := big_at 1740 (by decide +kernel) (by decide +kernel)
theorem w_1748 : (Jvm.Cond.methodLink "StillYardLaw" (151 : Nat) ({ cls := "StillYardModel", name := "law", desc := "(I)I" } : Jvm.MethodName)) ∈ lw_big := big_at 1748 (by decide +kernel) (by decide +kernel)
theorem w_1756 : (Jvm.Cond.methodLink "StillYardLaw" (156 : Nat) ({ cls := "StillYardModel", name := "says", desc := "(IZ)I" } : Jvm.MethodName)) ∈ lw_big := big_at 1756 (by decide +kernel) (by decide +kernel)
theorem w_1760 : (Jvm.Cond.methodLink "StillYardLaw" (160 : Nat) ({ cls := "StillYardModel", name := "off", desc := "()I" } : Jvm.MethodName)) ∈ lw_big := big_at 1760 (by decide +kernel) (by decide +kernel)
theorem w_1764 : (Jvm.Cond.methodLink "StillYardLaw" (164 : Nat) ({ cls := "StillYardModel", name := "stop", desc := "(IZ)I" } : Jvm.MethodName)) ∈ lw_big := big_at 1764 (by decide +kernel) (by decide +kernel)
theorem w_1768 : (Jvm.Cond.methodLink "StillYardLaw" (168 : Nat) ({ cls := "StillYardModel", name := "span", desc := "(IZ)I" } : Jvm.MethodName)) ∈ lw_big := big_at 1768 (by decide +kernel) (by decide +kernel)
theorem w_1788 : (Jvm.Cond.methodLink "StillYardLaw" (172 : Nat) ({ cls := "StillYardModel", name := "fits", desc := "(I)I" } : Jvm.MethodName)) ∈ lw_big := big_at 1788 (by decide +kernel) (by decide +kernel)
theorem w_1792 : (Jvm.Cond.methodLink "StillYardLaw" (176 : Nat) ({ cls := "StillYardModel", name := "home", desc := "(II)I" } : Jvm.MethodName)) ∈ lw_big := big_at 1792 (by decide +kernel) (by decide +kernel)
theorem w_1796 : (Jvm.Cond.methodLink "StillYardLaw" (180 : Nat) ({ cls := "StillYardModel", name := "far", desc := "(I)I" } : Jvm.MethodName)) ∈ lw_big := big_at 1796 (by decide +kernel) (by decide +kernel)
theorem w_1800 : (Jvm.Cond.methodLink "StillYardLaw" (184 : Nat) ({ cls := "StillYardModel", name := "fair", desc := "()I" } : Jvm.MethodName)) ∈ lw_big := big_at 1800 (by decide +kernel) (by decide +kernel)
theorem w_1809 : (Jvm.Cond.methodLink "StillYardLaw" (188 : Nat) ({ cls := "StillYardModel", name := "from", desc := "(I)I" } : Jvm.MethodName)) ∈ lw_big := big_at 1809 (by decide +kernel) (by decide +kernel)
theorem w_1813 : (Jvm.Cond.methodLink "StillYardLaw" (192 : Nat) ({ cls := "StillYardModel", name := "lay", desc := "(I)I" } : Jvm.MethodName)) ∈ lw_big := big_at 1813 (by decide +kernel) (by decide +kernel)
theorem w_1829 : (Jvm.Cond.methodLink "StillYardLaw" (196 : Nat) ({ cls := "StillYardModel", name := "heard", desc := "(I)I" } : Jvm.MethodName)) ∈ lw_big := big_at 1829 (by decide +kernel) (by decide +kernel)
theorem w_1833 : (Jvm.Cond.methodLink "StillYardLaw" (200 : Nat) ({ cls := "StillYardModel", name := "loud", desc := "(II)I" } : Jvm.MethodName)) ∈ lw_big := big_at 1833 (by decide +kernel) (by decide +kernel)
theorem w_1837 : (Jvm.Cond.methodLink "StillYardLaw" (206 : Nat) ({ cls := "StillYardModel", name := "led", desc := "(I)I" } : Jvm.MethodName)) ∈ lw_big := big_at 1837 (by decide +kernel) (by decide +kernel)
theorem w_1841 : (Jvm.Cond.methodLink "StillYardLaw" (213 : Nat) ({ cls := "StillYardModel", name := "size", desc := "(I)I" } : Jvm.MethodName)) ∈ lw_big := big_at 1841 (by decide +kernel) (by decide +kernel)
theorem w_1845 : (Jvm.Cond.methodLink "StillYardLaw" (217 : Nat) ({ cls := "StillYardModel", name := "creeper", desc := "(II)I" } : Jvm.MethodName)) ∈ lw_big := big_at 1845 (by decide +kernel) (by decide +kernel)
theorem w_1849 : (Jvm.Cond.methodLink "StillYardLaw" (221 : Nat) ({ cls := "StillYardModel", name := "trouble", desc := "()I" } : Jvm.MethodName)) ∈ lw_big := big_at 1849 (by decide +kernel) (by decide +kernel)
theorem dL_law_0 : decode cL_law 0 = .ok (.new 8, 3) := by decide +kernel
theorem dL_law_3 : decode cL_law 3 = .ok (.dup, 1) := by decide +kernel
theorem dL_law_4 : decode cL_law 4 = .ok (.invokespecial 15, 3) := by decide +kernel
theorem dL_law_7 : decode cL_law 7 = .ok (.astore_n 1, 1) := by decide +kernel
theorem dL_law_8 : decode cL_law 8 = .ok (.new 16, 3) := by decide +kernel
theorem dL_law_11 : decode cL_law 11 = .ok (.dup, 1) := by decide +kernel
theorem dL_law_12 : decode cL_law 12 = .ok (.invokespecial 18, 3) := by decide +kernel
theorem dL_law_15 : decode cL_law 15 = .ok (.astore_n 2, 1) := by decide +kernel
theorem dL_law_16 : decode cL_law 16 = .ok (.iconst 1, 1) := by decide +kernel
theorem dL_law_17 : decode cL_law 17 = .ok (.newarray .long, 2) := by decide +kernel
theorem dL_law_19 : decode cL_law 19 = .ok (.astore_n 3, 1) := by decide +kernel
theorem dL_law_20 : decode cL_law 20 = .ok (.iconst 0, 1) := by decide +kernel
theorem dL_law_21 : decode cL_law 21 = .ok (.istore 4, 2) := by decide +kernel
theorem dL_law_23 : decode cL_law 23 = .ok (.iload 4, 2) := by decide +kernel
theorem dL_law_25 : decode cL_law 25 = .ok (.aload_n 0, 1) := by decide +kernel
theorem dL_law_26 : decode cL_law 26 = .ok (.arraylength, 1) := by decide +kernel
theorem dL_law_27 : decode cL_law 27 = .ok (.bipush 6, 2) := by decide +kernel
theorem dL_law_29 : decode cL_law 29 = .ok (.isub, 1) := by decide +kernel
theorem dL_law_30 : decode cL_law 30 = .ok (.if_icmp .gt 1767, 3) := by decide +kernel
theorem dL_law_33 : decode cL_law 33 = .ok (.aload_n 0, 1) := by decide +kernel
theorem dL_law_34 : decode cL_law 34 = .ok (.iload 4, 2) := by decide +kernel
theorem dL_law_36 : decode cL_law 36 = .ok (.iaload, 1) := by decide +kernel
theorem dL_law_37 : decode cL_law 37 = .ok (.bipush 63, 2) := by decide +kernel
theorem dL_law_39 : decode cL_law 39 = .ok (.iand, 1) := by decide +kernel
theorem dL_law_40 : decode cL_law 40 = .ok (.tableswitch 1751 0 45 #[200, 273, 298, 311, 324, 349, 374, 387, 424, 449, 486, 511, 536, 549, 574, 600, 614, 664, 742, 807, 845, 882, 931, 944, 970, 1019, 1056, 1093, 1130, 1211, 1236, 1289, 1302, 1355, 1408, 1433, 1470, 1495, 1508, 1533, 1558, 1583, 1620, 1676, 1701, 1738], 200) := by decide +kernel
theorem dL_law_240 : decode cL_law 240 = .ok (.aload_n 1, 1) := by decide +kernel
theorem dL_law_241 : decode cL_law 241 = .ok (.aload_n 0, 1) := by decide +kernel
theorem dL_law_242 : decode cL_law 242 = .ok (.iload 4, 2) := by decide +kernel
theorem dL_law_244 : decode cL_law 244 = .ok (.iconst 1, 1) := by decide +kernel
theorem dL_law_245 : decode cL_law 245 = .ok (.iadd, 1) := by decide +kernel
theorem dL_law_246 : decode cL_law 246 = .ok (.iaload, 1) := by decide +kernel
theorem dL_law_247 : decode cL_law 247 = .ok (.aload_n 0, 1) := by decide +kernel
theorem dL_law_248 : decode cL_law 248 = .ok (.iload 4, 2) := by decide +kernel
theorem dL_law_250 : decode cL_law 250 = .ok (.iconst 2, 1) := by decide +kernel
theorem dL_law_251 : decode cL_law 251 = .ok (.iadd, 1) := by decide +kernel
theorem dL_law_252 : decode cL_law 252 = .ok (.iaload, 1) := by decide +kernel
theorem dL_law_253 : decode cL_law 253 = .ok (.aload_n 0, 1) := by decide +kernel
theorem dL_law_254 : decode cL_law 254 = .ok (.iload 4, 2) := by decide +kernel
theorem dL_law_256 : decode cL_law 256 = .ok (.iconst 3, 1) := by decide +kernel
theorem dL_law_257 : decode cL_law 257 = .ok (.iadd, 1) := by decide +kernel
theorem dL_law_258 : decode cL_law 258 = .ok (.iaload, 1) := by decide +kernel
theorem dL_law_259 : decode cL_law 259 = .ok (.aload_n 0, 1) := by decide +kernel
theorem dL_law_260 : decode cL_law 260 = .ok (.iload 4, 2) := by decide +kernel
theorem dL_law_262 : decode cL_law 262 = .ok (.iconst 4, 1) := by decide +kernel
theorem dL_law_263 : decode cL_law 263 = .ok (.iadd, 1) := by decide +kernel
theorem dL_law_264 : decode cL_law 264 = .ok (.iaload, 1) := by decide +kernel
theorem dL_law_265 : decode cL_law 265 = .ok (.aload_n 0, 1) := by decide +kernel
theorem dL_law_266 : decode cL_law 266 = .ok (.iload 4, 2) := by decide +kernel
theorem dL_law_268 : decode cL_law 268 = .ok (.iconst 5, 1) := by decide +kernel
theorem dL_law_269 : decode cL_law 269 = .ok (.iadd, 1) := by decide +kernel
theorem dL_law_270 : decode cL_law 270 = .ok (.iaload, 1) := by decide +kernel
theorem dL_law_271 : decode cL_law 271 = .ok (.invokevirtual 19, 3) := by decide +kernel
theorem dL_law_274 : decode cL_law 274 = .ok (.aload_n 2, 1) := by decide +kernel
theorem dL_law_275 : decode cL_law 275 = .ok (.aload_n 0, 1) := by decide +kernel
theorem dL_law_276 : decode cL_law 276 = .ok (.iload 4, 2) := by decide +kernel
theorem dL_law_278 : decode cL_law 278 = .ok (.iconst 1, 1) := by decide +kernel
theorem dL_law_279 : decode cL_law 279 = .ok (.iadd, 1) := by decide +kernel
theorem dL_law_280 : decode cL_law 280 = .ok (.iaload, 1) := by decide +kernel
theorem dL_law_281 : decode cL_law 281 = .ok (.aload_n 0, 1) := by decide +kernel
theorem dL_law_282 : decode cL_law 282 = .ok (.iload 4, 2) := by decide +kernel
theorem dL_law_284 : decode cL_law 284 = .ok (.iconst 2, 1) := by decide +kernel
theorem dL_law_285 : decode cL_law 285 = .ok (.iadd, 1) := by decide +kernel
theorem dL_law_286 : decode cL_law 286 = .ok (.iaload, 1) := by decide +kernel
theorem dL_law_287 : decode cL_law 287 = .ok (.aload_n 0, 1) := by decide +kernel
theorem dL_law_288 : decode cL_law 288 = .ok (.iload 4, 2) := by decide +kernel
theorem dL_law_290 : decode cL_law 290 = .ok (.iconst 3, 1) := by decide +kernel
theorem dL_law_291 : decode cL_law 291 = .ok (.iadd, 1) := by decide +kernel
theorem dL_law_292 : decode cL_law 292 = .ok (.iaload, 1) := by decide +kernel
theorem dL_law_293 : decode cL_law 293 = .ok (.aload_n 0, 1) := by decide +kernel
theorem dL_law_294 : decode cL_law 294 = .ok (.iload 4, 2) := by decide +kernel
theorem dL_law_296 : decode cL_law 296 = .ok (.iconst 4, 1) := by decide +kernel
theorem dL_law_297 : decode cL_law 297 = .ok (.iadd, 1) := by decide +kernel
theorem dL_law_298 : decode cL_law 298 = .ok (.iaload, 1) := by decide +kernel
theorem dL_law_299 : decode cL_law 299 = .ok (.aload_n 0, 1) := by decide +kernel
theorem dL_law_300 : decode cL_law 300 = .ok (.iload 4, 2) := by decide +kernel
theorem dL_law_302 : decode cL_law 302 = .ok (.iconst 5, 1) := by decide +kernel
theorem dL_law_303 : decode cL_law 303 = .ok (.iadd, 1) := by decide +kernel
theorem dL_law_304 : decode cL_law 304 = .ok (.iaload, 1) := by decide +kernel
theorem dL_law_305 : decode cL_law 305 = .ok (.invokevirtual 23, 3) := by decide +kernel
theorem dL_law_308 : decode cL_law 308 = .ok (.if_icmp .eq 1483, 3) := by decide +kernel
theorem dL_law_311 : decode cL_law 311 = .ok (.iconst 0, 1) := by decide +kernel
theorem dL_law_312 : decode cL_law 312 = .ok (.ireturn, 1) := by decide +kernel
theorem dL_law_313 : decode cL_law 313 = .ok (.aload_n 1, 1) := by decide +kernel
theorem dL_law_314 : decode cL_law 314 = .ok (.aload_n 0, 1) := by decide +kernel
theorem dL_law_315 : decode cL_law 315 = .ok (.iload 4, 2) := by decide +kernel
theorem dL_law_317 : decode cL_law 317 = .ok (.iconst 1, 1) := by decide +kernel
theorem dL_law_318 : decode cL_law 318 = .ok (.iadd, 1) := by decide +kernel
theorem dL_law_319 : decode cL_law 319 = .ok (.iaload, 1) := by decide +kernel
theorem dL_law_320 : decode cL_law 320 = .ok (.invokevirtual 24, 3) := by decide +kernel
theorem dL_law_323 : decode cL_law 323 = .ok (.aload_n 2, 1) := by decide +kernel
theorem dL_law_324 : decode cL_law 324 = .ok (.aload_n 0, 1) := by decide +kernel
theorem dL_law_325 : decode cL_law 325 = .ok (.iload 4, 2) := by decide +kernel
theorem dL_law_327 : decode cL_law 327 = .ok (.iconst 1, 1) := by decide +kernel
theorem dL_law_328 : decode cL_law 328 = .ok (.iadd, 1) := by decide +kernel
theorem dL_law_329 : decode cL_law 329 = .ok (.iaload, 1) := by decide +kernel
theorem dL_law_330 : decode cL_law 330 = .ok (.invokevirtual 27, 3) := by decide +kernel
theorem dL_law_333 : decode cL_law 333 = .ok (.if_icmp .eq 1458, 3) := by decide +kernel
theorem dL_law_336 : decode cL_law 336 = .ok (.iconst 0, 1) := by decide +kernel
theorem dL_law_337 : decode cL_law 337 = .ok (.ireturn, 1) := by decide +kernel
theorem dL_law_338 : decode cL_law 338 = .ok (.aload_n 1, 1) := by decide +kernel
theorem dL_law_339 : decode cL_law 339 = .ok (.invokevirtual 28, 3) := by decide +kernel
theorem dL_law_342 : decode cL_law 342 = .ok (.aload_n 2, 1) := by decide +kernel
theorem dL_law_343 : decode cL_law 343 = .ok (.invokevirtual 32, 3) := by decide +kernel
theorem dL_law_346 : decode cL_law 346 = .ok (.if_icmp .eq 1445, 3) := by decide +kernel
theorem dL_law_349 : decode cL_law 349 = .ok (.iconst 0, 1) := by decide +kernel
theorem dL_law_350 : decode cL_law 350 = .ok (.ireturn, 1) := by decide +kernel
theorem dL_law_351 : decode cL_law 351 = .ok (.aload_n 1, 1) := by decide +kernel
theorem dL_law_352 : decode cL_law 352 = .ok (.invokevirtual 33, 3) := by decide +kernel
theorem dL_law_355 : decode cL_law 355 = .ok (.aload_n 2, 1) := by decide +kernel
theorem dL_law_356 : decode cL_law 356 = .ok (.invokevirtual 36, 3) := by decide +kernel
theorem dL_law_359 : decode cL_law 359 = .ok (.if_icmp .eq 1432, 3) := by decide +kernel
theorem dL_law_362 : decode cL_law 362 = .ok (.iconst 0, 1) := by decide +kernel
theorem dL_law_363 : decode cL_law 363 = .ok (.ireturn, 1) := by decide +kernel
theorem dL_law_364 : decode cL_law 364 = .ok (.aload_n 1, 1) := by decide +kernel
theorem dL_law_365 : decode cL_law 365 = .ok (.aload_n 0, 1) := by decide +kernel
theorem dL_law_366 : decode cL_law 366 = .ok (.iload 4, 2) := by decide +kernel
theorem dL_law_368 : decode cL_law 368 = .ok (.iconst 1, 1) := by decide +kernel
theorem dL_law_369 : decode cL_law 369 = .ok (.iadd, 1) := by decide +kernel
theorem dL_law_370 : decode cL_law 370 = .ok (.iaload, 1) := by decide +kernel
theorem dL_law_371 : decode cL_law 371 = .ok (.invokevirtual 37, 3) := by decide +kernel
theorem dL_law_374 : decode cL_law 374 = .ok (.aload_n 2, 1) := by decide +kernel
theorem dL_law_375 : decode cL_law 375 = .ok (.aload_n 0, 1) := by decide +kernel
theorem dL_law_376 : decode cL_law 376 = .ok (.iload 4, 2) := by decide +kernel
theorem dL_law_378 : decode cL_law 378 = .ok (.iconst 1, 1) := by decide +kernel
theorem dL_law_379 : decode cL_law 379 = .ok (.iadd, 1) := by decide +kernel
theorem dL_law_380 : decode cL_law 380 = .ok (.iaload, 1) := by decide +kernel
theorem dL_law_381 : decode cL_law 381 = .ok (.invokevirtual 41, 3) := by decide +kernel
theorem dL_law_384 : decode cL_law 384 = .ok (.if_icmp .eq 1407, 3) := by decide +kernel
theorem dL_law_387 : decode cL_law 387 = .ok (.iconst 0, 1) := by decide +kernel
theorem dL_law_388 : decode cL_law 388 = .ok (.ireturn, 1) := by decide +kernel
theorem dL_law_389 : decode cL_law 389 = .ok (.aload_n 1, 1) := by decide +kernel
theorem dL_law_390 : decode cL_law 390 = .ok (.aload_n 0, 1) := by decide +kernel
theorem dL_law_391 : decode cL_law 391 = .ok (.iload 4, 2) := by decide +kernel
theorem dL_law_393 : decode cL_law 393 = .ok (.iconst 1, 1) := by decide +kernel
theorem dL_law_394 : decode cL_law 394 = .ok (.iadd, 1) := by decide +kernel
theorem dL_law_395 : decode cL_law 395 = .ok (.iaload, 1) := by decide +kernel
theorem dL_law_396 : decode cL_law 396 = .ok (.invokevirtual 42, 3) := by decide +kernel
theorem dL_law_399 : decode cL_law 399 = .ok (.aload_n 2, 1) := by decide +kernel
theorem dL_law_400 : decode cL_law 400 = .ok (.aload_n 0, 1) := by decide +kernel
theorem dL_law_401 : decode cL_law 401 = .ok (.iload 4, 2) := by decide +kernel
theorem dL_law_403 : decode cL_law 403 = .ok (.iconst 1, 1) := by decide +kernel
theorem dL_law_404 : decode cL_law 404 = .ok (.iadd, 1) := by decide +kernel
theorem dL_law_405 : decode cL_law 405 = .ok (.iaload, 1) := by decide +kernel
theorem dL_law_406 : decode cL_law 406 = .ok (.invokevirtual 45, 3) := by decide +kernel
theorem dL_law_409 : decode cL_law 409 = .ok (.if_icmp .eq 1382, 3) := by decide +kernel
theorem dL_law_412 : decode cL_law 412 = .ok (.iconst 0, 1) := by decide +kernel
theorem dL_law_413 : decode cL_law 413 = .ok (.ireturn, 1) := by decide +kernel
theorem dL_law_414 : decode cL_law 414 = .ok (.aload_n 1, 1) := by decide +kernel
theorem dL_law_415 : decode cL_law 415 = .ok (.invokevirtual 46, 3) := by decide +kernel
theorem dL_law_418 : decode cL_law 418 = .ok (.aload_n 2, 1) := by decide +kernel
theorem dL_law_419 : decode cL_law 419 = .ok (.invokevirtual 49, 3) := by decide +kernel
theorem dL_law_422 : decode cL_law 422 = .ok (.if_icmp .eq 1369, 3) := by decide +kernel
theorem dL_law_425 : decode cL_law 425 = .ok (.iconst 0, 1) := by decide +kernel
theorem dL_law_426 : decode cL_law 426 = .ok (.ireturn, 1) := by decide +kernel
theorem dL_law_427 : decode cL_law 427 = .ok (.aload_n 1, 1) := by decide +kernel
theorem dL_law_428 : decode cL_law 428 = .ok (.aload_n 0, 1) := by decide +kernel
theorem dL_law_429 : decode cL_law 429 = .ok (.iload 4, 2) := by decide +kernel
theorem dL_law_431 : decode cL_law 431 = .ok (.iconst 1, 1) := by decide +kernel
theorem dL_law_432 : decode cL_law 432 = .ok (.iadd, 1) := by decide +kernel
theorem dL_law_433 : decode cL_law 433 = .ok (.iaload, 1) := by decide +kernel
theorem dL_law_434 : decode cL_law 434 = .ok (.aload_n 0, 1) := by decide +kernel
theorem dL_law_435 : decode cL_law 435 = .ok (.iload 4, 2) := by decide +kernel
theorem dL_law_437 : decode cL_law 437 = .ok (.iconst 2, 1) := by decide +kernel
theorem dL_law_438 : decode cL_law 438 = .ok (.iadd, 1) := by decide +kernel
theorem dL_law_439 : decode cL_law 439 = .ok (.iaload, 1) := by decide +kernel
theorem dL_law_440 : decode cL_law 440 = .ok (.invokevirtual 50, 3) := by decide +kernel
theorem dL_law_443 : decode cL_law 443 = .ok (.aload_n 2, 1) := by decide +kernel
theorem dL_law_444 : decode cL_law 444 = .ok (.aload_n 0, 1) := by decide +kernel
theorem dL_law_445 : decode cL_law 445 = .ok (.iload 4, 2) := by decide +kernel
theorem dL_law_447 : decode cL_law 447 = .ok (.iconst 1, 1) := by decide +kernel
theorem dL_law_448 : decode cL_law 448 = .ok (.iadd, 1) := by decide +kernel
theorem dL_law_449 : decode cL_law 449 = .ok (.iaload, 1) := by decide +kernel
theorem dL_law_450 : decode cL_law 450 = .ok (.aload_n 0, 1) := by decide +kernel
theorem dL_law_451 : decode cL_law 451 = .ok (.iload 4, 2) := by decide +kernel
theorem dL_law_453 : decode cL_law 453 = .ok (.iconst 2, 1) := by decide +kernel
theorem dL_law_454 : decode cL_law 454 = .ok (.iadd, 1) := by decide +kernel
theorem dL_law_455 : decode cL_law 455 = .ok (.iaload, 1) := by decide +kernel
theorem dL_law_456 : decode cL_law 456 = .ok (.invokevirtual 54, 3) := by decide +kernel
theorem dL_law_459 : decode cL_law 459 = .ok (.if_icmp .eq 1332, 3) := by decide +kernel
theorem dL_law_462 : decode cL_law 462 = .ok (.iconst 0, 1) := by decide +kernel
theorem dL_law_463 : decode cL_law 463 = .ok (.ireturn, 1) := by decide +kernel
theorem dL_law_464 : decode cL_law 464 = .ok (.aload_n 1, 1) := by decide +kernel
theorem dL_law_465 : decode cL_law 465 = .ok (.aload_n 0, 1) := by decide +kernel
theorem dL_law_466 : decode cL_law 466 = .ok (.iload 4, 2) := by decide +kernel
theorem dL_law_468 : decode cL_law 468 = .ok (.iconst 1, 1) := by decide +kernel
theorem dL_law_469 : decode cL_law 469 = .ok (.iadd, 1) := by decide +kernel
theorem dL_law_470 : decode cL_law 470 = .ok (.iaload, 1) := by decide +kernel
theorem dL_law_471 : decode cL_law 471 = .ok (.invokevirtual 55, 3) := by decide +kernel
theorem dL_law_474 : decode cL_law 474 = .ok (.aload_n 2, 1) := by decide +kernel
theorem dL_law_475 : decode cL_law 475 = .ok (.aload_n 0, 1) := by decide +kernel
theorem dL_law_476 : decode cL_law 476 = .ok (.iload 4, 2) := by decide +kernel
theorem dL_law_478 : decode cL_law 478 = .ok (.iconst 1, 1) := by decide +kernel
theorem dL_law_479 : decode cL_law 479 = .ok (.iadd, 1) := by decide +kernel
theorem dL_law_480 : decode cL_law 480 = .ok (.iaload, 1) := by decide +kernel
theorem dL_law_481 : decode cL_law 481 = .ok (.invokevirtual 58, 3) := by decide +kernel
theorem dL_law_484 : decode cL_law 484 = .ok (.if_icmp .eq 1307, 3) := by decide +kernel
theorem dL_law_487 : decode cL_law 487 = .ok (.iconst 0, 1) := by decide +kernel
theorem dL_law_488 : decode cL_law 488 = .ok (.ireturn, 1) := by decide +kernel
theorem dL_law_489 : decode cL_law 489 = .ok (.aload_n 1, 1) := by decide +kernel
theorem dL_law_490 : decode cL_law 490 = .ok (.aload_n 0, 1) := by decide +kernel
theorem dL_law_491 : decode cL_law 491 = .ok (.iload 4, 2) := by decide +kernel
theorem dL_law_493 : decode cL_law 493 = .ok (.iconst 1, 1) := by decide +kernel
theorem dL_law_494 : decode cL_law 494 = .ok (.iadd, 1) := by decide +kernel
theorem dL_law_495 : decode cL_law 495 = .ok (.iaload, 1) := by decide +kernel
theorem dL_law_496 : decode cL_law 496 = .ok (.aload_n 0, 1) := by decide +kernel
theorem dL_law_497 : decode cL_law 497 = .ok (.iload 4, 2) := by decide +kernel
theorem dL_law_499 : decode cL_law 499 = .ok (.iconst 2, 1) := by decide +kernel
theorem dL_law_500 : decode cL_law 500 = .ok (.iadd, 1) := by decide +kernel
theorem dL_law_501 : decode cL_law 501 = .ok (.iaload, 1) := by decide +kernel
theorem dL_law_502 : decode cL_law 502 = .ok (.invokevirtual 59, 3) := by decide +kernel
theorem dL_law_505 : decode cL_law 505 = .ok (.aload_n 2, 1) := by decide +kernel
theorem dL_law_506 : decode cL_law 506 = .ok (.aload_n 0, 1) := by decide +kernel
theorem dL_law_507 : decode cL_law 507 = .ok (.iload 4, 2) := by decide +kernel
theorem dL_law_509 : decode cL_law 509 = .ok (.iconst 1, 1) := by decide +kernel
theorem dL_law_510 : decode cL_law 510 = .ok (.iadd, 1) := by decide +kernel
theorem dL_law_511 : decode cL_law 511 = .ok (.iaload, 1) := by decide +kernel
theorem dL_law_512 : decode cL_law 512 = .ok (.aload_n 0, 1) := by decide +kernel
theorem dL_law_513 : decode cL_law 513 = .ok (.iload 4, 2) := by decide +kernel
theorem dL_law_515 : decode cL_law 515 = .ok (.iconst 2, 1) := by decide +kernel
theorem dL_law_516 : decode cL_law 516 = .ok (.iadd, 1) := by decide +kernel
theorem dL_law_517 : decode cL_law 517 = .ok (.iaload, 1) := by decide +kernel
theorem dL_law_518 : decode cL_law 518 = .ok (.invokevirtual 63, 3) := by decide +kernel
theorem dL_law_521 : decode cL_law 521 = .ok (.if_icmp .eq 1270, 3) := by decide +kernel
theorem dL_law_524 : decode cL_law 524 = .ok (.iconst 0, 1) := by decide +kernel
theorem dL_law_525 : decode cL_law 525 = .ok (.ireturn, 1) := by decide +kernel
theorem dL_law_526 : decode cL_law 526 = .ok (.aload_n 1, 1) := by decide +kernel
theorem dL_law_527 : decode cL_law 527 = .ok (.aload_n 0, 1) := by decide +kernel
theorem dL_law_528 : decode cL_law 528 = .ok (.iload 4, 2) := by decide +kernel
theorem dL_law_530 : decode cL_law 530 = .ok (.iconst 1, 1) := by decide +kernel
theorem dL_law_531 : decode cL_law 531 = .ok (.iadd, 1) := by decide +kernel
theorem dL_law_532 : decode cL_law 532 = .ok (.iaload, 1) := by decide +kernel
theorem dL_law_533 : decode cL_law 533 = .ok (.invokevirtual 64, 3) := by decide +kernel
theorem dL_law_536 : decode cL_law 536 = .ok (.aload_n 2, 1) := by decide +kernel
theorem dL_law_537 : decode cL_law 537 = .ok (.aload_n 0, 1) := by decide +kernel
theorem dL_law_538 : decode cL_law 538 = .ok (.iload 4, 2) := by decide +kernel
theorem dL_law_540 : decode cL_law 540 = .ok (.iconst 1, 1) := by decide +kernel
theorem dL_law_541 : decode cL_law 541 = .ok (.iadd, 1) := by decide +kernel
theorem dL_law_542 : decode cL_law 542 = .ok (.iaload, 1) := by decide +kernel
theorem dL_law_543 : decode cL_law 543 = .ok (.invokevirtual 67, 3) := by decide +kernel
theorem dL_law_546 : decode cL_law 546 = .ok (.if_icmp .eq 1245, 3) := by decide +kernel
theorem dL_law_549 : decode cL_law 549 = .ok (.iconst 0, 1) := by decide +kernel
theorem dL_law_550 : decode cL_law 550 = .ok (.ireturn, 1) := by decide +kernel
theorem dL_law_551 : decode cL_law 551 = .ok (.aload_n 1, 1) := by decide +kernel
theorem dL_law_552 : decode cL_law 552 = .ok (.aload_n 0, 1) := by decide +kernel
theorem dL_law_553 : decode cL_law 553 = .ok (.iload 4, 2) := by decide +kernel
theorem dL_law_555 : decode cL_law 555 = .ok (.iconst 1, 1) := by decide +kernel
theorem dL_law_556 : decode cL_law 556 = .ok (.iadd, 1) := by decide +kernel
theorem dL_law_557 : decode cL_law 557 = .ok (.iaload, 1) := by decide +kernel
theorem dL_law_558 : decode cL_law 558 = .ok (.invokevirtual 68, 3) := by decide +kernel
theorem dL_law_561 : decode cL_law 561 = .ok (.aload_n 2, 1) := by decide +kernel
theorem dL_law_562 : decode cL_law 562 = .ok (.aload_n 0, 1) := by decide +kernel
theorem dL_law_563 : decode cL_law 563 = .ok (.iload 4, 2) := by decide +kernel
theorem dL_law_565 : decode cL_law 565 = .ok (.iconst 1, 1) := by decide +kernel
theorem dL_law_566 : decode cL_law 566 = .ok (.iadd, 1) := by decide +kernel
theorem dL_law_567 : decode cL_law 567 = .ok (.iaload, 1) := by decide +kernel
theorem dL_law_568 : decode cL_law 568 = .ok (.invokevirtual 71, 3) := by decide +kernel
theorem dL_law_571 : decode cL_law 571 = .ok (.if_icmp .eq 1220, 3) := by decide +kernel
theorem dL_law_574 : decode cL_law 574 = .ok (.iconst 0, 1) := by decide +kernel
theorem dL_law_575 : decode cL_law 575 = .ok (.ireturn, 1) := by decide +kernel
theorem dL_law_576 : decode cL_law 576 = .ok (.aload_n 1, 1) := by decide +kernel
theorem dL_law_577 : decode cL_law 577 = .ok (.invokevirtual 72, 3) := by decide +kernel
theorem dL_law_580 : decode cL_law 580 = .ok (.aload_n 2, 1) := by decide +kernel
theorem dL_law_581 : decode cL_law 581 = .ok (.invokevirtual 75, 3) := by decide +kernel
theorem dL_law_584 : decode cL_law 584 = .ok (.if_icmp .eq 1207, 3) := by decide +kernel
theorem dL_law_587 : decode cL_law 587 = .ok (.iconst 0, 1) := by decide +kernel
theorem dL_law_588 : decode cL_law 588 = .ok (.ireturn, 1) := by decide +kernel
theorem dL_law_589 : decode cL_law 589 = .ok (.aload_n 1, 1) := by decide +kernel
theorem dL_law_590 : decode cL_law 590 = .ok (.aload_n 0, 1) := by decide +kernel
theorem dL_law_591 : decode cL_law 591 = .ok (.iload 4, 2) := by decide +kernel
theorem dL_law_593 : decode cL_law 593 = .ok (.iconst 1, 1) := by decide +kernel
theorem dL_law_594 : decode cL_law 594 = .ok (.iadd, 1) := by decide +kernel
theorem dL_law_595 : decode cL_law 595 = .ok (.iaload, 1) := by decide +kernel
theorem dL_law_596 : decode cL_law 596 = .ok (.invokevirtual 76, 3) := by decide +kernel
theorem dL_law_599 : decode cL_law 599 = .ok (.aload_n 2, 1) := by decide +kernel
theorem dL_law_600 : decode cL_law 600 = .ok (.aload_n 0, 1) := by decide +kernel
theorem dL_law_601 : decode cL_law 601 = .ok (.iload 4, 2) := by decide +kernel
theorem dL_law_603 : decode cL_law 603 = .ok (.iconst 1, 1) := by decide +kernel
theorem dL_law_604 : decode cL_law 604 = .ok (.iadd, 1) := by decide +kernel
theorem dL_law_605 : decode cL_law 605 = .ok (.iaload, 1) := by decide +kernel
theorem dL_law_606 : decode cL_law 606 = .ok (.invokevirtual 79, 3) := by decide +kernel
theorem dL_law_609 : decode cL_law 609 = .ok (.if_icmp .eq 1182, 3) := by decide +kernel
theorem dL_law_612 : decode cL_law 612 = .ok (.iconst 0, 1) := by decide +kernel
theorem dL_law_613 : decode cL_law 613 = .ok (.ireturn, 1) := by decide +kernel
theorem dL_law_614 : decode cL_law 614 = .ok (.aload_n 1, 1) := by decide +kernel
theorem dL_law_615 : decode cL_law 615 = .ok (.aload_n 0, 1) := by decide +kernel
theorem dL_law_616 : decode cL_law 616 = .ok (.iload 4, 2) := by decide +kernel
theorem dL_law_618 : decode cL_law 618 = .ok (.iconst 1, 1) := by decide +kernel
theorem dL_law_619 : decode cL_law 619 = .ok (.iadd, 1) := by decide +kernel
theorem dL_law_620 : decode cL_law 620 = .ok (.iaload, 1) := by decide +kernel
theorem dL_law_621 : decode cL_law 621 = .ok (.invokevirtual 80, 3) := by decide +kernel
theorem dL_law_624 : decode cL_law 624 = .ok (.aload_n 2, 1) := by decide +kernel
theorem dL_law_625 : decode cL_law 625 = .ok (.aload_n 0, 1) := by decide +kernel
theorem dL_law_626 : decode cL_law 626 = .ok (.iload 4, 2) := by decide +kernel
theorem dL_law_628 : decode cL_law 628 = .ok (.iconst 1, 1) := by decide +kernel
theorem dL_law_629 : decode cL_law 629 = .ok (.iadd, 1) := by decide +kernel
theorem dL_law_630 : decode cL_law 630 = .ok (.iaload, 1) := by decide +kernel
theorem dL_law_631 : decode cL_law 631 = .ok (.invokevirtual 84, 3) := by decide +kernel
theorem dL_law_634 : decode cL_law 634 = .ok (.lcmp, 1) := by decide +kernel
theorem dL_law_635 : decode cL_law 635 = .ok (.ifCond .eq 1156, 3) := by decide +kernel
theorem dL_law_638 : decode cL_law 638 = .ok (.iconst 0, 1) := by decide +kernel
theorem dL_law_639 : decode cL_law 639 = .ok (.ireturn, 1) := by decide +kernel
theorem dL_law_640 : decode cL_law 640 = .ok (.aload_n 1, 1) := by decide +kernel
theorem dL_law_641 : decode cL_law 641 = .ok (.invokevirtual 85, 3) := by decide +kernel
theorem dL_law_644 : decode cL_law 644 = .ok (.aload_n 2, 1) := by decide +kernel
theorem dL_law_645 : decode cL_law 645 = .ok (.invokevirtual 89, 3) := by decide +kernel
theorem dL_law_648 : decode cL_law 648 = .ok (.lcmp, 1) := by decide +kernel
theorem dL_law_649 : decode cL_law 649 = .ok (.ifCond .eq 1142, 3) := by decide +kernel
theorem dL_law_652 : decode cL_law 652 = .ok (.iconst 0, 1) := by decide +kernel
theorem dL_law_653 : decode cL_law 653 = .ok (.ireturn, 1) := by decide +kernel
theorem dL_law_654 : decode cL_law 654 = .ok (.aload_n 1, 1) := by decide +kernel
theorem dL_law_655 : decode cL_law 655 = .ok (.aload_n 0, 1) := by decide +kernel
theorem dL_law_656 : decode cL_law 656 = .ok (.iload 4, 2) := by decide +kernel
theorem dL_law_658 : decode cL_law 658 = .ok (.iconst 1, 1) := by decide +kernel
theorem dL_law_659 : decode cL_law 659 = .ok (.iadd, 1) := by decide +kernel
theorem dL_law_660 : decode cL_law 660 = .ok (.iaload, 1) := by decide +kernel
theorem dL_law_661 : decode cL_law 661 = .ok (.aload_n 0, 1) := by decide +kernel
theorem dL_law_662 : decode cL_law 662 = .ok (.iload 4, 2) := by decide +kernel
theorem dL_law_664 : decode cL_law 664 = .ok (.iconst 2, 1) := by decide +kernel
theorem dL_law_665 : decode cL_law 665 = .ok (.iadd, 1) := by decide +kernel
theorem dL_law_666 : decode cL_law 666 = .ok (.iaload, 1) := by decide +kernel
theorem dL_law_667 : decode cL_law 667 = .ok (.aload_n 0, 1) := by decide +kernel
theorem dL_law_668 : decode cL_law 668 = .ok (.iload 4, 2) := by decide +kernel
theorem dL_law_670 : decode cL_law 670 = .ok (.iconst 3, 1) := by decide +kernel
theorem dL_law_671 : decode cL_law 671 = .ok (.iadd, 1) := by decide +kernel
theorem dL_law_672 : decode cL_law 672 = .ok (.iaload, 1) := by decide +kernel
theorem dL_law_673 : decode cL_law 673 = .ok (.invokevirtual 90, 3) := by decide +kernel
theorem dL_law_676 : decode cL_law 676 = .ok (.aload_n 2, 1) := by decide +kernel
theorem dL_law_677 : decode cL_law 677 = .ok (.aload_n 0, 1) := by decide +kernel
theorem dL_law_678 : decode cL_law 678 = .ok (.iload 4, 2) := by decide +kernel
theorem dL_law_680 : decode cL_law 680 = .ok (.iconst 1, 1) := by decide +kernel
theorem dL_law_681 : decode cL_law 681 = .ok (.iadd, 1) := by decide +kernel
theorem dL_law_682 : decode cL_law 682 = .ok (.iaload, 1) := by decide +kernel
theorem dL_law_683 : decode cL_law 683 = .ok (.aload_n 0, 1) := by decide +kernel
theorem dL_law_684 : decode cL_law 684 = .ok (.iload 4, 2) := by decide +kernel
theorem dL_law_686 : decode cL_law 686 = .ok (.iconst 2, 1) := by decide +kernel
theorem dL_law_687 : decode cL_law 687 = .ok (.iadd, 1) := by decide +kernel
theorem dL_law_688 : decode cL_law 688 = .ok (.iaload, 1) := by decide +kernel
theorem dL_law_689 : decode cL_law 689 = .ok (.aload_n 0, 1) := by decide +kernel
theorem dL_law_690 : decode cL_law 690 = .ok (.iload 4, 2) := by decide +kernel
theorem dL_law_692 : decode cL_law 692 = .ok (.iconst 3, 1) := by decide +kernel
theorem dL_law_693 : decode cL_law 693 = .ok (.iadd, 1) := by decide +kernel
theorem dL_law_694 : decode cL_law 694 = .ok (.iaload, 1) := by decide +kernel
theorem dL_law_695 : decode cL_law 695 = .ok (.invokevirtual 94, 3) := by decide +kernel
theorem dL_law_698 : decode cL_law 698 = .ok (.lcmp, 1) := by decide +kernel
theorem dL_law_699 : decode cL_law 699 = .ok (.ifCond .eq 1092, 3) := by decide +kernel
theorem dL_law_702 : decode cL_law 702 = .ok (.iconst 0, 1) := by decide +kernel
theorem dL_law_703 : decode cL_law 703 = .ok (.ireturn, 1) := by decide +kernel
theorem dL_law_704 : decode cL_law 704 = .ok (.aload_n 1, 1) := by decide +kernel
theorem dL_law_705 : decode cL_law 705 = .ok (.aload_n 0, 1) := by decide +kernel
theorem dL_law_706 : decode cL_law 706 = .ok (.iload 4, 2) := by decide +kernel
theorem dL_law_708 : decode cL_law 708 = .ok (.iconst 1, 1) := by decide +kernel
theorem dL_law_709 : decode cL_law 709 = .ok (.iadd, 1) := by decide +kernel
theorem dL_law_710 : decode cL_law 710 = .ok (.iaload, 1) := by decide +kernel
theorem dL_law_711 : decode cL_law 711 = .ok (.aload_n 0, 1) := by decide +kernel
theorem dL_law_712 : decode cL_law 712 = .ok (.iload 4, 2) := by decide +kernel
theorem dL_law_714 : decode cL_law 714 = .ok (.iconst 2, 1) := by decide +kernel
theorem dL_law_715 : decode cL_law 715 = .ok (.iadd, 1) := by decide +kernel
theorem dL_law_716 : decode cL_law 716 = .ok (.iaload, 1) := by decide +kernel
theorem dL_law_717 : decode cL_law 717 = .ok (.aload_n 0, 1) := by decide +kernel
theorem dL_law_718 : decode cL_law 718 = .ok (.iload 4, 2) := by decide +kernel
theorem dL_law_720 : decode cL_law 720 = .ok (.iconst 3, 1) := by decide +kernel
theorem dL_law_721 : decode cL_law 721 = .ok (.iadd, 1) := by decide +kernel
theorem dL_law_722 : decode cL_law 722 = .ok (.iaload, 1) := by decide +kernel
theorem dL_law_723 : decode cL_law 723 = .ok (.aload_n 0, 1) := by decide +kernel
theorem dL_law_724 : decode cL_law 724 = .ok (.iload 4, 2) := by decide +kernel
theorem dL_law_726 : decode cL_law 726 = .ok (.iconst 4, 1) := by decide +kernel
theorem dL_law_727 : decode cL_law 727 = .ok (.iadd, 1) := by decide +kernel
theorem dL_law_728 : decode cL_law 728 = .ok (.iaload, 1) := by decide +kernel
theorem dL_law_729 : decode cL_law 729 = .ok (.ifCond .eq 7, 3) := by decide +kernel
theorem dL_law_732 : decode cL_law 732 = .ok (.iconst 1, 1) := by decide +kernel
theorem dL_law_733 : decode cL_law 733 = .ok (.goto 4, 3) := by decide +kernel
theorem dL_law_736 : decode cL_law 736 = .ok (.iconst 0, 1) := by decide +kernel
theorem dL_law_737 : decode cL_law 737 = .ok (.invokevirtual 95, 3) := by decide +kernel
theorem dL_law_740 : decode cL_law 740 = .ok (.aload_n 2, 1) := by decide +kernel
theorem dL_law_741 : decode cL_law 741 = .ok (.aload_n 0, 1) := by decide +kernel
theorem dL_law_742 : decode cL_law 742 = .ok (.iload 4, 2) := by decide +kernel
theorem dL_law_744 : decode cL_law 744 = .ok (.iconst 1, 1) := by decide +kernel
theorem dL_law_745 : decode cL_law 745 = .ok (.iadd, 1) := by decide +kernel
theorem dL_law_746 : decode cL_law 746 = .ok (.iaload, 1) := by decide +kernel
theorem dL_law_747 : decode cL_law 747 = .ok (.aload_n 0, 1) := by decide +kernel
theorem dL_law_748 : decode cL_law 748 = .ok (.iload 4, 2) := by decide +kernel
theorem dL_law_750 : decode cL_law 750 = .ok (.iconst 2, 1) := by decide +kernel
theorem dL_law_751 : decode cL_law 751 = .ok (.iadd, 1) := by decide +kernel
theorem dL_law_752 : decode cL_law 752 = .ok (.iaload, 1) := by decide +kernel
theorem dL_law_753 : decode cL_law 753 = .ok (.aload_n 0, 1) := by decide +kernel
theorem dL_law_754 : decode cL_law 754 = .ok (.iload 4, 2) := by decide +kernel
theorem dL_law_756 : decode cL_law 756 = .ok (.iconst 3, 1) := by decide +kernel
theorem dL_law_757 : decode cL_law 757 = .ok (.iadd, 1) := by decide +kernel
theorem dL_law_758 : decode cL_law 758 = .ok (.iaload, 1) := by decide +kernel
theorem dL_law_759 : decode cL_law 759 = .ok (.aload_n 0, 1) := by decide +kernel
theorem dL_law_760 : decode cL_law 760 = .ok (.iload 4, 2) := by decide +kernel
theorem dL_law_762 : decode cL_law 762 = .ok (.iconst 4, 1) := by decide +kernel
theorem dL_law_763 : decode cL_law 763 = .ok (.iadd, 1) := by decide +kernel
theorem dL_law_764 : decode cL_law 764 = .ok (.iaload, 1) := by decide +kernel
theorem dL_law_765 : decode cL_law 765 = .ok (.ifCond .eq 7, 3) := by decide +kernel
theorem dL_law_768 : decode cL_law 768 = .ok (.iconst 1, 1) := by decide +kernel
theorem dL_law_769 : decode cL_law 769 = .ok (.goto 4, 3) := by decide +kernel
theorem dL_law_772 : decode cL_law 772 = .ok (.iconst 0, 1) := by decide +kernel
theorem dL_law_773 : decode cL_law 773 = .ok (.invokevirtual 99, 3) := by decide +kernel
theorem dL_law_776 : decode cL_law 776 = .ok (.lcmp, 1) := by decide +kernel
theorem dL_law_777 : decode cL_law 777 = .ok (.ifCond .eq 1014, 3) := by decide +kernel
theorem dL_law_780 : decode cL_law 780 = .ok (.iconst 0, 1) := by decide +kernel
theorem dL_law_781 : decode cL_law 781 = .ok (.ireturn, 1) := by decide +kernel
theorem dL_law_782 : decode cL_law 782 = .ok (.aload_n 1, 1) := by decide +kernel
theorem dL_law_783 : decode cL_law 783 = .ok (.aload_n 0, 1) := by decide +kernel
theorem dL_law_784 : decode cL_law 784 = .ok (.iload 4, 2) := by decide +kernel
theorem dL_law_786 : decode cL_law 786 = .ok (.iconst 1, 1) := by decide +kernel
theorem dL_law_787 : decode cL_law 787 = .ok (.iadd, 1) := by decide +kernel
theorem dL_law_788 : decode cL_law 788 = .ok (.iaload, 1) := by decide +kernel
theorem dL_law_789 : decode cL_law 789 = .ok (.aload_n 0, 1) := by decide +kernel
theorem dL_law_790 : decode cL_law 790 = .ok (.iload 4, 2) := by decide +kernel
theorem dL_law_792 : decode cL_law 792 = .ok (.iconst 2, 1) := by decide +kernel
theorem dL_law_793 : decode cL_law 793 = .ok (.iadd, 1) := by decide +kernel
theorem dL_law_794 : decode cL_law 794 = .ok (.iaload, 1) := by decide +kernel
theorem dL_law_795 : decode cL_law 795 = .ok (.aload_n 0, 1) := by decide +kernel
theorem dL_law_796 : decode cL_law 796 = .ok (.iload 4, 2) := by decide +kernel
theorem dL_law_798 : decode cL_law 798 = .ok (.iconst 3, 1) := by decide +kernel
theorem dL_law_799 : decode cL_law 799 = .ok (.iadd, 1) := by decide +kernel
theorem dL_law_800 : decode cL_law 800 = .ok (.iaload, 1) := by decide +kernel
theorem dL_law_801 : decode cL_law 801 = .ok (.ifCond .eq 7, 3) := by decide +kernel
theorem dL_law_804 : decode cL_law 804 = .ok (.iconst 1, 1) := by decide +kernel
theorem dL_law_805 : decode cL_law 805 = .ok (.goto 4, 3) := by decide +kernel
theorem dL_law_808 : decode cL_law 808 = .ok (.iconst 0, 1) := by decide +kernel
theorem dL_law_809 : decode cL_law 809 = .ok (.invokevirtual 100, 3) := by decide +kernel
theorem dL_law_812 : decode cL_law 812 = .ok (.aload_n 2, 1) := by decide +kernel
theorem dL_law_813 : decode cL_law 813 = .ok (.aload_n 0, 1) := by decide +kernel
theorem dL_law_814 : decode cL_law 814 = .ok (.iload 4, 2) := by decide +kernel
theorem dL_law_816 : decode cL_law 816 = .ok (.iconst 1, 1) := by decide +kernel
theorem dL_law_817 : decode cL_law 817 = .ok (.iadd, 1) := by decide +kernel
theorem dL_law_818 : decode cL_law 818 = .ok (.iaload, 1) := by decide +kernel
theorem dL_law_819 : decode cL_law 819 = .ok (.aload_n 0, 1) := by decide +kernel
theorem dL_law_820 : decode cL_law 820 = .ok (.iload 4, 2) := by decide +kernel
theorem dL_law_822 : decode cL_law 822 = .ok (.iconst 2, 1) := by decide +kernel
theorem dL_law_823 : decode cL_law 823 = .ok (.iadd, 1) := by decide +kernel
theorem dL_law_824 : decode cL_law 824 = .ok (.iaload, 1) := by decide +kernel
theorem dL_law_825 : decode cL_law 825 = .ok (.aload_n 0, 1) := by decide +kernel
theorem dL_law_826 : decode cL_law 826 = .ok (.iload 4, 2) := by decide +kernel
theorem dL_law_828 : decode cL_law 828 = .ok (.iconst 3, 1) := by decide +kernel
theorem dL_law_829 : decode cL_law 829 = .ok (.iadd, 1) := by decide +kernel
theorem dL_law_830 : decode cL_law 830 = .ok (.iaload, 1) := by decide +kernel
theorem dL_law_831 : decode cL_law 831 = .ok (.ifCond .eq 7, 3) := by decide +kernel
theorem dL_law_834 : decode cL_law 834 = .ok (.iconst 1, 1) := by decide +kernel
theorem dL_law_835 : decode cL_law 835 = .ok (.goto 4, 3) := by decide +kernel
theorem dL_law_838 : decode cL_law 838 = .ok (.iconst 0, 1) := by decide +kernel
theorem dL_law_839 : decode cL_law 839 = .ok (.invokevirtual 104, 3) := by decide +kernel
theorem dL_law_842 : decode cL_law 842 = .ok (.if_icmp .eq 949, 3) := by decide +kernel
theorem dL_law_845 : decode cL_law 845 = .ok (.iconst 0, 1) := by decide +kernel
theorem dL_law_846 : decode cL_law 846 = .ok (.ireturn, 1) := by decide +kernel
theorem dL_law_847 : decode cL_law 847 = .ok (.aload_n 1, 1) := by decide +kernel
theorem dL_law_848 : decode cL_law 848 = .ok (.aload_n 0, 1) := by decide +kernel
theorem dL_law_849 : decode cL_law 849 = .ok (.iload 4, 2) := by decide +kernel
theorem dL_law_851 : decode cL_law 851 = .ok (.iconst 1, 1) := by decide +kernel
theorem dL_law_852 : decode cL_law 852 = .ok (.iadd, 1) := by decide +kernel
theorem dL_law_853 : decode cL_law 853 = .ok (.iaload, 1) := by decide +kernel
theorem dL_law_854 : decode cL_law 854 = .ok (.aload_n 0, 1) := by decide +kernel
theorem dL_law_855 : decode cL_law 855 = .ok (.iload 4, 2) := by decide +kernel
theorem dL_law_857 : decode cL_law 857 = .ok (.iconst 2, 1) := by decide +kernel
theorem dL_law_858 : decode cL_law 858 = .ok (.iadd, 1) := by decide +kernel
theorem dL_law_859 : decode cL_law 859 = .ok (.iaload, 1) := by decide +kernel
theorem dL_law_860 : decode cL_law 860 = .ok (.invokevirtual 105, 3) := by decide +kernel
theorem dL_law_863 : decode cL_law 863 = .ok (.aload_n 2, 1) := by decide +kernel
theorem dL_law_864 : decode cL_law 864 = .ok (.aload_n 0, 1) := by decide +kernel
theorem dL_law_865 : decode cL_law 865 = .ok (.iload 4, 2) := by decide +kernel
theorem dL_law_867 : decode cL_law 867 = .ok (.iconst 1, 1) := by decide +kernel
theorem dL_law_868 : decode cL_law 868 = .ok (.iadd, 1) := by decide +kernel
theorem dL_law_869 : decode cL_law 869 = .ok (.iaload, 1) := by decide +kernel
theorem dL_law_870 : decode cL_law 870 = .ok (.aload_n 0, 1) := by decide +kernel
theorem dL_law_871 : decode cL_law 871 = .ok (.iload 4, 2) := by decide +kernel
theorem dL_law_873 : decode cL_law 873 = .ok (.iconst 2, 1) := by decide +kernel
theorem dL_law_874 : decode cL_law 874 = .ok (.iadd, 1) := by decide +kernel
theorem dL_law_875 : decode cL_law 875 = .ok (.iaload, 1) := by decide +kernel
theorem dL_law_876 : decode cL_law 876 = .ok (.invokevirtual 109, 3) := by decide +kernel
theorem dL_law_879 : decode cL_law 879 = .ok (.lcmp, 1) := by decide +kernel
theorem dL_law_880 : decode cL_law 880 = .ok (.ifCond .eq 911, 3) := by decide +kernel
theorem dL_law_883 : decode cL_law 883 = .ok (.iconst 0, 1) := by decide +kernel
theorem dL_law_884 : decode cL_law 884 = .ok (.ireturn, 1) := by decide +kernel
theorem dL_law_885 : decode cL_law 885 = .ok (.aload_n 1, 1) := by decide +kernel
theorem dL_law_886 : decode cL_law 886 = .ok (.aload_n 0, 1) := by decide +kernel
theorem dL_law_887 : decode cL_law 887 = .ok (.iload 4, 2) := by decide +kernel
theorem dL_law_889 : decode cL_law 889 = .ok (.iconst 1, 1) := by decide +kernel
theorem dL_law_890 : decode cL_law 890 = .ok (.iadd, 1) := by decide +kernel
theorem dL_law_891 : decode cL_law 891 = .ok (.iaload, 1) := by decide +kernel
theorem dL_law_892 : decode cL_law 892 = .ok (.aload_n 0, 1) := by decide +kernel
theorem dL_law_893 : decode cL_law 893 = .ok (.iload 4, 2) := by decide +kernel
theorem dL_law_895 : decode cL_law 895 = .ok (.iconst 2, 1) := by decide +kernel
theorem dL_law_896 : decode cL_law 896 = .ok (.iadd, 1) := by decide +kernel
theorem dL_law_897 : decode cL_law 897 = .ok (.iaload, 1) := by decide +kernel
theorem dL_law_898 : decode cL_law 898 = .ok (.invokevirtual 110, 3) := by decide +kernel
theorem dL_law_901 : decode cL_law 901 = .ok (.aload_n 2, 1) := by decide +kernel
theorem dL_law_902 : decode cL_law 902 = .ok (.aload_n 0, 1) := by decide +kernel
theorem dL_law_903 : decode cL_law 903 = .ok (.iload 4, 2) := by decide +kernel
theorem dL_law_905 : decode cL_law 905 = .ok (.iconst 1, 1) := by decide +kernel
theorem dL_law_906 : decode cL_law 906 = .ok (.iadd, 1) := by decide +kernel
theorem dL_law_907 : decode cL_law 907 = .ok (.iaload, 1) := by decide +kernel
theorem dL_law_908 : decode cL_law 908 = .ok (.aload_n 0, 1) := by decide +kernel
theorem dL_law_909 : decode cL_law 909 = .ok (.iload 4, 2) := by decide +kernel
theorem dL_law_911 : decode cL_law 911 = .ok (.iconst 2, 1) := by decide +kernel
theorem dL_law_912 : decode cL_law 912 = .ok (.iadd, 1) := by decide +kernel
theorem dL_law_913 : decode cL_law 913 = .ok (.iaload, 1) := by decide +kernel
theorem dL_law_914 : decode cL_law 914 = .ok (.invokevirtual 113, 3) := by decide +kernel
theorem dL_law_917 : decode cL_law 917 = .ok (.if_icmp .eq 874, 3) := by decide +kernel
theorem dL_law_920 : decode cL_law 920 = .ok (.iconst 0, 1) := by decide +kernel
theorem dL_law_921 : decode cL_law 921 = .ok (.ireturn, 1) := by decide +kernel
theorem dL_law_922 : decode cL_law 922 = .ok (.aload_n 1, 1) := by decide +kernel
theorem dL_law_923 : decode cL_law 923 = .ok (.aload_n 0, 1) := by decide +kernel
theorem dL_law_924 : decode cL_law 924 = .ok (.iload 4, 2) := by decide +kernel
theorem dL_law_926 : decode cL_law 926 = .ok (.iconst 1, 1) := by decide +kernel
theorem dL_law_927 : decode cL_law 927 = .ok (.iadd, 1) := by decide +kernel
theorem dL_law_928 : decode cL_law 928 = .ok (.iaload, 1) := by decide +kernel
theorem dL_law_929 : decode cL_law 929 = .ok (.aload_n 0, 1) := by decide +kernel
theorem dL_law_930 : decode cL_law 930 = .ok (.iload 4, 2) := by decide +kernel
theorem dL_law_932 : decode cL_law 932 = .ok (.iconst 2, 1) := by decide +kernel
theorem dL_law_933 : decode cL_law 933 = .ok (.iadd, 1) := by decide +kernel
theorem dL_law_934 : decode cL_law 934 = .ok (.iaload, 1) := by decide +kernel
theorem dL_law_935 : decode cL_law 935 = .ok (.aload_n 0, 1) := by decide +kernel
theorem dL_law_936 : decode cL_law 936 = .ok (.iload 4, 2) := by decide +kernel
theorem dL_law_938 : decode cL_law 938 = .ok (.iconst 3, 1) := by decide +kernel
theorem dL_law_939 : decode cL_law 939 = .ok (.iadd, 1) := by decide +kernel
theorem dL_law_940 : decode cL_law 940 = .ok (.iaload, 1) := by decide +kernel
theorem dL_law_941 : decode cL_law 941 = .ok (.invokevirtual 114, 3) := by decide +kernel
theorem dL_law_944 : decode cL_law 944 = .ok (.aload_n 2, 1) := by decide +kernel
theorem dL_law_945 : decode cL_law 945 = .ok (.aload_n 0, 1) := by decide +kernel
theorem dL_law_946 : decode cL_law 946 = .ok (.iload 4, 2) := by decide +kernel
theorem dL_law_948 : decode cL_law 948 = .ok (.iconst 1, 1) := by decide +kernel
theorem dL_law_949 : decode cL_law 949 = .ok (.iadd, 1) := by decide +kernel
theorem dL_law_950 : decode cL_law 950 = .ok (.iaload, 1) := by decide +kernel
theorem dL_law_951 : decode cL_law 951 = .ok (.aload_n 0, 1) := by decide +kernel
theorem dL_law_952 : decode cL_law 952 = .ok (.iload 4, 2) := by decide +kernel
theorem dL_law_954 : decode cL_law 954 = .ok (.iconst 2, 1) := by decide +kernel
theorem dL_law_955 : decode cL_law 955 = .ok (.iadd, 1) := by decide +kernel
theorem dL_law_956 : decode cL_law 956 = .ok (.iaload, 1) := by decide +kernel
theorem dL_law_957 : decode cL_law 957 = .ok (.aload_n 0, 1) := by decide +kernel
theorem dL_law_958 : decode cL_law 958 = .ok (.iload 4, 2) := by decide +kernel
theorem dL_law_960 : decode cL_law 960 = .ok (.iconst 3, 1) := by decide +kernel
theorem dL_law_961 : decode cL_law 961 = .ok (.iadd, 1) := by decide +kernel
theorem dL_law_962 : decode cL_law 962 = .ok (.iaload, 1) := by decide +kernel
theorem dL_law_963 : decode cL_law 963 = .ok (.invokevirtual 118, 3) := by decide +kernel
theorem dL_law_966 : decode cL_law 966 = .ok (.if_icmp .eq 825, 3) := by decide +kernel
theorem dL_law_969 : decode cL_law 969 = .ok (.iconst 0, 1) := by decide +kernel
theorem dL_law_970 : decode cL_law 970 = .ok (.ireturn, 1) := by decide +kernel
theorem dL_law_971 : decode cL_law 971 = .ok (.aload_n 1, 1) := by decide +kernel
theorem dL_law_972 : decode cL_law 972 = .ok (.invokevirtual 119, 3) := by decide +kernel
theorem dL_law_975 : decode cL_law 975 = .ok (.aload_n 2, 1) := by decide +kernel
theorem dL_law_976 : decode cL_law 976 = .ok (.invokevirtual 122, 3) := by decide +kernel
theorem dL_law_979 : decode cL_law 979 = .ok (.if_icmp .eq 812, 3) := by decide +kernel
theorem dL_law_982 : decode cL_law 982 = .ok (.iconst 0, 1) := by decide +kernel
theorem dL_law_983 : decode cL_law 983 = .ok (.ireturn, 1) := by decide +kernel
theorem dL_law_984 : decode cL_law 984 = .ok (.aload_n 1, 1) := by decide +kernel
theorem dL_law_985 : decode cL_law 985 = .ok (.aload_n 0, 1) := by decide +kernel
theorem dL_law_986 : decode cL_law 986 = .ok (.iload 4, 2) := by decide +kernel
theorem dL_law_988 : decode cL_law 988 = .ok (.iconst 1, 1) := by decide +kernel
theorem dL_law_989 : decode cL_law 989 = .ok (.iadd, 1) := by decide +kernel
theorem dL_law_990 : decode cL_law 990 = .ok (.iaload, 1) := by decide +kernel
theorem dL_law_991 : decode cL_law 991 = .ok (.invokevirtual 123, 3) := by decide +kernel
theorem dL_law_994 : decode cL_law 994 = .ok (.aload_n 2, 1) := by decide +kernel
theorem dL_law_995 : decode cL_law 995 = .ok (.aload_n 0, 1) := by decide +kernel
theorem dL_law_996 : decode cL_law 996 = .ok (.iload 4, 2) := by decide +kernel
theorem dL_law_998 : decode cL_law 998 = .ok (.iconst 1, 1) := by decide +kernel
theorem dL_law_999 : decode cL_law 999 = .ok (.iadd, 1) := by decide +kernel
theorem dL_law_1000 : decode cL_law 1000 = .ok (.iaload, 1) := by decide +kernel
theorem dL_law_1001 : decode cL_law 1001 = .ok (.invokevirtual 126, 3) := by decide +kernel
theorem dL_law_1004 : decode cL_law 1004 = .ok (.lcmp, 1) := by decide +kernel
theorem dL_law_1005 : decode cL_law 1005 = .ok (.ifCond .eq 786, 3) := by decide +kernel
theorem dL_law_1008 : decode cL_law 1008 = .ok (.iconst 0, 1) := by decide +kernel
theorem dL_law_1009 : decode cL_law 1009 = .ok (.ireturn, 1) := by decide +kernel
theorem dL_law_1010 : decode cL_law 1010 = .ok (.aload_n 1, 1) := by decide +kernel
theorem dL_law_1011 : decode cL_law 1011 = .ok (.aload_n 0, 1) := by decide +kernel
theorem dL_law_1012 : decode cL_law 1012 = .ok (.iload 4, 2) := by decide +kernel
theorem dL_law_1014 : decode cL_law 1014 = .ok (.iconst 1, 1) := by decide +kernel
theorem dL_law_1015 : decode cL_law 1015 = .ok (.iadd, 1) := by decide +kernel
theorem dL_law_1016 : decode cL_law 1016 = .ok (.iaload, 1) := by decide +kernel
theorem dL_law_1017 : decode cL_law 1017 = .ok (.aload_n 0, 1) := by decide +kernel
theorem dL_law_1018 : decode cL_law 1018 = .ok (.iload 4, 2) := by decide +kernel
theorem dL_law_1020 : decode cL_law 1020 = .ok (.iconst 2, 1) := by decide +kernel
theorem dL_law_1021 : decode cL_law 1021 = .ok (.iadd, 1) := by decide +kernel
theorem dL_law_1022 : decode cL_law 1022 = .ok (.iaload, 1) := by decide +kernel
theorem dL_law_1023 : decode cL_law 1023 = .ok (.aload_n 0, 1) := by decide +kernel
theorem dL_law_1024 : decode cL_law 1024 = .ok (.iload 4, 2) := by decide +kernel
theorem dL_law_1026 : decode cL_law 1026 = .ok (.iconst 3, 1) := by decide +kernel
theorem dL_law_1027 : decode cL_law 1027 = .ok (.iadd, 1) := by decide +kernel
theorem dL_law_1028 : decode cL_law 1028 = .ok (.iaload, 1) := by decide +kernel
theorem dL_law_1029 : decode cL_law 1029 = .ok (.invokevirtual 127, 3) := by decide +kernel
theorem dL_law_1032 : decode cL_law 1032 = .ok (.aload_n 2, 1) := by decide +kernel
theorem dL_law_1033 : decode cL_law 1033 = .ok (.aload_n 0, 1) := by decide +kernel
theorem dL_law_1034 : decode cL_law 1034 = .ok (.iload 4, 2) := by decide +kernel
theorem dL_law_1036 : decode cL_law 1036 = .ok (.iconst 1, 1) := by decide +kernel
theorem dL_law_1037 : decode cL_law 1037 = .ok (.iadd, 1) := by decide +kernel
theorem dL_law_1038 : decode cL_law 1038 = .ok (.iaload, 1) := by decide +kernel
theorem dL_law_1039 : decode cL_law 1039 = .ok (.aload_n 0, 1) := by decide +kernel
theorem dL_law_1040 : decode cL_law 1040 = .ok (.iload 4, 2) := by decide +kernel
theorem dL_law_1042 : decode cL_law 1042 = .ok (.iconst 2, 1) := by decide +kernel
theorem dL_law_1043 : decode cL_law 1043 = .ok (.iadd, 1) := by decide +kernel
theorem dL_law_1044 : decode cL_law 1044 = .ok (.iaload, 1) := by decide +kernel
theorem dL_law_1045 : decode cL_law 1045 = .ok (.aload_n 0, 1) := by decide +kernel
theorem dL_law_1046 : decode cL_law 1046 = .ok (.iload 4, 2) := by decide +kernel
theorem dL_law_1048 : decode cL_law 1048 = .ok (.iconst 3, 1) := by decide +kernel
theorem dL_law_1049 : decode cL_law 1049 = .ok (.iadd, 1) := by decide +kernel
theorem dL_law_1050 : decode cL_law 1050 = .ok (.iaload, 1) := by decide +kernel
theorem dL_law_1051 : decode cL_law 1051 = .ok (.invokevirtual 130, 3) := by decide +kernel
theorem dL_law_1054 : decode cL_law 1054 = .ok (.if_icmp .eq 737, 3) := by decide +kernel
theorem dL_law_1057 : decode cL_law 1057 = .ok (.iconst 0, 1) := by decide +kernel
theorem dL_law_1058 : decode cL_law 1058 = .ok (.ireturn, 1) := by decide +kernel
theorem dL_law_1059 : decode cL_law 1059 = .ok (.aload_n 1, 1) := by decide +kernel
theorem dL_law_1060 : decode cL_law 1060 = .ok (.aload_n 0, 1) := by decide +kernel
theorem dL_law_1061 : decode cL_law 1061 = .ok (.iload 4, 2) := by decide +kernel
theorem dL_law_1063 : decode cL_law 1063 = .ok (.iconst 1, 1) := by decide +kernel
theorem dL_law_1064 : decode cL_law 1064 = .ok (.iadd, 1) := by decide +kernel
theorem dL_law_1065 : decode cL_law 1065 = .ok (.iaload, 1) := by decide +kernel
theorem dL_law_1066 : decode cL_law 1066 = .ok (.aload_n 0, 1) := by decide +kernel
theorem dL_law_1067 : decode cL_law 1067 = .ok (.iload 4, 2) := by decide +kernel
theorem dL_law_1069 : decode cL_law 1069 = .ok (.iconst 2, 1) := by decide +kernel
theorem dL_law_1070 : decode cL_law 1070 = .ok (.iadd, 1) := by decide +kernel
theorem dL_law_1071 : decode cL_law 1071 = .ok (.iaload, 1) := by decide +kernel
theorem dL_law_1072 : decode cL_law 1072 = .ok (.invokevirtual 131, 3) := by decide +kernel
theorem dL_law_1075 : decode cL_law 1075 = .ok (.aload_n 2, 1) := by decide +kernel
theorem dL_law_1076 : decode cL_law 1076 = .ok (.aload_n 0, 1) := by decide +kernel
theorem dL_law_1077 : decode cL_law 1077 = .ok (.iload 4, 2) := by decide +kernel
theorem dL_law_1079 : decode cL_law 1079 = .ok (.iconst 1, 1) := by decide +kernel
theorem dL_law_1080 : decode cL_law 1080 = .ok (.iadd, 1) := by decide +kernel
theorem dL_law_1081 : decode cL_law 1081 = .ok (.iaload, 1) := by decide +kernel
theorem dL_law_1082 : decode cL_law 1082 = .ok (.aload_n 0, 1) := by decide +kernel
theorem dL_law_1083 : decode cL_law 1083 = .ok (.iload 4, 2) := by decide +kernel
theorem dL_law_1085 : decode cL_law 1085 = .ok (.iconst 2, 1) := by decide +kernel
theorem dL_law_1086 : decode cL_law 1086 = .ok (.iadd, 1) := by decide +kernel
theorem dL_law_1087 : decode cL_law 1087 = .ok (.iaload, 1) := by decide +kernel
theorem dL_law_1088 : decode cL_law 1088 = .ok (.invokevirtual 134, 3) := by decide +kernel
theorem dL_law_1091 : decode cL_law 1091 = .ok (.if_icmp .eq 700, 3) := by decide +kernel
theorem dL_law_1094 : decode cL_law 1094 = .ok (.iconst 0, 1) := by decide +kernel
theorem dL_law_1095 : decode cL_law 1095 = .ok (.ireturn, 1) := by decide +kernel
theorem dL_law_1096 : decode cL_law 1096 = .ok (.aload_n 1, 1) := by decide +kernel
theorem dL_law_1097 : decode cL_law 1097 = .ok (.aload_n 0, 1) := by decide +kernel
theorem dL_law_1098 : decode cL_law 1098 = .ok (.iload 4, 2) := by decide +kernel
theorem dL_law_1100 : decode cL_law 1100 = .ok (.iconst 1, 1) := by decide +kernel
theorem dL_law_1101 : decode cL_law 1101 = .ok (.iadd, 1) := by decide +kernel
theorem dL_law_1102 : decode cL_law 1102 = .ok (.iaload, 1) := by decide +kernel
theorem dL_law_1103 : decode cL_law 1103 = .ok (.aload_n 0, 1) := by decide +kernel
theorem dL_law_1104 : decode cL_law 1104 = .ok (.iload 4, 2) := by decide +kernel
theorem dL_law_1106 : decode cL_law 1106 = .ok (.iconst 2, 1) := by decide +kernel
theorem dL_law_1107 : decode cL_law 1107 = .ok (.iadd, 1) := by decide +kernel
theorem dL_law_1108 : decode cL_law 1108 = .ok (.iaload, 1) := by decide +kernel
theorem dL_law_1109 : decode cL_law 1109 = .ok (.invokevirtual 135, 3) := by decide +kernel
theorem dL_law_1112 : decode cL_law 1112 = .ok (.aload_n 2, 1) := by decide +kernel
theorem dL_law_1113 : decode cL_law 1113 = .ok (.aload_n 0, 1) := by decide +kernel
theorem dL_law_1114 : decode cL_law 1114 = .ok (.iload 4, 2) := by decide +kernel
theorem dL_law_1116 : decode cL_law 1116 = .ok (.iconst 1, 1) := by decide +kernel
theorem dL_law_1117 : decode cL_law 1117 = .ok (.iadd, 1) := by decide +kernel
theorem dL_law_1118 : decode cL_law 1118 = .ok (.iaload, 1) := by decide +kernel
theorem dL_law_1119 : decode cL_law 1119 = .ok (.aload_n 0, 1) := by decide +kernel
theorem dL_law_1120 : decode cL_law 1120 = .ok (.iload 4, 2) := by decide +kernel
theorem dL_law_1122 : decode cL_law 1122 = .ok (.iconst 2, 1) := by decide +kernel
theorem dL_law_1123 : decode cL_law 1123 = .ok (.iadd, 1) := by decide +kernel
theorem dL_law_1124 : decode cL_law 1124 = .ok (.iaload, 1) := by decide +kernel
theorem dL_law_1125 : decode cL_law 1125 = .ok (.invokevirtual 138, 3) := by decide +kernel
theorem dL_law_1128 : decode cL_law 1128 = .ok (.if_icmp .eq 663, 3) := by decide +kernel
theorem dL_law_1131 : decode cL_law 1131 = .ok (.iconst 0, 1) := by decide +kernel
theorem dL_law_1132 : decode cL_law 1132 = .ok (.ireturn, 1) := by decide +kernel
theorem dL_law_1133 : decode cL_law 1133 = .ok (.aload_n 1, 1) := by decide +kernel
theorem dL_law_1134 : decode cL_law 1134 = .ok (.aload_n 0, 1) := by decide +kernel
theorem dL_law_1135 : decode cL_law 1135 = .ok (.iload 4, 2) := by decide +kernel
theorem dL_law_1137 : decode cL_law 1137 = .ok (.iconst 1, 1) := by decide +kernel
theorem dL_law_1138 : decode cL_law 1138 = .ok (.iadd, 1) := by decide +kernel
theorem dL_law_1139 : decode cL_law 1139 = .ok (.iaload, 1) := by decide +kernel
theorem dL_law_1140 : decode cL_law 1140 = .ok (.aload_n 0, 1) := by decide +kernel
theorem dL_law_1141 : decode cL_law 1141 = .ok (.iload 4, 2) := by decide +kernel
theorem dL_law_1143 : decode cL_law 1143 = .ok (.iconst 2, 1) := by decide +kernel
theorem dL_law_1144 : decode cL_law 1144 = .ok (.iadd, 1) := by decide +kernel
theorem dL_law_1145 : decode cL_law 1145 = .ok (.iaload, 1) := by decide +kernel
theorem dL_law_1146 : decode cL_law 1146 = .ok (.invokevirtual 139, 3) := by decide +kernel
theorem dL_law_1149 : decode cL_law 1149 = .ok (.aload_n 2, 1) := by decide +kernel
theorem dL_law_1150 : decode cL_law 1150 = .ok (.aload_n 0, 1) := by decide +kernel
theorem dL_law_1151 : decode cL_law 1151 = .ok (.iload 4, 2) := by decide +kernel
theorem dL_law_1153 : decode cL_law 1153 = .ok (.iconst 1, 1) := by decide +kernel
theorem dL_law_1154 : decode cL_law 1154 = .ok (.iadd, 1) := by decide +kernel
theorem dL_law_1155 : decode cL_law 1155 = .ok (.iaload, 1) := by decide +kernel
theorem dL_law_1156 : decode cL_law 1156 = .ok (.aload_n 0, 1) := by decide +kernel
theorem dL_law_1157 : decode cL_law 1157 = .ok (.iload 4, 2) := by decide +kernel
theorem dL_law_1159 : decode cL_law 1159 = .ok (.iconst 2, 1) := by decide +kernel
theorem dL_law_1160 : decode cL_law 1160 = .ok (.iadd, 1) := by decide +kernel
theorem dL_law_1161 : decode cL_law 1161 = .ok (.iaload, 1) := by decide +kernel
theorem dL_law_1162 : decode cL_law 1162 = .ok (.invokevirtual 142, 3) := by decide +kernel
theorem dL_law_1165 : decode cL_law 1165 = .ok (.if_icmp .eq 626, 3) := by decide +kernel
theorem dL_law_1168 : decode cL_law 1168 = .ok (.iconst 0, 1) := by decide +kernel
theorem dL_law_1169 : decode cL_law 1169 = .ok (.ireturn, 1) := by decide +kernel
theorem dL_law_1170 : decode cL_law 1170 = .ok (.aload_n 1, 1) := by decide +kernel
theorem dL_law_1171 : decode cL_law 1171 = .ok (.aload_n 0, 1) := by decide +kernel
theorem dL_law_1172 : decode cL_law 1172 = .ok (.iload 4, 2) := by decide +kernel
theorem dL_law_1174 : decode cL_law 1174 = .ok (.iconst 1, 1) := by decide +kernel
theorem dL_law_1175 : decode cL_law 1175 = .ok (.iadd, 1) := by decide +kernel
theorem dL_law_1176 : decode cL_law 1176 = .ok (.iaload, 1) := by decide +kernel
theorem dL_law_1177 : decode cL_law 1177 = .ok (.aload_n 0, 1) := by decide +kernel
theorem dL_law_1178 : decode cL_law 1178 = .ok (.iload 4, 2) := by decide +kernel
theorem dL_law_1180 : decode cL_law 1180 = .ok (.iconst 2, 1) := by decide +kernel
theorem dL_law_1181 : decode cL_law 1181 = .ok (.iadd, 1) := by decide +kernel
theorem dL_law_1182 : decode cL_law 1182 = .ok (.iaload, 1) := by decide +kernel
theorem dL_law_1183 : decode cL_law 1183 = .ok (.ifCond .eq 7, 3) := by decide +kernel
theorem dL_law_1186 : decode cL_law 1186 = .ok (.iconst 1, 1) := by decide +kernel
theorem dL_law_1187 : decode cL_law 1187 = .ok (.goto 4, 3) := by decide +kernel
theorem dL_law_1190 : decode cL_law 1190 = .ok (.iconst 0, 1) := by decide +kernel
theorem dL_law_1191 : decode cL_law 1191 = .ok (.aload_n 0, 1) := by decide +kernel
theorem dL_law_1192 : decode cL_law 1192 = .ok (.iload 4, 2) := by decide +kernel
theorem dL_law_1194 : decode cL_law 1194 = .ok (.iconst 3, 1) := by decide +kernel
theorem dL_law_1195 : decode cL_law 1195 = .ok (.iadd, 1) := by decide +kernel
theorem dL_law_1196 : decode cL_law 1196 = .ok (.iaload, 1) := by decide +kernel
theorem dL_law_1197 : decode cL_law 1197 = .ok (.ifCond .eq 7, 3) := by decide +kernel
theorem dL_law_1200 : decode cL_law 1200 = .ok (.iconst 1, 1) := by decide +kernel
theorem dL_law_1201 : decode cL_law 1201 = .ok (.goto 4, 3) := by decide +kernel
theorem dL_law_1204 : decode cL_law 1204 = .ok (.iconst 0, 1) := by decide +kernel
theorem dL_law_1205 : decode cL_law 1205 = .ok (.invokevirtual 143, 3) := by decide +kernel
theorem dL_law_1208 : decode cL_law 1208 = .ok (.aload_n 2, 1) := by decide +kernel
theorem dL_law_1209 : decode cL_law 1209 = .ok (.aload_n 0, 1) := by decide +kernel
theorem dL_law_1210 : decode cL_law 1210 = .ok (.iload 4, 2) := by decide +kernel
theorem dL_law_1212 : decode cL_law 1212 = .ok (.iconst 1, 1) := by decide +kernel
theorem dL_law_1213 : decode cL_law 1213 = .ok (.iadd, 1) := by decide +kernel
theorem dL_law_1214 : decode cL_law 1214 = .ok (.iaload, 1) := by decide +kernel
theorem dL_law_1215 : decode cL_law 1215 = .ok (.aload_n 0, 1) := by decide +kernel
theorem dL_law_1216 : decode cL_law 1216 = .ok (.iload 4, 2) := by decide +kernel
theorem dL_law_1218 : decode cL_law 1218 = .ok (.iconst 2, 1) := by decide +kernel
theorem dL_law_1219 : decode cL_law 1219 = .ok (.iadd, 1) := by decide +kernel
theorem dL_law_1220 : decode cL_law 1220 = .ok (.iaload, 1) := by decide +kernel
theorem dL_law_1221 : decode cL_law 1221 = .ok (.ifCond .eq 7, 3) := by decide +kernel
theorem dL_law_1224 : decode cL_law 1224 = .ok (.iconst 1, 1) := by decide +kernel
theorem dL_law_1225 : decode cL_law 1225 = .ok (.goto 4, 3) := by decide +kernel
theorem dL_law_1228 : decode cL_law 1228 = .ok (.iconst 0, 1) := by decide +kernel
theorem dL_law_1229 : decode cL_law 1229 = .ok (.aload_n 0, 1) := by decide +kernel
theorem dL_law_1230 : decode cL_law 1230 = .ok (.iload 4, 2) := by decide +kernel
theorem dL_law_1232 : decode cL_law 1232 = .ok (.iconst 3, 1) := by decide +kernel
theorem dL_law_1233 : decode cL_law 1233 = .ok (.iadd, 1) := by decide +kernel
theorem dL_law_1234 : decode cL_law 1234 = .ok (.iaload, 1) := by decide +kernel
theorem dL_law_1235 : decode cL_law 1235 = .ok (.ifCond .eq 7, 3) := by decide +kernel
theorem dL_law_1238 : decode cL_law 1238 = .ok (.iconst 1, 1) := by decide +kernel
theorem dL_law_1239 : decode cL_law 1239 = .ok (.goto 4, 3) := by decide +kernel
theorem dL_law_1242 : decode cL_law 1242 = .ok (.iconst 0, 1) := by decide +kernel
theorem dL_law_1243 : decode cL_law 1243 = .ok (.invokevirtual 147, 3) := by decide +kernel
theorem dL_law_1246 : decode cL_law 1246 = .ok (.if_icmp .eq 545, 3) := by decide +kernel
theorem dL_law_1249 : decode cL_law 1249 = .ok (.iconst 0, 1) := by decide +kernel
theorem dL_law_1250 : decode cL_law 1250 = .ok (.ireturn, 1) := by decide +kernel
theorem dL_law_1251 : decode cL_law 1251 = .ok (.aload_n 1, 1) := by decide +kernel
theorem dL_law_1252 : decode cL_law 1252 = .ok (.aload_n 0, 1) := by decide +kernel
theorem dL_law_1253 : decode cL_law 1253 = .ok (.iload 4, 2) := by decide +kernel
theorem dL_law_1255 : decode cL_law 1255 = .ok (.iconst 1, 1) := by decide +kernel
theorem dL_law_1256 : decode cL_law 1256 = .ok (.iadd, 1) := by decide +kernel
theorem dL_law_1257 : decode cL_law 1257 = .ok (.iaload, 1) := by decide +kernel
theorem dL_law_1258 : decode cL_law 1258 = .ok (.invokevirtual 148, 3) := by decide +kernel
theorem dL_law_1261 : decode cL_law 1261 = .ok (.aload_n 2, 1) := by decide +kernel
theorem dL_law_1262 : decode cL_law 1262 = .ok (.aload_n 0, 1) := by decide +kernel
theorem dL_law_1263 : decode cL_law 1263 = .ok (.iload 4, 2) := by decide +kernel
theorem dL_law_1265 : decode cL_law 1265 = .ok (.iconst 1, 1) := by decide +kernel
theorem dL_law_1266 : decode cL_law 1266 = .ok (.iadd, 1) := by decide +kernel
theorem dL_law_1267 : decode cL_law 1267 = .ok (.iaload, 1) := by decide +kernel
theorem dL_law_1268 : decode cL_law 1268 = .ok (.invokevirtual 151, 3) := by decide +kernel
theorem dL_law_1271 : decode cL_law 1271 = .ok (.if_icmp .eq 520, 3) := by decide +kernel
theorem dL_law_1274 : decode cL_law 1274 = .ok (.iconst 0, 1) := by decide +kernel
theorem dL_law_1275 : decode cL_law 1275 = .ok (.ireturn, 1) := by decide +kernel
theorem dL_law_1276 : decode cL_law 1276 = .ok (.aload_n 1, 1) := by decide +kernel
theorem dL_law_1277 : decode cL_law 1277 = .ok (.aload_n 0, 1) := by decide +kernel
theorem dL_law_1278 : decode cL_law 1278 = .ok (.iload 4, 2) := by decide +kernel
theorem dL_law_1280 : decode cL_law 1280 = .ok (.iconst 1, 1) := by decide +kernel
theorem dL_law_1281 : decode cL_law 1281 = .ok (.iadd, 1) := by decide +kernel
theorem dL_law_1282 : decode cL_law 1282 = .ok (.iaload, 1) := by decide +kernel
theorem dL_law_1283 : decode cL_law 1283 = .ok (.aload_n 0, 1) := by decide +kernel
theorem dL_law_1284 : decode cL_law 1284 = .ok (.iload 4, 2) := by decide +kernel
theorem dL_law_1286 : decode cL_law 1286 = .ok (.iconst 2, 1) := by decide +kernel
theorem dL_law_1287 : decode cL_law 1287 = .ok (.iadd, 1) := by decide +kernel
theorem dL_law_1288 : decode cL_law 1288 = .ok (.iaload, 1) := by decide +kernel
theorem dL_law_1289 : decode cL_law 1289 = .ok (.ifCond .eq 7, 3) := by decide +kernel
theorem dL_law_1292 : decode cL_law 1292 = .ok (.iconst 1, 1) := by decide +kernel
theorem dL_law_1293 : decode cL_law 1293 = .ok (.goto 4, 3) := by decide +kernel
theorem dL_law_1296 : decode cL_law 1296 = .ok (.iconst 0, 1) := by decide +kernel
theorem dL_law_1297 : decode cL_law 1297 = .ok (.invokevirtual 152, 3) := by decide +kernel
theorem dL_law_1300 : decode cL_law 1300 = .ok (.aload_n 2, 1) := by decide +kernel
theorem dL_law_1301 : decode cL_law 1301 = .ok (.aload_n 0, 1) := by decide +kernel
theorem dL_law_1302 : decode cL_law 1302 = .ok (.iload 4, 2) := by decide +kernel
theorem dL_law_1304 : decode cL_law 1304 = .ok (.iconst 1, 1) := by decide +kernel
theorem dL_law_1305 : decode cL_law 1305 = .ok (.iadd, 1) := by decide +kernel
theorem dL_law_1306 : decode cL_law 1306 = .ok (.iaload, 1) := by decide +kernel
theorem dL_law_1307 : decode cL_law 1307 = .ok (.aload_n 0, 1) := by decide +kernel
theorem dL_law_1308 : decode cL_law 1308 = .ok (.iload 4, 2) := by decide +kernel
theorem dL_law_1310 : decode cL_law 1310 = .ok (.iconst 2, 1) := by decide +kernel
theorem dL_law_1311 : decode cL_law 1311 = .ok (.iadd, 1) := by decide +kernel
theorem dL_law_1312 : decode cL_law 1312 = .ok (.iaload, 1) := by decide +kernel
theorem dL_law_1313 : decode cL_law 1313 = .ok (.ifCond .eq 7, 3) := by decide +kernel
theorem dL_law_1316 : decode cL_law 1316 = .ok (.iconst 1, 1) := by decide +kernel
theorem dL_law_1317 : decode cL_law 1317 = .ok (.goto 4, 3) := by decide +kernel
theorem dL_law_1320 : decode cL_law 1320 = .ok (.iconst 0, 1) := by decide +kernel
theorem dL_law_1321 : decode cL_law 1321 = .ok (.invokevirtual 156, 3) := by decide +kernel
theorem dL_law_1324 : decode cL_law 1324 = .ok (.if_icmp .eq 467, 3) := by decide +kernel
theorem dL_law_1327 : decode cL_law 1327 = .ok (.iconst 0, 1) := by decide +kernel
theorem dL_law_1328 : decode cL_law 1328 = .ok (.ireturn, 1) := by decide +kernel
theorem dL_law_1329 : decode cL_law 1329 = .ok (.aload_n 1, 1) := by decide +kernel
theorem dL_law_1330 : decode cL_law 1330 = .ok (.invokevirtual 157, 3) := by decide +kernel
theorem dL_law_1333 : decode cL_law 1333 = .ok (.aload_n 2, 1) := by decide +kernel
theorem dL_law_1334 : decode cL_law 1334 = .ok (.invokevirtual 160, 3) := by decide +kernel
theorem dL_law_1337 : decode cL_law 1337 = .ok (.if_icmp .eq 454, 3) := by decide +kernel
theorem dL_law_1340 : decode cL_law 1340 = .ok (.iconst 0, 1) := by decide +kernel
theorem dL_law_1341 : decode cL_law 1341 = .ok (.ireturn, 1) := by decide +kernel
theorem dL_law_1342 : decode cL_law 1342 = .ok (.aload_n 1, 1) := by decide +kernel
theorem dL_law_1343 : decode cL_law 1343 = .ok (.aload_n 0, 1) := by decide +kernel
theorem dL_law_1344 : decode cL_law 1344 = .ok (.iload 4, 2) := by decide +kernel
theorem dL_law_1346 : decode cL_law 1346 = .ok (.iconst 1, 1) := by decide +kernel
theorem dL_law_1347 : decode cL_law 1347 = .ok (.iadd, 1) := by decide +kernel
theorem dL_law_1348 : decode cL_law 1348 = .ok (.iaload, 1) := by decide +kernel
theorem dL_law_1349 : decode cL_law 1349 = .ok (.aload_n 0, 1) := by decide +kernel
theorem dL_law_1350 : decode cL_law 1350 = .ok (.iload 4, 2) := by decide +kernel
theorem dL_law_1352 : decode cL_law 1352 = .ok (.iconst 2, 1) := by decide +kernel
theorem dL_law_1353 : decode cL_law 1353 = .ok (.iadd, 1) := by decide +kernel
theorem dL_law_1354 : decode cL_law 1354 = .ok (.iaload, 1) := by decide +kernel
theorem dL_law_1355 : decode cL_law 1355 = .ok (.ifCond .eq 7, 3) := by decide +kernel
theorem dL_law_1358 : decode cL_law 1358 = .ok (.iconst 1, 1) := by decide +kernel
theorem dL_law_1359 : decode cL_law 1359 = .ok (.goto 4, 3) := by decide +kernel
theorem dL_law_1362 : decode cL_law 1362 = .ok (.iconst 0, 1) := by decide +kernel
theorem dL_law_1363 : decode cL_law 1363 = .ok (.invokevirtual 161, 3) := by decide +kernel
theorem dL_law_1366 : decode cL_law 1366 = .ok (.aload_n 2, 1) := by decide +kernel
theorem dL_law_1367 : decode cL_law 1367 = .ok (.aload_n 0, 1) := by decide +kernel
theorem dL_law_1368 : decode cL_law 1368 = .ok (.iload 4, 2) := by decide +kernel
theorem dL_law_1370 : decode cL_law 1370 = .ok (.iconst 1, 1) := by decide +kernel
theorem dL_law_1371 : decode cL_law 1371 = .ok (.iadd, 1) := by decide +kernel
theorem dL_law_1372 : decode cL_law 1372 = .ok (.iaload, 1) := by decide +kernel
theorem dL_law_1373 : decode cL_law 1373 = .ok (.aload_n 0, 1) := by decide +kernel
theorem dL_law_1374 : decode cL_law 1374 = .ok (.iload 4, 2) := by decide +kernel
theorem dL_law_1376 : decode cL_law 1376 = .ok (.iconst 2, 1) := by decide +kernel
theorem dL_law_1377 : decode cL_law 1377 = .ok (.iadd, 1) := by decide +kernel
theorem dL_law_1378 : decode cL_law 1378 = .ok (.iaload, 1) := by decide +kernel
theorem dL_law_1379 : decode cL_law 1379 = .ok (.ifCond .eq 7, 3) := by decide +kernel
theorem dL_law_1382 : decode cL_law 1382 = .ok (.iconst 1, 1) := by decide +kernel
theorem dL_law_1383 : decode cL_law 1383 = .ok (.goto 4, 3) := by decide +kernel
theorem dL_law_1386 : decode cL_law 1386 = .ok (.iconst 0, 1) := by decide +kernel
theorem dL_law_1387 : decode cL_law 1387 = .ok (.invokevirtual 164, 3) := by decide +kernel
theorem dL_law_1390 : decode cL_law 1390 = .ok (.if_icmp .eq 401, 3) := by decide +kernel
theorem dL_law_1393 : decode cL_law 1393 = .ok (.iconst 0, 1) := by decide +kernel
theorem dL_law_1394 : decode cL_law 1394 = .ok (.ireturn, 1) := by decide +kernel
theorem dL_law_1395 : decode cL_law 1395 = .ok (.aload_n 1, 1) := by decide +kernel
theorem dL_law_1396 : decode cL_law 1396 = .ok (.aload_n 0, 1) := by decide +kernel
theorem dL_law_1397 : decode cL_law 1397 = .ok (.iload 4, 2) := by decide +kernel
theorem dL_law_1399 : decode cL_law 1399 = .ok (.iconst 1, 1) := by decide +kernel
theorem dL_law_1400 : decode cL_law 1400 = .ok (.iadd, 1) := by decide +kernel
theorem dL_law_1401 : decode cL_law 1401 = .ok (.iaload, 1) := by decide +kernel
theorem dL_law_1402 : decode cL_law 1402 = .ok (.aload_n 0, 1) := by decide +kernel
theorem dL_law_1403 : decode cL_law 1403 = .ok (.iload 4, 2) := by decide +kernel
theorem dL_law_1405 : decode cL_law 1405 = .ok (.iconst 2, 1) := by decide +kernel
theorem dL_law_1406 : decode cL_law 1406 = .ok (.iadd, 1) := by decide +kernel
theorem dL_law_1407 : decode cL_law 1407 = .ok (.iaload, 1) := by decide +kernel
theorem dL_law_1408 : decode cL_law 1408 = .ok (.ifCond .eq 7, 3) := by decide +kernel
theorem dL_law_1411 : decode cL_law 1411 = .ok (.iconst 1, 1) := by decide +kernel
theorem dL_law_1412 : decode cL_law 1412 = .ok (.goto 4, 3) := by decide +kernel
theorem dL_law_1415 : decode cL_law 1415 = .ok (.iconst 0, 1) := by decide +kernel
theorem dL_law_1416 : decode cL_law 1416 = .ok (.invokevirtual 165, 3) := by decide +kernel
theorem dL_law_1419 : decode cL_law 1419 = .ok (.aload_n 2, 1) := by decide +kernel
theorem dL_law_1420 : decode cL_law 1420 = .ok (.aload_n 0, 1) := by decide +kernel
theorem dL_law_1421 : decode cL_law 1421 = .ok (.iload 4, 2) := by decide +kernel
theorem dL_law_1423 : decode cL_law 1423 = .ok (.iconst 1, 1) := by decide +kernel
theorem dL_law_1424 : decode cL_law 1424 = .ok (.iadd, 1) := by decide +kernel
theorem dL_law_1425 : decode cL_law 1425 = .ok (.iaload, 1) := by decide +kernel
theorem dL_law_1426 : decode cL_law 1426 = .ok (.aload_n 0, 1) := by decide +kernel
theorem dL_law_1427 : decode cL_law 1427 = .ok (.iload 4, 2) := by decide +kernel
theorem dL_law_1429 : decode cL_law 1429 = .ok (.iconst 2, 1) := by decide +kernel
theorem dL_law_1430 : decode cL_law 1430 = .ok (.iadd, 1) := by decide +kernel
theorem dL_law_1431 : decode cL_law 1431 = .ok (.iaload, 1) := by decide +kernel
theorem dL_law_1432 : decode cL_law 1432 = .ok (.ifCond .eq 7, 3) := by decide +kernel
theorem dL_law_1435 : decode cL_law 1435 = .ok (.iconst 1, 1) := by decide +kernel
theorem dL_law_1436 : decode cL_law 1436 = .ok (.goto 4, 3) := by decide +kernel
theorem dL_law_1439 : decode cL_law 1439 = .ok (.iconst 0, 1) := by decide +kernel
theorem dL_law_1440 : decode cL_law 1440 = .ok (.invokevirtual 168, 3) := by decide +kernel
theorem dL_law_1443 : decode cL_law 1443 = .ok (.if_icmp .eq 348, 3) := by decide +kernel
theorem dL_law_1446 : decode cL_law 1446 = .ok (.iconst 0, 1) := by decide +kernel
theorem dL_law_1447 : decode cL_law 1447 = .ok (.ireturn, 1) := by decide +kernel
theorem dL_law_1448 : decode cL_law 1448 = .ok (.aload_n 1, 1) := by decide +kernel
theorem dL_law_1449 : decode cL_law 1449 = .ok (.aload_n 0, 1) := by decide +kernel
theorem dL_law_1450 : decode cL_law 1450 = .ok (.iload 4, 2) := by decide +kernel
theorem dL_law_1452 : decode cL_law 1452 = .ok (.iconst 1, 1) := by decide +kernel
theorem dL_law_1453 : decode cL_law 1453 = .ok (.iadd, 1) := by decide +kernel
theorem dL_law_1454 : decode cL_law 1454 = .ok (.iaload, 1) := by decide +kernel
theorem dL_law_1455 : decode cL_law 1455 = .ok (.invokevirtual 169, 3) := by decide +kernel
theorem dL_law_1458 : decode cL_law 1458 = .ok (.aload_n 2, 1) := by decide +kernel
theorem dL_law_1459 : decode cL_law 1459 = .ok (.aload_n 0, 1) := by decide +kernel
theorem dL_law_1460 : decode cL_law 1460 = .ok (.iload 4, 2) := by decide +kernel
theorem dL_law_1462 : decode cL_law 1462 = .ok (.iconst 1, 1) := by decide +kernel
theorem dL_law_1463 : decode cL_law 1463 = .ok (.iadd, 1) := by decide +kernel
theorem dL_law_1464 : decode cL_law 1464 = .ok (.iaload, 1) := by decide +kernel
theorem dL_law_1465 : decode cL_law 1465 = .ok (.invokevirtual 172, 3) := by decide +kernel
theorem dL_law_1468 : decode cL_law 1468 = .ok (.if_icmp .eq 323, 3) := by decide +kernel
theorem dL_law_1471 : decode cL_law 1471 = .ok (.iconst 0, 1) := by decide +kernel
theorem dL_law_1472 : decode cL_law 1472 = .ok (.ireturn, 1) := by decide +kernel
theorem dL_law_1473 : decode cL_law 1473 = .ok (.aload_n 1, 1) := by decide +kernel
theorem dL_law_1474 : decode cL_law 1474 = .ok (.aload_n 0, 1) := by decide +kernel
theorem dL_law_1475 : decode cL_law 1475 = .ok (.iload 4, 2) := by decide +kernel
theorem dL_law_1477 : decode cL_law 1477 = .ok (.iconst 1, 1) := by decide +kernel
theorem dL_law_1478 : decode cL_law 1478 = .ok (.iadd, 1) := by decide +kernel
theorem dL_law_1479 : decode cL_law 1479 = .ok (.iaload, 1) := by decide +kernel
theorem dL_law_1480 : decode cL_law 1480 = .ok (.aload_n 0, 1) := by decide +kernel
theorem dL_law_1481 : decode cL_law 1481 = .ok (.iload 4, 2) := by decide +kernel
theorem dL_law_1483 : decode cL_law 1483 = .ok (.iconst 2, 1) := by decide +kernel
theorem dL_law_1484 : decode cL_law 1484 = .ok (.iadd, 1) := by decide +kernel
theorem dL_law_1485 : decode cL_law 1485 = .ok (.iaload, 1) := by decide +kernel
theorem dL_law_1486 : decode cL_law 1486 = .ok (.invokevirtual 173, 3) := by decide +kernel
theorem dL_law_1489 : decode cL_law 1489 = .ok (.aload_n 2, 1) := by decide +kernel
theorem dL_law_1490 : decode cL_law 1490 = .ok (.aload_n 0, 1) := by decide +kernel
theorem dL_law_1491 : decode cL_law 1491 = .ok (.iload 4, 2) := by decide +kernel
theorem dL_law_1493 : decode cL_law 1493 = .ok (.iconst 1, 1) := by decide +kernel
theorem dL_law_1494 : decode cL_law 1494 = .ok (.iadd, 1) := by decide +kernel
theorem dL_law_1495 : decode cL_law 1495 = .ok (.iaload, 1) := by decide +kernel
theorem dL_law_1496 : decode cL_law 1496 = .ok (.aload_n 0, 1) := by decide +kernel
theorem dL_law_1497 : decode cL_law 1497 = .ok (.iload 4, 2) := by decide +kernel
theorem dL_law_1499 : decode cL_law 1499 = .ok (.iconst 2, 1) := by decide +kernel
theorem dL_law_1500 : decode cL_law 1500 = .ok (.iadd, 1) := by decide +kernel
theorem dL_law_1501 : decode cL_law 1501 = .ok (.iaload, 1) := by decide +kernel
theorem dL_law_1502 : decode cL_law 1502 = .ok (.invokevirtual 176, 3) := by decide +kernel
theorem dL_law_1505 : decode cL_law 1505 = .ok (.if_icmp .eq 286, 3) := by decide +kernel
theorem dL_law_1508 : decode cL_law 1508 = .ok (.iconst 0, 1) := by decide +kernel
theorem dL_law_1509 : decode cL_law 1509 = .ok (.ireturn, 1) := by decide +kernel
theorem dL_law_1510 : decode cL_law 1510 = .ok (.aload_n 1, 1) := by decide +kernel
theorem dL_law_1511 : decode cL_law 1511 = .ok (.aload_n 0, 1) := by decide +kernel
theorem dL_law_1512 : decode cL_law 1512 = .ok (.iload 4, 2) := by decide +kernel
theorem dL_law_1514 : decode cL_law 1514 = .ok (.iconst 1, 1) := by decide +kernel
theorem dL_law_1515 : decode cL_law 1515 = .ok (.iadd, 1) := by decide +kernel
theorem dL_law_1516 : decode cL_law 1516 = .ok (.iaload, 1) := by decide +kernel
theorem dL_law_1517 : decode cL_law 1517 = .ok (.invokevirtual 177, 3) := by decide +kernel
theorem dL_law_1520 : decode cL_law 1520 = .ok (.aload_n 2, 1) := by decide +kernel
theorem dL_law_1521 : decode cL_law 1521 = .ok (.aload_n 0, 1) := by decide +kernel
theorem dL_law_1522 : decode cL_law 1522 = .ok (.iload 4, 2) := by decide +kernel
theorem dL_law_1524 : decode cL_law 1524 = .ok (.iconst 1, 1) := by decide +kernel
theorem dL_law_1525 : decode cL_law 1525 = .ok (.iadd, 1) := by decide +kernel
theorem dL_law_1526 : decode cL_law 1526 = .ok (.iaload, 1) := by decide +kernel
theorem dL_law_1527 : decode cL_law 1527 = .ok (.invokevirtual 180, 3) := by decide +kernel
theorem dL_law_1530 : decode cL_law 1530 = .ok (.if_icmp .eq 261, 3) := by decide +kernel
theorem dL_law_1533 : decode cL_law 1533 = .ok (.iconst 0, 1) := by decide +kernel
theorem dL_law_1534 : decode cL_law 1534 = .ok (.ireturn, 1) := by decide +kernel
theorem dL_law_1535 : decode cL_law 1535 = .ok (.aload_n 1, 1) := by decide +kernel
theorem dL_law_1536 : decode cL_law 1536 = .ok (.invokevirtual 181, 3) := by decide +kernel
theorem dL_law_1539 : decode cL_law 1539 = .ok (.aload_n 2, 1) := by decide +kernel
theorem dL_law_1540 : decode cL_law 1540 = .ok (.invokevirtual 184, 3) := by decide +kernel
theorem dL_law_1543 : decode cL_law 1543 = .ok (.if_icmp .eq 248, 3) := by decide +kernel
theorem dL_law_1546 : decode cL_law 1546 = .ok (.iconst 0, 1) := by decide +kernel
theorem dL_law_1547 : decode cL_law 1547 = .ok (.ireturn, 1) := by decide +kernel
theorem dL_law_1548 : decode cL_law 1548 = .ok (.aload_n 1, 1) := by decide +kernel
theorem dL_law_1549 : decode cL_law 1549 = .ok (.aload_n 0, 1) := by decide +kernel
theorem dL_law_1550 : decode cL_law 1550 = .ok (.iload 4, 2) := by decide +kernel
theorem dL_law_1552 : decode cL_law 1552 = .ok (.iconst 1, 1) := by decide +kernel
theorem dL_law_1553 : decode cL_law 1553 = .ok (.iadd, 1) := by decide +kernel
theorem dL_law_1554 : decode cL_law 1554 = .ok (.iaload, 1) := by decide +kernel
theorem dL_law_1555 : decode cL_law 1555 = .ok (.invokevirtual 185, 3) := by decide +kernel
theorem dL_law_1558 : decode cL_law 1558 = .ok (.aload_n 2, 1) := by decide +kernel
theorem dL_law_1559 : decode cL_law 1559 = .ok (.aload_n 0, 1) := by decide +kernel
theorem dL_law_1560 : decode cL_law 1560 = .ok (.iload 4, 2) := by decide +kernel
theorem dL_law_1562 : decode cL_law 1562 = .ok (.iconst 1, 1) := by decide +kernel
theorem dL_law_1563 : decode cL_law 1563 = .ok (.iadd, 1) := by decide +kernel
theorem dL_law_1564 : decode cL_law 1564 = .ok (.iaload, 1) := by decide +kernel
theorem dL_law_1565 : decode cL_law 1565 = .ok (.invokevirtual 188, 3) := by decide +kernel
theorem dL_law_1568 : decode cL_law 1568 = .ok (.if_icmp .eq 223, 3) := by decide +kernel
theorem dL_law_1571 : decode cL_law 1571 = .ok (.iconst 0, 1) := by decide +kernel
theorem dL_law_1572 : decode cL_law 1572 = .ok (.ireturn, 1) := by decide +kernel
theorem dL_law_1573 : decode cL_law 1573 = .ok (.aload_n 1, 1) := by decide +kernel
theorem dL_law_1574 : decode cL_law 1574 = .ok (.aload_n 0, 1) := by decide +kernel
theorem dL_law_1575 : decode cL_law 1575 = .ok (.iload 4, 2) := by decide +kernel
theorem dL_law_1577 : decode cL_law 1577 = .ok (.iconst 1, 1) := by decide +kernel
theorem dL_law_1578 : decode cL_law 1578 = .ok (.iadd, 1) := by decide +kernel
theorem dL_law_1579 : decode cL_law 1579 = .ok (.iaload, 1) := by decide +kernel
theorem dL_law_1580 : decode cL_law 1580 = .ok (.invokevirtual 189, 3) := by decide +kernel
theorem dL_law_1583 : decode cL_law 1583 = .ok (.aload_n 2, 1) := by decide +kernel
theorem dL_law_1584 : decode cL_law 1584 = .ok (.aload_n 0, 1) := by decide +kernel
theorem dL_law_1585 : decode cL_law 1585 = .ok (.iload 4, 2) := by decide +kernel
theorem dL_law_1587 : decode cL_law 1587 = .ok (.iconst 1, 1) := by decide +kernel
theorem dL_law_1588 : decode cL_law 1588 = .ok (.iadd, 1) := by decide +kernel
theorem dL_law_1589 : decode cL_law 1589 = .ok (.iaload, 1) := by decide +kernel
theorem dL_law_1590 : decode cL_law 1590 = .ok (.invokevirtual 192, 3) := by decide +kernel
theorem dL_law_1593 : decode cL_law 1593 = .ok (.if_icmp .eq 198, 3) := by decide +kernel
theorem dL_law_1596 : decode cL_law 1596 = .ok (.iconst 0, 1) := by decide +kernel
theorem dL_law_1597 : decode cL_law 1597 = .ok (.ireturn, 1) := by decide +kernel
theorem dL_law_1598 : decode cL_law 1598 = .ok (.aload_n 1, 1) := by decide +kernel
theorem dL_law_1599 : decode cL_law 1599 = .ok (.aload_n 0, 1) := by decide +kernel
theorem dL_law_1600 : decode cL_law 1600 = .ok (.iload 4, 2) := by decide +kernel
theorem dL_law_1602 : decode cL_law 1602 = .ok (.iconst 1, 1) := by decide +kernel
theorem dL_law_1603 : decode cL_law 1603 = .ok (.iadd, 1) := by decide +kernel
theorem dL_law_1604 : decode cL_law 1604 = .ok (.iaload, 1) := by decide +kernel
theorem dL_law_1605 : decode cL_law 1605 = .ok (.invokevirtual 193, 3) := by decide +kernel
theorem dL_law_1608 : decode cL_law 1608 = .ok (.aload_n 2, 1) := by decide +kernel
theorem dL_law_1609 : decode cL_law 1609 = .ok (.aload_n 0, 1) := by decide +kernel
theorem dL_law_1610 : decode cL_law 1610 = .ok (.iload 4, 2) := by decide +kernel
theorem dL_law_1612 : decode cL_law 1612 = .ok (.iconst 1, 1) := by decide +kernel
theorem dL_law_1613 : decode cL_law 1613 = .ok (.iadd, 1) := by decide +kernel
theorem dL_law_1614 : decode cL_law 1614 = .ok (.iaload, 1) := by decide +kernel
theorem dL_law_1615 : decode cL_law 1615 = .ok (.invokevirtual 196, 3) := by decide +kernel
theorem dL_law_1618 : decode cL_law 1618 = .ok (.if_icmp .eq 173, 3) := by decide +kernel
theorem dL_law_1621 : decode cL_law 1621 = .ok (.iconst 0, 1) := by decide +kernel
theorem dL_law_1622 : decode cL_law 1622 = .ok (.ireturn, 1) := by decide +kernel
theorem dL_law_1623 : decode cL_law 1623 = .ok (.aload_n 1, 1) := by decide +kernel
theorem dL_law_1624 : decode cL_law 1624 = .ok (.aload_n 0, 1) := by decide +kernel
theorem dL_law_1625 : decode cL_law 1625 = .ok (.iload 4, 2) := by decide +kernel
theorem dL_law_1627 : decode cL_law 1627 = .ok (.iconst 1, 1) := by decide +kernel
theorem dL_law_1628 : decode cL_law 1628 = .ok (.iadd, 1) := by decide +kernel
theorem dL_law_1629 : decode cL_law 1629 = .ok (.iaload, 1) := by decide +kernel
theorem dL_law_1630 : decode cL_law 1630 = .ok (.aload_n 0, 1) := by decide +kernel
theorem dL_law_1631 : decode cL_law 1631 = .ok (.iload 4, 2) := by decide +kernel
theorem dL_law_1633 : decode cL_law 1633 = .ok (.iconst 2, 1) := by decide +kernel
theorem dL_law_1634 : decode cL_law 1634 = .ok (.iadd, 1) := by decide +kernel
theorem dL_law_1635 : decode cL_law 1635 = .ok (.iaload, 1) := by decide +kernel
theorem dL_law_1636 : decode cL_law 1636 = .ok (.invokevirtual 197, 3) := by decide +kernel
theorem dL_law_1639 : decode cL_law 1639 = .ok (.aload_n 2, 1) := by decide +kernel
theorem dL_law_1640 : decode cL_law 1640 = .ok (.aload_n 0, 1) := by decide +kernel
theorem dL_law_1641 : decode cL_law 1641 = .ok (.iload 4, 2) := by decide +kernel
theorem dL_law_1643 : decode cL_law 1643 = .ok (.iconst 1, 1) := by decide +kernel
theorem dL_law_1644 : decode cL_law 1644 = .ok (.iadd, 1) := by decide +kernel
theorem dL_law_1645 : decode cL_law 1645 = .ok (.iaload, 1) := by decide +kernel
theorem dL_law_1646 : decode cL_law 1646 = .ok (.aload_n 0, 1) := by decide +kernel
theorem dL_law_1647 : decode cL_law 1647 = .ok (.iload 4, 2) := by decide +kernel
theorem dL_law_1649 : decode cL_law 1649 = .ok (.iconst 2, 1) := by decide +kernel
theorem dL_law_1650 : decode cL_law 1650 = .ok (.iadd, 1) := by decide +kernel
theorem dL_law_1651 : decode cL_law 1651 = .ok (.iaload, 1) := by decide +kernel
theorem dL_law_1652 : decode cL_law 1652 = .ok (.invokevirtual 200, 3) := by decide +kernel
theorem dL_law_1655 : decode cL_law 1655 = .ok (.if_icmp .eq 136, 3) := by decide +kernel
theorem dL_law_1658 : decode cL_law 1658 = .ok (.iconst 0, 1) := by decide +kernel
theorem dL_law_1659 : decode cL_law 1659 = .ok (.ireturn, 1) := by decide +kernel
theorem dL_law_1660 : decode cL_law 1660 = .ok (.aload_n 1, 1) := by decide +kernel
theorem dL_law_1661 : decode cL_law 1661 = .ok (.aload_n 0, 1) := by decide +kernel
theorem dL_law_1662 : decode cL_law 1662 = .ok (.iload 4, 2) := by decide +kernel
theorem dL_law_1664 : decode cL_law 1664 = .ok (.iconst 1, 1) := by decide +kernel
theorem dL_law_1665 : decode cL_law 1665 = .ok (.iadd, 1) := by decide +kernel
theorem dL_law_1666 : decode cL_law 1666 = .ok (.iaload, 1) := by decide +kernel
theorem dL_law_1667 : decode cL_law 1667 = .ok (.aload_n 3, 1) := by decide +kernel
theorem dL_law_1668 : decode cL_law 1668 = .ok (.invokestatic 201, 3) := by decide +kernel
theorem dL_law_1671 : decode cL_law 1671 = .ok (.istore 5, 2) := by decide +kernel
theorem dL_law_1673 : decode cL_law 1673 = .ok (.aload_n 2, 1) := by decide +kernel
theorem dL_law_1674 : decode cL_law 1674 = .ok (.aload_n 0, 1) := by decide +kernel
theorem dL_law_1675 : decode cL_law 1675 = .ok (.iload 4, 2) := by decide +kernel
theorem dL_law_1677 : decode cL_law 1677 = .ok (.iconst 1, 1) := by decide +kernel
theorem dL_law_1678 : decode cL_law 1678 = .ok (.iadd, 1) := by decide +kernel
theorem dL_law_1679 : decode cL_law 1679 = .ok (.iaload, 1) := by decide +kernel
theorem dL_law_1680 : decode cL_law 1680 = .ok (.invokevirtual 206, 3) := by decide +kernel
theorem dL_law_1683 : decode cL_law 1683 = .ok (.istore 6, 2) := by decide +kernel
theorem dL_law_1685 : decode cL_law 1685 = .ok (.aload_n 2, 1) := by decide +kernel
theorem dL_law_1686 : decode cL_law 1686 = .ok (.invokevirtual 207, 3) := by decide +kernel
theorem dL_law_1689 : decode cL_law 1689 = .ok (.iload 5, 2) := by decide +kernel
theorem dL_law_1691 : decode cL_law 1691 = .ok (.if_icmp .eq 5, 3) := by decide +kernel
theorem dL_law_1694 : decode cL_law 1694 = .ok (.iconst 0, 1) := by decide +kernel
theorem dL_law_1695 : decode cL_law 1695 = .ok (.ireturn, 1) := by decide +kernel
theorem dL_law_1696 : decode cL_law 1696 = .ok (.iload 5, 2) := by decide +kernel
theorem dL_law_1698 : decode cL_law 1698 = .ok (.ifCond .ne 15, 3) := by decide +kernel
theorem dL_law_1701 : decode cL_law 1701 = .ok (.aload_n 3, 1) := by decide +kernel
theorem dL_law_1702 : decode cL_law 1702 = .ok (.iconst 0, 1) := by decide +kernel
theorem dL_law_1703 : decode cL_law 1703 = .ok (.laload, 1) := by decide +kernel
theorem dL_law_1704 : decode cL_law 1704 = .ok (.iload 6, 2) := by decide +kernel
theorem dL_law_1706 : decode cL_law 1706 = .ok (.i2l, 1) := by decide +kernel
theorem dL_law_1707 : decode cL_law 1707 = .ok (.lcmp, 1) := by decide +kernel
theorem dL_law_1708 : decode cL_law 1708 = .ok (.ifCond .eq 5, 3) := by decide +kernel
theorem dL_law_1711 : decode cL_law 1711 = .ok (.iconst 0, 1) := by decide +kernel
theorem dL_law_1712 : decode cL_law 1712 = .ok (.ireturn, 1) := by decide +kernel
theorem dL_law_1713 : decode cL_law 1713 = .ok (.goto 78, 3) := by decide +kernel
theorem dL_law_1716 : decode cL_law 1716 = .ok (.aload_n 1, 1) := by decide +kernel
theorem dL_law_1717 : decode cL_law 1717 = .ok (.aload_n 0, 1) := by decide +kernel
theorem dL_law_1718 : decode cL_law 1718 = .ok (.iload 4, 2) := by decide +kernel
theorem dL_law_1720 : decode cL_law 1720 = .ok (.iconst 1, 1) := by decide +kernel
theorem dL_law_1721 : decode cL_law 1721 = .ok (.iadd, 1) := by decide +kernel
theorem dL_law_1722 : decode cL_law 1722 = .ok (.iaload, 1) := by decide +kernel
theorem dL_law_1723 : decode cL_law 1723 = .ok (.invokevirtual 210, 3) := by decide +kernel
theorem dL_law_1726 : decode cL_law 1726 = .ok (.aload_n 2, 1) := by decide +kernel
theorem dL_law_1727 : decode cL_law 1727 = .ok (.aload_n 0, 1) := by decide +kernel
theorem dL_law_1728 : decode cL_law 1728 = .ok (.iload 4, 2) := by decide +kernel
theorem dL_law_1730 : decode cL_law 1730 = .ok (.iconst 1, 1) := by decide +kernel
theorem dL_law_1731 : decode cL_law 1731 = .ok (.iadd, 1) := by decide +kernel
theorem dL_law_1732 : decode cL_law 1732 = .ok (.iaload, 1) := by decide +kernel
theorem dL_law_1733 : decode cL_law 1733 = .ok (.invokevirtual 213, 3) := by decide +kernel
theorem dL_law_1736 : decode cL_law 1736 = .ok (.if_icmp .eq 55, 3) := by decide +kernel
theorem dL_law_1739 : decode cL_law 1739 = .ok (.iconst 0, 1) := by decide +kernel
theorem dL_law_1740 : decode cL_law 1740 = .ok (.ireturn, 1) := by decide +kernel
theorem dL_law_1741 : decode cL_law 1741 = .ok (.aload_n 1, 1) := by decide +kernel
theorem dL_law_1742 : decode cL_law 1742 = .ok (.aload_n 0, 1) := by decide +kernel
theorem dL_law_1743 : decode cL_law 1743 = .ok (.iload 4, 2) := by decide +kernel
theorem dL_law_1745 : decode cL_law 1745 = .ok (.iconst 1, 1) := by decide +kernel
theorem dL_law_1746 : decode cL_law 1746 = .ok (.iadd, 1) := by decide +kernel
theorem dL_law_1747 : decode cL_law 1747 = .ok (.iaload, 1) := by decide +kernel
theorem dL_law_1748 : decode cL_law 1748 = .ok (.aload_n 0, 1) := by decide +kernel
theorem dL_law_1749 : decode cL_law 1749 = .ok (.iload 4, 2) := by decide +kernel
theorem dL_law_1751 : decode cL_law 1751 = .ok (.iconst 2, 1) := by decide +kernel
theorem dL_law_1752 : decode cL_law 1752 = .ok (.iadd, 1) := by decide +kernel
theorem dL_law_1753 : decode cL_law 1753 = .ok (.iaload, 1) := by decide +kernel
theorem dL_law_1754 : decode cL_law 1754 = .ok (.invokevirtual 214, 3) := by decide +kernel
theorem dL_law_1757 : decode cL_law 1757 = .ok (.aload_n 2, 1) := by decide +kernel
theorem dL_law_1758 : decode cL_law 1758 = .ok (.aload_n 0, 1) := by decide +kernel
theorem dL_law_1759 : decode cL_law 1759 = .ok (.iload 4, 2) := by decide +kernel
theorem dL_law_1761 : decode cL_law 1761 = .ok (.iconst 1, 1) := by decide +kernel
theorem dL_law_1762 : decode cL_law 1762 = .ok (.iadd, 1) := by decide +kernel
theorem dL_law_1763 : decode cL_law 1763 = .ok (.iaload, 1) := by decide +kernel
theorem dL_law_1764 : decode cL_law 1764 = .ok (.aload_n 0, 1) := by decide +kernel
theorem dL_law_1765 : decode cL_law 1765 = .ok (.iload 4, 2) := by decide +kernel
theorem dL_law_1767 : decode cL_law 1767 = .ok (.iconst 2, 1) := by decide +kernel
theorem dL_law_1768 : decode cL_law 1768 = .ok (.iadd, 1) := by decide +kernel
theorem dL_law_1769 : decode cL_law 1769 = .ok (.iaload, 1) := by decide +kernel
theorem dL_law_1770 : decode cL_law 1770 = .ok (.invokevirtual 217, 3) := by decide +kernel
theorem dL_law_1773 : decode cL_law 1773 = .ok (.if_icmp .eq 18, 3) := by decide +kernel
theorem dL_law_1776 : decode cL_law 1776 = .ok (.iconst 0, 1) := by decide +kernel
theorem dL_law_1777 : decode cL_law 1777 = .ok (.ireturn, 1) := by decide +kernel
theorem dL_law_1778 : decode cL_law 1778 = .ok (.aload_n 1, 1) := by decide +kernel
theorem dL_law_1779 : decode cL_law 1779 = .ok (.invokevirtual 218, 3) := by decide +kernel
theorem dL_law_1782 : decode cL_law 1782 = .ok (.aload_n 2, 1) := by decide +kernel
theorem dL_law_1783 : decode cL_law 1783 = .ok (.invokevirtual 221, 3) := by decide +kernel
theorem dL_law_1786 : decode cL_law 1786 = .ok (.if_icmp .eq 5, 3) := by decide +kernel
theorem dL_law_1789 : decode cL_law 1789 = .ok (.iconst 0, 1) := by decide +kernel
theorem dL_law_1790 : decode cL_law 1790 = .ok (.ireturn, 1) := by decide +kernel
theorem dL_law_1791 : decode cL_law 1791 = .ok (.iinc 4 6, 3) := by decide +kernel
theorem dL_law_1794 : decode cL_law 1794 = .ok (.goto (-1771), 3) := by decide +kernel
theorem dL_law_1797 : decode cL_law 1797 = .ok (.iconst 1, 1) := by decide +kernel
theorem dL_law_1798 : decode cL_law 1798 = .ok (.ireturn, 1) := by decide +kernel
def lp_L_law_23 (LN : Nat) (XS : Nat → Int32) : Nat → Int32 → Mm → Option (Int32 × Mm)
  | 0, _, _ => none
  | n + 1, y4, M =>
    if ((nI LN) - (nI 6)) < y4 then (some ((nI 1), M)) else (gd (inb y4 LN) <| jn (fun (M1 : Mm) => lp_L_law_23 LN XS n (y4 + (nI 6)) M1) fun j2 => lt (((XS y4.toNatClampNeg) &&& (nI 63))) fun t3 => if t3 = (nI 0) then (gd (inb (y4 + (nI 1)) LN) <| gd (inb (y4 + (nI 2)) LN) <| gd (inb (y4 + (nI 3)) LN) <| gd (inb (y4 + (nI 4)) LN) <| gd (inb (y4 + (nI 5)) LN) <| bd (f_X9_feed (XS (y4 + (nI 1)).toNatClampNeg) (XS (y4 + (nI 2)).toNatClampNeg) (XS (y4 + (nI 3)).toNatClampNeg) (XS (y4 + (nI 4)).toNatClampNeg) (XS (y4 + (nI 5)).toNatClampNeg) M) fun v271_6 M271_5 => gd (inb (y4 + (nI 1)) LN) <| gd (inb (y4 + (nI 2)) LN) <| gd (inb (y4 + (nI 3)) LN) <| gd (inb (y4 + (nI 4)) LN) <| gd (inb (y4 + (nI 5)) LN) <| bd (f_X10_feed (XS (y4 + (nI 1)).toNatClampNeg) (XS (y4 + (nI 2)).toNatClampNeg) (XS (y4 + (nI 3)).toNatClampNeg) (XS (y4 + (nI 4)).toNatClampNeg) (XS (y4 + (nI 5)).toNatClampNeg) M271_5) fun v305_8 M305_7 => if v271_6 = v305_8 then (j2 M305_7) else (some ((nI 0), M305_7))) else (if t3 = (nI 1) then (gd (inb (y4 + (nI 1)) LN) <| bd (f_X9_game (XS (y4 + (nI 1)).toNatClampNeg) M) fun v320_12 M320_11 => gd (inb (y4 + (nI 1)) LN) <| bd (f_X10_game (XS (y4 + (nI 1)).toNatClampNeg) M320_11) fun v330_14 M330_13 => if v320_12 = v330_14 then (j2 M330_13) else (some ((nI 0), M330_13))) else (if t3 = (nI 2) then (bd (f_X9_fault  M) fun v339_18 M339_17 => bd (f_X10_fault  M339_17) fun v343_20 M343_19 => if v339_18 = v343_20 then (j2 M343_19) else (some ((nI 0), M343_19))) else (if t3 = (nI 3) then (bd (f_X9_where  M) fun v352_24 M352_23 => bd (f_X10_where  M352_23) fun v356_26 M356_25 => if v352_24 = v356_26 then (j2 M356_25) else (some ((nI 0), M356_25))) else (if t3 = (nI 4) then (gd (inb (y4 + (nI 1)) LN) <| bd (f_X9_start (XS (y4 + (nI 1)).toNatClampNeg) M) fun v371_30 M371_29 => gd (inb (y4 + (nI 1)) LN) <| bd (f_X10_start (XS (y4 + (nI 1)).toNatClampNeg) M371_29) fun v381_32 M381_31 => if v371_30 = v381_32 then (j2 M381_31) else (some ((nI 0), M381_31))) else (if t3 = (nI 5) then (gd (inb (y4 + (nI 1)) LN) <| bd (f_X9_tenths (XS (y4 + (nI 1)).toNatClampNeg) M) fun v396_36 M396_35 => gd (inb (y4 + (nI 1)) LN) <| bd (f_X10_tenths (XS (y4 + (nI 1)).toNatClampNeg) M396_35) fun v406_38 M406_37 => if v396_36 = v406_38 then (j2 M406_37) else (some ((nI 0), M406_37))) else (if t3 = (nI 6) then (bd (f_X9_round  M) fun v415_42 M415_41 => bd (f_X10_round  M415_41) fun v419_44 M419_43 => if v415_42 = v419_44 then (j2 M419_43) else (some ((nI 0), M419_43))) else (if t3 = (nI 7) then (gd (inb (y4 + (nI 1)) LN) <| gd (inb (y4 + (nI 2)) LN) <| bd (f_X9_bring (XS (y4 + (nI 1)).toNatClampNeg) (XS (y4 + (nI 2)).toNatClampNeg) M) fun v440_48 M440_47 => gd (inb (y4 + (nI 1)) LN) <| gd (inb (y4 + (nI 2)) LN) <| bd (f_X10_bring (XS (y4 + (nI 1)).toNatClampNeg) (XS (y4 + (nI 2)).toNatClampNeg) M440_47) fun v456_50 M456_49 => if v440_48 = v456_50 then (j2 M456_49) else (some ((nI 0), M456_49))) else (if t3 = (nI 8) then (gd (inb (y4 + (nI 1)) LN) <| bd (f_X9_right (XS (y4 + (nI 1)).toNatClampNeg) M) fun v471_54 M471_53 => gd (inb (y4 + (nI 1)) LN) <| bd (f_X10_right (XS (y4 + (nI 1)).toNatClampNeg) M471_53) fun v481_56 M481_55 => if v471_54 = v481_56 then (j2 M481_55) else (some ((nI 0), M481_55))) else (if t3 = (nI 9) then (gd (inb (y4 + (nI 1)) LN) <| gd (inb (y4 + (nI 2)) LN) <| bd (f_X9_about (XS (y4 + (nI 1)).toNatClampNeg) (XS (y4 + (nI 2)).toNatClampNeg) M) fun v502_60 M502_59 => gd (inb (y4 + (nI 1)) LN) <| gd (inb (y4 + (nI 2)) LN) <| bd (f_X10_about (XS (y4 + (nI 1)).toNatClampNeg) (XS (y4 + (nI 2)).toNatClampNeg) M502_59) fun v518_62 M518_61 => if v502_60 = v518_62 then (j2 M518_61) else (some ((nI 0), M518_61))) else (if t3 = (nI 10) then (gd (inb (y4 + (nI 1)) LN) <| bd (f_X9_play (XS (y4 + (nI 1)).toNatClampNeg) M) fun v533_66 M533_65 => gd (inb (y4 + (nI 1)) LN) <| bd (f_X10_play (XS (y4 + (nI 1)).toNatClampNeg) M533_65) fun v543_68 M543_67 => if v533_66 = v543_68 then (j2 M543_67) else (some ((nI 0), M543_67))) else (if t3 = (nI 11) then (gd (inb (y4 + (nI 1)) LN) <| bd (f_X9_often (XS (y4 + (nI 1)).toNatClampNeg) M) fun v558_72 M558_71 => gd (inb (y4 + (nI 1)) LN) <| bd (f_X10_often (XS (y4 + (nI 1)).toNatClampNeg) M558_71) fun v568_74 M568_73 => if v558_72 = v568_74 then (j2 M568_73) else (some ((nI 0), M568_73))) else (if t3 = (nI 12) then (bd (f_X9_mark  M) fun v577_78 M577_77 => bd (f_X10_mark  M577_77) fun v581_80 M581_79 => if v577_78 = v581_80 then (j2 M581_79) else (some ((nI 0), M581_79))) else (if t3 = (nI 13) then (gd (inb (y4 + (nI 1)) LN) <| bd (f_X9_back (XS (y4 + (nI 1)).toNatClampNeg) M) fun v596_84 M596_83 => gd (inb (y4 + (nI 1)) LN) <| bd (f_X10_back (XS (y4 + (nI 1)).toNatClampNeg) M596_83) fun v606_86 M606_85 => if v596_84 = v606_86 then (j2 M606_85) else (some ((nI 0), M606_85))) else (if t3 = (nI 14) then (gd (inb (y4 + (nI 1)) LN) <| bd (f_X9_behind (XS (y4 + (nI 1)).toNatClampNeg) M) fun v621_90 M621_89 => gd (inb (y4 + (nI 1)) LN) <| bd (f_X10_behind (XS (y4 + (nI 1)).toNatClampNeg) M621_89) fun v631_92 M631_91 => if (lg_cmp v621_90 v631_92) = 0 then (j2 M631_91) else (some ((nI 0), M631_91))) else (if t3 = (nI 15) then (bd (f_X9_ways  M) fun v641_96 M641_95 => bd (f_X10_ways  M641_95) fun v645_98 M645_97 => if (lg_cmp v641_96 v645_98) = 0 then (j2 M645_97) else (some ((nI 0), M645_97))) else (if t3 = (nI 16) then (gd (inb (y4 + (nI 1)) LN) <| gd (inb (y4 + (nI 2)) LN) <| gd (inb (y4 + (nI 3)) LN) <| bd (f_X9_risk (XS (y4 + (nI 1)).toNatClampNeg) (XS (y4 + (nI 2)).toNatClampNeg) (XS (y4 + (nI 3)).toNatClampNeg) M) fun v673_102 M673_101 => gd (inb (y4 + (nI 1)) LN) <| gd (inb (y4 + (nI 2)) LN) <| gd (inb (y4 + (nI 3)) LN) <| bd (f_X10_risk (XS (y4 + (nI 1)).toNatClampNeg) (XS (y4 + (nI 2)).toNatClampNeg) (XS (y4 + (nI 3)).toNatClampNeg) M673_101) fun v695_104 M695_103 => if (lg_cmp v673_102 v695_104) = 0 then (j2 M695_103) else (some ((nI 0), M695_103))) else (if t3 = (nI 17) then (gd (inb (y4 + (nI 1)) LN) <| gd (inb (y4 + (nI 2)) LN) <| gd (inb (y4 + (nI 3)) LN) <| gd (inb (y4 + (nI 4)) LN) <| jn (fun (s107 : Int32) (M108 : Mm) => bd (f_X9_gain (XS (y4 + (nI 1)).toNatClampNeg) (XS (y4 + (nI 2)).toNatClampNeg) (XS (y4 + (nI 3)).toNatClampNeg) s107 M108) fun v737_111 M737_110 => gd (inb (y4 + (nI 1)) LN) <| gd (inb (y4 + (nI 2)) LN) <| gd (inb (y4 + (nI 3)) LN) <| gd (inb (y4 + (nI 4)) LN) <| jn (fun (s112 : Int32) (M113 : Mm) => bd (f_X10_gain (XS (y4 + (nI 1)).toNatClampNeg) (XS (y4 + (nI 2)).toNatClampNeg) (XS (y4 + (nI 3)).toNatClampNeg) s112 M113) fun v773_116 M773_115 => if (lg_cmp v737_111 v773_116) = 0 then (j2 M773_115) else (some ((nI 0), M773_115))) fun j114 => if (XS (y4 + (nI 4)).toNatClampNeg) = 0 then (j114 (nI 0) M737_110) else (j114 (nI 1) M737_110)) fun j109 => if (XS (y4 + (nI 4)).toNatClampNeg) = 0 then (j109 (nI 0) M) else (j109 (nI 1) M)) else (if t3 = (nI 18) then (gd (inb (y4 + (nI 1)) LN) <| gd (inb (y4 + (nI 2)) LN) <| gd (inb (y4 + (nI 3)) LN) <| jn (fun (s121 : Int32) (M122 : Mm) => bd (f_X9_best (XS (y4 + (nI 1)).toNatClampNeg) (XS (y4 + (nI 2)).toNatClampNeg) s121 M122) fun v809_125 M809_124 => gd (inb (y4 + (nI 1)) LN) <| gd (inb (y4 + (nI 2)) LN) <| gd (inb (y4 + (nI 3)) LN) <| jn (fun (s126 : Int32) (M127 : Mm) => bd (f_X10_best (XS (y4 + (nI 1)).toNatClampNeg) (XS (y4 + (nI 2)).toNatClampNeg) s126 M127) fun v839_130 M839_129 => if v809_125 = v839_130 then (j2 M839_129) else (some ((nI 0), M839_129))) fun j128 => if (XS (y4 + (nI 3)).toNatClampNeg) = 0 then (j128 (nI 0) M809_124) else (j128 (nI 1) M809_124)) fun j123 => if (XS (y4 + (nI 3)).toNatClampNeg) = 0 then (j123 (nI 0) M) else (j123 (nI 1) M)) else (if t3 = (nI 19) then (gd (inb (y4 + (nI 1)) LN) <| gd (inb (y4 + (nI 2)) LN) <| bd (f_X9_worth (XS (y4 + (nI 1)).toNatClampNeg) (XS (y4 + (nI 2)).toNatClampNeg) M) fun v860_136 M860_135 => gd (inb (y4 + (nI 1)) LN) <| gd (inb (y4 + (nI 2)) LN) <| bd (f_X10_worth (XS (y4 + (nI 1)).toNatClampNeg) (XS (y4 + (nI 2)).toNatClampNeg) M860_135) fun v876_138 M876_137 => if (lg_cmp v860_136 v876_138) = 0 then (j2 M876_137) else (some ((nI 0), M876_137))) else (if t3 = (nI 20) then (gd (inb (y4 + (nI 1)) LN) <| gd (inb (y4 + (nI 2)) LN) <| bd (f_X9_rests (XS (y4 + (nI 1)).toNatClampNeg) (XS (y4 + (nI 2)).toNatClampNeg) M) fun v898_142 M898_141 => gd (inb (y4 + (nI 1)) LN) <| gd (inb (y4 + (nI 2)) LN) <| bd (f_X10_rests (XS (y4 + (nI 1)).toNatClampNeg) (XS (y4 + (nI 2)).toNatClampNeg) M898_141) fun v914_144 M914_143 => if v898_142 = v914_144 then (j2 M914_143) else (some ((nI 0), M914_143))) else (if t3 = (nI 21) then (gd (inb (y4 + (nI 1)) LN) <| gd (inb (y4 + (nI 2)) LN) <| gd (inb (y4 + (nI 3)) LN) <| bd (f_X9_rest (XS (y4 + (nI 1)).toNatClampNeg) (XS (y4 + (nI 2)).toNatClampNeg) (XS (y4 + (nI 3)).toNatClampNeg) M) fun v941_148 M941_147 => gd (inb (y4 + (nI 1)) LN) <| gd (inb (y4 + (nI 2)) LN) <| gd (inb (y4 + (nI 3)) LN) <| bd (f_X10_rest (XS (y4 + (nI 1)).toNatClampNeg) (XS (y4 + (nI 2)).toNatClampNeg) (XS (y4 + (nI 3)).toNatClampNeg) M941_147) fun v963_150 M963_149 => if v941_148 = v963_150 then (j2 M963_149) else (some ((nI 0), M963_149))) else (if t3 = (nI 22) then (bd (f_X9_watch  M) fun v972_154 M972_153 => bd (f_X10_watch  M972_153) fun v976_156 M976_155 => if v972_154 = v976_156 then (j2 M976_155) else (some ((nI 0), M976_155))) else (if t3 = (nI 23) then (gd (inb (y4 + (nI 1)) LN) <| bd (f_X9_both (XS (y4 + (nI 1)).toNatClampNeg) M) fun v991_160 M991_159 => gd (inb (y4 + (nI 1)) LN) <| bd (f_X10_both (XS (y4 + (nI 1)).toNatClampNeg) M991_159) fun v1001_162 M1001_161 => if (lg_cmp v991_160 v1001_162) = 0 then (j2 M1001_161) else (some ((nI 0), M1001_161))) else (if t3 = (nI 24) then (gd (inb (y4 + (nI 1)) LN) <| gd (inb (y4 + (nI 2)) LN) <| gd (inb (y4 + (nI 3)) LN) <| bd (f_X9_wins (XS (y4 + (nI 1)).toNatClampNeg) (XS (y4 + (nI 2)).toNatClampNeg) (XS (y4 + (nI 3)).toNatClampNeg) M) fun v1029_166 M1029_165 => gd (inb (y4 + (nI 1)) LN) <| gd (inb (y4 + (nI 2)) LN) <| gd (inb (y4 + (nI 3)) LN) <| bd (f_X10_wins (XS (y4 + (nI 1)).toNatClampNeg) (XS (y4 + (nI 2)).toNatClampNeg) (XS (y4 + (nI 3)).toNatClampNeg) M1029_165) fun v1051_168 M1051_167 => if v1029_166 = v1051_168 then (j2 M1051_167) else (some ((nI 0), M1051_167))) else (if t3 = (nI 25) then (gd (inb (y4 + (nI 1)) LN) <| gd (inb (y4 + (nI 2)) LN) <| bd (f_X9_lasts (XS (y4 + (nI 1)).toNatClampNeg) (XS (y4 + (nI 2)).toNatClampNeg) M) fun v1072_172 M1072_171 => gd (inb (y4 + (nI 1)) LN) <| gd (inb (y4 + (nI 2)) LN) <| bd (f_X10_lasts (XS (y4 + (nI 1)).toNatClampNeg) (XS (y4 + (nI 2)).toNatClampNeg) M1072_171) fun v1088_174 M1088_173 => if v1072_172 = v1088_174 then (j2 M1088_173) else (some ((nI 0), M1088_173))) else (if t3 = (nI 26) then (gd (inb (y4 + (nI 1)) LN) <| gd (inb (y4 + (nI 2)) LN) <| bd (f_X9_sent (XS (y4 + (nI 1)).toNatClampNeg) (XS (y4 + (nI 2)).toNatClampNeg) M) fun v1109_178 M1109_177 => gd (inb (y4 + (nI 1)) LN) <| gd (inb (y4 + (nI 2)) LN) <| bd (f_X10_sent (XS (y4 + (nI 1)).toNatClampNeg) (XS (y4 + (nI 2)).toNatClampNeg) M1109_177) fun v1125_180 M1125_179 => if v1109_178 = v1125_180 then (j2 M1125_179) else (some ((nI 0), M1125_179))) else (if t3 = (nI 27) then (gd (inb (y4 + (nI 1)) LN) <| gd (inb (y4 + (nI 2)) LN) <| bd (f_X9_looking (XS (y4 + (nI 1)).toNatClampNeg) (XS (y4 + (nI 2)).toNatClampNeg) M) fun v1146_184 M1146_183 => gd (inb (y4 + (nI 1)) LN) <| gd (inb (y4 + (nI 2)) LN) <| bd (f_X10_looking (XS (y4 + (nI 1)).toNatClampNeg) (XS (y4 + (nI 2)).toNatClampNeg) M1146_183) fun v1162_186 M1162_185 => if v1146_184 = v1162_186 then (j2 M1162_185) else (some ((nI 0), M1162_185))) else (if t3 = (nI 28) then (gd (inb (y4 + (nI 1)) LN) <| gd (inb (y4 + (nI 2)) LN) <| jn (fun (s189 : Int32) (M190 : Mm) => gd (inb (y4 + (nI 3)) LN) <| jn (fun (s192 : Int32) (M193 : Mm) => bd (f_X9_film (XS (y4 + (nI 1)).toNatClampNeg) s189 s192 M193) fun v1205_196 M1205_195 => gd (inb (y4 + (nI 1)) LN) <| gd (inb (y4 + (nI 2)) LN) <| jn (fun (s197 : Int32) (M198 : Mm) => gd (inb (y4 + (nI 3)) LN) <| jn (fun (s200 : Int32) (M201 : Mm) => bd (f_X10_film (XS (y4 + (nI 1)).toNatClampNeg) s197 s200 M201) fun v1243_204 M1243_203 => if v1205_196 = v1243_204 then (j2 M1243_203) else (some ((nI 0), M1243_203))) fun j202 => if (XS (y4 + (nI 3)).toNatClampNeg) = 0 then (j202 (nI 0) M198) else (j202 (nI 1) M198)) fun j199 => if (XS (y4 + (nI 2)).toNatClampNeg) = 0 then (j199 (nI 0) M1205_195) else (j199 (nI 1) M1205_195)) fun j194 => if (XS (y4 + (nI 3)).toNatClampNeg) = 0 then (j194 (nI 0) M190) else (j194 (nI 1) M190)) fun j191 => if (XS (y4 + (nI 2)).toNatClampNeg) = 0 then (j191 (nI 0) M) else (j191 (nI 1) M)) else (if t3 = (nI 29) then (gd (inb (y4 + (nI 1)) LN) <| bd (f_X9_law (XS (y4 + (nI 1)).toNatClampNeg) M) fun v1258_212 M1258_211 => gd (inb (y4 + (nI 1)) LN) <| bd (f_X10_law (XS (y4 + (nI 1)).toNatClampNeg) M1258_211) fun v1268_214 M1268_213 => if v1258_212 = v1268_214 then (j2 M1268_213) else (some ((nI 0), M1268_213))) else (if t3 = (nI 30) then (gd (inb (y4 + (nI 1)) LN) <| gd (inb (y4 + (nI 2)) LN) <| jn (fun (s217 : Int32) (M218 : Mm) => bd (f_X9_says (XS (y4 + (nI 1)).toNatClampNeg) s217 M218) fun v1297_221 M1297_220 => gd (inb (y4 + (nI 1)) LN) <| gd (inb (y4 + (nI 2)) LN) <| jn (fun (s222 : Int32) (M223 : Mm) => bd (f_X10_says (XS (y4 + (nI 1)).toNatClampNeg) s222 M223) fun v1321_226 M1321_225 => if v1297_221 = v1321_226 then (j2 M1321_225) else (some ((nI 0), M1321_225))) fun j224 => if (XS (y4 + (nI 2)).toNatClampNeg) = 0 then (j224 (nI 0) M1297_220) else (j224 (nI 1) M1297_220)) fun j219 => if (XS (y4 + (nI 2)).toNatClampNeg) = 0 then (j219 (nI 0) M) else (j219 (nI 1) M)) else (if t3 = (nI 31) then (bd (f_X9_off  M) fun v1330_232 M1330_231 => bd (f_X10_off  M1330_231) fun v1334_234 M1334_233 => if v1330_232 = v1334_234 then (j2 M1334_233) else (some ((nI 0), M1334_233))) else (if t3 = (nI 32) then (gd (inb (y4 + (nI 1)) LN) <| gd (inb (y4 + (nI 2)) LN) <| jn (fun (s237 : Int32) (M238 : Mm) => bd (f_X9_stop (XS (y4 + (nI 1)).toNatClampNeg) s237 M238) fun v1363_241 M1363_240 => gd (inb (y4 + (nI 1)) LN) <| gd (inb (y4 + (nI 2)) LN) <| jn (fun (s242 : Int32) (M243 : Mm) => bd (f_X10_stop (XS (y4 + (nI 1)).toNatClampNeg) s242 M243) fun v1387_246 M1387_245 => if v1363_241 = v1387_246 then (j2 M1387_245) else (some ((nI 0), M1387_245))) fun j244 => if (XS (y4 + (nI 2)).toNatClampNeg) = 0 then (j244 (nI 0) M1363_240) else (j244 (nI 1) M1363_240)) fun j239 => if (XS (y4 + (nI 2)).toNatClampNeg) = 0 then (j239 (nI 0) M) else (j239 (nI 1) M)) else (if t3 = (nI 33) then (gd (inb (y4 + (nI 1)) LN) <| gd (inb (y4 + (nI 2)) LN) <| jn (fun (s251 : Int32) (M252 : Mm) => bd (f_X9_span (XS (y4 + (nI 1)).toNatClampNeg) s251 M252) fun v1416_255 M1416_254 => gd (inb (y4 + (nI 1)) LN) <| gd (inb (y4 + (nI 2)) LN) <| jn (fun (s256 : Int32) (M257 : Mm) => bd (f_X10_span (XS (y4 + (nI 1)).toNatClampNeg) s256 M257) fun v1440_260 M1440_259 => if v1416_255 = v1440_260 then (j2 M1440_259) else (some ((nI 0), M1440_259))) fun j258 => if (XS (y4 + (nI 2)).toNatClampNeg) = 0 then (j258 (nI 0) M1416_254) else (j258 (nI 1) M1416_254)) fun j253 => if (XS (y4 + (nI 2)).toNatClampNeg) = 0 then (j253 (nI 0) M) else (j253 (nI 1) M)) else (if t3 = (nI 34) then (gd (inb (y4 + (nI 1)) LN) <| bd (f_X9_fits (XS (y4 + (nI 1)).toNatClampNeg) M) fun v1455_266 M1455_265 => gd (inb (y4 + (nI 1)) LN) <| bd (f_X10_fits (XS (y4 + (nI 1)).toNatClampNeg) M1455_265) fun v1465_268 M1465_267 => if v1455_266 = v1465_268 then (j2 M1465_267) else (some ((nI 0), M1465_267))) else (if t3 = (nI 35) then (gd (inb (y4 + (nI 1)) LN) <| gd (inb (y4 + (nI 2)) LN) <| bd (f_X9_home (XS (y4 + (nI 1)).toNatClampNeg) (XS (y4 + (nI 2)).toNatClampNeg) M) fun v1486_272 M1486_271 => gd (inb (y4 + (nI 1)) LN) <| gd (inb (y4 + (nI 2)) LN) <| bd (f_X10_home (XS (y4 + (nI 1)).toNatClampNeg) (XS (y4 + (nI 2)).toNatClampNeg) M1486_271) fun v1502_274 M1502_273 => if v1486_272 = v1502_274 then (j2 M1502_273) else (some ((nI 0), M1502_273))) else (if t3 = (nI 36) then (gd (inb (y4 + (nI 1)) LN) <| bd (f_X9_far (XS (y4 + (nI 1)).toNatClampNeg) M) fun v1517_278 M1517_277 => gd (inb (y4 + (nI 1)) LN) <| bd (f_X10_far (XS (y4 + (nI 1)).toNatClampNeg) M1517_277) fun v1527_280 M1527_279 => if v1517_278 = v1527_280 then (j2 M1527_279) else (some ((nI 0), M1527_279))) else (if t3 = (nI 37) then (bd (f_X9_fair  M) fun v1536_284 M1536_283 => bd (f_X10_fair  M1536_283) fun v1540_286 M1540_285 => if v1536_284 = v1540_286 then (j2 M1540_285) else (some ((nI 0), M1540_285))) else (if t3 = (nI 38) then (gd (inb (y4 + (nI 1)) LN) <| bd (f_X9_from (XS (y4 + (nI 1)).toNatClampNeg) M) fun v1555_290 M1555_289 => gd (inb (y4 + (nI 1)) LN) <| bd (f_X10_from (XS (y4 + (nI 1)).toNatClampNeg) M1555_289) fun v1565_292 M1565_291 => if v1555_290 = v1565_292 then (j2 M1565_291) else (some ((nI 0), M1565_291))) else (if t3 = (nI 39) then (gd (inb (y4 + (nI 1)) LN) <| bd (f_X9_lay (XS (y4 + (nI 1)).toNatClampNeg) M) fun v1580_296 M1580_295 => gd (inb (y4 + (nI 1)) LN) <| bd (f_X10_lay (XS (y4 + (nI 1)).toNatClampNeg) M1580_295) fun v1590_298 M1590_297 => if v1580_296 = v1590_298 then (j2 M1590_297) else (some ((nI 0), M1590_297))) else (if t3 = (nI 40) then (gd (inb (y4 + (nI 1)) LN) <| bd (f_X9_heard (XS (y4 + (nI 1)).toNatClampNeg) M) fun v1605_302 M1605_301 => gd (inb (y4 + (nI 1)) LN) <| bd (f_X10_heard (XS (y4 + (nI 1)).toNatClampNeg) M1605_301) fun v1615_304 M1615_303 => if v1605_302 = v1615_304 then (j2 M1615_303) else (some ((nI 0), M1615_303))) else (if t3 = (nI 41) then (gd (inb (y4 + (nI 1)) LN) <| gd (inb (y4 + (nI 2)) LN) <| bd (f_X9_loud (XS (y4 + (nI 1)).toNatClampNeg) (XS (y4 + (nI 2)).toNatClampNeg) M) fun v1636_308 M1636_307 => gd (inb (y4 + (nI 1)) LN) <| gd (inb (y4 + (nI 2)) LN) <| bd (f_X10_loud (XS (y4 + (nI 1)).toNatClampNeg) (XS (y4 + (nI 2)).toNatClampNeg) M1636_307) fun v1652_310 M1652_309 => if v1636_308 = v1652_310 then (j2 M1652_309) else (some ((nI 0), M1652_309))) else (if t3 = (nI 42) then (gd (inb (y4 + (nI 1)) LN) <| bd (f_L_led (XS (y4 + (nI 1)).toNatClampNeg) M) fun v_313 M_314 => gd (inb (y4 + (nI 1)) LN) <| bd (f_X10_led (XS (y4 + (nI 1)).toNatClampNeg) M_314) fun v1680_316 M1680_315 => bd (f_X10_thrown  M1680_315) fun v1686_318 M1686_317 => if v1686_318 = v_313 then (jn (fun (M319 : Mm) => j2 M319) fun j320 => if v_313 = 0 then (gd (inb (nI 0) 1) <| if (lg_cmp (M1686_317 96 (nI 0).toNatClampNeg).toInt64 v1680_316.toInt64) = 0 then (j320  M1686_317) else (some ((nI 0), M1686_317))) else (j320  M1686_317)) else (some ((nI 0), M1686_317))) else (if t3 = (nI 43) then (gd (inb (y4 + (nI 1)) LN) <| bd (f_X9_size (XS (y4 + (nI 1)).toNatClampNeg) M) fun v1723_326 M1723_325 => gd (inb (y4 + (nI 1)) LN) <| bd (f_X10_size (XS (y4 + (nI 1)).toNatClampNeg) M1723_325) fun v1733_328 M1733_327 => if v1723_326 = v1733_328 then (j2 M1733_327) else (some ((nI 0), M1733_327))) else (if t3 = (nI 44) then (gd (inb (y4 + (nI 1)) LN) <| gd (inb (y4 + (nI 2)) LN) <| bd (f_X9_creeper (XS (y4 + (nI 1)).toNatClampNeg) (XS (y4 + (nI 2)).toNatClampNeg) M) fun v1754_332 M1754_331 => gd (inb (y4 + (nI 1)) LN) <| gd (inb (y4 + (nI 2)) LN) <| bd (f_X10_creeper (XS (y4 + (nI 1)).toNatClampNeg) (XS (y4 + (nI 2)).toNatClampNeg) M1754_331) fun v1770_334 M1770_333 => if v1754_332 = v1770_334 then (j2 M1770_333) else (some ((nI 0), M1770_333))) else (if t3 = (nI 45) then (bd (f_X9_trouble  M) fun v1779_338 M1779_337 => bd (f_X10_trouble  M1779_337) fun v1783_340 M1783_339 => if v1779_338 = v1783_340 then (j2 M1783_339) else (some ((nI 0), M1783_339))) else (j2 M)))))))))))))))))))))))))))))))))))))))))))))))
set_option maxHeartbeats 40000000 in
set_option maxRecDepth 100000 in
theorem sl_L_law_23 {l : Launch} (hl : l.stackTraces = false) {B : BT} (hA : bA B = false) {d : Nat} {r : Int32} {M' : Mm} :
    ∀ (n : Nat) (y4 : Int32) (M : Mm) (c sl : Nat), c + n ≤ 601024 → sl + 6 * n ≤ 7293033 → lp_L_law_23 (bN B) (bX B) n y4 M = some (r, M') → GG l B LY (d + 14) yL_law cL_law 7 (some .boolean) 601024 7293033 (PI r M') 97 c sl 23 [(0, .ref (1000 + 46)), (1, .ref 0), (2, .ref 81), (3, .ref 96), (4, .int y4)] [] M := by
  intro n
  induction n with
  | zero => intro y4 M c sl hc hs h; cases h
  | succ n ih =>
    intro y4 M c sl hc hs h
    rw [lp_L_law_23] at h
    refine g_iload dL_law_23 4 rfl ?_
    refine g_aload_n dL_law_25 rfl 0 rfl ?_
    refine m_slength rfl dL_law_26 ?_
    refine g_bipush (v := (nI 6)) dL_law_27 (by decide) ?_
    refine g_isub dL_law_29 ?_
    refine g_icmp_gt (tgt := 1797) dL_law_30 (by decide) (fun c342 => ?_) (fun c342 => ?_)
    · replace h := ite_p c342 h
      refine g_iconst (v := (nI 1)) dL_law_1797 (by decide) ?_
      refine g_widen (k := 601024) (n' := 7293033) (by omega) (by omega) ?_
      exact g_zret rfl rfl (pi_of h) dL_law_1798
    · replace h := ite_n c342 h
      refine g_aload_n dL_law_33 rfl 0 rfl ?_
      refine g_iload dL_law_34 4 rfl ?_
      obtain ⟨hz, h⟩ := gd_s h
      refine m_sld hz dL_law_36 ?_
      refine g_bipush (v := (nI 63)) dL_law_37 (by decide) ?_
      refine g_iand dL_law_39 ?_
      obtain ⟨j2, ej2, h⟩ := jn_e h
      have hj2 : ∀ (M1 : Mm), j2 M1 = some (r, M') → GG l B LY (d + 14) yL_law cL_law 7 (some .boolean) 601024 7293033 (PI r M') 97 (c + 1) (sl + 6) 1791 [(0, .ref (1000 + 46)), (1, .ref 0), (2, .ref 81), (3, .ref 96), (4, .int y4)] [] M1 := by
        intro M1 h
        rw [ej2] at h
        refine g_iinc (v := (y4 + (nI 6))) (lv' := [(4, .int (y4 + (nI 6))), (0, .ref (1000 + 46)), (1, .ref 0), (2, .ref 81), (3, .ref 96)]) dL_law_1791 4 rfl rfl (by decide) rfl ?_
        refine g_goto (tgt := 23) dL_law_1794 (by decide) ?_
        refine g_sub [1, 2, 3, 4, 0] (lv' := [(0, .ref (1000 + 46)), (1, .ref 0), (2, .ref 81), (3, .ref 96), (4, .int (y4 + (nI 6)))]) rfl ?_
        exact ih _ _ _ _ (by omega) (by omega) h
      obtain ⟨t3, et3, h⟩ := lt_e h
      refine g_cuti et3 ?_
      by_cases c4 : t3 = (nI 0)
      · replace h := ite_p c4 h
        refine g_tabIn (tgt := 240) dL_law_40 (by rw [c4]; decide) (by rw [c4]; decide) (off := 200) (by rw [c4]; rfl) (by decide) ?_
        refine g_aload_n dL_law_240 rfl 1 rfl ?_
        refine g_aload_n dL_law_241 rfl 0 rfl ?_
        refine g_iload dL_law_242 4 rfl ?_
        refine g_iconst (v := (nI 1)) dL_law_244 (by decide) ?_
        refine g_iadd dL_law_245 ?_
        obtain ⟨hz, h⟩ := gd_s h
        refine m_sld hz dL_law_246 ?_
        refine g_aload_n dL_law_247 rfl 0 rfl ?_
        refine g_iload dL_law_248 4 rfl ?_
        refine g_iconst (v := (nI 2)) dL_law_250 (by decide) ?_
        refine g_iadd dL_law_251 ?_
        obtain ⟨hz, h⟩ := gd_s h
        refine m_sld hz dL_law_252 ?_
        refine g_aload_n dL_law_253 rfl 0 rfl ?_
        refine g_iload dL_law_254 4 rfl ?_
        refine g_iconst (v := (nI 3)) dL_law_256 (by decide) ?_
        refine g_iadd dL_law_257 ?_
        obtain ⟨hz, h⟩ := gd_s h
        refine m_sld hz dL_law_258 ?_
        refine g_aload_n dL_law_259 rfl 0 rfl ?_
        refine g_iload dL_law_260 4 rfl ?_
        refine g_iconst (v := (nI 4)) dL_law_262 (by decide) ?_
        refine g_iadd dL_law_263 ?_
        obtain ⟨hz, h⟩ := gd_s h
        refine m_sld hz dL_law_264 ?_
        refine g_aload_n dL_law_265 rfl 0 rfl ?_
        refine g_iload dL_law_266 4 rfl ?_
        refine g_iconst (v := (nI 5)) dL_law_268 (by decide) ?_
        refine g_iadd dL_law_269 ?_
        obtain ⟨hz, h⟩ := gd_s h
        refine m_sld hz dL_law_270 ?_
        obtain ⟨v271_6, M271_5, eM271_5, h⟩ := bd_e h
        refine m_callVi (hcs := ⟨by omega, by omega⟩) (As := [.int ((bX B) (y4 + (nI 1)).toNatClampNeg), .int ((bX B) (y4 + (nI 2)).toNatClampNeg), .int ((bX B) (y4 + (nI 3)).toNatClampNeg), .int ((bX B) (y4 + (nI 4)).toNatClampNeg), .int ((bX B) (y4 + (nI 5)).toNatClampNeg)]) (st := []) (s_X9_feed (d := d + 12) hA  eM271_5) rfl okX9 ck_X9_feed w_456 rfl (Nat.le_of_ble_eq_true rfl) dL_law_271 ?_
        refine g_aload_n dL_law_274 rfl 2 rfl ?_
        refine g_aload_n dL_law_275 rfl 0 rfl ?_
        refine g_iload dL_law_276 4 rfl ?_
        refine g_iconst (v := (nI 1)) dL_law_278 (by decide) ?_
        refine g_iadd dL_law_279 ?_
        obtain ⟨hz, h⟩ := gd_s h
        refine m_sld hz dL_law_280 ?_
        refine g_aload_n dL_law_281 rfl 0 rfl ?_
        refine g_iload dL_law_282 4 rfl ?_
        refine g_iconst (v := (nI 2)) dL_law_284 (by decide) ?_
        refine g_iadd dL_law_285 ?_
        obtain ⟨hz, h⟩ := gd_s h
        refine m_sld hz dL_law_286 ?_
        refine g_aload_n dL_law_287 rfl 0 rfl ?_
        refine g_iload dL_law_288 4 rfl ?_
        refine g_iconst (v := (nI 3)) dL_law_290 (by decide) ?_
        refine g_iadd dL_law_291 ?_
        obtain ⟨hz, h⟩ := gd_s h
        refine m_sld hz dL_law_292 ?_
        refine g_aload_n dL_law_293 rfl 0 rfl ?_
        refine g_iload dL_law_294 4 rfl ?_
        refine g_iconst (v := (nI 4)) dL_law_296 (by decide) ?_
        refine g_iadd dL_law_297 ?_
        obtain ⟨hz, h⟩ := gd_s h
        refine m_sld hz dL_law_298 ?_
        refine g_aload_n dL_law_299 rfl 0 rfl ?_
        refine g_iload dL_law_300 4 rfl ?_
        refine g_iconst (v := (nI 5)) dL_law_302 (by decide) ?_
        refine g_iadd dL_law_303 ?_
        obtain ⟨hz, h⟩ := gd_s h
        refine m_sld hz dL_law_304 ?_
        obtain ⟨v305_8, M305_7, eM305_7, h⟩ := bd_e h
        refine m_callVi (hcs := ⟨by omega, by omega⟩) (As := [.int ((bX B) (y4 + (nI 1)).toNatClampNeg), .int ((bX B) (y4 + (nI 2)).toNatClampNeg), .int ((bX B) (y4 + (nI 3)).toNatClampNeg), .int ((bX B) (y4 + (nI 4)).toNatClampNeg), .int ((bX B) (y4 + (nI 5)).toNatClampNeg)]) (st := [.int v271_6]) (s_X10_feed (d := d + 13) hA  eM305_7) rfl okX10 ck_X10_feed w_1373 rfl (Nat.le_of_ble_eq_true rfl) dL_law_305 ?_
        refine g_icmp_eq (tgt := 1791) dL_law_308 (by decide) (fun c9 => ?_) (fun c9 => ?_)
        · replace h := ite_p c9 h
          refine g_sub [0, 1, 2, 3, 4] (lv' := [(0, .ref (1000 + 46)), (1, .ref 0), (2, .ref 81), (3, .ref 96), (4, .int y4)]) rfl ?_
          refine g_widen (k := c + 1) (n' := sl + 6) (by omega) (by omega) ?_
          exact hj2 _ h
        · replace h := ite_n c9 h
          refine g_iconst (v := (nI 0)) dL_law_311 (by decide) ?_
          refine g_widen (k := 601024) (n' := 7293033) (by omega) (by omega) ?_
          exact g_zret rfl rfl (pi_of h) dL_law_312
      replace h := ite_n c4 h
      by_cases c10 : t3 = (nI 1)
      · replace h := ite_p c10 h
        refine g_tabIn (tgt := 313) dL_law_40 (by rw [c10]; decide) (by rw [c10]; decide) (off := 273) (by rw [c10]; rfl) (by decide) ?_
        refine g_aload_n dL_law_313 rfl 1 rfl ?_
        refine g_aload_n dL_law_314 rfl 0 rfl ?_
        refine g_iload dL_law_315 4 rfl ?_
        refine g_iconst (v := (nI 1)) dL_law_317 (by decide) ?_
        refine g_iadd dL_law_318 ?_
        obtain ⟨hz, h⟩ := gd_s h
        refine m_sld hz dL_law_319 ?_
        obtain ⟨v320_12, M320_11, eM320_11, h⟩ := bd_e h
        refine m_callVi (hcs := ⟨by omega, by omega⟩) (As := [.int ((bX B) (y4 + (nI 1)).toNatClampNeg)]) (st := []) (s_X9_game (d := d + 4) hA  eM320_11) rfl okX9 ck_X9_game w_464 rfl (Nat.le_of_ble_eq_true rfl) dL_law_320 ?_
        refine g_aload_n dL_law_323 rfl 2 rfl ?_
        refine g_aload_n dL_law_324 rfl 0 rfl ?_
        refine g_iload dL_law_325 4 rfl ?_
        refine g_iconst (v := (nI 1)) dL_law_327 (by decide) ?_
        refine g_iadd dL_law_328 ?_
        obtain ⟨hz, h⟩ := gd_s h
        refine m_sld hz dL_law_329 ?_
        obtain ⟨v330_14, M330_13, eM330_13, h⟩ := bd_e h
        refine m_callVi (hcs := ⟨by omega, by omega⟩) (As := [.int ((bX B) (y4 + (nI 1)).toNatClampNeg)]) (st := [.int v320_12]) (s_X10_game (d := d + 3) hA  eM330_13) rfl okX10 ck_X10_game w_1377 rfl (Nat.le_of_ble_eq_true rfl) dL_law_330 ?_
        refine g_icmp_eq (tgt := 1791) dL_law_333 (by decide) (fun c15 => ?_) (fun c15 => ?_)
        · replace h := ite_p c15 h
          refine g_sub [0, 1, 2, 3, 4] (lv' := [(0, .ref (1000 + 46)), (1, .ref 0), (2, .ref 81), (3, .ref 96), (4, .int y4)]) rfl ?_
          refine g_widen (k := c + 1) (n' := sl + 6) (by omega) (by omega) ?_
          exact hj2 _ h
        · replace h := ite_n c15 h
          refine g_iconst (v := (nI 0)) dL_law_336 (by decide) ?_
          refine g_widen (k := 601024) (n' := 7293033) (by omega) (by omega) ?_
          exact g_zret rfl rfl (pi_of h) dL_law_337
      replace h := ite_n c10 h
      by_cases c16 : t3 = (nI 2)
      · replace h := ite_p c16 h
        refine g_tabIn (tgt := 338) dL_law_40 (by rw [c16]; decide) (by rw [c16]; decide) (off := 298) (by rw [c16]; rfl) (by decide) ?_
        refine g_aload_n dL_law_338 rfl 1 rfl ?_
        obtain ⟨v339_18, M339_17, eM339_17, h⟩ := bd_e h
        refine m_callVi (hcs := ⟨by omega, by omega⟩) (As := []) (st := []) (s_X9_fault (d := d + 13) hA  eM339_17) rfl okX9 ck_X9_fault w_681 rfl (Nat.le_of_ble_eq_true rfl) dL_law_339 ?_
        refine g_aload_n dL_law_342 rfl 2 rfl ?_
        obtain ⟨v343_20, M343_19, eM343_19, h⟩ := bd_e h
        refine m_callVi (hcs := ⟨by omega, by omega⟩) (As := []) (st := [.int v339_18]) (s_X10_fault (d := d + 13) hA  eM343_19) rfl okX10 ck_X10_fault w_1495 rfl (Nat.le_of_ble_eq_true rfl) dL_law_343 ?_
        refine g_icmp_eq (tgt := 1791) dL_law_346 (by decide) (fun c21 => ?_) (fun c21 => ?_)
        · replace h := ite_p c21 h
          refine g_sub [0, 1, 2, 3, 4] (lv' := [(0, .ref (1000 + 46)), (1, .ref 0), (2, .ref 81), (3, .ref 96), (4, .int y4)]) rfl ?_
          refine g_widen (k := c + 1) (n' := sl + 6) (by omega) (by omega) ?_
          exact hj2 _ h
        · replace h := ite_n c21 h
          refine g_iconst (v := (nI 0)) dL_law_349 (by decide) ?_
          refine g_widen (k := 601024) (n' := 7293033) (by omega) (by omega) ?_
          exact g_zret rfl rfl (pi_of h) dL_law_350
      replace h := ite_n c16 h
      by_cases c22 : t3 = (nI 3)
      · replace h := ite_p c22 h
        refine g_tabIn (tgt := 351) dL_law_40 (by rw [c22]; decide) (by rw [c22]; decide) (off := 311) (by rw [c22]; rfl) (by decide) ?_
        refine g_aload_n dL_law_351 rfl 1 rfl ?_
        obtain ⟨v352_24, M352_23, eM352_23, h⟩ := bd_e h
        refine m_callVi (hcs := ⟨by omega, by omega⟩) (As := []) (st := []) (s_X9_where (d := d + 13) hA  eM352_23) rfl okX9 ck_X9_where w_685 rfl (Nat.le_of_ble_eq_true rfl) dL_law_352 ?_
        refine g_aload_n dL_law_355 rfl 2 rfl ?_
        obtain ⟨v356_26, M356_25, eM356_25, h⟩ := bd_e h
        refine m_callVi (hcs := ⟨by omega, by omega⟩) (As := []) (st := [.int v352_24]) (s_X10_where (d := d + 13) hA  eM356_25) rfl okX10 ck_X10_where w_1499 rfl (Nat.le_of_ble_eq_true rfl) dL_law_356 ?_
        refine g_icmp_eq (tgt := 1791) dL_law_359 (by decide) (fun c27 => ?_) (fun c27 => ?_)
        · replace h := ite_p c27 h
          refine g_sub [0, 1, 2, 3, 4] (lv' := [(0, .ref (1000 + 46)), (1, .ref 0), (2, .ref 81), (3, .ref 96), (4, .int y4)]) rfl ?_
          refine g_widen (k := c + 1) (n' := sl + 6) (by omega) (by omega) ?_
          exact hj2 _ h
        · replace h := ite_n c27 h
          refine g_iconst (v := (nI 0)) dL_law_362 (by decide) ?_
          refine g_widen (k := 601024) (n' := 7293033) (by omega) (by omega) ?_
          exact g_zret rfl rfl (pi_of h) dL_law_363
      replace h := ite_n c22 h
      by_cases c28 : t3 = (nI 4)
      · replace h := ite_p c28 h
        refine g_tabIn (tgt := 364) dL_law_40 (by rw [c28]; decide) (by rw [c28]; decide) (off := 324) (by rw [c28]; rfl) (by decide) ?_
        refine g_aload_n dL_law_364 rfl 1 rfl ?_
        refine g_aload_n dL_law_365 rfl 0 rfl ?_
        refine g_iload dL_law_366 4 rfl ?_
        refine g_iconst (v := (nI 1)) dL_law_368 (by decide) ?_
        refine g_iadd dL_law_369 ?_
        obtain ⟨hz, h⟩ := gd_s h
        refine m_sld hz dL_law_370 ?_
        obtain ⟨v371_30, M371_29, eM371_29, h⟩ := bd_e h
        refine m_callVi (hcs := ⟨by omega, by omega⟩) (As := [.int ((bX B) (y4 + (nI 1)).toNatClampNeg)]) (st := []) (s_X9_start (d := d + 11) hA  eM371_29) rfl okX9 ck_X9_start w_689 rfl (Nat.le_of_ble_eq_true rfl) dL_law_371 ?_
        refine g_aload_n dL_law_374 rfl 2 rfl ?_
        refine g_aload_n dL_law_375 rfl 0 rfl ?_
        refine g_iload dL_law_376 4 rfl ?_
        refine g_iconst (v := (nI 1)) dL_law_378 (by decide) ?_
        refine g_iadd dL_law_379 ?_
        obtain ⟨hz, h⟩ := gd_s h
        refine m_sld hz dL_law_380 ?_
        obtain ⟨v381_32, M381_31, eM381_31, h⟩ := bd_e h
        refine m_callVi (hcs := ⟨by omega, by omega⟩) (As := [.int ((bX B) (y4 + (nI 1)).toNatClampNeg)]) (st := [.int v371_30]) (s_X10_start (d := d + 12) hA  eM381_31) rfl okX10 ck_X10_start w_1503 rfl (Nat.le_of_ble_eq_true rfl) dL_law_381 ?_
        refine g_icmp_eq (tgt := 1791) dL_law_384 (by decide) (fun c33 => ?_) (fun c33 => ?_)
        · replace h := ite_p c33 h
          refine g_sub [0, 1, 2, 3, 4] (lv' := [(0, .ref (1000 + 46)), (1, .ref 0), (2, .ref 81), (3, .ref 96), (4, .int y4)]) rfl ?_
          refine g_widen (k := c + 1) (n' := sl + 6) (by omega) (by omega) ?_
          exact hj2 _ h
        · replace h := ite_n c33 h
          refine g_iconst (v := (nI 0)) dL_law_387 (by decide) ?_
          refine g_widen (k := 601024) (n' := 7293033) (by omega) (by omega) ?_
          exact g_zret rfl rfl (pi_of h) dL_law_388
      replace h := ite_n c28 h
      by_cases c34 : t3 = (nI 5)
      · replace h := ite_p c34 h
        refine g_tabIn (tgt := 389) dL_law_40 (by rw [c34]; decide) (by rw [c34]; decide) (off := 349) (by rw [c34]; rfl) (by decide) ?_
        refine g_aload_n dL_law_389 rfl 1 rfl ?_
        refine g_aload_n dL_law_390 rfl 0 rfl ?_
        refine g_iload dL_law_391 4 rfl ?_
        refine g_iconst (v := (nI 1)) dL_law_393 (by decide) ?_
        refine g_iadd dL_law_394 ?_
        obtain ⟨hz, h⟩ := gd_s h
        refine m_sld hz dL_law_395 ?_
        obtain ⟨v396_36, M396_35, eM396_35, h⟩ := bd_e h
        refine m_callVi (hcs := ⟨by omega, by omega⟩) (As := [.int ((bX B) (y4 + (nI 1)).toNatClampNeg)]) (st := []) (s_X9_tenths (d := d + 8) hA  eM396_35) rfl okX9 ck_X9_tenths w_706 rfl (Nat.le_of_ble_eq_true rfl) dL_law_396 ?_
        refine g_aload_n dL_law_399 rfl 2 rfl ?_
        refine g_aload_n dL_law_400 rfl 0 rfl ?_
        refine g_iload dL_law_401 4 rfl ?_
        refine g_iconst (v := (nI 1)) dL_law_403 (by decide) ?_
        refine g_iadd dL_law_404 ?_
        obtain ⟨hz, h⟩ := gd_s h
        refine m_sld hz dL_law_405 ?_
        obtain ⟨v406_38, M406_37, eM406_37, h⟩ := bd_e h
        refine m_callVi (hcs := ⟨by omega, by omega⟩) (As := [.int ((bX B) (y4 + (nI 1)).toNatClampNeg)]) (st := [.int v396_36]) (s_X10_tenths (d := d + 9) hA  eM406_37) rfl okX10 ck_X10_tenths w_1512 rfl (Nat.le_of_ble_eq_true rfl) dL_law_406 ?_
        refine g_icmp_eq (tgt := 1791) dL_law_409 (by decide) (fun c39 => ?_) (fun c39 => ?_)
        · replace h := ite_p c39 h
          refine g_sub [0, 1, 2, 3, 4] (lv' := [(0, .ref (1000 + 46)), (1, .ref 0), (2, .ref 81), (3, .ref 96), (4, .int y4)]) rfl ?_
          refine g_widen (k := c + 1) (n' := sl + 6) (by omega) (by omega) ?_
          exact hj2 _ h
        · replace h := ite_n c39 h
          refine g_iconst (v := (nI 0)) dL_law_412 (by decide) ?_
          refine g_widen (k := 601024) (n' := 7293033) (by omega) (by omega) ?_
          exact g_zret rfl rfl (pi_of h) dL_law_413
      replace h := ite_n c34 h
      by_cases c40 : t3 = (nI 6)
      · replace h := ite_p c40 h
        refine g_tabIn (tgt := 414) dL_law_40 (by rw [c40]; decide) (by rw [c40]; decide) (off := 374) (by rw [c40]; rfl) (by decide) ?_
        refine g_aload_n dL_law_414 rfl 1 rfl ?_
        obtain ⟨v415_42, M415_41, eM415_41, h⟩ := bd_e h
        refine m_callVi (hcs := ⟨by omega, by omega⟩) (As := []) (st := []) (s_X9_round (d := d + 8) hA  eM415_41) rfl okX9 ck_X9_round w_804 rfl (Nat.le_of_ble_eq_true rfl) dL_law_415 ?_
        refine g_aload_n dL_law_418 rfl 2 rfl ?_
        obtain ⟨v419_44, M419_43, eM419_43, h⟩ := bd_e h
        refine m_callVi (hcs := ⟨by omega, by omega⟩) (As := []) (st := [.int v415_42]) (s_X10_round (d := d + 9) hA  eM419_43) rfl okX10 ck_X10_round w_1564 rfl (Nat.le_of_ble_eq_true rfl) dL_law_419 ?_
        refine g_icmp_eq (tgt := 1791) dL_law_422 (by decide) (fun c45 => ?_) (fun c45 => ?_)
        · replace h := ite_p c45 h
          refine g_sub [0, 1, 2, 3, 4] (lv' := [(0, .ref (1000 + 46)), (1, .ref 0), (2, .ref 81), (3, .ref 96), (4, .int y4)]) rfl ?_
          refine g_widen (k := c + 1) (n' := sl + 6) (by omega) (by omega) ?_
          exact hj2 _ h
        · replace h := ite_n c45 h
          refine g_iconst (v := (nI 0)) dL_law_425 (by decide) ?_
          refine g_widen (k := 601024) (n' := 7293033) (by omega) (by omega) ?_
          exact g_zret rfl rfl (pi_of h) dL_law_426
      replace h := ite_n c40 h
      by_cases c46 : t3 = (nI 7)
      · replace h := ite_p c46 h
        refine g_tabIn (tgt := 427) dL_law_40 (by rw [c46]; decide) (by rw [c46]; decide) (off := 387) (by rw [c46]; rfl) (by decide) ?_
        refine g_aload_n dL_law_427 rfl 1 rfl ?_
        refine g_aload_n dL_law_428 rfl 0 rfl ?_
        refine g_iload dL_law_429 4 rfl ?_
        refine g_iconst (v := (nI 1)) dL_law_431 (by decide) ?_
        refine g_iadd dL_law_432 ?_
        obtain ⟨hz, h⟩ := gd_s h
        refine m_sld hz dL_law_433 ?_
        refine g_aload_n dL_law_434 rfl 0 rfl ?_
        refine g_iload dL_law_435 4 rfl ?_
        refine g_iconst (v := (nI 2)) dL_law_437 (by decide) ?_
        refine g_iadd dL_law_438 ?_
        obtain ⟨hz, h⟩ := gd_s h
        refine m_sld hz dL_law_439 ?_
        obtain ⟨v440_48, M440_47, eM440_47, h⟩ := bd_e h
        refine m_callVi (hcs := ⟨by omega, by omega⟩) (As := [.int ((bX B) (y4 + (nI 1)).toNatClampNeg), .int ((bX B) (y4 + (nI 2)).toNatClampNeg)]) (st := []) (s_X9_bring (d := d + 12) hA  eM440_47) rfl okX9 ck_X9_bring w_812 rfl (Nat.le_of_ble_eq_true rfl) dL_law_440 ?_
        refine g_aload_n dL_law_443 rfl 2 rfl ?_
        refine g_aload_n dL_law_444 rfl 0 rfl ?_
        refine g_iload dL_law_445 4 rfl ?_
        refine g_iconst (v := (nI 1)) dL_law_447 (by decide) ?_
        refine g_iadd dL_law_448 ?_
        obtain ⟨hz, h⟩ := gd_s h
        refine m_sld hz dL_law_449 ?_
        refine g_aload_n dL_law_450 rfl 0 rfl ?_
        refine g_iload dL_law_451 4 rfl ?_
        refine g_iconst (v := (nI 2)) dL_law_453 (by decide) ?_
        refine g_iadd dL_law_454 ?_
        obtain ⟨hz, h⟩ := gd_s h
        refine m_sld hz dL_law_455 ?_
        obtain ⟨v456_50, M456_49, eM456_49, h⟩ := bd_e h
        refine m_callVi (hcs := ⟨by omega, by omega⟩) (As := [.int ((bX B) (y4 + (nI 1)).toNatClampNeg), .int ((bX B) (y4 + (nI 2)).toNatClampNeg)]) (st := [.int v440_48]) (s_X10_bring (d := d + 11) hA  eM456_49) rfl okX10 ck_X10_bring w_1568 rfl (Nat.le_of_ble_eq_true rfl) dL_law_456 ?_
        refine g_icmp_eq (tgt := 1791) dL_law_459 (by decide) (fun c51 => ?_) (fun c51 => ?_)
        · replace h := ite_p c51 h
          refine g_sub [0, 1, 2, 3, 4] (lv' := [(0, .ref (1000 + 46)), (1, .ref 0), (2, .ref 81), (3, .ref 96), (4, .int y4)]) rfl ?_
          refine g_widen (k := c + 1) (n' := sl + 6) (by omega) (by omega) ?_
          exact hj2 _ h
        · replace h := ite_n c51 h
          refine g_iconst (v := (nI 0)) dL_law_462 (by decide) ?_
          refine g_widen (k := 601024) (n' := 7293033) (by omega) (by omega) ?_
          exact g_zret rfl rfl (pi_of h) dL_law_463
      replace h := ite_n c46 h
      by_cases c52 : t3 = (nI 8)
      · replace h := ite_p c52 h
        refine g_tabIn (tgt := 464) dL_law_40 (by rw [c52]; decide) (by rw [c52]; decide) (off := 424) (by rw [c52]; rfl) (by decide) ?_
        refine g_aload_n dL_law_464 rfl 1 rfl ?_
        refine g_aload_n dL_law_465 rfl 0 rfl ?_
        refine g_iload dL_law_466 4 rfl ?_
        refine g_iconst (v := (nI 1)) dL_law_468 (by decide) ?_
        refine g_iadd dL_law_469 ?_
        obtain ⟨hz, h⟩ := gd_s h
        refine m_sld hz dL_law_470 ?_
        obtain ⟨v471_54, M471_53, eM471_53, h⟩ := bd_e h
        refine m_callVi (hcs := ⟨by omega, by omega⟩) (As := [.int ((bX B) (y4 + (nI 1)).toNatClampNeg)]) (st := []) (s_X9_right (d := d + 10) hA  eM471_53) rfl okX9 ck_X9_right w_824 rfl (Nat.le_of_ble_eq_true rfl) dL_law_471 ?_
        refine g_aload_n dL_law_474 rfl 2 rfl ?_
        refine g_aload_n dL_law_475 rfl 0 rfl ?_
        refine g_iload dL_law_476 4 rfl ?_
        refine g_iconst (v := (nI 1)) dL_law_478 (by decide) ?_
        refine g_iadd dL_law_479 ?_
        obtain ⟨hz, h⟩ := gd_s h
        refine m_sld hz dL_law_480 ?_
        obtain ⟨v481_56, M481_55, eM481_55, h⟩ := bd_e h
        refine m_callVi (hcs := ⟨by omega, by omega⟩) (As := [.int ((bX B) (y4 + (nI 1)).toNatClampNeg)]) (st := [.int v471_54]) (s_X10_right (d := d + 11) hA  eM481_55) rfl okX10 ck_X10_right w_1576 rfl (Nat.le_of_ble_eq_true rfl) dL_law_481 ?_
        refine g_icmp_eq (tgt := 1791) dL_law_484 (by decide) (fun c57 => ?_) (fun c57 => ?_)
        · replace h := ite_p c57 h
          refine g_sub [0, 1, 2, 3, 4] (lv' := [(0, .ref (1000 + 46)), (1, .ref 0), (2, .ref 81), (3, .ref 96), (4, .int y4)]) rfl ?_
          refine g_widen (k := c + 1) (n' := sl + 6) (by omega) (by omega) ?_
          exact hj2 _ h
        · replace h := ite_n c57 h
          refine g_iconst (v := (nI 0)) dL_law_487 (by decide) ?_
          refine g_widen (k := 601024) (n' := 7293033) (by omega) (by omega) ?_
          exact g_zret rfl rfl (pi_of h) dL_law_488
      replace h := ite_n c52 h
      by_cases c58 : t3 = (nI 9)
      · replace h := ite_p c58 h
        refine g_tabIn (tgt := 489) dL_law_40 (by rw [c58]; decide) (by rw [c58]; decide) (off := 449) (by rw [c58]; rfl) (by decide) ?_
        refine g_aload_n dL_law_489 rfl 1 rfl ?_
        refine g_aload_n dL_law_490 rfl 0 rfl ?_
        refine g_iload dL_law_491 4 rfl ?_
        refine g_iconst (v := (nI 1)) dL_law_493 (by decide) ?_
        refine g_iadd dL_law_494 ?_
        obtain ⟨hz, h⟩ := gd_s h
        refine m_sld hz dL_law_495 ?_
        refine g_aload_n dL_law_496 rfl 0 rfl ?_
        refine g_iload dL_law_497 4 rfl ?_
        refine g_iconst (v := (nI 2)) dL_law_499 (by decide) ?_
        refine g_iadd dL_law_500 ?_
        obtain ⟨hz, h⟩ := gd_s h
        refine m_sld hz dL_law_501 ?_
        obtain ⟨v502_60, M502_59, eM502_59, h⟩ := bd_e h
        refine m_callVi (hcs := ⟨by omega, by omega⟩) (As := [.int ((bX B) (y4 + (nI 1)).toNatClampNeg), .int ((bX B) (y4 + (nI 2)).toNatClampNeg)]) (st := []) (s_X9_about (d := d + 10) hA  eM502_59) rfl okX9 ck_X9_about w_832 rfl (Nat.le_of_ble_eq_true rfl) dL_law_502 ?_
        refine g_aload_n dL_law_505 rfl 2 rfl ?_
        refine g_aload_n dL_law_506 rfl 0 rfl ?_
        refine g_iload dL_law_507 4 rfl ?_
        refine g_iconst (v := (nI 1)) dL_law_509 (by decide) ?_
        refine g_iadd dL_law_510 ?_
        obtain ⟨hz, h⟩ := gd_s h
        refine m_sld hz dL_law_511 ?_
        refine g_aload_n dL_law_512 rfl 0 rfl ?_
        refine g_iload dL_law_513 4 rfl ?_
        refine g_iconst (v := (nI 2)) dL_law_515 (by decide) ?_
        refine g_iadd dL_law_516 ?_
        obtain ⟨hz, h⟩ := gd_s h
        refine m_sld hz dL_law_517 ?_
        obtain ⟨v518_62, M518_61, eM518_61, h⟩ := bd_e h
        refine m_callVi (hcs := ⟨by omega, by omega⟩) (As := [.int ((bX B) (y4 + (nI 1)).toNatClampNeg), .int ((bX B) (y4 + (nI 2)).toNatClampNeg)]) (st := [.int v502_60]) (s_X10_about (d := d + 11) hA  eM518_61) rfl okX10 ck_X10_about w_1580 rfl (Nat.le_of_ble_eq_true rfl) dL_law_518 ?_
        refine g_icmp_eq (tgt := 1791) dL_law_521 (by decide) (fun c63 => ?_) (fun c63 => ?_)
        · replace h := ite_p c63 h
          refine g_sub [0, 1, 2, 3, 4] (lv' := [(0, .ref (1000 + 46)), (1, .ref 0), (2, .ref 81), (3, .ref 96), (4, .int y4)]) rfl ?_
          refine g_widen (k := c + 1) (n' := sl + 6) (by omega) (by omega) ?_
          exact hj2 _ h
        · replace h := ite_n c63 h
          refine g_iconst (v := (nI 0)) dL_law_524 (by decide) ?_
          refine g_widen (k := 601024) (n' := 7293033) (by omega) (by omega) ?_
          exact g_zret rfl rfl (pi_of h) dL_law_525
      replace h := ite_n c58 h
      by_cases c64 : t3 = (nI 10)
      · replace h := ite_p c64 h
        refine g_tabIn (tgt := 526) dL_law_40 (by rw [c64]; decide) (by rw [c64]; decide) (off := 486) (by rw [c64]; rfl) (by decide) ?_
        refine g_aload_n dL_law_526 rfl 1 rfl ?_
        refine g_aload_n dL_law_527 rfl 0 rfl ?_
        refine g_iload dL_law_528 4 rfl ?_
        refine g_iconst (v := (nI 1)) dL_law_530 (by decide) ?_
        refine g_iadd dL_law_531 ?_
        obtain ⟨hz, h⟩ := gd_s h
        refine m_sld hz dL_law_532 ?_
        obtain ⟨v533_66, M533_65, eM533_65, h⟩ := bd_e h
        refine m_callVi (hcs := ⟨by omega, by omega⟩) (As := [.int ((bX B) (y4 + (nI 1)).toNatClampNeg)]) (st := []) (s_X9_play (d := d + 8) hA  eM533_65) rfl okX9 ck_X9_play w_837 rfl (Nat.le_of_ble_eq_true rfl) dL_law_533 ?_
        refine g_aload_n dL_law_536 rfl 2 rfl ?_
        refine g_aload_n dL_law_537 rfl 0 rfl ?_
        refine g_iload dL_law_538 4 rfl ?_
        refine g_iconst (v := (nI 1)) dL_law_540 (by decide) ?_
        refine g_iadd dL_law_541 ?_
        obtain ⟨hz, h⟩ := gd_s h
        refine m_sld hz dL_law_542 ?_
        obtain ⟨v543_68, M543_67, eM543_67, h⟩ := bd_e h
        refine m_callVi (hcs := ⟨by omega, by omega⟩) (As := [.int ((bX B) (y4 + (nI 1)).toNatClampNeg)]) (st := [.int v533_66]) (s_X10_play (d := d + 12) hA  eM543_67) rfl okX10 ck_X10_play w_1584 rfl (Nat.le_of_ble_eq_true rfl) dL_law_543 ?_
        refine g_icmp_eq (tgt := 1791) dL_law_546 (by decide) (fun c69 => ?_) (fun c69 => ?_)
        · replace h := ite_p c69 h
          refine g_sub [0, 1, 2, 3, 4] (lv' := [(0, .ref (1000 + 46)), (1, .ref 0), (2, .ref 81), (3, .ref 96), (4, .int y4)]) rfl ?_
          refine g_widen (k := c + 1) (n' := sl + 6) (by omega) (by omega) ?_
          exact hj2 _ h
        · replace h := ite_n c69 h
          refine g_iconst (v := (nI 0)) dL_law_549 (by decide) ?_
          refine g_widen (k := 601024) (n' := 7293033) (by omega) (by omega) ?_
          exact g_zret rfl rfl (pi_of h) dL_law_550
      replace h := ite_n c64 h
      by_cases c70 : t3 = (nI 11)
      · replace h := ite_p c70 h
        refine g_tabIn (tgt := 551) dL_law_40 (by rw [c70]; decide) (by rw [c70]; decide) (off := 511) (by rw [c70]; rfl) (by decide) ?_
        refine g_aload_n dL_law_551 rfl 1 rfl ?_
        refine g_aload_n dL_law_552 rfl 0 rfl ?_
        refine g_iload dL_law_553 4 rfl ?_
        refine g_iconst (v := (nI 1)) dL_law_555 (by decide) ?_
        refine g_iadd dL_law_556 ?_
        obtain ⟨hz, h⟩ := gd_s h
        refine m_sld hz dL_law_557 ?_
        obtain ⟨v558_72, M558_71, eM558_71, h⟩ := bd_e h
        refine m_callVi (hcs := ⟨by omega, by omega⟩) (As := [.int ((bX B) (y4 + (nI 1)).toNatClampNeg)]) (st := []) (s_X9_often (d := d + 12) hA  eM558_71) rfl okX9 ck_X9_often w_867 rfl (Nat.le_of_ble_eq_true rfl) dL_law_558 ?_
        refine g_aload_n dL_law_561 rfl 2 rfl ?_
        refine g_aload_n dL_law_562 rfl 0 rfl ?_
        refine g_iload dL_law_563 4 rfl ?_
        refine g_iconst (v := (nI 1)) dL_law_565 (by decide) ?_
        refine g_iadd dL_law_566 ?_
        obtain ⟨hz, h⟩ := gd_s h
        refine m_sld hz dL_law_567 ?_
        obtain ⟨v568_74, M568_73, eM568_73, h⟩ := bd_e h
        refine m_callVi (hcs := ⟨by omega, by omega⟩) (As := [.int ((bX B) (y4 + (nI 1)).toNatClampNeg)]) (st := [.int v558_72]) (s_X10_often (d := d + 11) hA  eM568_73) rfl okX10 ck_X10_often w_1592 rfl (Nat.le_of_ble_eq_true rfl) dL_law_568 ?_
        refine g_icmp_eq (tgt := 1791) dL_law_571 (by decide) (fun c75 => ?_) (fun c75 => ?_)
        · replace h := ite_p c75 h
          refine g_sub [0, 1, 2, 3, 4] (lv' := [(0, .ref (1000 + 46)), (1, .ref 0), (2, .ref 81), (3, .ref 96), (4, .int y4)]) rfl ?_
          refine g_widen (k := c + 1) (n' := sl + 6) (by omega) (by omega) ?_
          exact hj2 _ h
        · replace h := ite_n c75 h
          refine g_iconst (v := (nI 0)) dL_law_574 (by decide) ?_
          refine g_widen (k := 601024) (n' := 7293033) (by omega) (by omega) ?_
          exact g_zret rfl rfl (pi_of h) dL_law_575
      replace h := ite_n c70 h
      by_cases c76 : t3 = (nI 12)
      · replace h := ite_p c76 h
        refine g_tabIn (tgt := 576) dL_law_40 (by rw [c76]; decide) (by rw [c76]; decide) (off := 536) (by rw [c76]; rfl) (by decide) ?_
        refine g_aload_n dL_law_576 rfl 1 rfl ?_
        obtain ⟨v577_78, M577_77, eM577_77, h⟩ := bd_e h
        refine m_callVi (hcs := ⟨by omega, by omega⟩) (As := []) (st := []) (s_X9_mark (d := d + 10) hA  eM577_77) rfl okX9 ck_X9_mark w_872 rfl (Nat.le_of_ble_eq_true rfl) dL_law_577 ?_
        refine g_aload_n dL_law_580 rfl 2 rfl ?_
        obtain ⟨v581_80, M581_79, eM581_79, h⟩ := bd_e h
        refine m_callVi (hcs := ⟨by omega, by omega⟩) (As := []) (st := [.int v577_78]) (s_X10_mark (d := d + 12) hA  eM581_79) rfl okX10 ck_X10_mark w_1596 rfl (Nat.le_of_ble_eq_true rfl) dL_law_581 ?_
        refine g_icmp_eq (tgt := 1791) dL_law_584 (by decide) (fun c81 => ?_) (fun c81 => ?_)
        · replace h := ite_p c81 h
          refine g_sub [0, 1, 2, 3, 4] (lv' := [(0, .ref (1000 + 46)), (1, .ref 0), (2, .ref 81), (3, .ref 96), (4, .int y4)]) rfl ?_
          refine g_widen (k := c + 1) (n' := sl + 6) (by omega) (by omega) ?_
          exact hj2 _ h
        · replace h := ite_n c81 h
          refine g_iconst (v := (nI 0)) dL_law_587 (by decide) ?_
          refine g_widen (k := 601024) (n' := 7293033) (by omega) (by omega) ?_
          exact g_zret rfl rfl (pi_of h) dL_law_588
      replace h := ite_n c76 h
      by_cases c82 : t3 = (nI 13)
      · replace h := ite_p c82 h
        refine g_tabIn (tgt := 589) dL_law_40 (by rw [c82]; decide) (by rw [c82]; decide) (off := 549) (by rw [c82]; rfl) (by decide) ?_
        refine g_aload_n dL_law_589 rfl 1 rfl ?_
        refine g_aload_n dL_law_590 rfl 0 rfl ?_
        refine g_iload dL_law_591 4 rfl ?_
        refine g_iconst (v := (nI 1)) dL_law_593 (by decide) ?_
        refine g_iadd dL_law_594 ?_
        obtain ⟨hz, h⟩ := gd_s h
        refine m_sld hz dL_law_595 ?_
        obtain ⟨v596_84, M596_83, eM596_83, h⟩ := bd_e h
        refine m_callVi (hcs := ⟨by omega, by omega⟩) (As := [.int ((bX B) (y4 + (nI 1)).toNatClampNeg)]) (st := []) (s_X9_back (d := d + 10) hA  eM596_83) rfl okX9 ck_X9_back w_880 rfl (Nat.le_of_ble_eq_true rfl) dL_law_596 ?_
        refine g_aload_n dL_law_599 rfl 2 rfl ?_
        refine g_aload_n dL_law_600 rfl 0 rfl ?_
        refine g_iload dL_law_601 4 rfl ?_
        refine g_iconst (v := (nI 1)) dL_law_603 (by decide) ?_
        refine g_iadd dL_law_604 ?_
        obtain ⟨hz, h⟩ := gd_s h
        refine m_sld hz dL_law_605 ?_
        obtain ⟨v606_86, M606_85, eM606_85, h⟩ := bd_e h
        refine m_callVi (hcs := ⟨by omega, by omega⟩) (As := [.int ((bX B) (y4 + (nI 1)).toNatClampNeg)]) (st := [.int v596_84]) (s_X10_back (d := d + 12) hA  eM606_85) rfl okX10 ck_X10_back w_1604 rfl (Nat.le_of_ble_eq_true rfl) dL_law_606 ?_
        refine g_icmp_eq (tgt := 1791) dL_law_609 (by decide) (fun c87 => ?_) (fun c87 => ?_)
        · replace h := ite_p c87 h
          refine g_sub [0, 1, 2, 3, 4] (lv' := [(0, .ref (1000 + 46)), (1, .ref 0), (2, .ref 81), (3, .ref 96), (4, .int y4)]) rfl ?_
          refine g_widen (k := c + 1) (n' := sl + 6) (by omega) (by omega) ?_
          exact hj2 _ h
        · replace h := ite_n c87 h
          refine g_iconst (v := (nI 0)) dL_law_612 (by decide) ?_
          refine g_widen (k := 601024) (n' := 7293033) (by omega) (by omega) ?_
          exact g_zret rfl rfl (pi_of h) dL_law_613
      replace h := ite_n c82 h
      by_cases c88 : t3 = (nI 14)
      · replace h := ite_p c88 h
        refine g_tabIn (tgt := 614) dL_law_40 (by rw [c88]; decide) (by rw [c88]; decide) (off := 574) (by rw [c88]; rfl) (by decide) ?_
        refine g_aload_n dL_law_614 rfl 1 rfl ?_
        refine g_aload_n dL_law_615 rfl 0 rfl ?_
        refine g_iload dL_law_616 4 rfl ?_
        refine g_iconst (v := (nI 1)) dL_law_618 (by decide) ?_
        refine g_iadd dL_law_619 ?_
        obtain ⟨hz, h⟩ := gd_s h
        refine m_sld hz dL_law_620 ?_
        obtain ⟨v621_90, M621_89, eM621_89, h⟩ := bd_e h
        refine m_callVl (hcs := ⟨by omega, by omega⟩) (As := [.int ((bX B) (y4 + (nI 1)).toNatClampNeg)]) (st := []) (s_X9_behind (d := d + 10) hA  eM621_89) rfl okX9 ck_X9_behind w_884 rfl (Nat.le_of_ble_eq_true rfl) dL_law_621 ?_
        refine g_aload_n dL_law_624 rfl 2 rfl ?_
        refine g_aload_n dL_law_625 rfl 0 rfl ?_
        refine g_iload dL_law_626 4 rfl ?_
        refine g_iconst (v := (nI 1)) dL_law_628 (by decide) ?_
        refine g_iadd dL_law_629 ?_
        obtain ⟨hz, h⟩ := gd_s h
        refine m_sld hz dL_law_630 ?_
        obtain ⟨v631_92, M631_91, eM631_91, h⟩ := bd_e h
        refine m_callVl (hcs := ⟨by omega, by omega⟩) (As := [.int ((bX B) (y4 + (nI 1)).toNatClampNeg)]) (st := [.long v621_90]) (s_X10_behind (d := d + 12) hA  eM631_91) rfl okX10 ck_X10_behind w_1612 rfl (Nat.le_of_ble_eq_true rfl) dL_law_631 ?_
        refine g_lcmp dL_law_634 ?_
        refine g_if_eq (tgt := 1791) dL_law_635 (by decide) (fun c93 => ?_) (fun c93 => ?_)
        · replace h := ite_p c93 h
          refine g_sub [0, 1, 2, 3, 4] (lv' := [(0, .ref (1000 + 46)), (1, .ref 0), (2, .ref 81), (3, .ref 96), (4, .int y4)]) rfl ?_
          refine g_widen (k := c + 1) (n' := sl + 6) (by omega) (by omega) ?_
          exact hj2 _ h
        · replace h := ite_n c93 h
          refine g_iconst (v := (nI 0)) dL_law_638 (by decide) ?_
          refine g_widen (k := 601024) (n' := 7293033) (by omega) (by omega) ?_
          exact g_zret rfl rfl (pi_of h) dL_law_639
      replace h := ite_n c88 h
      by_cases c94 : t3 = (nI 15)
      · replace h := ite_p c94 h
        refine g_tabIn (tgt := 640) dL_law_40 (by rw [c94]; decide) (by rw [c94]; decide) (off := 600) (by rw [c94]; rfl) (by decide) ?_
        refine g_aload_n dL_law_640 rfl 1 rfl ?_
        obtain ⟨v641_96, M641_95, eM641_95, h⟩ := bd_e h
        refine m_callVl (hcs := ⟨by omega, by omega⟩) (As := []) (st := []) (s_X9_ways (d := d + 10) hA  eM641_95) rfl okX9 ck_X9_ways w_896 rfl (Nat.le_of_ble_eq_true rfl) dL_law_641 ?_
        refine g_aload_n dL_law_644 rfl 2 rfl ?_
        obtain ⟨v645_98, M645_97, eM645_97, h⟩ := bd_e h
        refine m_callVl (hcs := ⟨by omega, by omega⟩) (As := []) (st := [.long v641_96]) (s_X10_ways (d := d + 12) hA  eM645_97) rfl okX10 ck_X10_ways w_1621 rfl (Nat.le_of_ble_eq_true rfl) dL_law_645 ?_
        refine g_lcmp dL_law_648 ?_
        refine g_if_eq (tgt := 1791) dL_law_649 (by decide) (fun c99 => ?_) (fun c99 => ?_)
        · replace h := ite_p c99 h
          refine g_sub [0, 1, 2, 3, 4] (lv' := [(0, .ref (1000 + 46)), (1, .ref 0), (2, .ref 81), (3, .ref 96), (4, .int y4)]) rfl ?_
          refine g_widen (k := c + 1) (n' := sl + 6) (by omega) (by omega) ?_
          exact hj2 _ h
        · replace h := ite_n c99 h
          refine g_iconst (v := (nI 0)) dL_law_652 (by decide) ?_
          refine g_widen (k := 601024) (n' := 7293033) (by omega) (by omega) ?_
          exact g_zret rfl rfl (pi_of h) dL_law_653
      replace h := ite_n c94 h
      by_cases c100 : t3 = (nI 16)
      · replace h := ite_p c100 h
        refine g_tabIn (tgt := 654) dL_law_40 (by rw [c100]; decide) (by rw [c100]; decide) (off := 614) (by rw [c100]; rfl) (by decide) ?_
        refine g_aload_n dL_law_654 rfl 1 rfl ?_
        refine g_aload_n dL_law_655 rfl 0 rfl ?_
        refine g_iload dL_law_656 4 rfl ?_
        refine g_iconst (v := (nI 1)) dL_law_658 (by decide) ?_
        refine g_iadd dL_law_659 ?_
        obtain ⟨hz, h⟩ := gd_s h
        refine m_sld hz dL_law_660 ?_
        refine g_aload_n dL_law_661 rfl 0 rfl ?_
        refine g_iload dL_law_662 4 rfl ?_
        refine g_iconst (v := (nI 2)) dL_law_664 (by decide) ?_
        refine g_iadd dL_law_665 ?_
        obtain ⟨hz, h⟩ := gd_s h
        refine m_sld hz dL_law_666 ?_
        refine g_aload_n dL_law_667 rfl 0 rfl ?_
        refine g_iload dL_law_668 4 rfl ?_
        refine g_iconst (v := (nI 3)) dL_law_670 (by decide) ?_
        refine g_iadd dL_law_671 ?_
        obtain ⟨hz, h⟩ := gd_s h
        refine m_sld hz dL_law_672 ?_
        obtain ⟨v673_102, M673_101, eM673_101, h⟩ := bd_e h
        refine m_callVl (hcs := ⟨by omega, by omega⟩) (As := [.int ((bX B) (y4 + (nI 1)).toNatClampNeg), .int ((bX B) (y4 + (nI 2)).toNatClampNeg), .int ((bX B) (y4 + (nI 3)).toNatClampNeg)]) (st := []) (s_X9_risk (d := d + 9) hA  eM673_101) rfl okX9 ck_X9_risk w_903 rfl (Nat.le_of_ble_eq_true rfl) dL_law_673 ?_
        refine g_aload_n dL_law_676 rfl 2 rfl ?_
        refine g_aload_n dL_law_677 rfl 0 rfl ?_
        refine g_iload dL_law_678 4 rfl ?_
        refine g_iconst (v := (nI 1)) dL_law_680 (by decide) ?_
        refine g_iadd dL_law_681 ?_
        obtain ⟨hz, h⟩ := gd_s h
        refine m_sld hz dL_law_682 ?_
        refine g_aload_n dL_law_683 rfl 0 rfl ?_
        refine g_iload dL_law_684 4 rfl ?_
        refine g_iconst (v := (nI 2)) dL_law_686 (by decide) ?_
        refine g_iadd dL_law_687 ?_
        obtain ⟨hz, h⟩ := gd_s h
        refine m_sld hz dL_law_688 ?_
        refine g_aload_n dL_law_689 rfl 0 rfl ?_
        refine g_iload dL_law_690 4 rfl ?_
        refine g_iconst (v := (nI 3)) dL_law_692 (by decide) ?_
        refine g_iadd dL_law_693 ?_
        obtain ⟨hz, h⟩ := gd_s h
        refine m_sld hz dL_law_694 ?_
        obtain ⟨v695_104, M695_103, eM695_103, h⟩ := bd_e h
        refine m_callVl (hcs := ⟨by omega, by omega⟩) (As := [.int ((bX B) (y4 + (nI 1)).toNatClampNeg), .int ((bX B) (y4 + (nI 2)).toNatClampNeg), .int ((bX B) (y4 + (nI 3)).toNatClampNeg)]) (st := [.long v673_102]) (s_X10_risk (d := d + 9) hA  eM695_103) rfl okX10 ck_X10_risk w_1629 rfl (Nat.le_of_ble_eq_true rfl) dL_law_695 ?_
        refine g_lcmp dL_law_698 ?_
        refine g_if_eq (tgt := 1791) dL_law_699 (by decide) (fun c105 => ?_) (fun c105 => ?_)
        · replace h := ite_p c105 h
          refine g_sub [0, 1, 2, 3, 4] (lv' := [(0, .ref (1000 + 46)), (1, .ref 0), (2, .ref 81), (3, .ref 96), (4, .int y4)]) rfl ?_
          refine g_widen (k := c + 1) (n' := sl + 6) (by omega) (by omega) ?_
          exact hj2 _ h
        · replace h := ite_n c105 h
          refine g_iconst (v := (nI 0)) dL_law_702 (by decide) ?_
          refine g_widen (k := 601024) (n' := 7293033) (by omega) (by omega) ?_
          exact g_zret rfl rfl (pi_of h) dL_law_703
      replace h := ite_n c100 h
      by_cases c106 : t3 = (nI 17)
      · replace h := ite_p c106 h
        refine g_tabIn (tgt := 704) dL_law_40 (by rw [c106]; decide) (by rw [c106]; decide) (off := 664) (by rw [c106]; rfl) (by decide) ?_
        refine g_aload_n dL_law_704 rfl 1 rfl ?_
        refine g_aload_n dL_law_705 rfl 0 rfl ?_
        refine g_iload dL_law_706 4 rfl ?_
        refine g_iconst (v := (nI 1)) dL_law_708 (by decide) ?_
        refine g_iadd dL_law_709 ?_
        obtain ⟨hz, h⟩ := gd_s h
        refine m_sld hz dL_law_710 ?_
        refine g_aload_n dL_law_711 rfl 0 rfl ?_
        refine g_iload dL_law_712 4 rfl ?_
        refine g_iconst (v := (nI 2)) dL_law_714 (by decide) ?_
        refine g_iadd dL_law_715 ?_
        obtain ⟨hz, h⟩ := gd_s h
        refine m_sld hz dL_law_716 ?_
        refine g_aload_n dL_law_717 rfl 0 rfl ?_
        refine g_iload dL_law_718 4 rfl ?_
        refine g_iconst (v := (nI 3)) dL_law_720 (by decide) ?_
        refine g_iadd dL_law_721 ?_
        obtain ⟨hz, h⟩ := gd_s h
        refine m_sld hz dL_law_722 ?_
        refine g_aload_n dL_law_723 rfl 0 rfl ?_
        refine g_iload dL_law_724 4 rfl ?_
        refine g_iconst (v := (nI 4)) dL_law_726 (by decide) ?_
        refine g_iadd dL_law_727 ?_
        obtain ⟨hz, h⟩ := gd_s h
        refine m_sld hz dL_law_728 ?_
        obtain ⟨j109, ej109, h⟩ := jn_e h
        have hj109 : ∀ (s107 : Int32) (M108 : Mm), j109 s107 M108 = some (r, M') → GG l B LY (d + 14) yL_law cL_law 7 (some .boolean) 601024 7293033 (PI r M') 97 c sl 737 [(0, .ref (1000 + 46)), (1, .ref 0), (2, .ref 81), (3, .ref 96), (4, .int y4)] [.int s107, .int ((bX B) (y4 + (nI 3)).toNatClampNeg), .int ((bX B) (y4 + (nI 2)).toNatClampNeg), .int ((bX B) (y4 + (nI 1)).toNatClampNeg), .ref 0] M108 := by
          intro s107 M108 h
          rw [ej109] at h
          obtain ⟨v737_111, M737_110, eM737_110, h⟩ := bd_e h
          refine m_callVl (hcs := ⟨by omega, by omega⟩) (As := [.int ((bX B) (y4 + (nI 1)).toNatClampNeg), .int ((bX B) (y4 + (nI 2)).toNatClampNeg), .int ((bX B) (y4 + (nI 3)).toNatClampNeg), .int s107]) (st := []) (s_X9_gain (d := d + 8) hA  eM737_110) rfl okX9 ck_X9_gain w_930 rfl (Nat.le_of_ble_eq_true rfl) dL_law_737 ?_
          refine g_aload_n dL_law_740 rfl 2 rfl ?_
          refine g_aload_n dL_law_741 rfl 0 rfl ?_
          refine g_iload dL_law_742 4 rfl ?_
          refine g_iconst (v := (nI 1)) dL_law_744 (by decide) ?_
          refine g_iadd dL_law_745 ?_
          obtain ⟨hz, h⟩ := gd_s h
          refine m_sld hz dL_law_746 ?_
          refine g_aload_n dL_law_747 rfl 0 rfl ?_
          refine g_iload dL_law_748 4 rfl ?_
          refine g_iconst (v := (nI 2)) dL_law_750 (by decide) ?_
          refine g_iadd dL_law_751 ?_
          obtain ⟨hz, h⟩ := gd_s h
          refine m_sld hz dL_law_752 ?_
          refine g_aload_n dL_law_753 rfl 0 rfl ?_
          refine g_iload dL_law_754 4 rfl ?_
          refine g_iconst (v := (nI 3)) dL_law_756 (by decide) ?_
          refine g_iadd dL_law_757 ?_
          obtain ⟨hz, h⟩ := gd_s h
          refine m_sld hz dL_law_758 ?_
          refine g_aload_n dL_law_759 rfl 0 rfl ?_
          refine g_iload dL_law_760 4 rfl ?_
          refine g_iconst (v := (nI 4)) dL_law_762 (by decide) ?_
          refine g_iadd dL_law_763 ?_
          obtain ⟨hz, h⟩ := gd_s h
          refine m_sld hz dL_law_764 ?_
          obtain ⟨j114, ej114, h⟩ := jn_e h
          have hj114 : ∀ (s112 : Int32) (M113 : Mm), j114 s112 M113 = some (r, M') → GG l B LY (d + 14) yL_law cL_law 7 (some .boolean) 601024 7293033 (PI r M') 97 c sl 773 [(0, .ref (1000 + 46)), (1, .ref 0), (2, .ref 81), (3, .ref 96), (4, .int y4)] [.int s112, .int ((bX B) (y4 + (nI 3)).toNatClampNeg), .int ((bX B) (y4 + (nI 2)).toNatClampNeg), .int ((bX B) (y4 + (nI 1)).toNatClampNeg), .ref 81, .long v737_111] M113 := by
            intro s112 M113 h
            rw [ej114] at h
            obtain ⟨v773_116, M773_115, eM773_115, h⟩ := bd_e h
            refine m_callVl (hcs := ⟨by omega, by omega⟩) (As := [.int ((bX B) (y4 + (nI 1)).toNatClampNeg), .int ((bX B) (y4 + (nI 2)).toNatClampNeg), .int ((bX B) (y4 + (nI 3)).toNatClampNeg), .int s112]) (st := [.long v737_111]) (s_X10_gain (d := d + 8) hA  eM773_115) rfl okX10 ck_X10_gain w_1660 rfl (Nat.le_of_ble_eq_true rfl) dL_law_773 ?_
            refine g_lcmp dL_law_776 ?_
            refine g_if_eq (tgt := 1791) dL_law_777 (by decide) (fun c117 => ?_) (fun c117 => ?_)
            · replace h := ite_p c117 h
              refine g_sub [0, 1, 2, 3, 4] (lv' := [(0, .ref (1000 + 46)), (1, .ref 0), (2, .ref 81), (3, .ref 96), (4, .int y4)]) rfl ?_
              refine g_widen (k := c + 1) (n' := sl + 6) (by omega) (by omega) ?_
              exact hj2 _ h
            · replace h := ite_n c117 h
              refine g_iconst (v := (nI 0)) dL_law_780 (by decide) ?_
              refine g_widen (k := 601024) (n' := 7293033) (by omega) (by omega) ?_
              exact g_zret rfl rfl (pi_of h) dL_law_781
          refine g_if_eq (tgt := 772) dL_law_765 (by decide) (fun c118 => ?_) (fun c118 => ?_)
          · replace h := ite_p c118 h
            refine g_iconst (v := (nI 0)) dL_law_772 (by decide) ?_
            refine g_sub [0, 1, 2, 3, 4] (lv' := [(0, .ref (1000 + 46)), (1, .ref 0), (2, .ref 81), (3, .ref 96), (4, .int y4)]) rfl ?_
            exact hj114 _ _ h
          · replace h := ite_n c118 h
            refine g_iconst (v := (nI 1)) dL_law_768 (by decide) ?_
            refine g_goto (tgt := 773) dL_law_769 (by decide) ?_
            refine g_sub [0, 1, 2, 3, 4] (lv' := [(0, .ref (1000 + 46)), (1, .ref 0), (2, .ref 81), (3, .ref 96), (4, .int y4)]) rfl ?_
            exact hj114 _ _ h
        refine g_if_eq (tgt := 736) dL_law_729 (by decide) (fun c119 => ?_) (fun c119 => ?_)
        · replace h := ite_p c119 h
          refine g_iconst (v := (nI 0)) dL_law_736 (by decide) ?_
          refine g_sub [0, 1, 2, 3, 4] (lv' := [(0, .ref (1000 + 46)), (1, .ref 0), (2, .ref 81), (3, .ref 96), (4, .int y4)]) rfl ?_
          exact hj109 _ _ h
        · replace h := ite_n c119 h
          refine g_iconst (v := (nI 1)) dL_law_732 (by decide) ?_
          refine g_goto (tgt := 737) dL_law_733 (by decide) ?_
          refine g_sub [0, 1, 2, 3, 4] (lv' := [(0, .ref (1000 + 46)), (1, .ref 0), (2, .ref 81), (3, .ref 96), (4, .int y4)]) rfl ?_
          exact hj109 _ _ h
      replace h := ite_n c106 h
      by_cases c120 : t3 = (nI 18)
      · replace h := ite_p c120 h
        refine g_tabIn (tgt := 782) dL_law_40 (by rw [c120]; decide) (by rw [c120]; decide) (off := 742) (by rw [c120]; rfl) (by decide) ?_
        refine g_aload_n dL_law_782 rfl 1 rfl ?_
        refine g_aload_n dL_law_783 rfl 0 rfl ?_
        refine g_iload dL_law_784 4 rfl ?_
        refine g_iconst (v := (nI 1)) dL_law_786 (by decide) ?_
        refine g_iadd dL_law_787 ?_
        obtain ⟨hz, h⟩ := gd_s h
        refine m_sld hz dL_law_788 ?_
        refine g_aload_n dL_law_789 rfl 0 rfl ?_
        refine g_iload dL_law_790 4 rfl ?_
        refine g_iconst (v := (nI 2)) dL_law_792 (by decide) ?_
        refine g_iadd dL_law_793 ?_
        obtain ⟨hz, h⟩ := gd_s h
        refine m_sld hz dL_law_794 ?_
        refine g_aload_n dL_law_795 rfl 0 rfl ?_
        refine g_iload dL_law_796 4 rfl ?_
        refine g_iconst (v := (nI 3)) dL_law_798 (by decide) ?_
        refine g_iadd dL_law_799 ?_
        obtain ⟨hz, h⟩ := gd_s h
        refine m_sld hz dL_law_800 ?_
        obtain ⟨j123, ej123, h⟩ := jn_e h
        have hj123 : ∀ (s121 : Int32) (M122 : Mm), j123 s121 M122 = some (r, M') → GG l B LY (d + 14) yL_law cL_law 7 (some .boolean) 601024 7293033 (PI r M') 97 c sl 809 [(0, .ref (1000 + 46)), (1, .ref 0), (2, .ref 81), (3, .ref 96), (4, .int y4)] [.int s121, .int ((bX B) (y4 + (nI 2)).toNatClampNeg), .int ((bX B) (y4 + (nI 1)).toNatClampNeg), .ref 0] M122 := by
          intro s121 M122 h
          rw [ej123] at h
          obtain ⟨v809_125, M809_124, eM809_124, h⟩ := bd_e h
          refine m_callVi (hcs := ⟨by omega, by omega⟩) (As := [.int ((bX B) (y4 + (nI 1)).toNatClampNeg), .int ((bX B) (y4 + (nI 2)).toNatClampNeg), .int s121]) (st := []) (s_X9_best (d := d + 7) hA  eM809_124) rfl okX9 ck_X9_best w_941 rfl (Nat.le_of_ble_eq_true rfl) dL_law_809 ?_
          refine g_aload_n dL_law_812 rfl 2 rfl ?_
          refine g_aload_n dL_law_813 rfl 0 rfl ?_
          refine g_iload dL_law_814 4 rfl ?_
          refine g_iconst (v := (nI 1)) dL_law_816 (by decide) ?_
          refine g_iadd dL_law_817 ?_
          obtain ⟨hz, h⟩ := gd_s h
          refine m_sld hz dL_law_818 ?_
          refine g_aload_n dL_law_819 rfl 0 rfl ?_
          refine g_iload dL_law_820 4 rfl ?_
          refine g_iconst (v := (nI 2)) dL_law_822 (by decide) ?_
          refine g_iadd dL_law_823 ?_
          obtain ⟨hz, h⟩ := gd_s h
          refine m_sld hz dL_law_824 ?_
          refine g_aload_n dL_law_825 rfl 0 rfl ?_
          refine g_iload dL_law_826 4 rfl ?_
          refine g_iconst (v := (nI 3)) dL_law_828 (by decide) ?_
          refine g_iadd dL_law_829 ?_
          obtain ⟨hz, h⟩ := gd_s h
          refine m_sld hz dL_law_830 ?_
          obtain ⟨j128, ej128, h⟩ := jn_e h
          have hj128 : ∀ (s126 : Int32) (M127 : Mm), j128 s126 M127 = some (r, M') → GG l B LY (d + 14) yL_law cL_law 7 (some .boolean) 601024 7293033 (PI r M') 97 c sl 839 [(0, .ref (1000 + 46)), (1, .ref 0), (2, .ref 81), (3, .ref 96), (4, .int y4)] [.int s126, .int ((bX B) (y4 + (nI 2)).toNatClampNeg), .int ((bX B) (y4 + (nI 1)).toNatClampNeg), .ref 81, .int v809_125] M127 := by
            intro s126 M127 h
            rw [ej128] at h
            obtain ⟨v839_130, M839_129, eM839_129, h⟩ := bd_e h
            refine m_callVi (hcs := ⟨by omega, by omega⟩) (As := [.int ((bX B) (y4 + (nI 1)).toNatClampNeg), .int ((bX B) (y4 + (nI 2)).toNatClampNeg), .int s126]) (st := [.int v809_125]) (s_X10_best (d := d + 7) hA  eM839_129) rfl okX10 ck_X10_best w_1673 rfl (Nat.le_of_ble_eq_true rfl) dL_law_839 ?_
            refine g_icmp_eq (tgt := 1791) dL_law_842 (by decide) (fun c131 => ?_) (fun c131 => ?_)
            · replace h := ite_p c131 h
              refine g_sub [0, 1, 2, 3, 4] (lv' := [(0, .ref (1000 + 46)), (1, .ref 0), (2, .ref 81), (3, .ref 96), (4, .int y4)]) rfl ?_
              refine g_widen (k := c + 1) (n' := sl + 6) (by omega) (by omega) ?_
              exact hj2 _ h
            · replace h := ite_n c131 h
              refine g_iconst (v := (nI 0)) dL_law_845 (by decide) ?_
              refine g_widen (k := 601024) (n' := 7293033) (by omega) (by omega) ?_
              exact g_zret rfl rfl (pi_of h) dL_law_846
          refine g_if_eq (tgt := 838) dL_law_831 (by decide) (fun c132 => ?_) (fun c132 => ?_)
          · replace h := ite_p c132 h
            refine g_iconst (v := (nI 0)) dL_law_838 (by decide) ?_
            refine g_sub [0, 1, 2, 3, 4] (lv' := [(0, .ref (1000 + 46)), (1, .ref 0), (2, .ref 81), (3, .ref 96), (4, .int y4)]) rfl ?_
            exact hj128 _ _ h
          · replace h := ite_n c132 h
            refine g_iconst (v := (nI 1)) dL_law_834 (by decide) ?_
            refine g_goto (tgt := 839) dL_law_835 (by decide) ?_
            refine g_sub [0, 1, 2, 3, 4] (lv' := [(0, .ref (1000 + 46)), (1, .ref 0), (2, .ref 81), (3, .ref 96), (4, .int y4)]) rfl ?_
            exact hj128 _ _ h
        refine g_if_eq (tgt := 808) dL_law_801 (by decide) (fun c133 => ?_) (fun c133 => ?_)
        · replace h := ite_p c133 h
          refine g_iconst (v := (nI 0)) dL_law_808 (by decide) ?_
          refine g_sub [0, 1, 2, 3, 4] (lv' := [(0, .ref (1000 + 46)), (1, .ref 0), (2, .ref 81), (3, .ref 96), (4, .int y4)]) rfl ?_
          exact hj123 _ _ h
        · replace h := ite_n c133 h
          refine g_iconst (v := (nI 1)) dL_law_804 (by decide) ?_
          refine g_goto (tgt := 809) dL_law_805 (by decide) ?_
          refine g_sub [0, 1, 2, 3, 4] (lv' := [(0, .ref (1000 + 46)), (1, .ref 0), (2, .ref 81), (3, .ref 96), (4, .int y4)]) rfl ?_
          exact hj123 _ _ h
      replace h := ite_n c120 h
      by_cases c134 : t3 = (nI 19)
      · replace h := ite_p c134 h
        refine g_tabIn (tgt := 847) dL_law_40 (by rw [c134]; decide) (by rw [c134]; decide) (off := 807) (by rw [c134]; rfl) (by decide) ?_
        refine g_aload_n dL_law_847 rfl 1 rfl ?_
        refine g_aload_n dL_law_848 rfl 0 rfl ?_
        refine g_iload dL_law_849 4 rfl ?_
        refine g_iconst (v := (nI 1)) dL_law_851 (by decide) ?_
        refine g_iadd dL_law_852 ?_
        obtain ⟨hz, h⟩ := gd_s h
        refine m_sld hz dL_law_853 ?_
        refine g_aload_n dL_law_854 rfl 0 rfl ?_
        refine g_iload dL_law_855 4 rfl ?_
        refine g_iconst (v := (nI 2)) dL_law_857 (by decide) ?_
        refine g_iadd dL_law_858 ?_
        obtain ⟨hz, h⟩ := gd_s h
        refine m_sld hz dL_law_859 ?_
        obtain ⟨v860_136, M860_135, eM860_135, h⟩ := bd_e h
        refine m_callVl (hcs := ⟨by omega, by omega⟩) (As := [.int ((bX B) (y4 + (nI 1)).toNatClampNeg), .int ((bX B) (y4 + (nI 2)).toNatClampNeg)]) (st := []) (s_X9_worth (d := d + 7) hA  eM860_135) rfl okX9 ck_X9_worth w_950 rfl (Nat.le_of_ble_eq_true rfl) dL_law_860 ?_
        refine g_aload_n dL_law_863 rfl 2 rfl ?_
        refine g_aload_n dL_law_864 rfl 0 rfl ?_
        refine g_iload dL_law_865 4 rfl ?_
        refine g_iconst (v := (nI 1)) dL_law_867 (by decide) ?_
        refine g_iadd dL_law_868 ?_
        obtain ⟨hz, h⟩ := gd_s h
        refine m_sld hz dL_law_869 ?_
        refine g_aload_n dL_law_870 rfl 0 rfl ?_
        refine g_iload dL_law_871 4 rfl ?_
        refine g_iconst (v := (nI 2)) dL_law_873 (by decide) ?_
        refine g_iadd dL_law_874 ?_
        obtain ⟨hz, h⟩ := gd_s h
        refine m_sld hz dL_law_875 ?_
        obtain ⟨v876_138, M876_137, eM876_137, h⟩ := bd_e h
        refine m_callVl (hcs := ⟨by omega, by omega⟩) (As := [.int ((bX B) (y4 + (nI 1)).toNatClampNeg), .int ((bX B) (y4 + (nI 2)).toNatClampNeg)]) (st := [.long v860_136]) (s_X10_worth (d := d + 7) hA  eM876_137) rfl okX10 ck_X10_worth w_1681 rfl (Nat.le_of_ble_eq_true rfl) dL_law_876 ?_
        refine g_lcmp dL_law_879 ?_
        refine g_if_eq (tgt := 1791) dL_law_880 (by decide) (fun c139 => ?_) (fun c139 => ?_)
        · replace h := ite_p c139 h
          refine g_sub [0, 1, 2, 3, 4] (lv' := [(0, .ref (1000 + 46)), (1, .ref 0), (2, .ref 81), (3, .ref 96), (4, .int y4)]) rfl ?_
          refine g_widen (k := c + 1) (n' := sl + 6) (by omega) (by omega) ?_
          exact hj2 _ h
        · replace h := ite_n c139 h
          refine g_iconst (v := (nI 0)) dL_law_883 (by decide) ?_
          refine g_widen (k := 601024) (n' := 7293033) (by omega) (by omega) ?_
          exact g_zret rfl rfl (pi_of h) dL_law_884
      replace h := ite_n c134 h
      by_cases c140 : t3 = (nI 20)
      · replace h := ite_p c140 h
        refine g_tabIn (tgt := 885) dL_law_40 (by rw [c140]; decide) (by rw [c140]; decide) (off := 845) (by rw [c140]; rfl) (by decide) ?_
        refine g_aload_n dL_law_885 rfl 1 rfl ?_
        refine g_aload_n dL_law_886 rfl 0 rfl ?_
        refine g_iload dL_law_887 4 rfl ?_
        refine g_iconst (v := (nI 1)) dL_law_889 (by decide) ?_
        refine g_iadd dL_law_890 ?_
        obtain ⟨hz, h⟩ := gd_s h
        refine m_sld hz dL_law_891 ?_
        refine g_aload_n dL_law_892 rfl 0 rfl ?_
        refine g_iload dL_law_893 4 rfl ?_
        refine g_iconst (v := (nI 2)) dL_law_895 (by decide) ?_
        refine g_iadd dL_law_896 ?_
        obtain ⟨hz, h⟩ := gd_s h
        refine m_sld hz dL_law_897 ?_
        obtain ⟨v898_142, M898_141, eM898_141, h⟩ := bd_e h
        refine m_callVi (hcs := ⟨by omega, by omega⟩) (As := [.int ((bX B) (y4 + (nI 1)).toNatClampNeg), .int ((bX B) (y4 + (nI 2)).toNatClampNeg)]) (st := []) (s_X9_rests (d := d + 7) hA  eM898_141) rfl okX9 ck_X9_rests w_954 rfl (Nat.le_of_ble_eq_true rfl) dL_law_898 ?_
        refine g_aload_n dL_law_901 rfl 2 rfl ?_
        refine g_aload_n dL_law_902 rfl 0 rfl ?_
        refine g_iload dL_law_903 4 rfl ?_
        refine g_iconst (v := (nI 1)) dL_law_905 (by decide) ?_
        refine g_iadd dL_law_906 ?_
        obtain ⟨hz, h⟩ := gd_s h
        refine m_sld hz dL_law_907 ?_
        refine g_aload_n dL_law_908 rfl 0 rfl ?_
        refine g_iload dL_law_909 4 rfl ?_
        refine g_iconst (v := (nI 2)) dL_law_911 (by decide) ?_
        refine g_iadd dL_law_912 ?_
        obtain ⟨hz, h⟩ := gd_s h
        refine m_sld hz dL_law_913 ?_
        obtain ⟨v914_144, M914_143, eM914_143, h⟩ := bd_e h
        refine m_callVi (hcs := ⟨by omega, by omega⟩) (As := [.int ((bX B) (y4 + (nI 1)).toNatClampNeg), .int ((bX B) (y4 + (nI 2)).toNatClampNeg)]) (st := [.int v898_142]) (s_X10_rests (d := d + 7) hA  eM914_143) rfl okX10 ck_X10_rests w_1685 rfl (Nat.le_of_ble_eq_true rfl) dL_law_914 ?_
        refine g_icmp_eq (tgt := 1791) dL_law_917 (by decide) (fun c145 => ?_) (fun c145 => ?_)
        · replace h := ite_p c145 h
          refine g_sub [0, 1, 2, 3, 4] (lv' := [(0, .ref (1000 + 46)), (1, .ref 0), (2, .ref 81), (3, .ref 96), (4, .int y4)]) rfl ?_
          refine g_widen (k := c + 1) (n' := sl + 6) (by omega) (by omega) ?_
          exact hj2 _ h
        · replace h := ite_n c145 h
          refine g_iconst (v := (nI 0)) dL_law_920 (by decide) ?_
          refine g_widen (k := 601024) (n' := 7293033) (by omega) (by omega) ?_
          exact g_zret rfl rfl (pi_of h) dL_law_921
      replace h := ite_n c140 h
      by_cases c146 : t3 = (nI 21)
      · replace h := ite_p c146 h
        refine g_tabIn (tgt := 922) dL_law_40 (by rw [c146]; decide) (by rw [c146]; decide) (off := 882) (by rw [c146]; rfl) (by decide) ?_
        refine g_aload_n dL_law_922 rfl 1 rfl ?_
        refine g_aload_n dL_law_923 rfl 0 rfl ?_
        refine g_iload dL_law_924 4 rfl ?_
        refine g_iconst (v := (nI 1)) dL_law_926 (by decide) ?_
        refine g_iadd dL_law_927 ?_
        obtain ⟨hz, h⟩ := gd_s h
        refine m_sld hz dL_law_928 ?_
        refine g_aload_n dL_law_929 rfl 0 rfl ?_
        refine g_iload dL_law_930 4 rfl ?_
        refine g_iconst (v := (nI 2)) dL_law_932 (by decide) ?_
        refine g_iadd dL_law_933 ?_
        obtain ⟨hz, h⟩ := gd_s h
        refine m_sld hz dL_law_934 ?_
        refine g_aload_n dL_law_935 rfl 0 rfl ?_
        refine g_iload dL_law_936 4 rfl ?_
        refine g_iconst (v := (nI 3)) dL_law_938 (by decide) ?_
        refine g_iadd dL_law_939 ?_
        obtain ⟨hz, h⟩ := gd_s h
        refine m_sld hz dL_law_940 ?_
        obtain ⟨v941_148, M941_147, eM941_147, h⟩ := bd_e h
        refine m_callVi (hcs := ⟨by omega, by omega⟩) (As := [.int ((bX B) (y4 + (nI 1)).toNatClampNeg), .int ((bX B) (y4 + (nI 2)).toNatClampNeg), .int ((bX B) (y4 + (nI 3)).toNatClampNeg)]) (st := []) (s_X9_rest (d := d + 7) hA  eM941_147) rfl okX9 ck_X9_rest w_964 rfl (Nat.le_of_ble_eq_true rfl) dL_law_941 ?_
        refine g_aload_n dL_law_944 rfl 2 rfl ?_
        refine g_aload_n dL_law_945 rfl 0 rfl ?_
        refine g_iload dL_law_946 4 rfl ?_
        refine g_iconst (v := (nI 1)) dL_law_948 (by decide) ?_
        refine g_iadd dL_law_949 ?_
        obtain ⟨hz, h⟩ := gd_s h
        refine m_sld hz dL_law_950 ?_
        refine g_aload_n dL_law_951 rfl 0 rfl ?_
        refine g_iload dL_law_952 4 rfl ?_
        refine g_iconst (v := (nI 2)) dL_law_954 (by decide) ?_
        refine g_iadd dL_law_955 ?_
        obtain ⟨hz, h⟩ := gd_s h
        refine m_sld hz dL_law_956 ?_
        refine g_aload_n dL_law_957 rfl 0 rfl ?_
        refine g_iload dL_law_958 4 rfl ?_
        refine g_iconst (v := (nI 3)) dL_law_960 (by decide) ?_
        refine g_iadd dL_law_961 ?_
        obtain ⟨hz, h⟩ := gd_s h
        refine m_sld hz dL_law_962 ?_
        obtain ⟨v963_150, M963_149, eM963_149, h⟩ := bd_e h
        refine m_callVi (hcs := ⟨by omega, by omega⟩) (As := [.int ((bX B) (y4 + (nI 1)).toNatClampNeg), .int ((bX B) (y4 + (nI 2)).toNatClampNeg), .int ((bX B) (y4 + (nI 3)).toNatClampNeg)]) (st := [.int v941_148]) (s_X10_rest (d := d + 7) hA  eM963_149) rfl okX10 ck_X10_rest w_1697 rfl (Nat.le_of_ble_eq_true rfl) dL_law_963 ?_
        refine g_icmp_eq (tgt := 1791) dL_law_966 (by decide) (fun c151 => ?_) (fun c151 => ?_)
        · replace h := ite_p c151 h
          refine g_sub [0, 1, 2, 3, 4] (lv' := [(0, .ref (1000 + 46)), (1, .ref 0), (2, .ref 81), (3, .ref 96), (4, .int y4)]) rfl ?_
          refine g_widen (k := c + 1) (n' := sl + 6) (by omega) (by omega) ?_
          exact hj2 _ h
        · replace h := ite_n c151 h
          refine g_iconst (v := (nI 0)) dL_law_969 (by decide) ?_
          refine g_widen (k := 601024) (n' := 7293033) (by omega) (by omega) ?_
          exact g_zret rfl rfl (pi_of h) dL_law_970
      replace h := ite_n c146 h
      by_cases c152 : t3 = (nI 22)
      · replace h := ite_p c152 h
        refine g_tabIn (tgt := 971) dL_law_40 (by rw [c152]; decide) (by rw [c152]; decide) (off := 931) (by rw [c152]; rfl) (by decide) ?_
        refine g_aload_n dL_law_971 rfl 1 rfl ?_
        obtain ⟨v972_154, M972_153, eM972_153, h⟩ := bd_e h
        refine m_callVi (hcs := ⟨by omega, by omega⟩) (As := []) (st := []) (s_X9_watch (d := d + 7) hA  eM972_153) rfl okX9 ck_X9_watch w_971 rfl (Nat.le_of_ble_eq_true rfl) dL_law_972 ?_
        refine g_aload_n dL_law_975 rfl 2 rfl ?_
        obtain ⟨v976_156, M976_155, eM976_155, h⟩ := bd_e h
        refine m_callVi (hcs := ⟨by omega, by omega⟩) (As := []) (st := [.int v972_154]) (s_X10_watch (d := d + 9) hA  eM976_155) rfl okX10 ck_X10_watch w_1701 rfl (Nat.le_of_ble_eq_true rfl) dL_law_976 ?_
        refine g_icmp_eq (tgt := 1791) dL_law_979 (by decide) (fun c157 => ?_) (fun c157 => ?_)
        · replace h := ite_p c157 h
          refine g_sub [0, 1, 2, 3, 4] (lv' := [(0, .ref (1000 + 46)), (1, .ref 0), (2, .ref 81), (3, .ref 96), (4, .int y4)]) rfl ?_
          refine g_widen (k := c + 1) (n' := sl + 6) (by omega) (by omega) ?_
          exact hj2 _ h
        · replace h := ite_n c157 h
          refine g_iconst (v := (nI 0)) dL_law_982 (by decide) ?_
          refine g_widen (k := 601024) (n' := 7293033) (by omega) (by omega) ?_
          exact g_zret rfl rfl (pi_of h) dL_law_983
      replace h := ite_n c152 h
      by_cases c158 : t3 = (nI 23)
      · replace h := ite_p c158 h
        refine g_tabIn (tgt := 984) dL_law_40 (by rw [c158]; decide) (by rw [c158]; decide) (off := 944) (by rw [c158]; rfl) (by decide) ?_
        refine g_aload_n dL_law_984 rfl 1 rfl ?_
        refine g_aload_n dL_law_985 rfl 0 rfl ?_
        refine g_iload dL_law_986 4 rfl ?_
        refine g_iconst (v := (nI 1)) dL_law_988 (by decide) ?_
        refine g_iadd dL_law_989 ?_
        obtain ⟨hz, h⟩ := gd_s h
        refine m_sld hz dL_law_990 ?_
        obtain ⟨v991_160, M991_159, eM991_159, h⟩ := bd_e h
        refine m_callVl (hcs := ⟨by omega, by omega⟩) (As := [.int ((bX B) (y4 + (nI 1)).toNatClampNeg)]) (st := []) (s_X9_both (d := d + 11) hA  eM991_159) rfl okX9 ck_X9_both w_996 rfl (Nat.le_of_ble_eq_true rfl) dL_law_991 ?_
        refine g_aload_n dL_law_994 rfl 2 rfl ?_
        refine g_aload_n dL_law_995 rfl 0 rfl ?_
        refine g_iload dL_law_996 4 rfl ?_
        refine g_iconst (v := (nI 1)) dL_law_998 (by decide) ?_
        refine g_iadd dL_law_999 ?_
        obtain ⟨hz, h⟩ := gd_s h
        refine m_sld hz dL_law_1000 ?_
        obtain ⟨v1001_162, M1001_161, eM1001_161, h⟩ := bd_e h
        refine m_callVl (hcs := ⟨by omega, by omega⟩) (As := [.int ((bX B) (y4 + (nI 1)).toNatClampNeg)]) (st := [.long v991_160]) (s_X10_both (d := d + 12) hA  eM1001_161) rfl okX10 ck_X10_both w_1712 rfl (Nat.le_of_ble_eq_true rfl) dL_law_1001 ?_
        refine g_lcmp dL_law_1004 ?_
        refine g_if_eq (tgt := 1791) dL_law_1005 (by decide) (fun c163 => ?_) (fun c163 => ?_)
        · replace h := ite_p c163 h
          refine g_sub [0, 1, 2, 3, 4] (lv' := [(0, .ref (1000 + 46)), (1, .ref 0), (2, .ref 81), (3, .ref 96), (4, .int y4)]) rfl ?_
          refine g_widen (k := c + 1) (n' := sl + 6) (by omega) (by omega) ?_
          exact hj2 _ h
        · replace h := ite_n c163 h
          refine g_iconst (v := (nI 0)) dL_law_1008 (by decide) ?_
          refine g_widen (k := 601024) (n' := 7293033) (by omega) (by omega) ?_
          exact g_zret rfl rfl (pi_of h) dL_law_1009
      replace h := ite_n c158 h
      by_cases c164 : t3 = (nI 24)
      · replace h := ite_p c164 h
        refine g_tabIn (tgt := 1010) dL_law_40 (by rw [c164]; decide) (by rw [c164]; decide) (off := 970) (by rw [c164]; rfl) (by decide) ?_
        refine g_aload_n dL_law_1010 rfl 1 rfl ?_
        refine g_aload_n dL_law_1011 rfl 0 rfl ?_
        refine g_iload dL_law_1012 4 rfl ?_
        refine g_iconst (v := (nI 1)) dL_law_1014 (by decide) ?_
        refine g_iadd dL_law_1015 ?_
        obtain ⟨hz, h⟩ := gd_s h
        refine m_sld hz dL_law_1016 ?_
        refine g_aload_n dL_law_1017 rfl 0 rfl ?_
        refine g_iload dL_law_1018 4 rfl ?_
        refine g_iconst (v := (nI 2)) dL_law_1020 (by decide) ?_
        refine g_iadd dL_law_1021 ?_
        obtain ⟨hz, h⟩ := gd_s h
        refine m_sld hz dL_law_1022 ?_
        refine g_aload_n dL_law_1023 rfl 0 rfl ?_
        refine g_iload dL_law_1024 4 rfl ?_
        refine g_iconst (v := (nI 3)) dL_law_1026 (by decide) ?_
        refine g_iadd dL_law_1027 ?_
        obtain ⟨hz, h⟩ := gd_s h
        refine m_sld hz dL_law_1028 ?_
        obtain ⟨v1029_166, M1029_165, eM1029_165, h⟩ := bd_e h
        refine m_callVi (hcs := ⟨by omega, by omega⟩) (As := [.int ((bX B) (y4 + (nI 1)).toNatClampNeg), .int ((bX B) (y4 + (nI 2)).toNatClampNeg), .int ((bX B) (y4 + (nI 3)).toNatClampNeg)]) (st := []) (s_X9_wins (d := d + 7) hA  eM1029_165) rfl okX9 ck_X9_wins w_1001 rfl (Nat.le_of_ble_eq_true rfl) dL_law_1029 ?_
        refine g_aload_n dL_law_1032 rfl 2 rfl ?_
        refine g_aload_n dL_law_1033 rfl 0 rfl ?_
        refine g_iload dL_law_1034 4 rfl ?_
        refine g_iconst (v := (nI 1)) dL_law_1036 (by decide) ?_
        refine g_iadd dL_law_1037 ?_
        obtain ⟨hz, h⟩ := gd_s h
        refine m_sld hz dL_law_1038 ?_
        refine g_aload_n dL_law_1039 rfl 0 rfl ?_
        refine g_iload dL_law_1040 4 rfl ?_
        refine g_iconst (v := (nI 2)) dL_law_1042 (by decide) ?_
        refine g_iadd dL_law_1043 ?_
        obtain ⟨hz, h⟩ := gd_s h
        refine m_sld hz dL_law_1044 ?_
        refine g_aload_n dL_law_1045 rfl 0 rfl ?_
        refine g_iload dL_law_1046 4 rfl ?_
        refine g_iconst (v := (nI 3)) dL_law_1048 (by decide) ?_
        refine g_iadd dL_law_1049 ?_
        obtain ⟨hz, h⟩ := gd_s h
        refine m_sld hz dL_law_1050 ?_
        obtain ⟨v1051_168, M1051_167, eM1051_167, h⟩ := bd_e h
        refine m_callVi (hcs := ⟨by omega, by omega⟩) (As := [.int ((bX B) (y4 + (nI 1)).toNatClampNeg), .int ((bX B) (y4 + (nI 2)).toNatClampNeg), .int ((bX B) (y4 + (nI 3)).toNatClampNeg)]) (st := [.int v1029_166]) (s_X10_wins (d := d + 8) hA  eM1051_167) rfl okX10 ck_X10_wins w_1716 rfl (Nat.le_of_ble_eq_true rfl) dL_law_1051 ?_
        refine g_icmp_eq (tgt := 1791) dL_law_1054 (by decide) (fun c169 => ?_) (fun c169 => ?_)
        · replace h := ite_p c169 h
          refine g_sub [0, 1, 2, 3, 4] (lv' := [(0, .ref (1000 + 46)), (1, .ref 0), (2, .ref 81), (3, .ref 96), (4, .int y4)]) rfl ?_
          refine g_widen (k := c + 1) (n' := sl + 6) (by omega) (by omega) ?_
          exact hj2 _ h
        · replace h := ite_n c169 h
          refine g_iconst (v := (nI 0)) dL_law_1057 (by decide) ?_
          refine g_widen (k := 601024) (n' := 7293033) (by omega) (by omega) ?_
          exact g_zret rfl rfl (pi_of h) dL_law_1058
      replace h := ite_n c164 h
      by_cases c170 : t3 = (nI 25)
      · replace h := ite_p c170 h
        refine g_tabIn (tgt := 1059) dL_law_40 (by rw [c170]; decide) (by rw [c170]; decide) (off := 1019) (by rw [c170]; rfl) (by decide) ?_
        refine g_aload_n dL_law_1059 rfl 1 rfl ?_
        refine g_aload_n dL_law_1060 rfl 0 rfl ?_
        refine g_iload dL_law_1061 4 rfl ?_
        refine g_iconst (v := (nI 1)) dL_law_1063 (by decide) ?_
        refine g_iadd dL_law_1064 ?_
        obtain ⟨hz, h⟩ := gd_s h
        refine m_sld hz dL_law_1065 ?_
        refine g_aload_n dL_law_1066 rfl 0 rfl ?_
        refine g_iload dL_law_1067 4 rfl ?_
        refine g_iconst (v := (nI 2)) dL_law_1069 (by decide) ?_
        refine g_iadd dL_law_1070 ?_
        obtain ⟨hz, h⟩ := gd_s h
        refine m_sld hz dL_law_1071 ?_
        obtain ⟨v1072_172, M1072_171, eM1072_171, h⟩ := bd_e h
        refine m_callVi (hcs := ⟨by omega, by omega⟩) (As := [.int ((bX B) (y4 + (nI 1)).toNatClampNeg), .int ((bX B) (y4 + (nI 2)).toNatClampNeg)]) (st := []) (s_X9_lasts (d := d + 7) hA  eM1072_171) rfl okX9 ck_X9_lasts w_1023 rfl (Nat.le_of_ble_eq_true rfl) dL_law_1072 ?_
        refine g_aload_n dL_law_1075 rfl 2 rfl ?_
        refine g_aload_n dL_law_1076 rfl 0 rfl ?_
        refine g_iload dL_law_1077 4 rfl ?_
        refine g_iconst (v := (nI 1)) dL_law_1079 (by decide) ?_
        refine g_iadd dL_law_1080 ?_
        obtain ⟨hz, h⟩ := gd_s h
        refine m_sld hz dL_law_1081 ?_
        refine g_aload_n dL_law_1082 rfl 0 rfl ?_
        refine g_iload dL_law_1083 4 rfl ?_
        refine g_iconst (v := (nI 2)) dL_law_1085 (by decide) ?_
        refine g_iadd dL_law_1086 ?_
        obtain ⟨hz, h⟩ := gd_s h
        refine m_sld hz dL_law_1087 ?_
        obtain ⟨v1088_174, M1088_173, eM1088_173, h⟩ := bd_e h
        refine m_callVi (hcs := ⟨by omega, by omega⟩) (As := [.int ((bX B) (y4 + (nI 1)).toNatClampNeg), .int ((bX B) (y4 + (nI 2)).toNatClampNeg)]) (st := [.int v1072_172]) (s_X10_lasts (d := d + 8) hA  eM1088_173) rfl okX10 ck_X10_lasts w_1728 rfl (Nat.le_of_ble_eq_true rfl) dL_law_1088 ?_
        refine g_icmp_eq (tgt := 1791) dL_law_1091 (by decide) (fun c175 => ?_) (fun c175 => ?_)
        · replace h := ite_p c175 h
          refine g_sub [0, 1, 2, 3, 4] (lv' := [(0, .ref (1000 + 46)), (1, .ref 0), (2, .ref 81), (3, .ref 96), (4, .int y4)]) rfl ?_
          refine g_widen (k := c + 1) (n' := sl + 6) (by omega) (by omega) ?_
          exact hj2 _ h
        · replace h := ite_n c175 h
          refine g_iconst (v := (nI 0)) dL_law_1094 (by decide) ?_
          refine g_widen (k := 601024) (n' := 7293033) (by omega) (by omega) ?_
          exact g_zret rfl rfl (pi_of h) dL_law_1095
      replace h := ite_n c170 h
      by_cases c176 : t3 = (nI 26)
      · replace h := ite_p c176 h
        refine g_tabIn (tgt := 1096) dL_law_40 (by rw [c176]; decide) (by rw [c176]; decide) (off := 1056) (by rw [c176]; rfl) (by decide) ?_
        refine g_aload_n dL_law_1096 rfl 1 rfl ?_
        refine g_aload_n dL_law_1097 rfl 0 rfl ?_
        refine g_iload dL_law_1098 4 rfl ?_
        refine g_iconst (v := (nI 1)) dL_law_1100 (by decide) ?_
        refine g_iadd dL_law_1101 ?_
        obtain ⟨hz, h⟩ := gd_s h
        refine m_sld hz dL_law_1102 ?_
        refine g_aload_n dL_law_1103 rfl 0 rfl ?_
        refine g_iload dL_law_1104 4 rfl ?_
        refine g_iconst (v := (nI 2)) dL_law_1106 (by decide) ?_
        refine g_iadd dL_law_1107 ?_
        obtain ⟨hz, h⟩ := gd_s h
        refine m_sld hz dL_law_1108 ?_
        obtain ⟨v1109_178, M1109_177, eM1109_177, h⟩ := bd_e h
        refine m_callVi (hcs := ⟨by omega, by omega⟩) (As := [.int ((bX B) (y4 + (nI 1)).toNatClampNeg), .int ((bX B) (y4 + (nI 2)).toNatClampNeg)]) (st := []) (s_X9_sent (d := d + 7) hA  eM1109_177) rfl okX9 ck_X9_sent w_1027 rfl (Nat.le_of_ble_eq_true rfl) dL_law_1109 ?_
        refine g_aload_n dL_law_1112 rfl 2 rfl ?_
        refine g_aload_n dL_law_1113 rfl 0 rfl ?_
        refine g_iload dL_law_1114 4 rfl ?_
        refine g_iconst (v := (nI 1)) dL_law_1116 (by decide) ?_
        refine g_iadd dL_law_1117 ?_
        obtain ⟨hz, h⟩ := gd_s h
        refine m_sld hz dL_law_1118 ?_
        refine g_aload_n dL_law_1119 rfl 0 rfl ?_
        refine g_iload dL_law_1120 4 rfl ?_
        refine g_iconst (v := (nI 2)) dL_law_1122 (by decide) ?_
        refine g_iadd dL_law_1123 ?_
        obtain ⟨hz, h⟩ := gd_s h
        refine m_sld hz dL_law_1124 ?_
        obtain ⟨v1125_180, M1125_179, eM1125_179, h⟩ := bd_e h
        refine m_callVi (hcs := ⟨by omega, by omega⟩) (As := [.int ((bX B) (y4 + (nI 1)).toNatClampNeg), .int ((bX B) (y4 + (nI 2)).toNatClampNeg)]) (st := [.int v1109_178]) (s_X10_sent (d := d + 8) hA  eM1125_179) rfl okX10 ck_X10_sent w_1732 rfl (Nat.le_of_ble_eq_true rfl) dL_law_1125 ?_
        refine g_icmp_eq (tgt := 1791) dL_law_1128 (by decide) (fun c181 => ?_) (fun c181 => ?_)
        · replace h := ite_p c181 h
          refine g_sub [0, 1, 2, 3, 4] (lv' := [(0, .ref (1000 + 46)), (1, .ref 0), (2, .ref 81), (3, .ref 96), (4, .int y4)]) rfl ?_
          refine g_widen (k := c + 1) (n' := sl + 6) (by omega) (by omega) ?_
          exact hj2 _ h
        · replace h := ite_n c181 h
          refine g_iconst (v := (nI 0)) dL_law_1131 (by decide) ?_
          refine g_widen (k := 601024) (n' := 7293033) (by omega) (by omega) ?_
          exact g_zret rfl rfl (pi_of h) dL_law_1132
      replace h := ite_n c176 h
      by_cases c182 : t3 = (nI 27)
      · replace h := ite_p c182 h
        refine g_tabIn (tgt := 1133) dL_law_40 (by rw [c182]; decide) (by rw [c182]; decide) (off := 1093) (by rw [c182]; rfl) (by decide) ?_
        refine g_aload_n dL_law_1133 rfl 1 rfl ?_
        refine g_aload_n dL_law_1134 rfl 0 rfl ?_
        refine g_iload dL_law_1135 4 rfl ?_
        refine g_iconst (v := (nI 1)) dL_law_1137 (by decide) ?_
        refine g_iadd dL_law_1138 ?_
        obtain ⟨hz, h⟩ := gd_s h
        refine m_sld hz dL_law_1139 ?_
        refine g_aload_n dL_law_1140 rfl 0 rfl ?_
        refine g_iload dL_law_1141 4 rfl ?_
        refine g_iconst (v := (nI 2)) dL_law_1143 (by decide) ?_
        refine g_iadd dL_law_1144 ?_
        obtain ⟨hz, h⟩ := gd_s h
        refine m_sld hz dL_law_1145 ?_
        obtain ⟨v1146_184, M1146_183, eM1146_183, h⟩ := bd_e h
        refine m_callVi (hcs := ⟨by omega, by omega⟩) (As := [.int ((bX B) (y4 + (nI 1)).toNatClampNeg), .int ((bX B) (y4 + (nI 2)).toNatClampNeg)]) (st := []) (s_X9_looking (d := d + 7) hA  eM1146_183) rfl okX9 ck_X9_looking w_1031 rfl (Nat.le_of_ble_eq_true rfl) dL_law_1146 ?_
        refine g_aload_n dL_law_1149 rfl 2 rfl ?_
        refine g_aload_n dL_law_1150 rfl 0 rfl ?_
        refine g_iload dL_law_1151 4 rfl ?_
        refine g_iconst (v := (nI 1)) dL_law_1153 (by decide) ?_
        refine g_iadd dL_law_1154 ?_
        obtain ⟨hz, h⟩ := gd_s h
        refine m_sld hz dL_law_1155 ?_
        refine g_aload_n dL_law_1156 rfl 0 rfl ?_
        refine g_iload dL_law_1157 4 rfl ?_
        refine g_iconst (v := (nI 2)) dL_law_1159 (by decide) ?_
        refine g_iadd dL_law_1160 ?_
        obtain ⟨hz, h⟩ := gd_s h
        refine m_sld hz dL_law_1161 ?_
        obtain ⟨v1162_186, M1162_185, eM1162_185, h⟩ := bd_e h
        refine m_callVi (hcs := ⟨by omega, by omega⟩) (As := [.int ((bX B) (y4 + (nI 1)).toNatClampNeg), .int ((bX B) (y4 + (nI 2)).toNatClampNeg)]) (st := [.int v1146_184]) (s_X10_looking (d := d + 8) hA  eM1162_185) rfl okX10 ck_X10_looking w_1736 rfl (Nat.le_of_ble_eq_true rfl) dL_law_1162 ?_
        refine g_icmp_eq (tgt := 1791) dL_law_1165 (by decide) (fun c187 => ?_) (fun c187 => ?_)
        · replace h := ite_p c187 h
          refine g_sub [0, 1, 2, 3, 4] (lv' := [(0, .ref (1000 + 46)), (1, .ref 0), (2, .ref 81), (3, .ref 96), (4, .int y4)]) rfl ?_
          refine g_widen (k := c + 1) (n' := sl + 6) (by omega) (by omega) ?_
          exact hj2 _ h
        · replace h := ite_n c187 h
          refine g_iconst (v := (nI 0)) dL_law_1168 (by decide) ?_
          refine g_widen (k := 601024) (n' := 7293033) (by omega) (by omega) ?_
          exact g_zret rfl rfl (pi_of h) dL_law_1169
      replace h := ite_n c182 h
      by_cases c188 : t3 = (nI 28)
      · replace h := ite_p c188 h
        refine g_tabIn (tgt := 1170) dL_law_40 (by rw [c188]; decide) (by rw [c188]; decide) (off := 1130) (by rw [c188]; rfl) (by decide) ?_
        refine g_aload_n dL_law_1170 rfl 1 rfl ?_
        refine g_aload_n dL_law_1171 rfl 0 rfl ?_
        refine g_iload dL_law_1172 4 rfl ?_
        refine g_iconst (v := (nI 1)) dL_law_1174 (by decide) ?_
        refine g_iadd dL_law_1175 ?_
        obtain ⟨hz, h⟩ := gd_s h
        refine m_sld hz dL_law_1176 ?_
        refine g_aload_n dL_law_1177 rfl 0 rfl ?_
        refine g_iload dL_law_1178 4 rfl ?_
        refine g_iconst (v := (nI 2)) dL_law_1180 (by decide) ?_
        refine g_iadd dL_law_1181 ?_
        obtain ⟨hz, h⟩ := gd_s h
        refine m_sld hz dL_law_1182 ?_
        obtain ⟨j191, ej191, h⟩ := jn_e h
        have hj191 : ∀ (s189 : Int32) (M190 : Mm), j191 s189 M190 = some (r, M') → GG l B LY (d + 14) yL_law cL_law 7 (some .boolean) 601024 7293033 (PI r M') 97 c sl 1191 [(0, .ref (1000 + 46)), (1, .ref 0), (2, .ref 81), (3, .ref 96), (4, .int y4)] [.int s189, .int ((bX B) (y4 + (nI 1)).toNatClampNeg), .ref 0] M190 := by
          intro s189 M190 h
          rw [ej191] at h
          refine g_aload_n dL_law_1191 rfl 0 rfl ?_
          refine g_iload dL_law_1192 4 rfl ?_
          refine g_iconst (v := (nI 3)) dL_law_1194 (by decide) ?_
          refine g_iadd dL_law_1195 ?_
          obtain ⟨hz, h⟩ := gd_s h
          refine m_sld hz dL_law_1196 ?_
          obtain ⟨j194, ej194, h⟩ := jn_e h
          have hj194 : ∀ (s192 : Int32) (M193 : Mm), j194 s192 M193 = some (r, M') → GG l B LY (d + 14) yL_law cL_law 7 (some .boolean) 601024 7293033 (PI r M') 97 c sl 1205 [(0, .ref (1000 + 46)), (1, .ref 0), (2, .ref 81), (3, .ref 96), (4, .int y4)] [.int s192, .int s189, .int ((bX B) (y4 + (nI 1)).toNatClampNeg), .ref 0] M193 := by
            intro s192 M193 h
            rw [ej194] at h
            obtain ⟨v1205_196, M1205_195, eM1205_195, h⟩ := bd_e h
            refine m_callVi (hcs := ⟨by omega, by omega⟩) (As := [.int ((bX B) (y4 + (nI 1)).toNatClampNeg), .int s189, .int s192]) (st := []) (s_X9_film (d := d + 10) hA  eM1205_195) rfl okX9 ck_X9_film w_1035 rfl (Nat.le_of_ble_eq_true rfl) dL_law_1205 ?_
            refine g_aload_n dL_law_1208 rfl 2 rfl ?_
            refine g_aload_n dL_law_1209 rfl 0 rfl ?_
            refine g_iload dL_law_1210 4 rfl ?_
            refine g_iconst (v := (nI 1)) dL_law_1212 (by decide) ?_
            refine g_iadd dL_law_1213 ?_
            obtain ⟨hz, h⟩ := gd_s h
            refine m_sld hz dL_law_1214 ?_
            refine g_aload_n dL_law_1215 rfl 0 rfl ?_
            refine g_iload dL_law_1216 4 rfl ?_
            refine g_iconst (v := (nI 2)) dL_law_1218 (by decide) ?_
            refine g_iadd dL_law_1219 ?_
            obtain ⟨hz, h⟩ := gd_s h
            refine m_sld hz dL_law_1220 ?_
            obtain ⟨j199, ej199, h⟩ := jn_e h
            have hj199 : ∀ (s197 : Int32) (M198 : Mm), j199 s197 M198 = some (r, M') → GG l B LY (d + 14) yL_law cL_law 7 (some .boolean) 601024 7293033 (PI r M') 97 c sl 1229 [(0, .ref (1000 + 46)), (1, .ref 0), (2, .ref 81), (3, .ref 96), (4, .int y4)] [.int s197, .int ((bX B) (y4 + (nI 1)).toNatClampNeg), .ref 81, .int v1205_196] M198 := by
              intro s197 M198 h
              rw [ej199] at h
              refine g_aload_n dL_law_1229 rfl 0 rfl ?_
              refine g_iload dL_law_1230 4 rfl ?_
              refine g_iconst (v := (nI 3)) dL_law_1232 (by decide) ?_
              refine g_iadd dL_law_1233 ?_
              obtain ⟨hz, h⟩ := gd_s h
              refine m_sld hz dL_law_1234 ?_
              obtain ⟨j202, ej202, h⟩ := jn_e h
              have hj202 : ∀ (s200 : Int32) (M201 : Mm), j202 s200 M201 = some (r, M') → GG l B LY (d + 14) yL_law cL_law 7 (some .boolean) 601024 7293033 (PI r M') 97 c sl 1243 [(0, .ref (1000 + 46)), (1, .ref 0), (2, .ref 81), (3, .ref 96), (4, .int y4)] [.int s200, .int s197, .int ((bX B) (y4 + (nI 1)).toNatClampNeg), .ref 81, .int v1205_196] M201 := by
                intro s200 M201 h
                rw [ej202] at h
                obtain ⟨v1243_204, M1243_203, eM1243_203, h⟩ := bd_e h
                refine m_callVi (hcs := ⟨by omega, by omega⟩) (As := [.int ((bX B) (y4 + (nI 1)).toNatClampNeg), .int s197, .int s200]) (st := [.int v1205_196]) (s_X10_film (d := d + 11) hA  eM1243_203) rfl okX10 ck_X10_film w_1740 rfl (Nat.le_of_ble_eq_true rfl) dL_law_1243 ?_
                refine g_icmp_eq (tgt := 1791) dL_law_1246 (by decide) (fun c205 => ?_) (fun c205 => ?_)
                · replace h := ite_p c205 h
                  refine g_sub [0, 1, 2, 3, 4] (lv' := [(0, .ref (1000 + 46)), (1, .ref 0), (2, .ref 81), (3, .ref 96), (4, .int y4)]) rfl ?_
                  refine g_widen (k := c + 1) (n' := sl + 6) (by omega) (by omega) ?_
                  exact hj2 _ h
                · replace h := ite_n c205 h
                  refine g_iconst (v := (nI 0)) dL_law_1249 (by decide) ?_
                  refine g_widen (k := 601024) (n' := 7293033) (by omega) (by omega) ?_
                  exact g_zret rfl rfl (pi_of h) dL_law_1250
              refine g_if_eq (tgt := 1242) dL_law_1235 (by decide) (fun c206 => ?_) (fun c206 => ?_)
              · replace h := ite_p c206 h
                refine g_iconst (v := (nI 0)) dL_law_1242 (by decide) ?_
                refine g_sub [0, 1, 2, 3, 4] (lv' := [(0, .ref (1000 + 46)), (1, .ref 0), (2, .ref 81), (3, .ref 96), (4, .int y4)]) rfl ?_
                exact hj202 _ _ h
              · replace h := ite_n c206 h
                refine g_iconst (v := (nI 1)) dL_law_1238 (by decide) ?_
                refine g_goto (tgt := 1243) dL_law_1239 (by decide) ?_
                refine g_sub [0, 1, 2, 3, 4] (lv' := [(0, .ref (1000 + 46)), (1, .ref 0), (2, .ref 81), (3, .ref 96), (4, .int y4)]) rfl ?_
                exact hj202 _ _ h
            refine g_if_eq (tgt := 1228) dL_law_1221 (by decide) (fun c207 => ?_) (fun c207 => ?_)
            · replace h := ite_p c207 h
              refine g_iconst (v := (nI 0)) dL_law_1228 (by decide) ?_
              refine g_sub [0, 1, 2, 3, 4] (lv' := [(0, .ref (1000 + 46)), (1, .ref 0), (2, .ref 81), (3, .ref 96), (4, .int y4)]) rfl ?_
              exact hj199 _ _ h
            · replace h := ite_n c207 h
              refine g_iconst (v := (nI 1)) dL_law_1224 (by decide) ?_
              refine g_goto (tgt := 1229) dL_law_1225 (by decide) ?_
              refine g_sub [0, 1, 2, 3, 4] (lv' := [(0, .ref (1000 + 46)), (1, .ref 0), (2, .ref 81), (3, .ref 96), (4, .int y4)]) rfl ?_
              exact hj199 _ _ h
          refine g_if_eq (tgt := 1204) dL_law_1197 (by decide) (fun c208 => ?_) (fun c208 => ?_)
          · replace h := ite_p c208 h
            refine g_iconst (v := (nI 0)) dL_law_1204 (by decide) ?_
            refine g_sub [0, 1, 2, 3, 4] (lv' := [(0, .ref (1000 + 46)), (1, .ref 0), (2, .ref 81), (3, .ref 96), (4, .int y4)]) rfl ?_
            exact hj194 _ _ h
          · replace h := ite_n c208 h
            refine g_iconst (v := (nI 1)) dL_law_1200 (by decide) ?_
            refine g_goto (tgt := 1205) dL_law_1201 (by decide) ?_
            refine g_sub [0, 1, 2, 3, 4] (lv' := [(0, .ref (1000 + 46)), (1, .ref 0), (2, .ref 81), (3, .ref 96), (4, .int y4)]) rfl ?_
            exact hj194 _ _ h
        refine g_if_eq (tgt := 1190) dL_law_1183 (by decide) (fun c209 => ?_) (fun c209 => ?_)
        · replace h := ite_p c209 h
          refine g_iconst (v := (nI 0)) dL_law_1190 (by decide) ?_
          refine g_sub [0, 1, 2, 3, 4] (lv' := [(0, .ref (1000 + 46)), (1, .ref 0), (2, .ref 81), (3, .ref 96), (4, .int y4)]) rfl ?_
          exact hj191 _ _ h
        · replace h := ite_n c209 h
          refine g_iconst (v := (nI 1)) dL_law_1186 (by decide) ?_
          refine g_goto (tgt := 1191) dL_law_1187 (by decide) ?_
          refine g_sub [0, 1, 2, 3, 4] (lv' := [(0, .ref (1000 + 46)), (1, .ref 0), (2, .ref 81), (3, .ref 96), (4, .int y4)]) rfl ?_
          exact hj191 _ _ h
      replace h := ite_n c188 h
      by_cases c210 : t3 = (nI 29)
      · replace h := ite_p c210 h
        refine g_tabIn (tgt := 1251) dL_law_40 (by rw [c210]; decide) (by rw [c210]; decide) (off := 1211) (by rw [c210]; rfl) (by decide) ?_
        refine g_aload_n dL_law_1251 rfl 1 rfl ?_
        refine g_aload_n dL_law_1252 rfl 0 rfl ?_
        refine g_iload dL_law_1253 4 rfl ?_
        refine g_iconst (v := (nI 1)) dL_law_1255 (by decide) ?_
        refine g_iadd dL_law_1256 ?_
        obtain ⟨hz, h⟩ := gd_s h
        refine m_sld hz dL_law_1257 ?_
        obtain ⟨v1258_212, M1258_211, eM1258_211, h⟩ := bd_e h
        refine m_callVi (hcs := ⟨by omega, by omega⟩) (As := [.int ((bX B) (y4 + (nI 1)).toNatClampNeg)]) (st := []) (s_X9_law (d := d + 10) hA  eM1258_211) rfl okX9 ck_X9_law w_1048 rfl (Nat.le_of_ble_eq_true rfl) dL_law_1258 ?_
        refine g_aload_n dL_law_1261 rfl 2 rfl ?_
        refine g_aload_n dL_law_1262 rfl 0 rfl ?_
        refine g_iload dL_law_1263 4 rfl ?_
        refine g_iconst (v := (nI 1)) dL_law_1265 (by decide) ?_
        refine g_iadd dL_law_1266 ?_
        obtain ⟨hz, h⟩ := gd_s h
        refine m_sld hz dL_law_1267 ?_
        obtain ⟨v1268_214, M1268_213, eM1268_213, h⟩ := bd_e h
        refine m_callVi (hcs := ⟨by omega, by omega⟩) (As := [.int ((bX B) (y4 + (nI 1)).toNatClampNeg)]) (st := [.int v1258_212]) (s_X10_law (d := d + 11) hA  eM1268_213) rfl okX10 ck_X10_law w_1748 rfl (Nat.le_of_ble_eq_true rfl) dL_law_1268 ?_
        refine g_icmp_eq (tgt := 1791) dL_law_1271 (by decide) (fun c215 => ?_) (fun c215 => ?_)
        · replace h := ite_p c215 h
          refine g_sub [0, 1, 2, 3, 4] (lv' := [(0, .ref (1000 + 46)), (1, .ref 0), (2, .ref 81), (3, .ref 96), (4, .int y4)]) rfl ?_
          refine g_widen (k := c + 1) (n' := sl + 6) (by omega) (by omega) ?_
          exact hj2 _ h
        · replace h := ite_n c215 h
          refine g_iconst (v := (nI 0)) dL_law_1274 (by decide) ?_
          refine g_widen (k := 601024) (n' := 7293033) (by omega) (by omega) ?_
          exact g_zret rfl rfl (pi_of h) dL_law_1275
      replace h := ite_n c210 h
      by_cases c216 : t3 = (nI 30)
      · replace h := ite_p c216 h
        refine g_tabIn (tgt := 1276) dL_law_40 (by rw [c216]; decide) (by rw [c216]; decide) (off := 1236) (by rw [c216]; rfl) (by decide) ?_
        refine g_aload_n dL_law_1276 rfl 1 rfl ?_
        refine g_aload_n dL_law_1277 rfl 0 rfl ?_
        refine g_iload dL_law_1278 4 rfl ?_
        refine g_iconst (v := (nI 1)) dL_law_1280 (by decide) ?_
        refine g_iadd dL_law_1281 ?_
        obtain ⟨hz, h⟩ := gd_s h
        refine m_sld hz dL_law_1282 ?_
        refine g_aload_n dL_law_1283 rfl 0 rfl ?_
        refine g_iload dL_law_1284 4 rfl ?_
        refine g_iconst (v := (nI 2)) dL_law_1286 (by decide) ?_
        refine g_iadd dL_law_1287 ?_
        obtain ⟨hz, h⟩ := gd_s h
        refine m_sld hz dL_law_1288 ?_
        obtain ⟨j219, ej219, h⟩ := jn_e h
        have hj219 : ∀ (s217 : Int32) (M218 : Mm), j219 s217 M218 = some (r, M') → GG l B LY (d + 14) yL_law cL_law 7 (some .boolean) 601024 7293033 (PI r M') 97 c sl 1297 [(0, .ref (1000 + 46)), (1, .ref 0), (2, .ref 81), (3, .ref 96), (4, .int y4)] [.int s217, .int ((bX B) (y4 + (nI 1)).toNatClampNeg), .ref 0] M218 := by
          intro s217 M218 h
          rw [ej219] at h
          obtain ⟨v1297_221, M1297_220, eM1297_220, h⟩ := bd_e h
          refine m_callVi (hcs := ⟨by omega, by omega⟩) (As := [.int ((bX B) (y4 + (nI 1)).toNatClampNeg), .int s217]) (st := []) (s_X9_says (d := d + 10) hA  eM1297_220) rfl okX9 ck_X9_says w_1062 rfl (Nat.le_of_ble_eq_true rfl) dL_law_1297 ?_
          refine g_aload_n dL_law_1300 rfl 2 rfl ?_
          refine g_aload_n dL_law_1301 rfl 0 rfl ?_
          refine g_iload dL_law_1302 4 rfl ?_
          refine g_iconst (v := (nI 1)) dL_law_1304 (by decide) ?_
          refine g_iadd dL_law_1305 ?_
          obtain ⟨hz, h⟩ := gd_s h
          refine m_sld hz dL_law_1306 ?_
          refine g_aload_n dL_law_1307 rfl 0 rfl ?_
          refine g_iload dL_law_1308 4 rfl ?_
          refine g_iconst (v := (nI 2)) dL_law_1310 (by decide) ?_
          refine g_iadd dL_law_1311 ?_
          obtain ⟨hz, h⟩ := gd_s h
          refine m_sld hz dL_law_1312 ?_
          obtain ⟨j224, ej224, h⟩ := jn_e h
          have hj224 : ∀ (s222 : Int32) (M223 : Mm), j224 s222 M223 = some (r, M') → GG l B LY (d + 14) yL_law cL_law 7 (some .boolean) 601024 7293033 (PI r M') 97 c sl 1321 [(0, .ref (1000 + 46)), (1, .ref 0), (2, .ref 81), (3, .ref 96), (4, .int y4)] [.int s222, .int ((bX B) (y4 + (nI 1)).toNatClampNeg), .ref 81, .int v1297_221] M223 := by
            intro s222 M223 h
            rw [ej224] at h
            obtain ⟨v1321_226, M1321_225, eM1321_225, h⟩ := bd_e h
            refine m_callVi (hcs := ⟨by omega, by omega⟩) (As := [.int ((bX B) (y4 + (nI 1)).toNatClampNeg), .int s222]) (st := [.int v1297_221]) (s_X10_says (d := d + 11) hA  eM1321_225) rfl okX10 ck_X10_says w_1756 rfl (Nat.le_of_ble_eq_true rfl) dL_law_1321 ?_
            refine g_icmp_eq (tgt := 1791) dL_law_1324 (by decide) (fun c227 => ?_) (fun c227 => ?_)
            · replace h := ite_p c227 h
              refine g_sub [0, 1, 2, 3, 4] (lv' := [(0, .ref (1000 + 46)), (1, .ref 0), (2, .ref 81), (3, .ref 96), (4, .int y4)]) rfl ?_
              refine g_widen (k := c + 1) (n' := sl + 6) (by omega) (by omega) ?_
              exact hj2 _ h
            · replace h := ite_n c227 h
              refine g_iconst (v := (nI 0)) dL_law_1327 (by decide) ?_
              refine g_widen (k := 601024) (n' := 7293033) (by omega) (by omega) ?_
              exact g_zret rfl rfl (pi_of h) dL_law_1328
          refine g_if_eq (tgt := 1320) dL_law_1313 (by decide) (fun c228 => ?_) (fun c228 => ?_)
          · replace h := ite_p c228 h
            refine g_iconst (v := (nI 0)) dL_law_1320 (by decide) ?_
            refine g_sub [0, 1, 2, 3, 4] (lv' := [(0, .ref (1000 + 46)), (1, .ref 0), (2, .ref 81), (3, .ref 96), (4, .int y4)]) rfl ?_
            exact hj224 _ _ h
          · replace h := ite_n c228 h
            refine g_iconst (v := (nI 1)) dL_law_1316 (by decide) ?_
            refine g_goto (tgt := 1321) dL_law_1317 (by decide) ?_
            refine g_sub [0, 1, 2, 3, 4] (lv' := [(0, .ref (1000 + 46)), (1, .ref 0), (2, .ref 81), (3, .ref 96), (4, .int y4)]) rfl ?_
            exact hj224 _ _ h
        refine g_if_eq (tgt := 1296) dL_law_1289 (by decide) (fun c229 => ?_) (fun c229 => ?_)
        · replace h := ite_p c229 h
          refine g_iconst (v := (nI 0)) dL_law_1296 (by decide) ?_
          refine g_sub [0, 1, 2, 3, 4] (lv' := [(0, .ref (1000 + 46)), (1, .ref 0), (2, .ref 81), (3, .ref 96), (4, .int y4)]) rfl ?_
          exact hj219 _ _ h
        · replace h := ite_n c229 h
          refine g_iconst (v := (nI 1)) dL_law_1292 (by decide) ?_
          refine g_goto (tgt := 1297) dL_law_1293 (by decide) ?_
          refine g_sub [0, 1, 2, 3, 4] (lv' := [(0, .ref (1000 + 46)), (1, .ref 0), (2, .ref 81), (3, .ref 96), (4, .int y4)]) rfl ?_
          exact hj219 _ _ h
      replace h := ite_n c216 h
      by_cases c230 : t3 = (nI 31)
      · replace h := ite_p c230 h
        refine g_tabIn (tgt := 1329) dL_law_40 (by rw [c230]; decide) (by rw [c230]; decide) (off := 1289) (by rw [c230]; rfl) (by decide) ?_
        refine g_aload_n dL_law_1329 rfl 1 rfl ?_
        obtain ⟨v1330_232, M1330_231, eM1330_231, h⟩ := bd_e h
        refine m_callVi (hcs := ⟨by omega, by omega⟩) (As := []) (st := []) (s_X9_off (d := d + 10) hA  eM1330_231) rfl okX9 ck_X9_off w_1070 rfl (Nat.le_of_ble_eq_true rfl) dL_law_1330 ?_
        refine g_aload_n dL_law_1333 rfl 2 rfl ?_
        obtain ⟨v1334_234, M1334_233, eM1334_233, h⟩ := bd_e h
        refine m_callVi (hcs := ⟨by omega, by omega⟩) (As := []) (st := [.int v1330_232]) (s_X10_off (d := d + 12) hA  eM1334_233) rfl okX10 ck_X10_off w_1760 rfl (Nat.le_of_ble_eq_true rfl) dL_law_1334 ?_
        refine g_icmp_eq (tgt := 1791) dL_law_1337 (by decide) (fun c235 => ?_) (fun c235 => ?_)
        · replace h := ite_p c235 h
          refine g_sub [0, 1, 2, 3, 4] (lv' := [(0, .ref (1000 + 46)), (1, .ref 0), (2, .ref 81), (3, .ref 96), (4, .int y4)]) rfl ?_
          refine g_widen (k := c + 1) (n' := sl + 6) (by omega) (by omega) ?_
          exact hj2 _ h
        · replace h := ite_n c235 h
          refine g_iconst (v := (nI 0)) dL_law_1340 (by decide) ?_
          refine g_widen (k := 601024) (n' := 7293033) (by omega) (by omega) ?_
          exact g_zret rfl rfl (pi_of h) dL_law_1341
      replace h := ite_n c230 h
      by_cases c236 : t3 = (nI 32)
      · replace h := ite_p c236 h
        refine g_tabIn (tgt := 1342) dL_law_40 (by rw [c236]; decide) (by rw [c236]; decide) (off := 1302) (by rw [c236]; rfl) (by decide) ?_
        refine g_aload_n dL_law_1342 rfl 1 rfl ?_
        refine g_aload_n dL_law_1343 rfl 0 rfl ?_
        refine g_iload dL_law_1344 4 rfl ?_
        refine g_iconst (v := (nI 1)) dL_law_1346 (by decide) ?_
        refine g_iadd dL_law_1347 ?_
        obtain ⟨hz, h⟩ := gd_s h
        refine m_sld hz dL_law_1348 ?_
        refine g_aload_n dL_law_1349 rfl 0 rfl ?_
        refine g_iload dL_law_1350 4 rfl ?_
        refine g_iconst (v := (nI 2)) dL_law_1352 (by decide) ?_
        refine g_iadd dL_law_1353 ?_
        obtain ⟨hz, h⟩ := gd_s h
        refine m_sld hz dL_law_1354 ?_
        obtain ⟨j239, ej239, h⟩ := jn_e h
        have hj239 : ∀ (s237 : Int32) (M238 : Mm), j239 s237 M238 = some (r, M') → GG l B LY (d + 14) yL_law cL_law 7 (some .boolean) 601024 7293033 (PI r M') 97 c sl 1363 [(0, .ref (1000 + 46)), (1, .ref 0), (2, .ref 81), (3, .ref 96), (4, .int y4)] [.int s237, .int ((bX B) (y4 + (nI 1)).toNatClampNeg), .ref 0] M238 := by
          intro s237 M238 h
          rw [ej239] at h
          obtain ⟨v1363_241, M1363_240, eM1363_240, h⟩ := bd_e h
          refine m_callVi (hcs := ⟨by omega, by omega⟩) (As := [.int ((bX B) (y4 + (nI 1)).toNatClampNeg), .int s237]) (st := []) (s_X9_stop (d := d + 10) hA  eM1363_240) rfl okX9 ck_X9_stop w_1077 rfl (Nat.le_of_ble_eq_true rfl) dL_law_1363 ?_
          refine g_aload_n dL_law_1366 rfl 2 rfl ?_
          refine g_aload_n dL_law_1367 rfl 0 rfl ?_
          refine g_iload dL_law_1368 4 rfl ?_
          refine g_iconst (v := (nI 1)) dL_law_1370 (by decide) ?_
          refine g_iadd dL_law_1371 ?_
          obtain ⟨hz, h⟩ := gd_s h
          refine m_sld hz dL_law_1372 ?_
          refine g_aload_n dL_law_1373 rfl 0 rfl ?_
          refine g_iload dL_law_1374 4 rfl ?_
          refine g_iconst (v := (nI 2)) dL_law_1376 (by decide) ?_
          refine g_iadd dL_law_1377 ?_
          obtain ⟨hz, h⟩ := gd_s h
          refine m_sld hz dL_law_1378 ?_
          obtain ⟨j244, ej244, h⟩ := jn_e h
          have hj244 : ∀ (s242 : Int32) (M243 : Mm), j244 s242 M243 = some (r, M') → GG l B LY (d + 14) yL_law cL_law 7 (some .boolean) 601024 7293033 (PI r M') 97 c sl 1387 [(0, .ref (1000 + 46)), (1, .ref 0), (2, .ref 81), (3, .ref 96), (4, .int y4)] [.int s242, .int ((bX B) (y4 + (nI 1)).toNatClampNeg), .ref 81, .int v1363_241] M243 := by
            intro s242 M243 h
            rw [ej244] at h
            obtain ⟨v1387_246, M1387_245, eM1387_245, h⟩ := bd_e h
            refine m_callVi (hcs := ⟨by omega, by omega⟩) (As := [.int ((bX B) (y4 + (nI 1)).toNatClampNeg), .int s242]) (st := [.int v1363_241]) (s_X10_stop (d := d + 11) hA  eM1387_245) rfl okX10 ck_X10_stop w_1764 rfl (Nat.le_of_ble_eq_true rfl) dL_law_1387 ?_
            refine g_icmp_eq (tgt := 1791) dL_law_1390 (by decide) (fun c247 => ?_) (fun c247 => ?_)
            · replace h := ite_p c247 h
              refine g_sub [0, 1, 2, 3, 4] (lv' := [(0, .ref (1000 + 46)), (1, .ref 0), (2, .ref 81), (3, .ref 96), (4, .int y4)]) rfl ?_
              refine g_widen (k := c + 1) (n' := sl + 6) (by omega) (by omega) ?_
              exact hj2 _ h
            · replace h := ite_n c247 h
              refine g_iconst (v := (nI 0)) dL_law_1393 (by decide) ?_
              refine g_widen (k := 601024) (n' := 7293033) (by omega) (by omega) ?_
              exact g_zret rfl rfl (pi_of h) dL_law_1394
          refine g_if_eq (tgt := 1386) dL_law_1379 (by decide) (fun c248 => ?_) (fun c248 => ?_)
          · replace h := ite_p c248 h
            refine g_iconst (v := (nI 0)) dL_law_1386 (by decide) ?_
            refine g_sub [0, 1, 2, 3, 4] (lv' := [(0, .ref (1000 + 46)), (1, .ref 0), (2, .ref 81), (3, .ref 96), (4, .int y4)]) rfl ?_
            exact hj244 _ _ h
          · replace h := ite_n c248 h
            refine g_iconst (v := (nI 1)) dL_law_1382 (by decide) ?_
            refine g_goto (tgt := 1387) dL_law_1383 (by decide) ?_
            refine g_sub [0, 1, 2, 3, 4] (lv' := [(0, .ref (1000 + 46)), (1, .ref 0), (2, .ref 81), (3, .ref 96), (4, .int y4)]) rfl ?_
            exact hj244 _ _ h
        refine g_if_eq (tgt := 1362) dL_law_1355 (by decide) (fun c249 => ?_) (fun c249 => ?_)
        · replace h := ite_p c249 h
          refine g_iconst (v := (nI 0)) dL_law_1362 (by decide) ?_
          refine g_sub [0, 1, 2, 3, 4] (lv' := [(0, .ref (1000 + 46)), (1, .ref 0), (2, .ref 81), (3, .ref 96), (4, .int y4)]) rfl ?_
          exact hj239 _ _ h
        · replace h := ite_n c249 h
          refine g_iconst (v := (nI 1)) dL_law_1358 (by decide) ?_
          refine g_goto (tgt := 1363) dL_law_1359 (by decide) ?_
          refine g_sub [0, 1, 2, 3, 4] (lv' := [(0, .ref (1000 + 46)), (1, .ref 0), (2, .ref 81), (3, .ref 96), (4, .int y4)]) rfl ?_
          exact hj239 _ _ h
      replace h := ite_n c236 h
      by_cases c250 : t3 = (nI 33)
      · replace h := ite_p c250 h
        refine g_tabIn (tgt := 1395) dL_law_40 (by rw [c250]; decide) (by rw [c250]; decide) (off := 1355) (by rw [c250]; rfl) (by decide) ?_
        refine g_aload_n dL_law_1395 rfl 1 rfl ?_
        refine g_aload_n dL_law_1396 rfl 0 rfl ?_
        refine g_iload dL_law_1397 4 rfl ?_
        refine g_iconst (v := (nI 1)) dL_law_1399 (by decide) ?_
        refine g_iadd dL_law_1400 ?_
        obtain ⟨hz, h⟩ := gd_s h
        refine m_sld hz dL_law_1401 ?_
        refine g_aload_n dL_law_1402 rfl 0 rfl ?_
        refine g_iload dL_law_1403 4 rfl ?_
        refine g_iconst (v := (nI 2)) dL_law_1405 (by decide) ?_
        refine g_iadd dL_law_1406 ?_
        obtain ⟨hz, h⟩ := gd_s h
        refine m_sld hz dL_law_1407 ?_
        obtain ⟨j253, ej253, h⟩ := jn_e h
        have hj253 : ∀ (s251 : Int32) (M252 : Mm), j253 s251 M252 = some (r, M') → GG l B LY (d + 14) yL_law cL_law 7 (some .boolean) 601024 7293033 (PI r M') 97 c sl 1416 [(0, .ref (1000 + 46)), (1, .ref 0), (2, .ref 81), (3, .ref 96), (4, .int y4)] [.int s251, .int ((bX B) (y4 + (nI 1)).toNatClampNeg), .ref 0] M252 := by
          intro s251 M252 h
          rw [ej253] at h
          obtain ⟨v1416_255, M1416_254, eM1416_254, h⟩ := bd_e h
          refine m_callVi (hcs := ⟨by omega, by omega⟩) (As := [.int ((bX B) (y4 + (nI 1)).toNatClampNeg), .int s251]) (st := []) (s_X9_span (d := d + 8) hA  eM1416_254) rfl okX9 ck_X9_span w_1085 rfl (Nat.le_of_ble_eq_true rfl) dL_law_1416 ?_
          refine g_aload_n dL_law_1419 rfl 2 rfl ?_
          refine g_aload_n dL_law_1420 rfl 0 rfl ?_
          refine g_iload dL_law_1421 4 rfl ?_
          refine g_iconst (v := (nI 1)) dL_law_1423 (by decide) ?_
          refine g_iadd dL_law_1424 ?_
          obtain ⟨hz, h⟩ := gd_s h
          refine m_sld hz dL_law_1425 ?_
          refine g_aload_n dL_law_1426 rfl 0 rfl ?_
          refine g_iload dL_law_1427 4 rfl ?_
          refine g_iconst (v := (nI 2)) dL_law_1429 (by decide) ?_
          refine g_iadd dL_law_1430 ?_
          obtain ⟨hz, h⟩ := gd_s h
          refine m_sld hz dL_law_1431 ?_
          obtain ⟨j258, ej258, h⟩ := jn_e h
          have hj258 : ∀ (s256 : Int32) (M257 : Mm), j258 s256 M257 = some (r, M') → GG l B LY (d + 14) yL_law cL_law 7 (some .boolean) 601024 7293033 (PI r M') 97 c sl 1440 [(0, .ref (1000 + 46)), (1, .ref 0), (2, .ref 81), (3, .ref 96), (4, .int y4)] [.int s256, .int ((bX B) (y4 + (nI 1)).toNatClampNeg), .ref 81, .int v1416_255] M257 := by
            intro s256 M257 h
            rw [ej258] at h
            obtain ⟨v1440_260, M1440_259, eM1440_259, h⟩ := bd_e h
            refine m_callVi (hcs := ⟨by omega, by omega⟩) (As := [.int ((bX B) (y4 + (nI 1)).toNatClampNeg), .int s256]) (st := [.int v1416_255]) (s_X10_span (d := d + 10) hA  eM1440_259) rfl okX10 ck_X10_span w_1768 rfl (Nat.le_of_ble_eq_true rfl) dL_law_1440 ?_
            refine g_icmp_eq (tgt := 1791) dL_law_1443 (by decide) (fun c261 => ?_) (fun c261 => ?_)
            · replace h := ite_p c261 h
              refine g_sub [0, 1, 2, 3, 4] (lv' := [(0, .ref (1000 + 46)), (1, .ref 0), (2, .ref 81), (3, .ref 96), (4, .int y4)]) rfl ?_
              refine g_widen (k := c + 1) (n' := sl + 6) (by omega) (by omega) ?_
              exact hj2 _ h
            · replace h := ite_n c261 h
              refine g_iconst (v := (nI 0)) dL_law_1446 (by decide) ?_
              refine g_widen (k := 601024) (n' := 7293033) (by omega) (by omega) ?_
              exact g_zret rfl rfl (pi_of h) dL_law_1447
          refine g_if_eq (tgt := 1439) dL_law_1432 (by decide) (fun c262 => ?_) (fun c262 => ?_)
          · replace h := ite_p c262 h
            refine g_iconst (v := (nI 0)) dL_law_1439 (by decide) ?_
            refine g_sub [0, 1, 2, 3, 4] (lv' := [(0, .ref (1000 + 46)), (1, .ref 0), (2, .ref 81), (3, .ref 96), (4, .int y4)]) rfl ?_
            exact hj258 _ _ h
          · replace h := ite_n c262 h
            refine g_iconst (v := (nI 1)) dL_law_1435 (by decide) ?_
            refine g_goto (tgt := 1440) dL_law_1436 (by decide) ?_
            refine g_sub [0, 1, 2, 3, 4] (lv' := [(0, .ref (1000 + 46)), (1, .ref 0), (2, .ref 81), (3, .ref 96), (4, .int y4)]) rfl ?_
            exact hj258 _ _ h
        refine g_if_eq (tgt := 1415) dL_law_1408 (by decide) (fun c263 => ?_) (fun c263 => ?_)
        · replace h := ite_p c263 h
          refine g_iconst (v := (nI 0)) dL_law_1415 (by decide) ?_
          refine g_sub [0, 1, 2, 3, 4] (lv' := [(0, .ref (1000 + 46)), (1, .ref 0), (2, .ref 81), (3, .ref 96), (4, .int y4)]) rfl ?_
          exact hj253 _ _ h
        · replace h := ite_n c263 h
          refine g_iconst (v := (nI 1)) dL_law_1411 (by decide) ?_
          refine g_goto (tgt := 1416) dL_law_1412 (by decide) ?_
          refine g_sub [0, 1, 2, 3, 4] (lv' := [(0, .ref (1000 + 46)), (1, .ref 0), (2, .ref 81), (3, .ref 96), (4, .int y4)]) rfl ?_
          exact hj253 _ _ h
      replace h := ite_n c250 h
      by_cases c264 : t3 = (nI 34)
      · replace h := ite_p c264 h
        refine g_tabIn (tgt := 1448) dL_law_40 (by rw [c264]; decide) (by rw [c264]; decide) (off := 1408) (by rw [c264]; rfl) (by decide) ?_
        refine g_aload_n dL_law_1448 rfl 1 rfl ?_
        refine g_aload_n dL_law_1449 rfl 0 rfl ?_
        refine g_iload dL_law_1450 4 rfl ?_
        refine g_iconst (v := (nI 1)) dL_law_1452 (by decide) ?_
        refine g_iadd dL_law_1453 ?_
        obtain ⟨hz, h⟩ := gd_s h
        refine m_sld hz dL_law_1454 ?_
        obtain ⟨v1455_266, M1455_265, eM1455_265, h⟩ := bd_e h
        refine m_callVi (hcs := ⟨by omega, by omega⟩) (As := [.int ((bX B) (y4 + (nI 1)).toNatClampNeg)]) (st := []) (s_X9_fits (d := d + 9) hA  eM1455_265) rfl okX9 ck_X9_fits w_1112 rfl (Nat.le_of_ble_eq_true rfl) dL_law_1455 ?_
        refine g_aload_n dL_law_1458 rfl 2 rfl ?_
        refine g_aload_n dL_law_1459 rfl 0 rfl ?_
        refine g_iload dL_law_1460 4 rfl ?_
        refine g_iconst (v := (nI 1)) dL_law_1462 (by decide) ?_
        refine g_iadd dL_law_1463 ?_
        obtain ⟨hz, h⟩ := gd_s h
        refine m_sld hz dL_law_1464 ?_
        obtain ⟨v1465_268, M1465_267, eM1465_267, h⟩ := bd_e h
        refine m_callVi (hcs := ⟨by omega, by omega⟩) (As := [.int ((bX B) (y4 + (nI 1)).toNatClampNeg)]) (st := [.int v1455_266]) (s_X10_fits (d := d + 10) hA  eM1465_267) rfl okX10 ck_X10_fits w_1788 rfl (Nat.le_of_ble_eq_true rfl) dL_law_1465 ?_
        refine g_icmp_eq (tgt := 1791) dL_law_1468 (by decide) (fun c269 => ?_) (fun c269 => ?_)
        · replace h := ite_p c269 h
          refine g_sub [0, 1, 2, 3, 4] (lv' := [(0, .ref (1000 + 46)), (1, .ref 0), (2, .ref 81), (3, .ref 96), (4, .int y4)]) rfl ?_
          refine g_widen (k := c + 1) (n' := sl + 6) (by omega) (by omega) ?_
          exact hj2 _ h
        · replace h := ite_n c269 h
          refine g_iconst (v := (nI 0)) dL_law_1471 (by decide) ?_
          refine g_widen (k := 601024) (n' := 7293033) (by omega) (by omega) ?_
          exact g_zret rfl rfl (pi_of h) dL_law_1472
      replace h := ite_n c264 h
      by_cases c270 : t3 = (nI 35)
      · replace h := ite_p c270 h
        refine g_tabIn (tgt := 1473) dL_law_40 (by rw [c270]; decide) (by rw [c270]; decide) (off := 1433) (by rw [c270]; rfl) (by decide) ?_
        refine g_aload_n dL_law_1473 rfl 1 rfl ?_
        refine g_aload_n dL_law_1474 rfl 0 rfl ?_
        refine g_iload dL_law_1475 4 rfl ?_
        refine g_iconst (v := (nI 1)) dL_law_1477 (by decide) ?_
        refine g_iadd dL_law_1478 ?_
        obtain ⟨hz, h⟩ := gd_s h
        refine m_sld hz dL_law_1479 ?_
        refine g_aload_n dL_law_1480 rfl 0 rfl ?_
        refine g_iload dL_law_1481 4 rfl ?_
        refine g_iconst (v := (nI 2)) dL_law_1483 (by decide) ?_
        refine g_iadd dL_law_1484 ?_
        obtain ⟨hz, h⟩ := gd_s h
        refine m_sld hz dL_law_1485 ?_
        obtain ⟨v1486_272, M1486_271, eM1486_271, h⟩ := bd_e h
        refine m_callVi (hcs := ⟨by omega, by omega⟩) (As := [.int ((bX B) (y4 + (nI 1)).toNatClampNeg), .int ((bX B) (y4 + (nI 2)).toNatClampNeg)]) (st := []) (s_X9_home (d := d + 11) hA  eM1486_271) rfl okX9 ck_X9_home w_1118 rfl (Nat.le_of_ble_eq_true rfl) dL_law_1486 ?_
        refine g_aload_n dL_law_1489 rfl 2 rfl ?_
        refine g_aload_n dL_law_1490 rfl 0 rfl ?_
        refine g_iload dL_law_1491 4 rfl ?_
        refine g_iconst (v := (nI 1)) dL_law_1493 (by decide) ?_
        refine g_iadd dL_law_1494 ?_
        obtain ⟨hz, h⟩ := gd_s h
        refine m_sld hz dL_law_1495 ?_
        refine g_aload_n dL_law_1496 rfl 0 rfl ?_
        refine g_iload dL_law_1497 4 rfl ?_
        refine g_iconst (v := (nI 2)) dL_law_1499 (by decide) ?_
        refine g_iadd dL_law_1500 ?_
        obtain ⟨hz, h⟩ := gd_s h
        refine m_sld hz dL_law_1501 ?_
        obtain ⟨v1502_274, M1502_273, eM1502_273, h⟩ := bd_e h
        refine m_callVi (hcs := ⟨by omega, by omega⟩) (As := [.int ((bX B) (y4 + (nI 1)).toNatClampNeg), .int ((bX B) (y4 + (nI 2)).toNatClampNeg)]) (st := [.int v1486_272]) (s_X10_home (d := d + 11) hA  eM1502_273) rfl okX10 ck_X10_home w_1792 rfl (Nat.le_of_ble_eq_true rfl) dL_law_1502 ?_
        refine g_icmp_eq (tgt := 1791) dL_law_1505 (by decide) (fun c275 => ?_) (fun c275 => ?_)
        · replace h := ite_p c275 h
          refine g_sub [0, 1, 2, 3, 4] (lv' := [(0, .ref (1000 + 46)), (1, .ref 0), (2, .ref 81), (3, .ref 96), (4, .int y4)]) rfl ?_
          refine g_widen (k := c + 1) (n' := sl + 6) (by omega) (by omega) ?_
          exact hj2 _ h
        · replace h := ite_n c275 h
          refine g_iconst (v := (nI 0)) dL_law_1508 (by decide) ?_
          refine g_widen (k := 601024) (n' := 7293033) (by omega) (by omega) ?_
          exact g_zret rfl rfl (pi_of h) dL_law_1509
      replace h := ite_n c270 h
      by_cases c276 : t3 = (nI 36)
      · replace h := ite_p c276 h
        refine g_tabIn (tgt := 1510) dL_law_40 (by rw [c276]; decide) (by rw [c276]; decide) (off := 1470) (by rw [c276]; rfl) (by decide) ?_
        refine g_aload_n dL_law_1510 rfl 1 rfl ?_
        refine g_aload_n dL_law_1511 rfl 0 rfl ?_
        refine g_iload dL_law_1512 4 rfl ?_
        refine g_iconst (v := (nI 1)) dL_law_1514 (by decide) ?_
        refine g_iadd dL_law_1515 ?_
        obtain ⟨hz, h⟩ := gd_s h
        refine m_sld hz dL_law_1516 ?_
        obtain ⟨v1517_278, M1517_277, eM1517_277, h⟩ := bd_e h
        refine m_callVi (hcs := ⟨by omega, by omega⟩) (As := [.int ((bX B) (y4 + (nI 1)).toNatClampNeg)]) (st := []) (s_X9_far (d := d + 11) hA  eM1517_277) rfl okX9 ck_X9_far w_1123 rfl (Nat.le_of_ble_eq_true rfl) dL_law_1517 ?_
        refine g_aload_n dL_law_1520 rfl 2 rfl ?_
        refine g_aload_n dL_law_1521 rfl 0 rfl ?_
        refine g_iload dL_law_1522 4 rfl ?_
        refine g_iconst (v := (nI 1)) dL_law_1524 (by decide) ?_
        refine g_iadd dL_law_1525 ?_
        obtain ⟨hz, h⟩ := gd_s h
        refine m_sld hz dL_law_1526 ?_
        obtain ⟨v1527_280, M1527_279, eM1527_279, h⟩ := bd_e h
        refine m_callVi (hcs := ⟨by omega, by omega⟩) (As := [.int ((bX B) (y4 + (nI 1)).toNatClampNeg)]) (st := [.int v1517_278]) (s_X10_far (d := d + 11) hA  eM1527_279) rfl okX10 ck_X10_far w_1796 rfl (Nat.le_of_ble_eq_true rfl) dL_law_1527 ?_
        refine g_icmp_eq (tgt := 1791) dL_law_1530 (by decide) (fun c281 => ?_) (fun c281 => ?_)
        · replace h := ite_p c281 h
          refine g_sub [0, 1, 2, 3, 4] (lv' := [(0, .ref (1000 + 46)), (1, .ref 0), (2, .ref 81), (3, .ref 96), (4, .int y4)]) rfl ?_
          refine g_widen (k := c + 1) (n' := sl + 6) (by omega) (by omega) ?_
          exact hj2 _ h
        · replace h := ite_n c281 h
          refine g_iconst (v := (nI 0)) dL_law_1533 (by decide) ?_
          refine g_widen (k := 601024) (n' := 7293033) (by omega) (by omega) ?_
          exact g_zret rfl rfl (pi_of h) dL_law_1534
      replace h := ite_n c276 h
      by_cases c282 : t3 = (nI 37)
      · replace h := ite_p c282 h
        refine g_tabIn (tgt := 1535) dL_law_40 (by rw [c282]; decide) (by rw [c282]; decide) (off := 1495) (by rw [c282]; rfl) (by decide) ?_
        refine g_aload_n dL_law_1535 rfl 1 rfl ?_
        obtain ⟨v1536_284, M1536_283, eM1536_283, h⟩ := bd_e h
        refine m_callVi (hcs := ⟨by omega, by omega⟩) (As := []) (st := []) (s_X9_fair (d := d + 9) hA  eM1536_283) rfl okX9 ck_X9_fair w_1127 rfl (Nat.le_of_ble_eq_true rfl) dL_law_1536 ?_
        refine g_aload_n dL_law_1539 rfl 2 rfl ?_
        obtain ⟨v1540_286, M1540_285, eM1540_285, h⟩ := bd_e h
        refine m_callVi (hcs := ⟨by omega, by omega⟩) (As := []) (st := [.int v1536_284]) (s_X10_fair (d := d + 11) hA  eM1540_285) rfl okX10 ck_X10_fair w_1800 rfl (Nat.le_of_ble_eq_true rfl) dL_law_1540 ?_
        refine g_icmp_eq (tgt := 1791) dL_law_1543 (by decide) (fun c287 => ?_) (fun c287 => ?_)
        · replace h := ite_p c287 h
          refine g_sub [0, 1, 2, 3, 4] (lv' := [(0, .ref (1000 + 46)), (1, .ref 0), (2, .ref 81), (3, .ref 96), (4, .int y4)]) rfl ?_
          refine g_widen (k := c + 1) (n' := sl + 6) (by omega) (by omega) ?_
          exact hj2 _ h
        · replace h := ite_n c287 h
          refine g_iconst (v := (nI 0)) dL_law_1546 (by decide) ?_
          refine g_widen (k := 601024) (n' := 7293033) (by omega) (by omega) ?_
          exact g_zret rfl rfl (pi_of h) dL_law_1547
      replace h := ite_n c282 h
      by_cases c288 : t3 = (nI 38)
      · replace h := ite_p c288 h
        refine g_tabIn (tgt := 1548) dL_law_40 (by rw [c288]; decide) (by rw [c288]; decide) (off := 1508) (by rw [c288]; rfl) (by decide) ?_
        refine g_aload_n dL_law_1548 rfl 1 rfl ?_
        refine g_aload_n dL_law_1549 rfl 0 rfl ?_
        refine g_iload dL_law_1550 4 rfl ?_
        refine g_iconst (v := (nI 1)) dL_law_1552 (by decide) ?_
        refine g_iadd dL_law_1553 ?_
        obtain ⟨hz, h⟩ := gd_s h
        refine m_sld hz dL_law_1554 ?_
        obtain ⟨v1555_290, M1555_289, eM1555_289, h⟩ := bd_e h
        refine m_callVi (hcs := ⟨by omega, by omega⟩) (As := [.int ((bX B) (y4 + (nI 1)).toNatClampNeg)]) (st := []) (s_X9_from (d := d + 9) hA  eM1555_289) rfl okX9 ck_X9_from w_1151 rfl (Nat.le_of_ble_eq_true rfl) dL_law_1555 ?_
        refine g_aload_n dL_law_1558 rfl 2 rfl ?_
        refine g_aload_n dL_law_1559 rfl 0 rfl ?_
        refine g_iload dL_law_1560 4 rfl ?_
        refine g_iconst (v := (nI 1)) dL_law_1562 (by decide) ?_
        refine g_iadd dL_law_1563 ?_
        obtain ⟨hz, h⟩ := gd_s h
        refine m_sld hz dL_law_1564 ?_
        obtain ⟨v1565_292, M1565_291, eM1565_291, h⟩ := bd_e h
        refine m_callVi (hcs := ⟨by omega, by omega⟩) (As := [.int ((bX B) (y4 + (nI 1)).toNatClampNeg)]) (st := [.int v1555_290]) (s_X10_from (d := d + 11) hA  eM1565_291) rfl okX10 ck_X10_from w_1809 rfl (Nat.le_of_ble_eq_true rfl) dL_law_1565 ?_
        refine g_icmp_eq (tgt := 1791) dL_law_1568 (by decide) (fun c293 => ?_) (fun c293 => ?_)
        · replace h := ite_p c293 h
          refine g_sub [0, 1, 2, 3, 4] (lv' := [(0, .ref (1000 + 46)), (1, .ref 0), (2, .ref 81), (3, .ref 96), (4, .int y4)]) rfl ?_
          refine g_widen (k := c + 1) (n' := sl + 6) (by omega) (by omega) ?_
          exact hj2 _ h
        · replace h := ite_n c293 h
          refine g_iconst (v := (nI 0)) dL_law_1571 (by decide) ?_
          refine g_widen (k := 601024) (n' := 7293033) (by omega) (by omega) ?_
          exact g_zret rfl rfl (pi_of h) dL_law_1572
      replace h := ite_n c288 h
      by_cases c294 : t3 = (nI 39)
      · replace h := ite_p c294 h
        refine g_tabIn (tgt := 1573) dL_law_40 (by rw [c294]; decide) (by rw [c294]; decide) (off := 1533) (by rw [c294]; rfl) (by decide) ?_
        refine g_aload_n dL_law_1573 rfl 1 rfl ?_
        refine g_aload_n dL_law_1574 rfl 0 rfl ?_
        refine g_iload dL_law_1575 4 rfl ?_
        refine g_iconst (v := (nI 1)) dL_law_1577 (by decide) ?_
        refine g_iadd dL_law_1578 ?_
        obtain ⟨hz, h⟩ := gd_s h
        refine m_sld hz dL_law_1579 ?_
        obtain ⟨v1580_296, M1580_295, eM1580_295, h⟩ := bd_e h
        refine m_callVi (hcs := ⟨by omega, by omega⟩) (As := [.int ((bX B) (y4 + (nI 1)).toNatClampNeg)]) (st := []) (s_X9_lay (d := d + 9) hA  eM1580_295) rfl okX9 ck_X9_lay w_1155 rfl (Nat.le_of_ble_eq_true rfl) dL_law_1580 ?_
        refine g_aload_n dL_law_1583 rfl 2 rfl ?_
        refine g_aload_n dL_law_1584 rfl 0 rfl ?_
        refine g_iload dL_law_1585 4 rfl ?_
        refine g_iconst (v := (nI 1)) dL_law_1587 (by decide) ?_
        refine g_iadd dL_law_1588 ?_
        obtain ⟨hz, h⟩ := gd_s h
        refine m_sld hz dL_law_1589 ?_
        obtain ⟨v1590_298, M1590_297, eM1590_297, h⟩ := bd_e h
        refine m_callVi (hcs := ⟨by omega, by omega⟩) (As := [.int ((bX B) (y4 + (nI 1)).toNatClampNeg)]) (st := [.int v1580_296]) (s_X10_lay (d := d + 9) hA  eM1590_297) rfl okX10 ck_X10_lay w_1813 rfl (Nat.le_of_ble_eq_true rfl) dL_law_1590 ?_
        refine g_icmp_eq (tgt := 1791) dL_law_1593 (by decide) (fun c299 => ?_) (fun c299 => ?_)
        · replace h := ite_p c299 h
          refine g_sub [0, 1, 2, 3, 4] (lv' := [(0, .ref (1000 + 46)), (1, .ref 0), (2, .ref 81), (3, .ref 96), (4, .int y4)]) rfl ?_
          refine g_widen (k := c + 1) (n' := sl + 6) (by omega) (by omega) ?_
          exact hj2 _ h
        · replace h := ite_n c299 h
          refine g_iconst (v := (nI 0)) dL_law_1596 (by decide) ?_
          refine g_widen (k := 601024) (n' := 7293033) (by omega) (by omega) ?_
          exact g_zret rfl rfl (pi_of h) dL_law_1597
      replace h := ite_n c294 h
      by_cases c300 : t3 = (nI 40)
      · replace h := ite_p c300 h
        refine g_tabIn (tgt := 1598) dL_law_40 (by rw [c300]; decide) (by rw [c300]; decide) (off := 1558) (by rw [c300]; rfl) (by decide) ?_
        refine g_aload_n dL_law_1598 rfl 1 rfl ?_
        refine g_aload_n dL_law_1599 rfl 0 rfl ?_
        refine g_iload dL_law_1600 4 rfl ?_
        refine g_iconst (v := (nI 1)) dL_law_1602 (by decide) ?_
        refine g_iadd dL_law_1603 ?_
        obtain ⟨hz, h⟩ := gd_s h
        refine m_sld hz dL_law_1604 ?_
        obtain ⟨v1605_302, M1605_301, eM1605_301, h⟩ := bd_e h
        refine m_callVi (hcs := ⟨by omega, by omega⟩) (As := [.int ((bX B) (y4 + (nI 1)).toNatClampNeg)]) (st := []) (s_X9_heard (d := d + 9) hA  eM1605_301) rfl okX9 ck_X9_heard w_1172 rfl (Nat.le_of_ble_eq_true rfl) dL_law_1605 ?_
        refine g_aload_n dL_law_1608 rfl 2 rfl ?_
        refine g_aload_n dL_law_1609 rfl 0 rfl ?_
        refine g_iload dL_law_1610 4 rfl ?_
        refine g_iconst (v := (nI 1)) dL_law_1612 (by decide) ?_
        refine g_iadd dL_law_1613 ?_
        obtain ⟨hz, h⟩ := gd_s h
        refine m_sld hz dL_law_1614 ?_
        obtain ⟨v1615_304, M1615_303, eM1615_303, h⟩ := bd_e h
        refine m_callVi (hcs := ⟨by omega, by omega⟩) (As := [.int ((bX B) (y4 + (nI 1)).toNatClampNeg)]) (st := [.int v1605_302]) (s_X10_heard (d := d + 9) hA  eM1615_303) rfl okX10 ck_X10_heard w_1829 rfl (Nat.le_of_ble_eq_true rfl) dL_law_1615 ?_
        refine g_icmp_eq (tgt := 1791) dL_law_1618 (by decide) (fun c305 => ?_) (fun c305 => ?_)
        · replace h := ite_p c305 h
          refine g_sub [0, 1, 2, 3, 4] (lv' := [(0, .ref (1000 + 46)), (1, .ref 0), (2, .ref 81), (3, .ref 96), (4, .int y4)]) rfl ?_
          refine g_widen (k := c + 1) (n' := sl + 6) (by omega) (by omega) ?_
          exact hj2 _ h
        · replace h := ite_n c305 h
          refine g_iconst (v := (nI 0)) dL_law_1621 (by decide) ?_
          refine g_widen (k := 601024) (n' := 7293033) (by omega) (by omega) ?_
          exact g_zret rfl rfl (pi_of h) dL_law_1622
      replace h := ite_n c300 h
      by_cases c306 : t3 = (nI 41)
      · replace h := ite_p c306 h
        refine g_tabIn (tgt := 1623) dL_law_40 (by rw [c306]; decide) (by rw [c306]; decide) (off := 1583) (by rw [c306]; rfl) (by decide) ?_
        refine g_aload_n dL_law_1623 rfl 1 rfl ?_
        refine g_aload_n dL_law_1624 rfl 0 rfl ?_
        refine g_iload dL_law_1625 4 rfl ?_
        refine g_iconst (v := (nI 1)) dL_law_1627 (by decide) ?_
        refine g_iadd dL_law_1628 ?_
        obtain ⟨hz, h⟩ := gd_s h
        refine m_sld hz dL_law_1629 ?_
        refine g_aload_n dL_law_1630 rfl 0 rfl ?_
        refine g_iload dL_law_1631 4 rfl ?_
        refine g_iconst (v := (nI 2)) dL_law_1633 (by decide) ?_
        refine g_iadd dL_law_1634 ?_
        obtain ⟨hz, h⟩ := gd_s h
        refine m_sld hz dL_law_1635 ?_
        obtain ⟨v1636_308, M1636_307, eM1636_307, h⟩ := bd_e h
        refine m_callVi (hcs := ⟨by omega, by omega⟩) (As := [.int ((bX B) (y4 + (nI 1)).toNatClampNeg), .int ((bX B) (y4 + (nI 2)).toNatClampNeg)]) (st := []) (s_X9_loud (d := d + 11) hA  eM1636_307) rfl okX9 ck_X9_loud w_1176 rfl (Nat.le_of_ble_eq_true rfl) dL_law_1636 ?_
        refine g_aload_n dL_law_1639 rfl 2 rfl ?_
        refine g_aload_n dL_law_1640 rfl 0 rfl ?_
        refine g_iload dL_law_1641 4 rfl ?_
        refine g_iconst (v := (nI 1)) dL_law_1643 (by decide) ?_
        refine g_iadd dL_law_1644 ?_
        obtain ⟨hz, h⟩ := gd_s h
        refine m_sld hz dL_law_1645 ?_
        refine g_aload_n dL_law_1646 rfl 0 rfl ?_
        refine g_iload dL_law_1647 4 rfl ?_
        refine g_iconst (v := (nI 2)) dL_law_1649 (by decide) ?_
        refine g_iadd dL_law_1650 ?_
        obtain ⟨hz, h⟩ := gd_s h
        refine m_sld hz dL_law_1651 ?_
        obtain ⟨v1652_310, M1652_309, eM1652_309, h⟩ := bd_e h
        refine m_callVi (hcs := ⟨by omega, by omega⟩) (As := [.int ((bX B) (y4 + (nI 1)).toNatClampNeg), .int ((bX B) (y4 + (nI 2)).toNatClampNeg)]) (st := [.int v1636_308]) (s_X10_loud (d := d + 11) hA  eM1652_309) rfl okX10 ck_X10_loud w_1833 rfl (Nat.le_of_ble_eq_true rfl) dL_law_1652 ?_
        refine g_icmp_eq (tgt := 1791) dL_law_1655 (by decide) (fun c311 => ?_) (fun c311 => ?_)
        · replace h := ite_p c311 h
          refine g_sub [0, 1, 2, 3, 4] (lv' := [(0, .ref (1000 + 46)), (1, .ref 0), (2, .ref 81), (3, .ref 96), (4, .int y4)]) rfl ?_
          refine g_widen (k := c + 1) (n' := sl + 6) (by omega) (by omega) ?_
          exact hj2 _ h
        · replace h := ite_n c311 h
          refine g_iconst (v := (nI 0)) dL_law_1658 (by decide) ?_
          refine g_widen (k := 601024) (n' := 7293033) (by omega) (by omega) ?_
          exact g_zret rfl rfl (pi_of h) dL_law_1659
      replace h := ite_n c306 h
      by_cases c312 : t3 = (nI 42)
      · replace h := ite_p c312 h
        refine g_tabIn (tgt := 1660) dL_law_40 (by rw [c312]; decide) (by rw [c312]; decide) (off := 1620) (by rw [c312]; rfl) (by decide) ?_
        refine g_aload_n dL_law_1660 rfl 1 rfl ?_
        refine g_aload_n dL_law_1661 rfl 0 rfl ?_
        refine g_iload dL_law_1662 4 rfl ?_
        refine g_iconst (v := (nI 1)) dL_law_1664 (by decide) ?_
        refine g_iadd dL_law_1665 ?_
        obtain ⟨hz, h⟩ := gd_s h
        refine m_sld hz dL_law_1666 ?_
        refine g_aload_n dL_law_1667 rfl 3 rfl ?_
        obtain ⟨v_313, M_314, eM_314, h⟩ := bd_e h
        refine m_led (st := []) hl hA eM_314 ⟨by omega, by omega⟩ (Nat.le_of_ble_eq_true rfl) dL_law_1668 ?_
        refine g_istore (lv' := [(5, .int v_313), (0, .ref (1000 + 46)), (1, .ref 0), (2, .ref 81), (3, .ref 96), (4, .int y4)]) dL_law_1671 (by decide) rfl ?_
        refine g_aload_n dL_law_1673 rfl 3 rfl ?_
        refine g_aload_n dL_law_1674 rfl 1 rfl ?_
        refine g_iload dL_law_1675 5 rfl ?_
        refine g_iconst (v := (nI 1)) dL_law_1677 (by decide) ?_
        refine g_iadd dL_law_1678 ?_
        obtain ⟨hz, h⟩ := gd_s h
        refine m_sld hz dL_law_1679 ?_
        obtain ⟨v1680_316, M1680_315, eM1680_315, h⟩ := bd_e h
        refine m_callVi (hcs := ⟨by omega, by omega⟩) (As := [.int ((bX B) (y4 + (nI 1)).toNatClampNeg)]) (st := []) (s_X10_led (d := d + 12) hA  eM1680_315) rfl okX10 ck_X10_led w_1837 rfl (Nat.le_of_ble_eq_true rfl) dL_law_1680 ?_
        refine g_istore (lv' := [(6, .int v1680_316), (5, .int v_313), (0, .ref (1000 + 46)), (1, .ref 0), (2, .ref 81), (3, .ref 96), (4, .int y4)]) dL_law_1683 (by decide) rfl ?_
        refine g_aload_n dL_law_1685 rfl 4 rfl ?_
        obtain ⟨v1686_318, M1686_317, eM1686_317, h⟩ := bd_e h
        refine m_callVi (hcs := ⟨by omega, by omega⟩) (As := []) (st := []) (s_X10_thrown (d := d + 13) hA  eM1686_317) rfl okX10 ck_X10_thrown w_1369 rfl (Nat.le_of_ble_eq_true rfl) dL_law_1686 ?_
        refine g_iload dL_law_1689 1 rfl ?_
        refine g_icmp_eq (tgt := 1696) dL_law_1691 (by decide) (fun c323 => ?_) (fun c323 => ?_)
        · replace h := ite_p c323 h
          refine g_iload dL_law_1696 1 rfl ?_
          obtain ⟨j320, ej320, h⟩ := jn_e h
          have hj320 : ∀ (M319 : Mm), j320 M319 = some (r, M') → GG l B LY (d + 14) yL_law cL_law 7 (some .boolean) 601024 7293033 (PI r M') 97 (c + 1) (sl + 6) 1713 [(0, .ref (1000 + 46)), (1, .ref 0), (2, .ref 81), (3, .ref 96), (4, .int y4)] [] M319 := by
            intro M319 h
            rw [ej320] at h
            refine g_goto (tgt := 1791) dL_law_1713 (by decide) ?_
            refine g_sub [0, 1, 2, 3, 4] (lv' := [(0, .ref (1000 + 46)), (1, .ref 0), (2, .ref 81), (3, .ref 96), (4, .int y4)]) rfl ?_
            refine g_widen (k := c + 1) (n' := sl + 6) (by omega) (by omega) ?_
            exact hj2 _ h
          refine g_if_ne (tgt := 1713) dL_law_1698 (by decide) (fun c322 => ?_) (fun c322 => ?_)
          · replace h := ite_n c322 h
            refine g_sub [2, 3, 4, 5, 6] (lv' := [(0, .ref (1000 + 46)), (1, .ref 0), (2, .ref 81), (3, .ref 96), (4, .int y4)]) rfl ?_
            exact hj320  _ h
          · replace h := ite_p c322 h
            refine g_aload_n dL_law_1701 rfl 5 rfl ?_
            refine g_iconst (v := (nI 0)) dL_law_1702 (by decide) ?_
            obtain ⟨hz, h⟩ := gd_s h
            refine m_lald (len := 1) rfl hz dL_law_1703 ?_
            refine g_iload dL_law_1704 0 rfl ?_
            refine g_i2l dL_law_1706 ?_
            refine g_lcmp dL_law_1707 ?_
            refine g_if_eq (tgt := 1713) dL_law_1708 (by decide) (fun c321 => ?_) (fun c321 => ?_)
            · replace h := ite_p c321 h
              refine g_sub [2, 3, 4, 5, 6] (lv' := [(0, .ref (1000 + 46)), (1, .ref 0), (2, .ref 81), (3, .ref 96), (4, .int y4)]) rfl ?_
              exact hj320  _ h
            · replace h := ite_n c321 h
              refine g_iconst (v := (nI 0)) dL_law_1711 (by decide) ?_
              refine g_widen (k := 601024) (n' := 7293033) (by omega) (by omega) ?_
              exact g_zret rfl rfl (pi_of h) dL_law_1712
        · replace h := ite_n c323 h
          refine g_iconst (v := (nI 0)) dL_law_1694 (by decide) ?_
          refine g_widen (k := 601024) (n' := 7293033) (by omega) (by omega) ?_
          exact g_zret rfl rfl (pi_of h) dL_law_1695
      replace h := ite_n c312 h
      by_cases c324 : t3 = (nI 43)
      · replace h := ite_p c324 h
        refine g_tabIn (tgt := 1716) dL_law_40 (by rw [c324]; decide) (by rw [c324]; decide) (off := 1676) (by rw [c324]; rfl) (by decide) ?_
        refine g_aload_n dL_law_1716 rfl 1 rfl ?_
        refine g_aload_n dL_law_1717 rfl 0 rfl ?_
        refine g_iload dL_law_1718 4 rfl ?_
        refine g_iconst (v := (nI 1)) dL_law_1720 (by decide) ?_
        refine g_iadd dL_law_1721 ?_
        obtain ⟨hz, h⟩ := gd_s h
        refine m_sld hz dL_law_1722 ?_
        obtain ⟨v1723_326, M1723_325, eM1723_325, h⟩ := bd_e h
        refine m_callVi (hcs := ⟨by omega, by omega⟩) (As := [.int ((bX B) (y4 + (nI 1)).toNatClampNeg)]) (st := []) (s_X9_size (d := d + 11) hA  eM1723_325) rfl okX9 ck_X9_size w_1181 rfl (Nat.le_of_ble_eq_true rfl) dL_law_1723 ?_
        refine g_aload_n dL_law_1726 rfl 2 rfl ?_
        refine g_aload_n dL_law_1727 rfl 0 rfl ?_
        refine g_iload dL_law_1728 4 rfl ?_
        refine g_iconst (v := (nI 1)) dL_law_1730 (by decide) ?_
        refine g_iadd dL_law_1731 ?_
        obtain ⟨hz, h⟩ := gd_s h
        refine m_sld hz dL_law_1732 ?_
        obtain ⟨v1733_328, M1733_327, eM1733_327, h⟩ := bd_e h
        refine m_callVi (hcs := ⟨by omega, by omega⟩) (As := [.int ((bX B) (y4 + (nI 1)).toNatClampNeg)]) (st := [.int v1723_326]) (s_X10_size (d := d + 10) hA  eM1733_327) rfl okX10 ck_X10_size w_1841 rfl (Nat.le_of_ble_eq_true rfl) dL_law_1733 ?_
        refine g_icmp_eq (tgt := 1791) dL_law_1736 (by decide) (fun c329 => ?_) (fun c329 => ?_)
        · replace h := ite_p c329 h
          refine g_sub [0, 1, 2, 3, 4] (lv' := [(0, .ref (1000 + 46)), (1, .ref 0), (2, .ref 81), (3, .ref 96), (4, .int y4)]) rfl ?_
          refine g_widen (k := c + 1) (n' := sl + 6) (by omega) (by omega) ?_
          exact hj2 _ h
        · replace h := ite_n c329 h
          refine g_iconst (v := (nI 0)) dL_law_1739 (by decide) ?_
          refine g_widen (k := 601024) (n' := 7293033) (by omega) (by omega) ?_
          exact g_zret rfl rfl (pi_of h) dL_law_1740
      replace h := ite_n c324 h
      by_cases c330 : t3 = (nI 44)
      · replace h := ite_p c330 h
        refine g_tabIn (tgt := 1741) dL_law_40 (by rw [c330]; decide) (by rw [c330]; decide) (off := 1701) (by rw [c330]; rfl) (by decide) ?_
        refine g_aload_n dL_law_1741 rfl 1 rfl ?_
        refine g_aload_n dL_law_1742 rfl 0 rfl ?_
        refine g_iload dL_law_1743 4 rfl ?_
        refine g_iconst (v := (nI 1)) dL_law_1745 (by decide) ?_
        refine g_iadd dL_law_1746 ?_
        obtain ⟨hz, h⟩ := gd_s h
        refine m_sld hz dL_law_1747 ?_
        refine g_aload_n dL_law_1748 rfl 0 rfl ?_
        refine g_iload dL_law_1749 4 rfl ?_
        refine g_iconst (v := (nI 2)) dL_law_1751 (by decide) ?_
        refine g_iadd dL_law_1752 ?_
        obtain ⟨hz, h⟩ := gd_s h
        refine m_sld hz dL_law_1753 ?_
        obtain ⟨v1754_332, M1754_331, eM1754_331, h⟩ := bd_e h
        refine m_callVi (hcs := ⟨by omega, by omega⟩) (As := [.int ((bX B) (y4 + (nI 1)).toNatClampNeg), .int ((bX B) (y4 + (nI 2)).toNatClampNeg)]) (st := []) (s_X9_creeper (d := d + 12) hA  eM1754_331) rfl okX9 ck_X9_creeper w_1185 rfl (Nat.le_of_ble_eq_true rfl) dL_law_1754 ?_
        refine g_aload_n dL_law_1757 rfl 2 rfl ?_
        refine g_aload_n dL_law_1758 rfl 0 rfl ?_
        refine g_iload dL_law_1759 4 rfl ?_
        refine g_iconst (v := (nI 1)) dL_law_1761 (by decide) ?_
        refine g_iadd dL_law_1762 ?_
        obtain ⟨hz, h⟩ := gd_s h
        refine m_sld hz dL_law_1763 ?_
        refine g_aload_n dL_law_1764 rfl 0 rfl ?_
        refine g_iload dL_law_1765 4 rfl ?_
        refine g_iconst (v := (nI 2)) dL_law_1767 (by decide) ?_
        refine g_iadd dL_law_1768 ?_
        obtain ⟨hz, h⟩ := gd_s h
        refine m_sld hz dL_law_1769 ?_
        obtain ⟨v1770_334, M1770_333, eM1770_333, h⟩ := bd_e h
        refine m_callVi (hcs := ⟨by omega, by omega⟩) (As := [.int ((bX B) (y4 + (nI 1)).toNatClampNeg), .int ((bX B) (y4 + (nI 2)).toNatClampNeg)]) (st := [.int v1754_332]) (s_X10_creeper (d := d + 11) hA  eM1770_333) rfl okX10 ck_X10_creeper w_1845 rfl (Nat.le_of_ble_eq_true rfl) dL_law_1770 ?_
        refine g_icmp_eq (tgt := 1791) dL_law_1773 (by decide) (fun c335 => ?_) (fun c335 => ?_)
        · replace h := ite_p c335 h
          refine g_sub [0, 1, 2, 3, 4] (lv' := [(0, .ref (1000 + 46)), (1, .ref 0), (2, .ref 81), (3, .ref 96), (4, .int y4)]) rfl ?_
          refine g_widen (k := c + 1) (n' := sl + 6) (by omega) (by omega) ?_
          exact hj2 _ h
        · replace h := ite_n c335 h
          refine g_iconst (v := (nI 0)) dL_law_1776 (by decide) ?_
          refine g_widen (k := 601024) (n' := 7293033) (by omega) (by omega) ?_
          exact g_zret rfl rfl (pi_of h) dL_law_1777
      replace h := ite_n c330 h
      by_cases c336 : t3 = (nI 45)
      · replace h := ite_p c336 h
        refine g_tabIn (tgt := 1778) dL_law_40 (by rw [c336]; decide) (by rw [c336]; decide) (off := 1738) (by rw [c336]; rfl) (by decide) ?_
        refine g_aload_n dL_law_1778 rfl 1 rfl ?_
        obtain ⟨v1779_338, M1779_337, eM1779_337, h⟩ := bd_e h
        refine m_callVi (hcs := ⟨by omega, by omega⟩) (As := []) (st := []) (s_X9_trouble (d := d + 13) hA  eM1779_337) rfl okX9 ck_X9_trouble w_1189 rfl (Nat.le_of_ble_eq_true rfl) dL_law_1779 ?_
        refine g_aload_n dL_law_1782 rfl 2 rfl ?_
        obtain ⟨v1783_340, M1783_339, eM1783_339, h⟩ := bd_e h
        refine m_callVi (hcs := ⟨by omega, by omega⟩) (As := []) (st := [.int v1779_338]) (s_X10_trouble (d := d + 13) hA  eM1783_339) rfl okX10 ck_X10_trouble w_1849 rfl (Nat.le_of_ble_eq_true rfl) dL_law_1783 ?_
        refine g_icmp_eq (tgt := 1791) dL_law_1786 (by decide) (fun c341 => ?_) (fun c341 => ?_)
        · replace h := ite_p c341 h
          refine g_sub [0, 1, 2, 3, 4] (lv' := [(0, .ref (1000 + 46)), (1, .ref 0), (2, .ref 81), (3, .ref 96), (4, .int y4)]) rfl ?_
          refine g_widen (k := c + 1) (n' := sl + 6) (by omega) (by omega) ?_
          exact hj2 _ h
        · replace h := ite_n c341 h
          refine g_iconst (v := (nI 0)) dL_law_1789 (by decide) ?_
          refine g_widen (k := 601024) (n' := 7293033) (by omega) (by omega) ?_
          exact g_zret rfl rfl (pi_of h) dL_law_1790
      replace h := ite_n c336 h
      have tc4 : t3.toInt ≠ 0 := fun e => c4 (Int32.toInt_inj.mp (e.trans (by decide)))
      have tc10 : t3.toInt ≠ 1 := fun e => c10 (Int32.toInt_inj.mp (e.trans (by decide)))
      have tc16 : t3.toInt ≠ 2 := fun e => c16 (Int32.toInt_inj.mp (e.trans (by decide)))
      have tc22 : t3.toInt ≠ 3 := fun e => c22 (Int32.toInt_inj.mp (e.trans (by decide)))
      have tc28 : t3.toInt ≠ 4 := fun e => c28 (Int32.toInt_inj.mp (e.trans (by decide)))
      have tc34 : t3.toInt ≠ 5 := fun e => c34 (Int32.toInt_inj.mp (e.trans (by decide)))
      have tc40 : t3.toInt ≠ 6 := fun e => c40 (Int32.toInt_inj.mp (e.trans (by decide)))
      have tc46 : t3.toInt ≠ 7 := fun e => c46 (Int32.toInt_inj.mp (e.trans (by decide)))
      have tc52 : t3.toInt ≠ 8 := fun e => c52 (Int32.toInt_inj.mp (e.trans (by decide)))
      have tc58 : t3.toInt ≠ 9 := fun e => c58 (Int32.toInt_inj.mp (e.trans (by decide)))
      have tc64 : t3.toInt ≠ 10 := fun e => c64 (Int32.toInt_inj.mp (e.trans (by decide)))
      have tc70 : t3.toInt ≠ 11 := fun e => c70 (Int32.toInt_inj.mp (e.trans (by decide)))
      have tc76 : t3.toInt ≠ 12 := fun e => c76 (Int32.toInt_inj.mp (e.trans (by decide)))
      have tc82 : t3.toInt ≠ 13 := fun e => c82 (Int32.toInt_inj.mp (e.trans (by decide)))
      have tc88 : t3.toInt ≠ 14 := fun e => c88 (Int32.toInt_inj.mp (e.trans (by decide)))
      have tc94 : t3.toInt ≠ 15 := fun e => c94 (Int32.toInt_inj.mp (e.trans (by decide)))
      have tc100 : t3.toInt ≠ 16 := fun e => c100 (Int32.toInt_inj.mp (e.trans (by decide)))
      have tc106 : t3.toInt ≠ 17 := fun e => c106 (Int32.toInt_inj.mp (e.trans (by decide)))
      have tc120 : t3.toInt ≠ 18 := fun e => c120 (Int32.toInt_inj.mp (e.trans (by decide)))
      have tc134 : t3.toInt ≠ 19 := fun e => c134 (Int32.toInt_inj.mp (e.trans (by decide)))
      have tc140 : t3.toInt ≠ 20 := fun e => c140 (Int32.toInt_inj.mp (e.trans (by decide)))
      have tc146 : t3.toInt ≠ 21 := fun e => c146 (Int32.toInt_inj.mp (e.trans (by decide)))
      have tc152 : t3.toInt ≠ 22 := fun e => c152 (Int32.toInt_inj.mp (e.trans (by decide)))
      have tc158 : t3.toInt ≠ 23 := fun e => c158 (Int32.toInt_inj.mp (e.trans (by decide)))
      have tc164 : t3.toInt ≠ 24 := fun e => c164 (Int32.toInt_inj.mp (e.trans (by decide)))
      have tc170 : t3.toInt ≠ 25 := fun e => c170 (Int32.toInt_inj.mp (e.trans (by decide)))
      have tc176 : t3.toInt ≠ 26 := fun e => c176 (Int32.toInt_inj.mp (e.trans (by decide)))
      have tc182 : t3.toInt ≠ 27 := fun e => c182 (Int32.toInt_inj.mp (e.trans (by decide)))
      have tc188 : t3.toInt ≠ 28 := fun e => c188 (Int32.toInt_inj.mp (e.trans (by decide)))
      have tc210 : t3.toInt ≠ 29 := fun e => c210 (Int32.toInt_inj.mp (e.trans (by decide)))
      have tc216 : t3.toInt ≠ 30 := fun e => c216 (Int32.toInt_inj.mp (e.trans (by decide)))
      have tc230 : t3.toInt ≠ 31 := fun e => c230 (Int32.toInt_inj.mp (e.trans (by decide)))
      have tc236 : t3.toInt ≠ 32 := fun e => c236 (Int32.toInt_inj.mp (e.trans (by decide)))
      have tc250 : t3.toInt ≠ 33 := fun e => c250 (Int32.toInt_inj.mp (e.trans (by decide)))
      have tc264 : t3.toInt ≠ 34 := fun e => c264 (Int32.toInt_inj.mp (e.trans (by decide)))
      have tc270 : t3.toInt ≠ 35 := fun e => c270 (Int32.toInt_inj.mp (e.trans (by decide)))
      have tc276 : t3.toInt ≠ 36 := fun e => c276 (Int32.toInt_inj.mp (e.trans (by decide)))
      have tc282 : t3.toInt ≠ 37 := fun e => c282 (Int32.toInt_inj.mp (e.trans (by decide)))
      have tc288 : t3.toInt ≠ 38 := fun e => c288 (Int32.toInt_inj.mp (e.trans (by decide)))
      have tc294 : t3.toInt ≠ 39 := fun e => c294 (Int32.toInt_inj.mp (e.trans (by decide)))
      have tc300 : t3.toInt ≠ 40 := fun e => c300 (Int32.toInt_inj.mp (e.trans (by decide)))
      have tc306 : t3.toInt ≠ 41 := fun e => c306 (Int32.toInt_inj.mp (e.trans (by decide)))
      have tc312 : t3.toInt ≠ 42 := fun e => c312 (Int32.toInt_inj.mp (e.trans (by decide)))
      have tc324 : t3.toInt ≠ 43 := fun e => c324 (Int32.toInt_inj.mp (e.trans (by decide)))
      have tc330 : t3.toInt ≠ 44 := fun e => c330 (Int32.toInt_inj.mp (e.trans (by decide)))
      have tc336 : t3.toInt ≠ 45 := fun e => c336 (Int32.toInt_inj.mp (e.trans (by decide)))
      refine g_tabOut (tgt := 1791) dL_law_40 (by omega) (by decide) ?_
      refine g_sub [0, 1, 2, 3, 4] (lv' := [(0, .ref (1000 + 46)), (1, .ref 0), (2, .ref 81), (3, .ref 96), (4, .int y4)]) rfl ?_
      refine g_widen (k := c + 1) (n' := sl + 6) (by omega) (by omega) ?_
      exact hj2 _ h
