/-! printed by wip/whole/law.py -/
theorem mok_Hall_days : MOK M_Hall_days 1 := ⟨mTS (List.mem_of_getElem? (i := 639) (by decide +kernel)) (by decide +kernel), mTS (List.mem_of_getElem? (i := 640) (by decide +kernel)) (by decide +kernel), mTS (List.mem_of_getElem? (i := 122) (by decide +kernel)) (by decide +kernel), cw_Hall_days, ⟨by decide, by decide, by decide +kernel⟩, by decide +kernel, by decide⟩
theorem lk_Lawm_13 : Cond.methodLink "InquestHallLaw" 13 M_Hall_days.1 ∈ TS := mTS (List.mem_of_getElem? (i := 638) (by decide +kernel)) (by decide +kernel)
theorem mok_Model_days : MOK M_Model_days 1 := ⟨mTS (List.mem_of_getElem? (i := 1565) (by decide +kernel)) (by decide +kernel), mTS (List.mem_of_getElem? (i := 1566) (by decide +kernel)) (by decide +kernel), mTS (List.mem_of_getElem? (i := 139) (by decide +kernel)) (by decide +kernel), cw_Model_days, ⟨by decide, by decide, by decide +kernel⟩, by decide +kernel, by decide⟩
theorem lk_Lawm_17 : Cond.methodLink "InquestHallLaw" 17 M_Model_days.1 ∈ TS := mTS (List.mem_of_getElem? (i := 1564) (by decide +kernel)) (by decide +kernel)
theorem mok_Hall_person : MOK M_Hall_person 5 := ⟨mTS (List.mem_of_getElem? (i := 643) (by decide +kernel)) (by decide +kernel), mTS (List.mem_of_getElem? (i := 644) (by decide +kernel)) (by decide +kernel), mTS (List.mem_of_getElem? (i := 122) (by decide +kernel)) (by decide +kernel), cw_Hall_person, ⟨by decide, by decide, by decide +kernel⟩, by decide +kernel, by decide⟩
theorem lk_Lawm_18 : Cond.methodLink "InquestHallLaw" 18 M_Hall_person.1 ∈ TS := mTS (List.mem_of_getElem? (i := 642) (by decide +kernel)) (by decide +kernel)
theorem mok_Model_person : MOK M_Model_person 5 := ⟨mTS (List.mem_of_getElem? (i := 1572) (by decide +kernel)) (by decide +kernel), mTS (List.mem_of_getElem? (i := 1573) (by decide +kernel)) (by decide +kernel), mTS (List.mem_of_getElem? (i := 139) (by decide +kernel)) (by decide +kernel), cw_Model_person, ⟨by decide, by decide, by decide +kernel⟩, by decide +kernel, by decide⟩
theorem lk_Lawm_22 : Cond.methodLink "InquestHallLaw" 22 M_Model_person.1 ∈ TS := mTS (List.mem_of_getElem? (i := 1571) (by decide +kernel)) (by decide +kernel)
theorem mok_Hall_dies : MOK M_Hall_dies 2 := ⟨mTS (List.mem_of_getElem? (i := 667) (by decide +kernel)) (by decide +kernel), mTS (List.mem_of_getElem? (i := 668) (by decide +kernel)) (by decide +kernel), mTS (List.mem_of_getElem? (i := 122) (by decide +kernel)) (by decide +kernel), cw_Hall_dies, ⟨by decide, by decide, by decide +kernel⟩, by decide +kernel, by decide⟩
theorem lk_Lawm_23 : Cond.methodLink "InquestHallLaw" 23 M_Hall_dies.1 ∈ TS := mTS (List.mem_of_getElem? (i := 666) (by decide +kernel)) (by decide +kernel)
theorem mok_Model_dies : MOK M_Model_dies 2 := ⟨mTS (List.mem_of_getElem? (i := 1591) (by decide +kernel)) (by decide +kernel), mTS (List.mem_of_getElem? (i := 1592) (by decide +kernel)) (by decide +kernel), mTS (List.mem_of_getElem? (i := 139) (by decide +kernel)) (by decide +kernel), cw_Model_dies, ⟨by decide, by decide, by decide +kernel⟩, by decide +kernel, by decide⟩
theorem lk_Lawm_27 : Cond.methodLink "InquestHallLaw" 27 M_Model_dies.1 ∈ TS := mTS (List.mem_of_getElem? (i := 1590) (by decide +kernel)) (by decide +kernel)
theorem mok_Hall_marry : MOK M_Hall_marry 2 := ⟨mTS (List.mem_of_getElem? (i := 676) (by decide +kernel)) (by decide +kernel), mTS (List.mem_of_getElem? (i := 677) (by decide +kernel)) (by decide +kernel), mTS (List.mem_of_getElem? (i := 122) (by decide +kernel)) (by decide +kernel), cw_Hall_marry, ⟨by decide, by decide, by decide +kernel⟩, by decide +kernel, by decide⟩
theorem lk_Lawm_28 : Cond.methodLink "InquestHallLaw" 28 M_Hall_marry.1 ∈ TS := mTS (List.mem_of_getElem? (i := 675) (by decide +kernel)) (by decide +kernel)
theorem mok_Model_marry : MOK M_Model_marry 2 := ⟨mTS (List.mem_of_getElem? (i := 1595) (by decide +kernel)) (by decide +kernel), mTS (List.mem_of_getElem? (i := 1596) (by decide +kernel)) (by decide +kernel), mTS (List.mem_of_getElem? (i := 139) (by decide +kernel)) (by decide +kernel), cw_Model_marry, ⟨by decide, by decide, by decide +kernel⟩, by decide +kernel, by decide⟩
theorem lk_Lawm_31 : Cond.methodLink "InquestHallLaw" 31 M_Model_marry.1 ∈ TS := mTS (List.mem_of_getElem? (i := 1594) (by decide +kernel)) (by decide +kernel)
theorem mok_Hall_of : MOK M_Hall_of 2 := ⟨mTS (List.mem_of_getElem? (i := 680) (by decide +kernel)) (by decide +kernel), mTS (List.mem_of_getElem? (i := 681) (by decide +kernel)) (by decide +kernel), mTS (List.mem_of_getElem? (i := 122) (by decide +kernel)) (by decide +kernel), cw_Hall_of, ⟨by decide, by decide, by decide +kernel⟩, by decide +kernel, by decide⟩
theorem lk_Lawm_32 : Cond.methodLink "InquestHallLaw" 32 M_Hall_of.1 ∈ TS := mTS (List.mem_of_getElem? (i := 679) (by decide +kernel)) (by decide +kernel)
theorem mok_Model_of : MOK M_Model_of 2 := ⟨mTS (List.mem_of_getElem? (i := 1599) (by decide +kernel)) (by decide +kernel), mTS (List.mem_of_getElem? (i := 1600) (by decide +kernel)) (by decide +kernel), mTS (List.mem_of_getElem? (i := 139) (by decide +kernel)) (by decide +kernel), cw_Model_of, ⟨by decide, by decide, by decide +kernel⟩, by decide +kernel, by decide⟩
theorem lk_Lawm_36 : Cond.methodLink "InquestHallLaw" 36 M_Model_of.1 ∈ TS := mTS (List.mem_of_getElem? (i := 1598) (by decide +kernel)) (by decide +kernel)
theorem lk_Lawm_37 : Cond.methodLink "InquestHallLaw" 37 M_Hall_born.1 ∈ TS := mTS (List.mem_of_getElem? (i := 687) (by decide +kernel)) (by decide +kernel)
theorem lk_Lawm_41 : Cond.methodLink "InquestHallLaw" 41 M_Model_born.1 ∈ TS := mTS (List.mem_of_getElem? (i := 1602) (by decide +kernel)) (by decide +kernel)
theorem mok_Hall_land : MOK M_Hall_land 3 := ⟨mTS (List.mem_of_getElem? (i := 692) (by decide +kernel)) (by decide +kernel), mTS (List.mem_of_getElem? (i := 693) (by decide +kernel)) (by decide +kernel), mTS (List.mem_of_getElem? (i := 122) (by decide +kernel)) (by decide +kernel), cw_Hall_land, ⟨by decide, by decide, by decide +kernel⟩, by decide +kernel, by decide⟩
theorem lk_Lawm_42 : Cond.methodLink "InquestHallLaw" 42 M_Hall_land.1 ∈ TS := mTS (List.mem_of_getElem? (i := 691) (by decide +kernel)) (by decide +kernel)
theorem mok_Model_land : MOK M_Model_land 3 := ⟨mTS (List.mem_of_getElem? (i := 1607) (by decide +kernel)) (by decide +kernel), mTS (List.mem_of_getElem? (i := 1608) (by decide +kernel)) (by decide +kernel), mTS (List.mem_of_getElem? (i := 139) (by decide +kernel)) (by decide +kernel), cw_Model_land, ⟨by decide, by decide, by decide +kernel⟩, by decide +kernel, by decide⟩
theorem lk_Lawm_46 : Cond.methodLink "InquestHallLaw" 46 M_Model_land.1 ∈ TS := mTS (List.mem_of_getElem? (i := 1606) (by decide +kernel)) (by decide +kernel)
theorem mok_Hall_acre : MOK M_Hall_acre 4 := ⟨mTS (List.mem_of_getElem? (i := 700) (by decide +kernel)) (by decide +kernel), mTS (List.mem_of_getElem? (i := 701) (by decide +kernel)) (by decide +kernel), mTS (List.mem_of_getElem? (i := 122) (by decide +kernel)) (by decide +kernel), cw_Hall_acre, ⟨by decide, by decide, by decide +kernel⟩, by decide +kernel, by decide⟩
theorem lk_Lawm_47 : Cond.methodLink "InquestHallLaw" 47 M_Hall_acre.1 ∈ TS := mTS (List.mem_of_getElem? (i := 699) (by decide +kernel)) (by decide +kernel)
theorem mok_Model_acre : MOK M_Model_acre 4 := ⟨mTS (List.mem_of_getElem? (i := 1611) (by decide +kernel)) (by decide +kernel), mTS (List.mem_of_getElem? (i := 1612) (by decide +kernel)) (by decide +kernel), mTS (List.mem_of_getElem? (i := 139) (by decide +kernel)) (by decide +kernel), cw_Model_acre, ⟨by decide, by decide, by decide +kernel⟩, by decide +kernel, by decide⟩
theorem lk_Lawm_51 : Cond.methodLink "InquestHallLaw" 51 M_Model_acre.1 ∈ TS := mTS (List.mem_of_getElem? (i := 1610) (by decide +kernel)) (by decide +kernel)
theorem mok_Hall_landOf : MOK M_Hall_landOf 2 := ⟨mTS (List.mem_of_getElem? (i := 708) (by decide +kernel)) (by decide +kernel), mTS (List.mem_of_getElem? (i := 709) (by decide +kernel)) (by decide +kernel), mTS (List.mem_of_getElem? (i := 122) (by decide +kernel)) (by decide +kernel), cw_Hall_landOf, ⟨by decide, by decide, by decide +kernel⟩, by decide +kernel, by decide⟩
theorem lk_Lawm_52 : Cond.methodLink "InquestHallLaw" 52 M_Hall_landOf.1 ∈ TS := mTS (List.mem_of_getElem? (i := 707) (by decide +kernel)) (by decide +kernel)
theorem mok_Model_landOf : MOK M_Model_landOf 2 := ⟨mTS (List.mem_of_getElem? (i := 1619) (by decide +kernel)) (by decide +kernel), mTS (List.mem_of_getElem? (i := 1620) (by decide +kernel)) (by decide +kernel), mTS (List.mem_of_getElem? (i := 139) (by decide +kernel)) (by decide +kernel), cw_Model_landOf, ⟨by decide, by decide, by decide +kernel⟩, by decide +kernel, by decide⟩
theorem lk_Lawm_55 : Cond.methodLink "InquestHallLaw" 55 M_Model_landOf.1 ∈ TS := mTS (List.mem_of_getElem? (i := 1618) (by decide +kernel)) (by decide +kernel)
theorem mok_Hall_reign : MOK M_Hall_reign 1 := ⟨mTS (List.mem_of_getElem? (i := 724) (by decide +kernel)) (by decide +kernel), mTS (List.mem_of_getElem? (i := 725) (by decide +kernel)) (by decide +kernel), mTS (List.mem_of_getElem? (i := 122) (by decide +kernel)) (by decide +kernel), cw_Hall_reign, ⟨by decide, by decide, by decide +kernel⟩, by decide +kernel, by decide⟩
theorem lk_Lawm_56 : Cond.methodLink "InquestHallLaw" 56 M_Hall_reign.1 ∈ TS := mTS (List.mem_of_getElem? (i := 723) (by decide +kernel)) (by decide +kernel)
theorem mok_Model_reign : MOK M_Model_reign 1 := ⟨mTS (List.mem_of_getElem? (i := 1627) (by decide +kernel)) (by decide +kernel), mTS (List.mem_of_getElem? (i := 1628) (by decide +kernel)) (by decide +kernel), mTS (List.mem_of_getElem? (i := 139) (by decide +kernel)) (by decide +kernel), cw_Model_reign, ⟨by decide, by decide, by decide +kernel⟩, by decide +kernel, by decide⟩
theorem lk_Lawm_59 : Cond.methodLink "InquestHallLaw" 59 M_Model_reign.1 ∈ TS := mTS (List.mem_of_getElem? (i := 1626) (by decide +kernel)) (by decide +kernel)
theorem mok_Hall_feed : MOK M_Hall_feed 5 := ⟨mTS (List.mem_of_getElem? (i := 728) (by decide +kernel)) (by decide +kernel), mTS (List.mem_of_getElem? (i := 729) (by decide +kernel)) (by decide +kernel), mTS (List.mem_of_getElem? (i := 122) (by decide +kernel)) (by decide +kernel), cw_Hall_feed, ⟨by decide, by decide, by decide +kernel⟩, by decide +kernel, by decide⟩
theorem lk_Lawm_60 : Cond.methodLink "InquestHallLaw" 60 M_Hall_feed.1 ∈ TS := mTS (List.mem_of_getElem? (i := 727) (by decide +kernel)) (by decide +kernel)
theorem mok_Model_feed : MOK M_Model_feed 5 := ⟨mTS (List.mem_of_getElem? (i := 1631) (by decide +kernel)) (by decide +kernel), mTS (List.mem_of_getElem? (i := 1632) (by decide +kernel)) (by decide +kernel), mTS (List.mem_of_getElem? (i := 139) (by decide +kernel)) (by decide +kernel), cw_Model_feed, ⟨by decide, by decide, by decide +kernel⟩, by decide +kernel, by decide⟩
theorem lk_Lawm_63 : Cond.methodLink "InquestHallLaw" 63 M_Model_feed.1 ∈ TS := mTS (List.mem_of_getElem? (i := 1630) (by decide +kernel)) (by decide +kernel)
theorem mok_Hall_end : MOK M_Hall_end 1 := ⟨mTS (List.mem_of_getElem? (i := 736) (by decide +kernel)) (by decide +kernel), mTS (List.mem_of_getElem? (i := 737) (by decide +kernel)) (by decide +kernel), mTS (List.mem_of_getElem? (i := 122) (by decide +kernel)) (by decide +kernel), cw_Hall_end, ⟨by decide, by decide, by decide +kernel⟩, by decide +kernel, by decide⟩
theorem lk_Lawm_64 : Cond.methodLink "InquestHallLaw" 64 M_Hall_end.1 ∈ TS := mTS (List.mem_of_getElem? (i := 735) (by decide +kernel)) (by decide +kernel)
theorem mok_Model_end : MOK M_Model_end 1 := ⟨mTS (List.mem_of_getElem? (i := 1635) (by decide +kernel)) (by decide +kernel), mTS (List.mem_of_getElem? (i := 1636) (by decide +kernel)) (by decide +kernel), mTS (List.mem_of_getElem? (i := 139) (by decide +kernel)) (by decide +kernel), cw_Model_end, ⟨by decide, by decide, by decide +kernel⟩, by decide +kernel, by decide⟩
theorem lk_Lawm_68 : Cond.methodLink "InquestHallLaw" 68 M_Model_end.1 ∈ TS := mTS (List.mem_of_getElem? (i := 1634) (by decide +kernel)) (by decide +kernel)
theorem mok_Hall_reads : MOK M_Hall_reads 1 := ⟨mTS (List.mem_of_getElem? (i := 740) (by decide +kernel)) (by decide +kernel), mTS (List.mem_of_getElem? (i := 741) (by decide +kernel)) (by decide +kernel), mTS (List.mem_of_getElem? (i := 122) (by decide +kernel)) (by decide +kernel), cw_Hall_reads, ⟨by decide, by decide, by decide +kernel⟩, by decide +kernel, by decide⟩
theorem lk_Lawm_69 : Cond.methodLink "InquestHallLaw" 69 M_Hall_reads.1 ∈ TS := mTS (List.mem_of_getElem? (i := 739) (by decide +kernel)) (by decide +kernel)
theorem mok_Model_reads : MOK M_Model_reads 1 := ⟨mTS (List.mem_of_getElem? (i := 1639) (by decide +kernel)) (by decide +kernel), mTS (List.mem_of_getElem? (i := 1640) (by decide +kernel)) (by decide +kernel), mTS (List.mem_of_getElem? (i := 139) (by decide +kernel)) (by decide +kernel), cw_Model_reads, ⟨by decide, by decide, by decide +kernel⟩, by decide +kernel, by decide⟩
theorem lk_Lawm_72 : Cond.methodLink "InquestHallLaw" 72 M_Model_reads.1 ∈ TS := mTS (List.mem_of_getElem? (i := 1638) (by decide +kernel)) (by decide +kernel)
theorem mok_Hall_fault : MOK M_Hall_fault 1 := ⟨mTS (List.mem_of_getElem? (i := 898) (by decide +kernel)) (by decide +kernel), mTS (List.mem_of_getElem? (i := 899) (by decide +kernel)) (by decide +kernel), mTS (List.mem_of_getElem? (i := 122) (by decide +kernel)) (by decide +kernel), cw_Hall_fault, ⟨by decide, by decide, by decide +kernel⟩, by decide +kernel, by decide⟩
theorem lk_Lawm_73 : Cond.methodLink "InquestHallLaw" 73 M_Hall_fault.1 ∈ TS := mTS (List.mem_of_getElem? (i := 897) (by decide +kernel)) (by decide +kernel)
theorem mok_Model_fault : MOK M_Model_fault 1 := ⟨mTS (List.mem_of_getElem? (i := 1780) (by decide +kernel)) (by decide +kernel), mTS (List.mem_of_getElem? (i := 1781) (by decide +kernel)) (by decide +kernel), mTS (List.mem_of_getElem? (i := 139) (by decide +kernel)) (by decide +kernel), cw_Model_fault, ⟨by decide, by decide, by decide +kernel⟩, by decide +kernel, by decide⟩
theorem lk_Lawm_76 : Cond.methodLink "InquestHallLaw" 76 M_Model_fault.1 ∈ TS := mTS (List.mem_of_getElem? (i := 1779) (by decide +kernel)) (by decide +kernel)
theorem mok_Hall_lawOn : MOK M_Hall_lawOn 2 := ⟨mTS (List.mem_of_getElem? (i := 902) (by decide +kernel)) (by decide +kernel), mTS (List.mem_of_getElem? (i := 903) (by decide +kernel)) (by decide +kernel), mTS (List.mem_of_getElem? (i := 122) (by decide +kernel)) (by decide +kernel), cw_Hall_lawOn, ⟨by decide, by decide, by decide +kernel⟩, by decide +kernel, by decide⟩
theorem lk_Lawm_77 : Cond.methodLink "InquestHallLaw" 77 M_Hall_lawOn.1 ∈ TS := mTS (List.mem_of_getElem? (i := 901) (by decide +kernel)) (by decide +kernel)
theorem mok_Model_lawOn : MOK M_Model_lawOn 2 := ⟨mTS (List.mem_of_getElem? (i := 1784) (by decide +kernel)) (by decide +kernel), mTS (List.mem_of_getElem? (i := 1785) (by decide +kernel)) (by decide +kernel), mTS (List.mem_of_getElem? (i := 139) (by decide +kernel)) (by decide +kernel), cw_Model_lawOn, ⟨by decide, by decide, by decide +kernel⟩, by decide +kernel, by decide⟩
theorem lk_Lawm_80 : Cond.methodLink "InquestHallLaw" 80 M_Model_lawOn.1 ∈ TS := mTS (List.mem_of_getElem? (i := 1783) (by decide +kernel)) (by decide +kernel)
theorem mok_Hall_heirs : MOK M_Hall_heirs 2 := ⟨mTS (List.mem_of_getElem? (i := 925) (by decide +kernel)) (by decide +kernel), mTS (List.mem_of_getElem? (i := 926) (by decide +kernel)) (by decide +kernel), mTS (List.mem_of_getElem? (i := 122) (by decide +kernel)) (by decide +kernel), cw_Hall_heirs, ⟨by decide, by decide, by decide +kernel⟩, by decide +kernel, by decide⟩
theorem lk_Lawm_81 : Cond.methodLink "InquestHallLaw" 81 M_Hall_heirs.1 ∈ TS := mTS (List.mem_of_getElem? (i := 924) (by decide +kernel)) (by decide +kernel)
theorem mok_Model_heirs : MOK M_Model_heirs 2 := ⟨mTS (List.mem_of_getElem? (i := 1792) (by decide +kernel)) (by decide +kernel), mTS (List.mem_of_getElem? (i := 1793) (by decide +kernel)) (by decide +kernel), mTS (List.mem_of_getElem? (i := 139) (by decide +kernel)) (by decide +kernel), cw_Model_heirs, ⟨by decide, by decide, by decide +kernel⟩, by decide +kernel, by decide⟩
theorem lk_Lawm_84 : Cond.methodLink "InquestHallLaw" 84 M_Model_heirs.1 ∈ TS := mTS (List.mem_of_getElem? (i := 1791) (by decide +kernel)) (by decide +kernel)
theorem mok_Hall_share : MOK M_Hall_share 4 := ⟨mTS (List.mem_of_getElem? (i := 976) (by decide +kernel)) (by decide +kernel), mTS (List.mem_of_getElem? (i := 977) (by decide +kernel)) (by decide +kernel), mTS (List.mem_of_getElem? (i := 122) (by decide +kernel)) (by decide +kernel), cw_Hall_share, ⟨by decide, by decide, by decide +kernel⟩, by decide +kernel, by decide⟩
theorem lk_Lawm_85 : Cond.methodLink "InquestHallLaw" 85 M_Hall_share.1 ∈ TS := mTS (List.mem_of_getElem? (i := 975) (by decide +kernel)) (by decide +kernel)
theorem mok_Model_share : MOK M_Model_share 4 := ⟨mTS (List.mem_of_getElem? (i := 1851) (by decide +kernel)) (by decide +kernel), mTS (List.mem_of_getElem? (i := 1852) (by decide +kernel)) (by decide +kernel), mTS (List.mem_of_getElem? (i := 139) (by decide +kernel)) (by decide +kernel), cw_Model_share, ⟨by decide, by decide, by decide +kernel⟩, by decide +kernel, by decide⟩
theorem lk_Lawm_89 : Cond.methodLink "InquestHallLaw" 89 M_Model_share.1 ∈ TS := mTS (List.mem_of_getElem? (i := 1850) (by decide +kernel)) (by decide +kernel)
theorem mok_Hall_ward : MOK M_Hall_ward 4 := ⟨mTS (List.mem_of_getElem? (i := 1020) (by decide +kernel)) (by decide +kernel), mTS (List.mem_of_getElem? (i := 1021) (by decide +kernel)) (by decide +kernel), mTS (List.mem_of_getElem? (i := 122) (by decide +kernel)) (by decide +kernel), cw_Hall_ward, ⟨by decide, by decide, by decide +kernel⟩, by decide +kernel, by decide⟩
theorem lk_Lawm_90 : Cond.methodLink "InquestHallLaw" 90 M_Hall_ward.1 ∈ TS := mTS (List.mem_of_getElem? (i := 1019) (by decide +kernel)) (by decide +kernel)
theorem mok_Model_ward : MOK M_Model_ward 4 := ⟨mTS (List.mem_of_getElem? (i := 1856) (by decide +kernel)) (by decide +kernel), mTS (List.mem_of_getElem? (i := 1857) (by decide +kernel)) (by decide +kernel), mTS (List.mem_of_getElem? (i := 139) (by decide +kernel)) (by decide +kernel), cw_Model_ward, ⟨by decide, by decide, by decide +kernel⟩, by decide +kernel, by decide⟩
theorem lk_Lawm_93 : Cond.methodLink "InquestHallLaw" 93 M_Model_ward.1 ∈ TS := mTS (List.mem_of_getElem? (i := 1855) (by decide +kernel)) (by decide +kernel)
theorem mok_Hall_relief : MOK M_Hall_relief 3 := ⟨mTS (List.mem_of_getElem? (i := 1094) (by decide +kernel)) (by decide +kernel), mTS (List.mem_of_getElem? (i := 1095) (by decide +kernel)) (by decide +kernel), mTS (List.mem_of_getElem? (i := 122) (by decide +kernel)) (by decide +kernel), cw_Hall_relief, ⟨by decide, by decide, by decide +kernel⟩, by decide +kernel, by decide⟩
theorem lk_Lawm_94 : Cond.methodLink "InquestHallLaw" 94 M_Hall_relief.1 ∈ TS := mTS (List.mem_of_getElem? (i := 1093) (by decide +kernel)) (by decide +kernel)
theorem mok_Model_relief : MOK M_Model_relief 3 := ⟨mTS (List.mem_of_getElem? (i := 1898) (by decide +kernel)) (by decide +kernel), mTS (List.mem_of_getElem? (i := 1899) (by decide +kernel)) (by decide +kernel), mTS (List.mem_of_getElem? (i := 139) (by decide +kernel)) (by decide +kernel), cw_Model_relief, ⟨by decide, by decide, by decide +kernel⟩, by decide +kernel, by decide⟩
theorem lk_Lawm_97 : Cond.methodLink "InquestHallLaw" 97 M_Model_relief.1 ∈ TS := mTS (List.mem_of_getElem? (i := 1897) (by decide +kernel)) (by decide +kernel)
theorem mok_Hall_dower : MOK M_Hall_dower 3 := ⟨mTS (List.mem_of_getElem? (i := 1098) (by decide +kernel)) (by decide +kernel), mTS (List.mem_of_getElem? (i := 1099) (by decide +kernel)) (by decide +kernel), mTS (List.mem_of_getElem? (i := 122) (by decide +kernel)) (by decide +kernel), cw_Hall_dower, ⟨by decide, by decide, by decide +kernel⟩, by decide +kernel, by decide⟩
theorem lk_Lawm_98 : Cond.methodLink "InquestHallLaw" 98 M_Hall_dower.1 ∈ TS := mTS (List.mem_of_getElem? (i := 1097) (by decide +kernel)) (by decide +kernel)
theorem mok_Model_dower : MOK M_Model_dower 3 := ⟨mTS (List.mem_of_getElem? (i := 1902) (by decide +kernel)) (by decide +kernel), mTS (List.mem_of_getElem? (i := 1903) (by decide +kernel)) (by decide +kernel), mTS (List.mem_of_getElem? (i := 139) (by decide +kernel)) (by decide +kernel), cw_Model_dower, ⟨by decide, by decide, by decide +kernel⟩, by decide +kernel, by decide⟩
theorem lk_Lawm_101 : Cond.methodLink "InquestHallLaw" 101 M_Model_dower.1 ∈ TS := mTS (List.mem_of_getElem? (i := 1901) (by decide +kernel)) (by decide +kernel)
theorem mok_Hall_seize : MOK M_Hall_seize 5 := ⟨mTS (List.mem_of_getElem? (i := 1114) (by decide +kernel)) (by decide +kernel), mTS (List.mem_of_getElem? (i := 1115) (by decide +kernel)) (by decide +kernel), mTS (List.mem_of_getElem? (i := 122) (by decide +kernel)) (by decide +kernel), cw_Hall_seize, ⟨by decide, by decide, by decide +kernel⟩, by decide +kernel, by decide⟩
theorem lk_Lawm_102 : Cond.methodLink "InquestHallLaw" 102 M_Hall_seize.1 ∈ TS := mTS (List.mem_of_getElem? (i := 1113) (by decide +kernel)) (by decide +kernel)
theorem mok_Model_seize : MOK M_Model_seize 5 := ⟨mTS (List.mem_of_getElem? (i := 1914) (by decide +kernel)) (by decide +kernel), mTS (List.mem_of_getElem? (i := 1915) (by decide +kernel)) (by decide +kernel), mTS (List.mem_of_getElem? (i := 139) (by decide +kernel)) (by decide +kernel), cw_Model_seize, ⟨by decide, by decide, by decide +kernel⟩, by decide +kernel, by decide⟩
theorem lk_Lawm_105 : Cond.methodLink "InquestHallLaw" 105 M_Model_seize.1 ∈ TS := mTS (List.mem_of_getElem? (i := 1913) (by decide +kernel)) (by decide +kernel)
theorem mok_Hall_traverse : MOK M_Hall_traverse 1 := ⟨mTS (List.mem_of_getElem? (i := 1130) (by decide +kernel)) (by decide +kernel), mTS (List.mem_of_getElem? (i := 1131) (by decide +kernel)) (by decide +kernel), mTS (List.mem_of_getElem? (i := 122) (by decide +kernel)) (by decide +kernel), cw_Hall_traverse, ⟨by decide, by decide, by decide +kernel⟩, by decide +kernel, by decide⟩
theorem lk_Lawm_106 : Cond.methodLink "InquestHallLaw" 106 M_Hall_traverse.1 ∈ TS := mTS (List.mem_of_getElem? (i := 1129) (by decide +kernel)) (by decide +kernel)
theorem mok_Model_traverse : MOK M_Model_traverse 1 := ⟨mTS (List.mem_of_getElem? (i := 1922) (by decide +kernel)) (by decide +kernel), mTS (List.mem_of_getElem? (i := 1923) (by decide +kernel)) (by decide +kernel), mTS (List.mem_of_getElem? (i := 139) (by decide +kernel)) (by decide +kernel), cw_Model_traverse, ⟨by decide, by decide, by decide +kernel⟩, by decide +kernel, by decide⟩
theorem lk_Lawm_109 : Cond.methodLink "InquestHallLaw" 109 M_Model_traverse.1 ∈ TS := mTS (List.mem_of_getElem? (i := 1921) (by decide +kernel)) (by decide +kernel)
theorem mok_Hall_seizing : MOK M_Hall_seizing 2 := ⟨mTS (List.mem_of_getElem? (i := 1138) (by decide +kernel)) (by decide +kernel), mTS (List.mem_of_getElem? (i := 1139) (by decide +kernel)) (by decide +kernel), mTS (List.mem_of_getElem? (i := 122) (by decide +kernel)) (by decide +kernel), cw_Hall_seizing, ⟨by decide, by decide, by decide +kernel⟩, by decide +kernel, by decide⟩
theorem lk_Lawm_110 : Cond.methodLink "InquestHallLaw" 110 M_Hall_seizing.1 ∈ TS := mTS (List.mem_of_getElem? (i := 1137) (by decide +kernel)) (by decide +kernel)
theorem mok_Model_seizing : MOK M_Model_seizing 2 := ⟨mTS (List.mem_of_getElem? (i := 1926) (by decide +kernel)) (by decide +kernel), mTS (List.mem_of_getElem? (i := 1927) (by decide +kernel)) (by decide +kernel), mTS (List.mem_of_getElem? (i := 139) (by decide +kernel)) (by decide +kernel), cw_Model_seizing, ⟨by decide, by decide, by decide +kernel⟩, by decide +kernel, by decide⟩
theorem lk_Lawm_113 : Cond.methodLink "InquestHallLaw" 113 M_Model_seizing.1 ∈ TS := mTS (List.mem_of_getElem? (i := 1925) (by decide +kernel)) (by decide +kernel)
theorem mok_Hall_holder : MOK M_Hall_holder 3 := ⟨mTS (List.mem_of_getElem? (i := 1147) (by decide +kernel)) (by decide +kernel), mTS (List.mem_of_getElem? (i := 1148) (by decide +kernel)) (by decide +kernel), mTS (List.mem_of_getElem? (i := 122) (by decide +kernel)) (by decide +kernel), cw_Hall_holder, ⟨by decide, by decide, by decide +kernel⟩, by decide +kernel, by decide⟩
theorem lk_Lawm_114 : Cond.methodLink "InquestHallLaw" 114 M_Hall_holder.1 ∈ TS := mTS (List.mem_of_getElem? (i := 1146) (by decide +kernel)) (by decide +kernel)
theorem mok_Model_holder : MOK M_Model_holder 3 := ⟨mTS (List.mem_of_getElem? (i := 1930) (by decide +kernel)) (by decide +kernel), mTS (List.mem_of_getElem? (i := 1931) (by decide +kernel)) (by decide +kernel), mTS (List.mem_of_getElem? (i := 139) (by decide +kernel)) (by decide +kernel), cw_Model_holder, ⟨by decide, by decide, by decide +kernel⟩, by decide +kernel, by decide⟩
theorem lk_Lawm_117 : Cond.methodLink "InquestHallLaw" 117 M_Model_holder.1 ∈ TS := mTS (List.mem_of_getElem? (i := 1929) (by decide +kernel)) (by decide +kernel)
theorem mok_Hall_event : MOK M_Hall_event 2 := ⟨mTS (List.mem_of_getElem? (i := 1151) (by decide +kernel)) (by decide +kernel), mTS (List.mem_of_getElem? (i := 1152) (by decide +kernel)) (by decide +kernel), mTS (List.mem_of_getElem? (i := 122) (by decide +kernel)) (by decide +kernel), cw_Hall_event, ⟨by decide, by decide, by decide +kernel⟩, by decide +kernel, by decide⟩
theorem lk_Lawm_118 : Cond.methodLink "InquestHallLaw" 118 M_Hall_event.1 ∈ TS := mTS (List.mem_of_getElem? (i := 1150) (by decide +kernel)) (by decide +kernel)
theorem mok_Model_event : MOK M_Model_event 2 := ⟨mTS (List.mem_of_getElem? (i := 1934) (by decide +kernel)) (by decide +kernel), mTS (List.mem_of_getElem? (i := 1935) (by decide +kernel)) (by decide +kernel), mTS (List.mem_of_getElem? (i := 139) (by decide +kernel)) (by decide +kernel), cw_Model_event, ⟨by decide, by decide, by decide +kernel⟩, by decide +kernel, by decide⟩
theorem lk_Lawm_121 : Cond.methodLink "InquestHallLaw" 121 M_Model_event.1 ∈ TS := mTS (List.mem_of_getElem? (i := 1933) (by decide +kernel)) (by decide +kernel)
theorem mok_Hall_memories : MOK M_Hall_memories 1 := ⟨mTS (List.mem_of_getElem? (i := 1155) (by decide +kernel)) (by decide +kernel), mTS (List.mem_of_getElem? (i := 1156) (by decide +kernel)) (by decide +kernel), mTS (List.mem_of_getElem? (i := 122) (by decide +kernel)) (by decide +kernel), cw_Hall_memories, ⟨by decide, by decide, by decide +kernel⟩, by decide +kernel, by decide⟩
theorem lk_Lawm_122 : Cond.methodLink "InquestHallLaw" 122 M_Hall_memories.1 ∈ TS := mTS (List.mem_of_getElem? (i := 1154) (by decide +kernel)) (by decide +kernel)
theorem mok_Model_memories : MOK M_Model_memories 1 := ⟨mTS (List.mem_of_getElem? (i := 1938) (by decide +kernel)) (by decide +kernel), mTS (List.mem_of_getElem? (i := 1939) (by decide +kernel)) (by decide +kernel), mTS (List.mem_of_getElem? (i := 139) (by decide +kernel)) (by decide +kernel), cw_Model_memories, ⟨by decide, by decide, by decide +kernel⟩, by decide +kernel, by decide⟩
theorem lk_Lawm_125 : Cond.methodLink "InquestHallLaw" 125 M_Model_memories.1 ∈ TS := mTS (List.mem_of_getElem? (i := 1937) (by decide +kernel)) (by decide +kernel)
theorem mok_Hall_forget : MOK M_Hall_forget 1 := ⟨mTS (List.mem_of_getElem? (i := 1192) (by decide +kernel)) (by decide +kernel), mTS (List.mem_of_getElem? (i := 1193) (by decide +kernel)) (by decide +kernel), mTS (List.mem_of_getElem? (i := 122) (by decide +kernel)) (by decide +kernel), cw_Hall_forget, ⟨by decide, by decide, by decide +kernel⟩, by decide +kernel, by decide⟩
theorem lk_Lawm_126 : Cond.methodLink "InquestHallLaw" 126 M_Hall_forget.1 ∈ TS := mTS (List.mem_of_getElem? (i := 1191) (by decide +kernel)) (by decide +kernel)
theorem mok_Model_forget : MOK M_Model_forget 1 := ⟨mTS (List.mem_of_getElem? (i := 1950) (by decide +kernel)) (by decide +kernel), mTS (List.mem_of_getElem? (i := 1951) (by decide +kernel)) (by decide +kernel), mTS (List.mem_of_getElem? (i := 139) (by decide +kernel)) (by decide +kernel), cw_Model_forget, ⟨by decide, by decide, by decide +kernel⟩, by decide +kernel, by decide⟩
theorem lk_Lawm_129 : Cond.methodLink "InquestHallLaw" 129 M_Model_forget.1 ∈ TS := mTS (List.mem_of_getElem? (i := 1949) (by decide +kernel)) (by decide +kernel)
theorem mok_Hall_proof : MOK M_Hall_proof 2 := ⟨mTS (List.mem_of_getElem? (i := 1196) (by decide +kernel)) (by decide +kernel), mTS (List.mem_of_getElem? (i := 1197) (by decide +kernel)) (by decide +kernel), mTS (List.mem_of_getElem? (i := 122) (by decide +kernel)) (by decide +kernel), cw_Hall_proof, ⟨by decide, by decide, by decide +kernel⟩, by decide +kernel, by decide⟩
theorem lk_Lawm_130 : Cond.methodLink "InquestHallLaw" 130 M_Hall_proof.1 ∈ TS := mTS (List.mem_of_getElem? (i := 1195) (by decide +kernel)) (by decide +kernel)
theorem mok_Model_proof : MOK M_Model_proof 2 := ⟨mTS (List.mem_of_getElem? (i := 1954) (by decide +kernel)) (by decide +kernel), mTS (List.mem_of_getElem? (i := 1955) (by decide +kernel)) (by decide +kernel), mTS (List.mem_of_getElem? (i := 139) (by decide +kernel)) (by decide +kernel), cw_Model_proof, ⟨by decide, by decide, by decide +kernel⟩, by decide +kernel, by decide⟩
theorem lk_Lawm_133 : Cond.methodLink "InquestHallLaw" 133 M_Model_proof.1 ∈ TS := mTS (List.mem_of_getElem? (i := 1953) (by decide +kernel)) (by decide +kernel)
theorem mok_Hall_proved : MOK M_Hall_proved 1 := ⟨mTS (List.mem_of_getElem? (i := 1233) (by decide +kernel)) (by decide +kernel), mTS (List.mem_of_getElem? (i := 1234) (by decide +kernel)) (by decide +kernel), mTS (List.mem_of_getElem? (i := 122) (by decide +kernel)) (by decide +kernel), cw_Hall_proved, ⟨by decide, by decide, by decide +kernel⟩, by decide +kernel, by decide⟩
theorem lk_Lawm_134 : Cond.methodLink "InquestHallLaw" 134 M_Hall_proved.1 ∈ TS := mTS (List.mem_of_getElem? (i := 1232) (by decide +kernel)) (by decide +kernel)
theorem mok_Model_proved : MOK M_Model_proved 1 := ⟨mTS (List.mem_of_getElem? (i := 1974) (by decide +kernel)) (by decide +kernel), mTS (List.mem_of_getElem? (i := 1975) (by decide +kernel)) (by decide +kernel), mTS (List.mem_of_getElem? (i := 139) (by decide +kernel)) (by decide +kernel), cw_Model_proved, ⟨by decide, by decide, by decide +kernel⟩, by decide +kernel, by decide⟩
theorem lk_Lawm_137 : Cond.methodLink "InquestHallLaw" 137 M_Model_proved.1 ∈ TS := mTS (List.mem_of_getElem? (i := 1973) (by decide +kernel)) (by decide +kernel)
theorem mok_Hall_find : MOK M_Hall_find 3 := ⟨mTS (List.mem_of_getElem? (i := 1238) (by decide +kernel)) (by decide +kernel), mTS (List.mem_of_getElem? (i := 1239) (by decide +kernel)) (by decide +kernel), mTS (List.mem_of_getElem? (i := 122) (by decide +kernel)) (by decide +kernel), cw_Hall_find, ⟨by decide, by decide, by decide +kernel⟩, by decide +kernel, by decide⟩
theorem lk_Lawm_138 : Cond.methodLink "InquestHallLaw" 138 M_Hall_find.1 ∈ TS := mTS (List.mem_of_getElem? (i := 1237) (by decide +kernel)) (by decide +kernel)
theorem mok_Model_find : MOK M_Model_find 3 := ⟨mTS (List.mem_of_getElem? (i := 1979) (by decide +kernel)) (by decide +kernel), mTS (List.mem_of_getElem? (i := 1980) (by decide +kernel)) (by decide +kernel), mTS (List.mem_of_getElem? (i := 139) (by decide +kernel)) (by decide +kernel), cw_Model_find, ⟨by decide, by decide, by decide +kernel⟩, by decide +kernel, by decide⟩
theorem lk_Lawm_141 : Cond.methodLink "InquestHallLaw" 141 M_Model_find.1 ∈ TS := mTS (List.mem_of_getElem? (i := 1978) (by decide +kernel)) (by decide +kernel)
theorem mok_Hall_unsay : MOK M_Hall_unsay 2 := ⟨mTS (List.mem_of_getElem? (i := 1249) (by decide +kernel)) (by decide +kernel), mTS (List.mem_of_getElem? (i := 1250) (by decide +kernel)) (by decide +kernel), mTS (List.mem_of_getElem? (i := 122) (by decide +kernel)) (by decide +kernel), cw_Hall_unsay, ⟨by decide, by decide, by decide +kernel⟩, by decide +kernel, by decide⟩
theorem lk_Lawm_142 : Cond.methodLink "InquestHallLaw" 142 M_Hall_unsay.1 ∈ TS := mTS (List.mem_of_getElem? (i := 1248) (by decide +kernel)) (by decide +kernel)
theorem mok_Model_unsay : MOK M_Model_unsay 2 := ⟨mTS (List.mem_of_getElem? (i := 1986) (by decide +kernel)) (by decide +kernel), mTS (List.mem_of_getElem? (i := 1987) (by decide +kernel)) (by decide +kernel), mTS (List.mem_of_getElem? (i := 139) (by decide +kernel)) (by decide +kernel), cw_Model_unsay, ⟨by decide, by decide, by decide +kernel⟩, by decide +kernel, by decide⟩
theorem lk_Lawm_145 : Cond.methodLink "InquestHallLaw" 145 M_Model_unsay.1 ∈ TS := mTS (List.mem_of_getElem? (i := 1985) (by decide +kernel)) (by decide +kernel)
theorem mok_Hall_quarrel : MOK M_Hall_quarrel 1 := ⟨mTS (List.mem_of_getElem? (i := 1257) (by decide +kernel)) (by decide +kernel), mTS (List.mem_of_getElem? (i := 1258) (by decide +kernel)) (by decide +kernel), mTS (List.mem_of_getElem? (i := 122) (by decide +kernel)) (by decide +kernel), cw_Hall_quarrel, ⟨by decide, by decide, by decide +kernel⟩, by decide +kernel, by decide⟩
theorem lk_Lawm_146 : Cond.methodLink "InquestHallLaw" 146 M_Hall_quarrel.1 ∈ TS := mTS (List.mem_of_getElem? (i := 1256) (by decide +kernel)) (by decide +kernel)
theorem mok_Model_quarrel : MOK M_Model_quarrel 1 := ⟨mTS (List.mem_of_getElem? (i := 1990) (by decide +kernel)) (by decide +kernel), mTS (List.mem_of_getElem? (i := 1991) (by decide +kernel)) (by decide +kernel), mTS (List.mem_of_getElem? (i := 139) (by decide +kernel)) (by decide +kernel), cw_Model_quarrel, ⟨by decide, by decide, by decide +kernel⟩, by decide +kernel, by decide⟩
theorem lk_Lawm_149 : Cond.methodLink "InquestHallLaw" 149 M_Model_quarrel.1 ∈ TS := mTS (List.mem_of_getElem? (i := 1989) (by decide +kernel)) (by decide +kernel)
theorem mok_Hall_chain : MOK M_Hall_chain 2 := ⟨mTS (List.mem_of_getElem? (i := 1287) (by decide +kernel)) (by decide +kernel), mTS (List.mem_of_getElem? (i := 1288) (by decide +kernel)) (by decide +kernel), mTS (List.mem_of_getElem? (i := 122) (by decide +kernel)) (by decide +kernel), cw_Hall_chain, ⟨by decide, by decide, by decide +kernel⟩, by decide +kernel, by decide⟩
theorem lk_Lawm_150 : Cond.methodLink "InquestHallLaw" 150 M_Hall_chain.1 ∈ TS := mTS (List.mem_of_getElem? (i := 1286) (by decide +kernel)) (by decide +kernel)
theorem mok_Model_chain : MOK M_Model_chain 2 := ⟨mTS (List.mem_of_getElem? (i := 2005) (by decide +kernel)) (by decide +kernel), mTS (List.mem_of_getElem? (i := 2006) (by decide +kernel)) (by decide +kernel), mTS (List.mem_of_getElem? (i := 139) (by decide +kernel)) (by decide +kernel), cw_Model_chain, ⟨by decide, by decide, by decide +kernel⟩, by decide +kernel, by decide⟩
theorem lk_Lawm_153 : Cond.methodLink "InquestHallLaw" 153 M_Model_chain.1 ∈ TS := mTS (List.mem_of_getElem? (i := 2004) (by decide +kernel)) (by decide +kernel)
def tb_law0 : List (Nat × Instr × Nat) := [(0, .new 7, 3), (3, .dup, 1), (4, .invokespecial 9, 3), (7, .astore_n 1, 1), (8, .new 10, 3), (11, .dup, 1), (12, .invokespecial 12, 3), (15, .astore_n 2, 1), (16, .iconst 0, 1), (17, .istore_n 3, 1), (18, .iload_n 3, 1), (19, .aload_n 0, 1), (20, .arraylength, 1), (21, .bipush 6, 2), (23, .isub, 1), (24, .if_icmp .gt 1363, 3), (27, .aload_n 0, 1), (28, .iload_n 3, 1), (29, .iaload, 1), (30, .bipush 63, 2), (32, .iand, 1), (33, .tableswitch 1348 0 32 #[147, 170, 233, 266, 299, 332, 375, 418, 471, 504, 527, 590, 613, 636, 659, 692, 725, 779, 833, 876, 919, 982, 1005, 1038, 1081, 1114, 1137, 1160, 1193, 1216, 1259, 1292, 1315], 147)]
theorem D_law0 (i : Nat) {pc len : Nat} {ins : Instr} (hi : tb_law0[i]? = some (pc, ins, len)) : decode code pc = .ok (ins, len) := dec_of (by decide +kernel) i hi
def tb_law1 : List (Nat × Instr × Nat) := [(180, .aload_n 1, 1), (181, .aload_n 0, 1), (182, .iload_n 3, 1), (183, .iconst 1, 1), (184, .iadd, 1), (185, .iaload, 1), (186, .invokevirtual 13, 3), (189, .aload_n 2, 1), (190, .aload_n 0, 1), (191, .iload_n 3, 1), (192, .iconst 1, 1), (193, .iadd, 1), (194, .iaload, 1), (195, .invokevirtual 17, 3), (198, .if_icmp .eq 1183, 3), (201, .iconst 0, 1), (202, .ireturn, 1)]
theorem D_law1 (i : Nat) {pc len : Nat} {ins : Instr} (hi : tb_law1[i]? = some (pc, ins, len)) : decode code pc = .ok (ins, len) := dec_of (by decide +kernel) i hi
def tb_law2 : List (Nat × Instr × Nat) := [(203, .aload_n 1, 1), (204, .aload_n 0, 1), (205, .iload_n 3, 1), (206, .iconst 1, 1), (207, .iadd, 1), (208, .iaload, 1), (209, .aload_n 0, 1), (210, .iload_n 3, 1), (211, .iconst 2, 1), (212, .iadd, 1), (213, .iaload, 1), (214, .aload_n 0, 1), (215, .iload_n 3, 1), (216, .iconst 3, 1), (217, .iadd, 1), (218, .iaload, 1), (219, .aload_n 0, 1), (220, .iload_n 3, 1), (221, .iconst 4, 1), (222, .iadd, 1), (223, .iaload, 1), (224, .aload_n 0, 1), (225, .iload_n 3, 1), (226, .iconst 5, 1), (227, .iadd, 1), (228, .iaload, 1), (229, .invokevirtual 18, 3), (232, .aload_n 2, 1), (233, .aload_n 0, 1), (234, .iload_n 3, 1), (235, .iconst 1, 1), (236, .iadd, 1), (237, .iaload, 1), (238, .aload_n 0, 1), (239, .iload_n 3, 1), (240, .iconst 2, 1), (241, .iadd, 1), (242, .iaload, 1), (243, .aload_n 0, 1), (244, .iload_n 3, 1), (245, .iconst 3, 1), (246, .iadd, 1), (247, .iaload, 1), (248, .aload_n 0, 1), (249, .iload_n 3, 1), (250, .iconst 4, 1), (251, .iadd, 1), (252, .iaload, 1), (253, .aload_n 0, 1), (254, .iload_n 3, 1), (255, .iconst 5, 1), (256, .iadd, 1), (257, .iaload, 1), (258, .invokevirtual 22, 3), (261, .if_icmp .eq 1120, 3), (264, .iconst 0, 1), (265, .ireturn, 1)]
theorem D_law2 (i : Nat) {pc len : Nat} {ins : Instr} (hi : tb_law2[i]? = some (pc, ins, len)) : decode code pc = .ok (ins, len) := dec_of (by decide +kernel) i hi
def tb_law3 : List (Nat × Instr × Nat) := [(266, .aload_n 1, 1), (267, .aload_n 0, 1), (268, .iload_n 3, 1), (269, .iconst 1, 1), (270, .iadd, 1), (271, .iaload, 1), (272, .aload_n 0, 1), (273, .iload_n 3, 1), (274, .iconst 2, 1), (275, .iadd, 1), (276, .iaload, 1), (277, .invokevirtual 23, 3), (280, .aload_n 2, 1), (281, .aload_n 0, 1), (282, .iload_n 3, 1), (283, .iconst 1, 1), (284, .iadd, 1), (285, .iaload, 1), (286, .aload_n 0, 1), (287, .iload_n 3, 1), (288, .iconst 2, 1), (289, .iadd, 1), (290, .iaload, 1), (291, .invokevirtual 27, 3), (294, .if_icmp .eq 1087, 3), (297, .iconst 0, 1), (298, .ireturn, 1)]
theorem D_law3 (i : Nat) {pc len : Nat} {ins : Instr} (hi : tb_law3[i]? = some (pc, ins, len)) : decode code pc = .ok (ins, len) := dec_of (by decide +kernel) i hi
def tb_law4 : List (Nat × Instr × Nat) := [(299, .aload_n 1, 1), (300, .aload_n 0, 1), (301, .iload_n 3, 1), (302, .iconst 1, 1), (303, .iadd, 1), (304, .iaload, 1), (305, .aload_n 0, 1), (306, .iload_n 3, 1), (307, .iconst 2, 1), (308, .iadd, 1), (309, .iaload, 1), (310, .invokevirtual 28, 3), (313, .aload_n 2, 1), (314, .aload_n 0, 1), (315, .iload_n 3, 1), (316, .iconst 1, 1), (317, .iadd, 1), (318, .iaload, 1), (319, .aload_n 0, 1), (320, .iload_n 3, 1), (321, .iconst 2, 1), (322, .iadd, 1), (323, .iaload, 1), (324, .invokevirtual 31, 3), (327, .if_icmp .eq 1054, 3), (330, .iconst 0, 1), (331, .ireturn, 1)]
theorem D_law4 (i : Nat) {pc len : Nat} {ins : Instr} (hi : tb_law4[i]? = some (pc, ins, len)) : decode code pc = .ok (ins, len) := dec_of (by decide +kernel) i hi
def tb_law5 : List (Nat × Instr × Nat) := [(332, .aload_n 1, 1), (333, .aload_n 0, 1), (334, .iload_n 3, 1), (335, .iconst 1, 1), (336, .iadd, 1), (337, .iaload, 1), (338, .aload_n 0, 1), (339, .iload_n 3, 1), (340, .iconst 2, 1), (341, .iadd, 1), (342, .iaload, 1), (343, .invokevirtual 32, 3), (346, .aload_n 2, 1), (347, .aload_n 0, 1), (348, .iload_n 3, 1), (349, .iconst 1, 1), (350, .iadd, 1), (351, .iaload, 1), (352, .aload_n 0, 1), (353, .iload_n 3, 1), (354, .iconst 2, 1), (355, .iadd, 1), (356, .iaload, 1), (357, .invokevirtual 36, 3), (360, .if_icmp .eq 1021, 3), (363, .iconst 0, 1), (364, .ireturn, 1)]
theorem D_law5 (i : Nat) {pc len : Nat} {ins : Instr} (hi : tb_law5[i]? = some (pc, ins, len)) : decode code pc = .ok (ins, len) := dec_of (by decide +kernel) i hi
def tb_law6 : List (Nat × Instr × Nat) := [(365, .aload_n 1, 1), (366, .aload_n 0, 1), (367, .iload_n 3, 1), (368, .iconst 1, 1), (369, .iadd, 1), (370, .iaload, 1), (371, .aload_n 0, 1), (372, .iload_n 3, 1), (373, .iconst 2, 1), (374, .iadd, 1), (375, .iaload, 1), (376, .aload_n 0, 1), (377, .iload_n 3, 1), (378, .iconst 3, 1), (379, .iadd, 1), (380, .iaload, 1), (381, .invokevirtual 37, 3), (384, .aload_n 2, 1), (385, .aload_n 0, 1), (386, .iload_n 3, 1), (387, .iconst 1, 1), (388, .iadd, 1), (389, .iaload, 1), (390, .aload_n 0, 1), (391, .iload_n 3, 1), (392, .iconst 2, 1), (393, .iadd, 1), (394, .iaload, 1), (395, .aload_n 0, 1), (396, .iload_n 3, 1), (397, .iconst 3, 1), (398, .iadd, 1), (399, .iaload, 1), (400, .invokevirtual 41, 3), (403, .if_icmp .eq 978, 3), (406, .iconst 0, 1), (407, .ireturn, 1)]
theorem D_law6 (i : Nat) {pc len : Nat} {ins : Instr} (hi : tb_law6[i]? = some (pc, ins, len)) : decode code pc = .ok (ins, len) := dec_of (by decide +kernel) i hi
def tb_law7 : List (Nat × Instr × Nat) := [(408, .aload_n 1, 1), (409, .aload_n 0, 1), (410, .iload_n 3, 1), (411, .iconst 1, 1), (412, .iadd, 1), (413, .iaload, 1), (414, .aload_n 0, 1), (415, .iload_n 3, 1), (416, .iconst 2, 1), (417, .iadd, 1), (418, .iaload, 1), (419, .aload_n 0, 1), (420, .iload_n 3, 1), (421, .iconst 3, 1), (422, .iadd, 1), (423, .iaload, 1), (424, .invokevirtual 42, 3), (427, .aload_n 2, 1), (428, .aload_n 0, 1), (429, .iload_n 3, 1), (430, .iconst 1, 1), (431, .iadd, 1), (432, .iaload, 1), (433, .aload_n 0, 1), (434, .iload_n 3, 1), (435, .iconst 2, 1), (436, .iadd, 1), (437, .iaload, 1), (438, .aload_n 0, 1), (439, .iload_n 3, 1), (440, .iconst 3, 1), (441, .iadd, 1), (442, .iaload, 1), (443, .invokevirtual 46, 3), (446, .if_icmp .eq 935, 3), (449, .iconst 0, 1), (450, .ireturn, 1)]
theorem D_law7 (i : Nat) {pc len : Nat} {ins : Instr} (hi : tb_law7[i]? = some (pc, ins, len)) : decode code pc = .ok (ins, len) := dec_of (by decide +kernel) i hi
def tb_law8 : List (Nat × Instr × Nat) := [(451, .aload_n 1, 1), (452, .aload_n 0, 1), (453, .iload_n 3, 1), (454, .iconst 1, 1), (455, .iadd, 1), (456, .iaload, 1), (457, .aload_n 0, 1), (458, .iload_n 3, 1), (459, .iconst 2, 1), (460, .iadd, 1), (461, .iaload, 1), (462, .aload_n 0, 1), (463, .iload_n 3, 1), (464, .iconst 3, 1), (465, .iadd, 1), (466, .iaload, 1), (467, .aload_n 0, 1), (468, .iload_n 3, 1), (469, .iconst 4, 1), (470, .iadd, 1), (471, .iaload, 1), (472, .invokevirtual 47, 3), (475, .aload_n 2, 1), (476, .aload_n 0, 1), (477, .iload_n 3, 1), (478, .iconst 1, 1), (479, .iadd, 1), (480, .iaload, 1), (481, .aload_n 0, 1), (482, .iload_n 3, 1), (483, .iconst 2, 1), (484, .iadd, 1), (485, .iaload, 1), (486, .aload_n 0, 1), (487, .iload_n 3, 1), (488, .iconst 3, 1), (489, .iadd, 1), (490, .iaload, 1), (491, .aload_n 0, 1), (492, .iload_n 3, 1), (493, .iconst 4, 1), (494, .iadd, 1), (495, .iaload, 1), (496, .invokevirtual 51, 3), (499, .if_icmp .eq 882, 3), (502, .iconst 0, 1), (503, .ireturn, 1)]
theorem D_law8 (i : Nat) {pc len : Nat} {ins : Instr} (hi : tb_law8[i]? = some (pc, ins, len)) : decode code pc = .ok (ins, len) := dec_of (by decide +kernel) i hi
def tb_law9 : List (Nat × Instr × Nat) := [(504, .aload_n 1, 1), (505, .aload_n 0, 1), (506, .iload_n 3, 1), (507, .iconst 1, 1), (508, .iadd, 1), (509, .iaload, 1), (510, .aload_n 0, 1), (511, .iload_n 3, 1), (512, .iconst 2, 1), (513, .iadd, 1), (514, .iaload, 1), (515, .invokevirtual 52, 3), (518, .aload_n 2, 1), (519, .aload_n 0, 1), (520, .iload_n 3, 1), (521, .iconst 1, 1), (522, .iadd, 1), (523, .iaload, 1), (524, .aload_n 0, 1), (525, .iload_n 3, 1), (526, .iconst 2, 1), (527, .iadd, 1), (528, .iaload, 1), (529, .invokevirtual 55, 3), (532, .if_icmp .eq 849, 3), (535, .iconst 0, 1), (536, .ireturn, 1)]
theorem D_law9 (i : Nat) {pc len : Nat} {ins : Instr} (hi : tb_law9[i]? = some (pc, ins, len)) : decode code pc = .ok (ins, len) := dec_of (by decide +kernel) i hi
def tb_law10 : List (Nat × Instr × Nat) := [(537, .aload_n 1, 1), (538, .aload_n 0, 1), (539, .iload_n 3, 1), (540, .iconst 1, 1), (541, .iadd, 1), (542, .iaload, 1), (543, .invokevirtual 56, 3), (546, .aload_n 2, 1), (547, .aload_n 0, 1), (548, .iload_n 3, 1), (549, .iconst 1, 1), (550, .iadd, 1), (551, .iaload, 1), (552, .invokevirtual 59, 3), (555, .if_icmp .eq 826, 3), (558, .iconst 0, 1), (559, .ireturn, 1)]
theorem D_law10 (i : Nat) {pc len : Nat} {ins : Instr} (hi : tb_law10[i]? = some (pc, ins, len)) : decode code pc = .ok (ins, len) := dec_of (by decide +kernel) i hi
def tb_law11 : List (Nat × Instr × Nat) := [(560, .aload_n 1, 1), (561, .aload_n 0, 1), (562, .iload_n 3, 1), (563, .iconst 1, 1), (564, .iadd, 1), (565, .iaload, 1), (566, .aload_n 0, 1), (567, .iload_n 3, 1), (568, .iconst 2, 1), (569, .iadd, 1), (570, .iaload, 1), (571, .aload_n 0, 1), (572, .iload_n 3, 1), (573, .iconst 3, 1), (574, .iadd, 1), (575, .iaload, 1), (576, .aload_n 0, 1), (577, .iload_n 3, 1), (578, .iconst 4, 1), (579, .iadd, 1), (580, .iaload, 1), (581, .aload_n 0, 1), (582, .iload_n 3, 1), (583, .iconst 5, 1), (584, .iadd, 1), (585, .iaload, 1), (586, .invokevirtual 60, 3), (589, .aload_n 2, 1), (590, .aload_n 0, 1), (591, .iload_n 3, 1), (592, .iconst 1, 1), (593, .iadd, 1), (594, .iaload, 1), (595, .aload_n 0, 1), (596, .iload_n 3, 1), (597, .iconst 2, 1), (598, .iadd, 1), (599, .iaload, 1), (600, .aload_n 0, 1), (601, .iload_n 3, 1), (602, .iconst 3, 1), (603, .iadd, 1), (604, .iaload, 1), (605, .aload_n 0, 1), (606, .iload_n 3, 1), (607, .iconst 4, 1), (608, .iadd, 1), (609, .iaload, 1), (610, .aload_n 0, 1), (611, .iload_n 3, 1), (612, .iconst 5, 1), (613, .iadd, 1), (614, .iaload, 1), (615, .invokevirtual 63, 3), (618, .if_icmp .eq 763, 3), (621, .iconst 0, 1), (622, .ireturn, 1)]
theorem D_law11 (i : Nat) {pc len : Nat} {ins : Instr} (hi : tb_law11[i]? = some (pc, ins, len)) : decode code pc = .ok (ins, len) := dec_of (by decide +kernel) i hi
def tb_law12 : List (Nat × Instr × Nat) := [(623, .aload_n 1, 1), (624, .aload_n 0, 1), (625, .iload_n 3, 1), (626, .iconst 1, 1), (627, .iadd, 1), (628, .iaload, 1), (629, .invokevirtual 64, 3), (632, .aload_n 2, 1), (633, .aload_n 0, 1), (634, .iload_n 3, 1), (635, .iconst 1, 1), (636, .iadd, 1), (637, .iaload, 1), (638, .invokevirtual 68, 3), (641, .if_icmp .eq 740, 3), (644, .iconst 0, 1), (645, .ireturn, 1)]
theorem D_law12 (i : Nat) {pc len : Nat} {ins : Instr} (hi : tb_law12[i]? = some (pc, ins, len)) : decode code pc = .ok (ins, len) := dec_of (by decide +kernel) i hi
def tb_law13 : List (Nat × Instr × Nat) := [(646, .aload_n 1, 1), (647, .aload_n 0, 1), (648, .iload_n 3, 1), (649, .iconst 1, 1), (650, .iadd, 1), (651, .iaload, 1), (652, .invokevirtual 69, 3), (655, .aload_n 2, 1), (656, .aload_n 0, 1), (657, .iload_n 3, 1), (658, .iconst 1, 1), (659, .iadd, 1), (660, .iaload, 1), (661, .invokevirtual 72, 3), (664, .if_icmp .eq 717, 3), (667, .iconst 0, 1), (668, .ireturn, 1)]
theorem D_law13 (i : Nat) {pc len : Nat} {ins : Instr} (hi : tb_law13[i]? = some (pc, ins, len)) : decode code pc = .ok (ins, len) := dec_of (by decide +kernel) i hi
def tb_law14 : List (Nat × Instr × Nat) := [(669, .aload_n 1, 1), (670, .aload_n 0, 1), (671, .iload_n 3, 1), (672, .iconst 1, 1), (673, .iadd, 1), (674, .iaload, 1), (675, .invokevirtual 73, 3), (678, .aload_n 2, 1), (679, .aload_n 0, 1), (680, .iload_n 3, 1), (681, .iconst 1, 1), (682, .iadd, 1), (683, .iaload, 1), (684, .invokevirtual 76, 3), (687, .if_icmp .eq 694, 3), (690, .iconst 0, 1), (691, .ireturn, 1)]
theorem D_law14 (i : Nat) {pc len : Nat} {ins : Instr} (hi : tb_law14[i]? = some (pc, ins, len)) : decode code pc = .ok (ins, len) := dec_of (by decide +kernel) i hi
def tb_law15 : List (Nat × Instr × Nat) := [(692, .aload_n 1, 1), (693, .aload_n 0, 1), (694, .iload_n 3, 1), (695, .iconst 1, 1), (696, .iadd, 1), (697, .iaload, 1), (698, .aload_n 0, 1), (699, .iload_n 3, 1), (700, .iconst 2, 1), (701, .iadd, 1), (702, .iaload, 1), (703, .invokevirtual 77, 3), (706, .aload_n 2, 1), (707, .aload_n 0, 1), (708, .iload_n 3, 1), (709, .iconst 1, 1), (710, .iadd, 1), (711, .iaload, 1), (712, .aload_n 0, 1), (713, .iload_n 3, 1), (714, .iconst 2, 1), (715, .iadd, 1), (716, .iaload, 1), (717, .invokevirtual 80, 3), (720, .if_icmp .eq 661, 3), (723, .iconst 0, 1), (724, .ireturn, 1)]
theorem D_law15 (i : Nat) {pc len : Nat} {ins : Instr} (hi : tb_law15[i]? = some (pc, ins, len)) : decode code pc = .ok (ins, len) := dec_of (by decide +kernel) i hi
def tb_law16 : List (Nat × Instr × Nat) := [(725, .aload_n 1, 1), (726, .aload_n 0, 1), (727, .iload_n 3, 1), (728, .iconst 1, 1), (729, .iadd, 1), (730, .iaload, 1), (731, .aload_n 0, 1), (732, .iload_n 3, 1), (733, .iconst 2, 1), (734, .iadd, 1), (735, .iaload, 1), (736, .invokevirtual 81, 3), (739, .aload_n 2, 1), (740, .aload_n 0, 1), (741, .iload_n 3, 1), (742, .iconst 1, 1), (743, .iadd, 1), (744, .iaload, 1), (745, .aload_n 0, 1), (746, .iload_n 3, 1), (747, .iconst 2, 1), (748, .iadd, 1), (749, .iaload, 1), (750, .invokevirtual 84, 3), (753, .if_icmp .eq 628, 3), (756, .iconst 0, 1), (757, .ireturn, 1)]
theorem D_law16 (i : Nat) {pc len : Nat} {ins : Instr} (hi : tb_law16[i]? = some (pc, ins, len)) : decode code pc = .ok (ins, len) := dec_of (by decide +kernel) i hi
def tb_law17 : List (Nat × Instr × Nat) := [(758, .aload_n 1, 1), (759, .aload_n 0, 1), (760, .iload_n 3, 1), (761, .iconst 1, 1), (762, .iadd, 1), (763, .iaload, 1), (764, .aload_n 0, 1), (765, .iload_n 3, 1), (766, .iconst 2, 1), (767, .iadd, 1), (768, .iaload, 1), (769, .aload_n 0, 1), (770, .iload_n 3, 1), (771, .iconst 3, 1), (772, .iadd, 1), (773, .iaload, 1), (774, .aload_n 0, 1), (775, .iload_n 3, 1), (776, .iconst 4, 1), (777, .iadd, 1), (778, .iaload, 1), (779, .invokevirtual 85, 3), (782, .aload_n 2, 1), (783, .aload_n 0, 1), (784, .iload_n 3, 1), (785, .iconst 1, 1), (786, .iadd, 1), (787, .iaload, 1), (788, .aload_n 0, 1), (789, .iload_n 3, 1), (790, .iconst 2, 1), (791, .iadd, 1), (792, .iaload, 1), (793, .aload_n 0, 1), (794, .iload_n 3, 1), (795, .iconst 3, 1), (796, .iadd, 1), (797, .iaload, 1), (798, .aload_n 0, 1), (799, .iload_n 3, 1), (800, .iconst 4, 1), (801, .iadd, 1), (802, .iaload, 1), (803, .invokevirtual 89, 3), (806, .lcmp, 1), (807, .ifCond .eq 574, 3), (810, .iconst 0, 1), (811, .ireturn, 1)]
theorem D_law17 (i : Nat) {pc len : Nat} {ins : Instr} (hi : tb_law17[i]? = some (pc, ins, len)) : decode code pc = .ok (ins, len) := dec_of (by decide +kernel) i hi
def tb_law18 : List (Nat × Instr × Nat) := [(812, .aload_n 1, 1), (813, .aload_n 0, 1), (814, .iload_n 3, 1), (815, .iconst 1, 1), (816, .iadd, 1), (817, .iaload, 1), (818, .aload_n 0, 1), (819, .iload_n 3, 1), (820, .iconst 2, 1), (821, .iadd, 1), (822, .iaload, 1), (823, .aload_n 0, 1), (824, .iload_n 3, 1), (825, .iconst 3, 1), (826, .iadd, 1), (827, .iaload, 1), (828, .aload_n 0, 1), (829, .iload_n 3, 1), (830, .iconst 4, 1), (831, .iadd, 1), (832, .iaload, 1), (833, .invokevirtual 90, 3), (836, .aload_n 2, 1), (837, .aload_n 0, 1), (838, .iload_n 3, 1), (839, .iconst 1, 1), (840, .iadd, 1), (841, .iaload, 1), (842, .aload_n 0, 1), (843, .iload_n 3, 1), (844, .iconst 2, 1), (845, .iadd, 1), (846, .iaload, 1), (847, .aload_n 0, 1), (848, .iload_n 3, 1), (849, .iconst 3, 1), (850, .iadd, 1), (851, .iaload, 1), (852, .aload_n 0, 1), (853, .iload_n 3, 1), (854, .iconst 4, 1), (855, .iadd, 1), (856, .iaload, 1), (857, .invokevirtual 93, 3), (860, .lcmp, 1), (861, .ifCond .eq 520, 3), (864, .iconst 0, 1), (865, .ireturn, 1)]
theorem D_law18 (i : Nat) {pc len : Nat} {ins : Instr} (hi : tb_law18[i]? = some (pc, ins, len)) : decode code pc = .ok (ins, len) := dec_of (by decide +kernel) i hi
def tb_law19 : List (Nat × Instr × Nat) := [(866, .aload_n 1, 1), (867, .aload_n 0, 1), (868, .iload_n 3, 1), (869, .iconst 1, 1), (870, .iadd, 1), (871, .iaload, 1), (872, .aload_n 0, 1), (873, .iload_n 3, 1), (874, .iconst 2, 1), (875, .iadd, 1), (876, .iaload, 1), (877, .aload_n 0, 1), (878, .iload_n 3, 1), (879, .iconst 3, 1), (880, .iadd, 1), (881, .iaload, 1), (882, .invokevirtual 94, 3), (885, .aload_n 2, 1), (886, .aload_n 0, 1), (887, .iload_n 3, 1), (888, .iconst 1, 1), (889, .iadd, 1), (890, .iaload, 1), (891, .aload_n 0, 1), (892, .iload_n 3, 1), (893, .iconst 2, 1), (894, .iadd, 1), (895, .iaload, 1), (896, .aload_n 0, 1), (897, .iload_n 3, 1), (898, .iconst 3, 1), (899, .iadd, 1), (900, .iaload, 1), (901, .invokevirtual 97, 3), (904, .if_icmp .eq 477, 3), (907, .iconst 0, 1), (908, .ireturn, 1)]
theorem D_law19 (i : Nat) {pc len : Nat} {ins : Instr} (hi : tb_law19[i]? = some (pc, ins, len)) : decode code pc = .ok (ins, len) := dec_of (by decide +kernel) i hi
def tb_law20 : List (Nat × Instr × Nat) := [(909, .aload_n 1, 1), (910, .aload_n 0, 1), (911, .iload_n 3, 1), (912, .iconst 1, 1), (913, .iadd, 1), (914, .iaload, 1), (915, .aload_n 0, 1), (916, .iload_n 3, 1), (917, .iconst 2, 1), (918, .iadd, 1), (919, .iaload, 1), (920, .aload_n 0, 1), (921, .iload_n 3, 1), (922, .iconst 3, 1), (923, .iadd, 1), (924, .iaload, 1), (925, .invokevirtual 98, 3), (928, .aload_n 2, 1), (929, .aload_n 0, 1), (930, .iload_n 3, 1), (931, .iconst 1, 1), (932, .iadd, 1), (933, .iaload, 1), (934, .aload_n 0, 1), (935, .iload_n 3, 1), (936, .iconst 2, 1), (937, .iadd, 1), (938, .iaload, 1), (939, .aload_n 0, 1), (940, .iload_n 3, 1), (941, .iconst 3, 1), (942, .iadd, 1), (943, .iaload, 1), (944, .invokevirtual 101, 3), (947, .if_icmp .eq 434, 3), (950, .iconst 0, 1), (951, .ireturn, 1)]
theorem D_law20 (i : Nat) {pc len : Nat} {ins : Instr} (hi : tb_law20[i]? = some (pc, ins, len)) : decode code pc = .ok (ins, len) := dec_of (by decide +kernel) i hi
def tb_law21 : List (Nat × Instr × Nat) := [(952, .aload_n 1, 1), (953, .aload_n 0, 1), (954, .iload_n 3, 1), (955, .iconst 1, 1), (956, .iadd, 1), (957, .iaload, 1), (958, .aload_n 0, 1), (959, .iload_n 3, 1), (960, .iconst 2, 1), (961, .iadd, 1), (962, .iaload, 1), (963, .aload_n 0, 1), (964, .iload_n 3, 1), (965, .iconst 3, 1), (966, .iadd, 1), (967, .iaload, 1), (968, .aload_n 0, 1), (969, .iload_n 3, 1), (970, .iconst 4, 1), (971, .iadd, 1), (972, .iaload, 1), (973, .aload_n 0, 1), (974, .iload_n 3, 1), (975, .iconst 5, 1), (976, .iadd, 1), (977, .iaload, 1), (978, .invokevirtual 102, 3), (981, .aload_n 2, 1), (982, .aload_n 0, 1), (983, .iload_n 3, 1), (984, .iconst 1, 1), (985, .iadd, 1), (986, .iaload, 1), (987, .aload_n 0, 1), (988, .iload_n 3, 1), (989, .iconst 2, 1), (990, .iadd, 1), (991, .iaload, 1), (992, .aload_n 0, 1), (993, .iload_n 3, 1), (994, .iconst 3, 1), (995, .iadd, 1), (996, .iaload, 1), (997, .aload_n 0, 1), (998, .iload_n 3, 1), (999, .iconst 4, 1), (1000, .iadd, 1), (1001, .iaload, 1), (1002, .aload_n 0, 1), (1003, .iload_n 3, 1), (1004, .iconst 5, 1), (1005, .iadd, 1), (1006, .iaload, 1), (1007, .invokevirtual 105, 3), (1010, .if_icmp .eq 371, 3), (1013, .iconst 0, 1), (1014, .ireturn, 1)]
theorem D_law21 (i : Nat) {pc len : Nat} {ins : Instr} (hi : tb_law21[i]? = some (pc, ins, len)) : decode code pc = .ok (ins, len) := dec_of (by decide +kernel) i hi
def tb_law22 : List (Nat × Instr × Nat) := [(1015, .aload_n 1, 1), (1016, .aload_n 0, 1), (1017, .iload_n 3, 1), (1018, .iconst 1, 1), (1019, .iadd, 1), (1020, .iaload, 1), (1021, .invokevirtual 106, 3), (1024, .aload_n 2, 1), (1025, .aload_n 0, 1), (1026, .iload_n 3, 1), (1027, .iconst 1, 1), (1028, .iadd, 1), (1029, .iaload, 1), (1030, .invokevirtual 109, 3), (1033, .if_icmp .eq 348, 3), (1036, .iconst 0, 1), (1037, .ireturn, 1)]
theorem D_law22 (i : Nat) {pc len : Nat} {ins : Instr} (hi : tb_law22[i]? = some (pc, ins, len)) : decode code pc = .ok (ins, len) := dec_of (by decide +kernel) i hi
def tb_law23 : List (Nat × Instr × Nat) := [(1038, .aload_n 1, 1), (1039, .aload_n 0, 1), (1040, .iload_n 3, 1), (1041, .iconst 1, 1), (1042, .iadd, 1), (1043, .iaload, 1), (1044, .aload_n 0, 1), (1045, .iload_n 3, 1), (1046, .iconst 2, 1), (1047, .iadd, 1), (1048, .iaload, 1), (1049, .invokevirtual 110, 3), (1052, .aload_n 2, 1), (1053, .aload_n 0, 1), (1054, .iload_n 3, 1), (1055, .iconst 1, 1), (1056, .iadd, 1), (1057, .iaload, 1), (1058, .aload_n 0, 1), (1059, .iload_n 3, 1), (1060, .iconst 2, 1), (1061, .iadd, 1), (1062, .iaload, 1), (1063, .invokevirtual 113, 3), (1066, .if_icmp .eq 315, 3), (1069, .iconst 0, 1), (1070, .ireturn, 1)]
theorem D_law23 (i : Nat) {pc len : Nat} {ins : Instr} (hi : tb_law23[i]? = some (pc, ins, len)) : decode code pc = .ok (ins, len) := dec_of (by decide +kernel) i hi
def tb_law24 : List (Nat × Instr × Nat) := [(1071, .aload_n 1, 1), (1072, .aload_n 0, 1), (1073, .iload_n 3, 1), (1074, .iconst 1, 1), (1075, .iadd, 1), (1076, .iaload, 1), (1077, .aload_n 0, 1), (1078, .iload_n 3, 1), (1079, .iconst 2, 1), (1080, .iadd, 1), (1081, .iaload, 1), (1082, .aload_n 0, 1), (1083, .iload_n 3, 1), (1084, .iconst 3, 1), (1085, .iadd, 1), (1086, .iaload, 1), (1087, .invokevirtual 114, 3), (1090, .aload_n 2, 1), (1091, .aload_n 0, 1), (1092, .iload_n 3, 1), (1093, .iconst 1, 1), (1094, .iadd, 1), (1095, .iaload, 1), (1096, .aload_n 0, 1), (1097, .iload_n 3, 1), (1098, .iconst 2, 1), (1099, .iadd, 1), (1100, .iaload, 1), (1101, .aload_n 0, 1), (1102, .iload_n 3, 1), (1103, .iconst 3, 1), (1104, .iadd, 1), (1105, .iaload, 1), (1106, .invokevirtual 117, 3), (1109, .if_icmp .eq 272, 3), (1112, .iconst 0, 1), (1113, .ireturn, 1)]
theorem D_law24 (i : Nat) {pc len : Nat} {ins : Instr} (hi : tb_law24[i]? = some (pc, ins, len)) : decode code pc = .ok (ins, len) := dec_of (by decide +kernel) i hi
def tb_law25 : List (Nat × Instr × Nat) := [(1114, .aload_n 1, 1), (1115, .aload_n 0, 1), (1116, .iload_n 3, 1), (1117, .iconst 1, 1), (1118, .iadd, 1), (1119, .iaload, 1), (1120, .aload_n 0, 1), (1121, .iload_n 3, 1), (1122, .iconst 2, 1), (1123, .iadd, 1), (1124, .iaload, 1), (1125, .invokevirtual 118, 3), (1128, .aload_n 2, 1), (1129, .aload_n 0, 1), (1130, .iload_n 3, 1), (1131, .iconst 1, 1), (1132, .iadd, 1), (1133, .iaload, 1), (1134, .aload_n 0, 1), (1135, .iload_n 3, 1), (1136, .iconst 2, 1), (1137, .iadd, 1), (1138, .iaload, 1), (1139, .invokevirtual 121, 3), (1142, .if_icmp .eq 239, 3), (1145, .iconst 0, 1), (1146, .ireturn, 1)]
theorem D_law25 (i : Nat) {pc len : Nat} {ins : Instr} (hi : tb_law25[i]? = some (pc, ins, len)) : decode code pc = .ok (ins, len) := dec_of (by decide +kernel) i hi
def tb_law26 : List (Nat × Instr × Nat) := [(1147, .aload_n 1, 1), (1148, .aload_n 0, 1), (1149, .iload_n 3, 1), (1150, .iconst 1, 1), (1151, .iadd, 1), (1152, .iaload, 1), (1153, .invokevirtual 122, 3), (1156, .aload_n 2, 1), (1157, .aload_n 0, 1), (1158, .iload_n 3, 1), (1159, .iconst 1, 1), (1160, .iadd, 1), (1161, .iaload, 1), (1162, .invokevirtual 125, 3), (1165, .if_icmp .eq 216, 3), (1168, .iconst 0, 1), (1169, .ireturn, 1)]
theorem D_law26 (i : Nat) {pc len : Nat} {ins : Instr} (hi : tb_law26[i]? = some (pc, ins, len)) : decode code pc = .ok (ins, len) := dec_of (by decide +kernel) i hi
def tb_law27 : List (Nat × Instr × Nat) := [(1170, .aload_n 1, 1), (1171, .aload_n 0, 1), (1172, .iload_n 3, 1), (1173, .iconst 1, 1), (1174, .iadd, 1), (1175, .iaload, 1), (1176, .invokevirtual 126, 3), (1179, .aload_n 2, 1), (1180, .aload_n 0, 1), (1181, .iload_n 3, 1), (1182, .iconst 1, 1), (1183, .iadd, 1), (1184, .iaload, 1), (1185, .invokevirtual 129, 3), (1188, .if_icmp .eq 193, 3), (1191, .iconst 0, 1), (1192, .ireturn, 1)]
theorem D_law27 (i : Nat) {pc len : Nat} {ins : Instr} (hi : tb_law27[i]? = some (pc, ins, len)) : decode code pc = .ok (ins, len) := dec_of (by decide +kernel) i hi
def tb_law28 : List (Nat × Instr × Nat) := [(1193, .aload_n 1, 1), (1194, .aload_n 0, 1), (1195, .iload_n 3, 1), (1196, .iconst 1, 1), (1197, .iadd, 1), (1198, .iaload, 1), (1199, .aload_n 0, 1), (1200, .iload_n 3, 1), (1201, .iconst 2, 1), (1202, .iadd, 1), (1203, .iaload, 1), (1204, .invokevirtual 130, 3), (1207, .aload_n 2, 1), (1208, .aload_n 0, 1), (1209, .iload_n 3, 1), (1210, .iconst 1, 1), (1211, .iadd, 1), (1212, .iaload, 1), (1213, .aload_n 0, 1), (1214, .iload_n 3, 1), (1215, .iconst 2, 1), (1216, .iadd, 1), (1217, .iaload, 1), (1218, .invokevirtual 133, 3), (1221, .if_icmp .eq 160, 3), (1224, .iconst 0, 1), (1225, .ireturn, 1)]
theorem D_law28 (i : Nat) {pc len : Nat} {ins : Instr} (hi : tb_law28[i]? = some (pc, ins, len)) : decode code pc = .ok (ins, len) := dec_of (by decide +kernel) i hi
def tb_law29 : List (Nat × Instr × Nat) := [(1226, .aload_n 1, 1), (1227, .aload_n 0, 1), (1228, .iload_n 3, 1), (1229, .iconst 1, 1), (1230, .iadd, 1), (1231, .iaload, 1), (1232, .invokevirtual 134, 3), (1235, .aload_n 2, 1), (1236, .aload_n 0, 1), (1237, .iload_n 3, 1), (1238, .iconst 1, 1), (1239, .iadd, 1), (1240, .iaload, 1), (1241, .invokevirtual 137, 3), (1244, .if_icmp .eq 137, 3), (1247, .iconst 0, 1), (1248, .ireturn, 1)]
theorem D_law29 (i : Nat) {pc len : Nat} {ins : Instr} (hi : tb_law29[i]? = some (pc, ins, len)) : decode code pc = .ok (ins, len) := dec_of (by decide +kernel) i hi
def tb_law30 : List (Nat × Instr × Nat) := [(1249, .aload_n 1, 1), (1250, .aload_n 0, 1), (1251, .iload_n 3, 1), (1252, .iconst 1, 1), (1253, .iadd, 1), (1254, .iaload, 1), (1255, .aload_n 0, 1), (1256, .iload_n 3, 1), (1257, .iconst 2, 1), (1258, .iadd, 1), (1259, .iaload, 1), (1260, .aload_n 0, 1), (1261, .iload_n 3, 1), (1262, .iconst 3, 1), (1263, .iadd, 1), (1264, .iaload, 1), (1265, .invokevirtual 138, 3), (1268, .aload_n 2, 1), (1269, .aload_n 0, 1), (1270, .iload_n 3, 1), (1271, .iconst 1, 1), (1272, .iadd, 1), (1273, .iaload, 1), (1274, .aload_n 0, 1), (1275, .iload_n 3, 1), (1276, .iconst 2, 1), (1277, .iadd, 1), (1278, .iaload, 1), (1279, .aload_n 0, 1), (1280, .iload_n 3, 1), (1281, .iconst 3, 1), (1282, .iadd, 1), (1283, .iaload, 1), (1284, .invokevirtual 141, 3), (1287, .if_icmp .eq 94, 3), (1290, .iconst 0, 1), (1291, .ireturn, 1)]
theorem D_law30 (i : Nat) {pc len : Nat} {ins : Instr} (hi : tb_law30[i]? = some (pc, ins, len)) : decode code pc = .ok (ins, len) := dec_of (by decide +kernel) i hi
def tb_law31 : List (Nat × Instr × Nat) := [(1292, .aload_n 1, 1), (1293, .aload_n 0, 1), (1294, .iload_n 3, 1), (1295, .iconst 1, 1), (1296, .iadd, 1), (1297, .iaload, 1), (1298, .aload_n 0, 1), (1299, .iload_n 3, 1), (1300, .iconst 2, 1), (1301, .iadd, 1), (1302, .iaload, 1), (1303, .invokevirtual 142, 3), (1306, .aload_n 2, 1), (1307, .aload_n 0, 1), (1308, .iload_n 3, 1), (1309, .iconst 1, 1), (1310, .iadd, 1), (1311, .iaload, 1), (1312, .aload_n 0, 1), (1313, .iload_n 3, 1), (1314, .iconst 2, 1), (1315, .iadd, 1), (1316, .iaload, 1), (1317, .invokevirtual 145, 3), (1320, .if_icmp .eq 61, 3), (1323, .iconst 0, 1), (1324, .ireturn, 1)]
theorem D_law31 (i : Nat) {pc len : Nat} {ins : Instr} (hi : tb_law31[i]? = some (pc, ins, len)) : decode code pc = .ok (ins, len) := dec_of (by decide +kernel) i hi
def tb_law32 : List (Nat × Instr × Nat) := [(1325, .aload_n 1, 1), (1326, .aload_n 0, 1), (1327, .iload_n 3, 1), (1328, .iconst 1, 1), (1329, .iadd, 1), (1330, .iaload, 1), (1331, .invokevirtual 146, 3), (1334, .aload_n 2, 1), (1335, .aload_n 0, 1), (1336, .iload_n 3, 1), (1337, .iconst 1, 1), (1338, .iadd, 1), (1339, .iaload, 1), (1340, .invokevirtual 149, 3), (1343, .if_icmp .eq 38, 3), (1346, .iconst 0, 1), (1347, .ireturn, 1)]
theorem D_law32 (i : Nat) {pc len : Nat} {ins : Instr} (hi : tb_law32[i]? = some (pc, ins, len)) : decode code pc = .ok (ins, len) := dec_of (by decide +kernel) i hi
def tb_law33 : List (Nat × Instr × Nat) := [(1348, .aload_n 1, 1), (1349, .aload_n 0, 1), (1350, .iload_n 3, 1), (1351, .iconst 1, 1), (1352, .iadd, 1), (1353, .iaload, 1), (1354, .aload_n 0, 1), (1355, .iload_n 3, 1), (1356, .iconst 2, 1), (1357, .iadd, 1), (1358, .iaload, 1), (1359, .invokevirtual 150, 3), (1362, .aload_n 2, 1), (1363, .aload_n 0, 1), (1364, .iload_n 3, 1), (1365, .iconst 1, 1), (1366, .iadd, 1), (1367, .iaload, 1), (1368, .aload_n 0, 1), (1369, .iload_n 3, 1), (1370, .iconst 2, 1), (1371, .iadd, 1), (1372, .iaload, 1), (1373, .invokevirtual 153, 3), (1376, .if_icmp .eq 5, 3), (1379, .iconst 0, 1), (1380, .ireturn, 1)]
theorem D_law33 (i : Nat) {pc len : Nat} {ins : Instr} (hi : tb_law33[i]? = some (pc, ins, len)) : decode code pc = .ok (ins, len) := dec_of (by decide +kernel) i hi
def tb_law34 : List (Nat × Instr × Nat) := [(1381, .iinc 3 6, 3), (1384, .goto (-1366), 3), (1387, .iconst 1, 1), (1388, .ireturn, 1)]
theorem D_law34 (i : Nat) {pc len : Nat} {ins : Instr} (hi : tb_law34[i]? = some (pc, ins, len)) : decode code pc = .ok (ins, len) := dec_of (by decide +kernel) i hi
def Step_days (Inv : GS → Prop) : Prop := ∀ (G : GS) (a1 : Int), wr a1 = a1 → Inv G → ∃ (q1 : Int × GS) (q2 : Int × GS), f_Hall_days G a1 = some q1 ∧ f_Model_days q1.2 a1 = some q2 ∧ q1.1 = q2.1 ∧ Inv q2.2
def Step_person (Inv : GS → Prop) : Prop := ∀ (G : GS) (a1 : Int) (a2 : Int) (a3 : Int) (a4 : Int) (a5 : Int), wr a1 = a1 → wr a2 = a2 → wr a3 = a3 → wr a4 = a4 → wr a5 = a5 → Inv G → ∃ (q1 : Int × GS) (q2 : Int × GS), f_Hall_person G a1 a2 a3 a4 a5 = some q1 ∧ f_Model_person q1.2 a1 a2 a3 a4 a5 = some q2 ∧ q1.1 = q2.1 ∧ Inv q2.2
def Step_dies (Inv : GS → Prop) : Prop := ∀ (G : GS) (a1 : Int) (a2 : Int), wr a1 = a1 → wr a2 = a2 → Inv G → ∃ (q1 : Int × GS) (q2 : Int × GS), f_Hall_dies G a1 a2 = some q1 ∧ f_Model_dies q1.2 a1 a2 = some q2 ∧ q1.1 = q2.1 ∧ Inv q2.2
def Step_marry (Inv : GS → Prop) : Prop := ∀ (G : GS) (a1 : Int) (a2 : Int), wr a1 = a1 → wr a2 = a2 → Inv G → ∃ (q1 : Int × GS) (q2 : Int × GS), f_Hall_marry G a1 a2 = some q1 ∧ f_Model_marry q1.2 a1 a2 = some q2 ∧ q1.1 = q2.1 ∧ Inv q2.2
def Step_of (Inv : GS → Prop) : Prop := ∀ (G : GS) (a1 : Int) (a2 : Int), wr a1 = a1 → wr a2 = a2 → Inv G → ∃ (q1 : Int) (q2 : Int), f_Hall_of G a1 a2 = some q1 ∧ f_Model_of G a1 a2 = some q2 ∧ q1 = q2 ∧ Inv G
def Step_born (Inv : GS → Prop) : Prop := ∀ (G : GS) (a1 : Int) (a2 : Int) (a3 : Int), wr a1 = a1 → wr a2 = a2 → wr a3 = a3 → Inv G → ∃ (q1 : Int × GS) (q2 : Int × GS), f_Hall_born G a1 a2 a3 = some q1 ∧ f_Model_born q1.2 a1 a2 a3 = some q2 ∧ q1.1 = q2.1 ∧ Inv q2.2
def Step_land (Inv : GS → Prop) : Prop := ∀ (G : GS) (a1 : Int) (a2 : Int) (a3 : Int), wr a1 = a1 → wr a2 = a2 → wr a3 = a3 → Inv G → ∃ (q1 : Int × GS) (q2 : Int × GS), f_Hall_land G a1 a2 a3 = some q1 ∧ f_Model_land q1.2 a1 a2 a3 = some q2 ∧ q1.1 = q2.1 ∧ Inv q2.2
def Step_acre (Inv : GS → Prop) : Prop := ∀ (G : GS) (a1 : Int) (a2 : Int) (a3 : Int) (a4 : Int), wr a1 = a1 → wr a2 = a2 → wr a3 = a3 → wr a4 = a4 → Inv G → ∃ (q1 : Int × GS) (q2 : Int × GS), f_Hall_acre G a1 a2 a3 a4 = some q1 ∧ f_Model_acre q1.2 a1 a2 a3 a4 = some q2 ∧ q1.1 = q2.1 ∧ Inv q2.2
def Step_landOf (Inv : GS → Prop) : Prop := ∀ (G : GS) (a1 : Int) (a2 : Int), wr a1 = a1 → wr a2 = a2 → Inv G → ∃ (q1 : Int) (q2 : Int), f_Hall_landOf G a1 a2 = some q1 ∧ f_Model_landOf G a1 a2 = some q2 ∧ q1 = q2 ∧ Inv G
def Step_reign (Inv : GS → Prop) : Prop := ∀ (G : GS) (a1 : Int), wr a1 = a1 → Inv G → ∃ (q1 : Int × GS) (q2 : Int × GS), f_Hall_reign G a1 = some q1 ∧ f_Model_reign q1.2 a1 = some q2 ∧ q1.1 = q2.1 ∧ Inv q2.2
def Step_feed (Inv : GS → Prop) : Prop := ∀ (G : GS) (a1 : Int) (a2 : Int) (a3 : Int) (a4 : Int) (a5 : Int), wr a1 = a1 → wr a2 = a2 → wr a3 = a3 → wr a4 = a4 → wr a5 = a5 → Inv G → ∃ (q1 : Int × GS) (q2 : Int × GS), f_Hall_feed G a1 a2 a3 a4 a5 = some q1 ∧ f_Model_feed q1.2 a1 a2 a3 a4 a5 = some q2 ∧ q1.1 = q2.1 ∧ Inv q2.2
def Step_end (Inv : GS → Prop) : Prop := ∀ (G : GS) (a1 : Int), wr a1 = a1 → Inv G → ∃ (q1 : Int × GS) (q2 : Int × GS), f_Hall_end G a1 = some q1 ∧ f_Model_end q1.2 a1 = some q2 ∧ q1.1 = q2.1 ∧ Inv q2.2
def Step_reads (Inv : GS → Prop) : Prop := ∀ (G : GS) (a1 : Int), wr a1 = a1 → Inv G → ∃ (q1 : Int × GS) (q2 : Int × GS), f_Hall_reads G a1 = some q1 ∧ f_Model_reads q1.2 a1 = some q2 ∧ q1.1 = q2.1 ∧ Inv q2.2
def Step_fault (Inv : GS → Prop) : Prop := ∀ (G : GS) (a1 : Int), wr a1 = a1 → Inv G → ∃ (q1 : Int) (q2 : Int), f_Hall_fault G a1 = some q1 ∧ f_Model_fault G a1 = some q2 ∧ q1 = q2 ∧ Inv G
def Step_lawOn (Inv : GS → Prop) : Prop := ∀ (G : GS) (a1 : Int) (a2 : Int), wr a1 = a1 → wr a2 = a2 → Inv G → ∃ (q1 : Int) (q2 : Int), f_Hall_lawOn G a1 a2 = some q1 ∧ f_Model_lawOn G a1 a2 = some q2 ∧ q1 = q2 ∧ Inv G
def Step_heirs (Inv : GS → Prop) : Prop := ∀ (G : GS) (a1 : Int) (a2 : Int), wr a1 = a1 → wr a2 = a2 → Inv G → ∃ (q1 : Int × GS) (q2 : Int × GS), f_Hall_heirs G a1 a2 = some q1 ∧ f_Model_heirs q1.2 a1 a2 = some q2 ∧ q1.1 = q2.1 ∧ Inv q2.2
def Step_share (Inv : GS → Prop) : Prop := ∀ (G : GS) (a1 : Int) (a2 : Int) (a3 : Int) (a4 : Int), wr a1 = a1 → wr a2 = a2 → wr a3 = a3 → wr a4 = a4 → Inv G → ∃ (q1 : Int × GS) (q2 : Int × GS), f_Hall_share G a1 a2 a3 a4 = some q1 ∧ f_Model_share q1.2 a1 a2 a3 a4 = some q2 ∧ q1.1 = q2.1 ∧ Inv q2.2
def Step_ward (Inv : GS → Prop) : Prop := ∀ (G : GS) (a1 : Int) (a2 : Int) (a3 : Int) (a4 : Int), wr a1 = a1 → wr a2 = a2 → wr a3 = a3 → wr a4 = a4 → Inv G → ∃ (q1 : Int × GS) (q2 : Int × GS), f_Hall_ward G a1 a2 a3 a4 = some q1 ∧ f_Model_ward q1.2 a1 a2 a3 a4 = some q2 ∧ q1.1 = q2.1 ∧ Inv q2.2
def Step_relief (Inv : GS → Prop) : Prop := ∀ (G : GS) (a1 : Int) (a2 : Int) (a3 : Int), wr a1 = a1 → wr a2 = a2 → wr a3 = a3 → Inv G → ∃ (q1 : Int × GS) (q2 : Int × GS), f_Hall_relief G a1 a2 a3 = some q1 ∧ f_Model_relief q1.2 a1 a2 a3 = some q2 ∧ q1.1 = q2.1 ∧ Inv q2.2
def Step_dower (Inv : GS → Prop) : Prop := ∀ (G : GS) (a1 : Int) (a2 : Int) (a3 : Int), wr a1 = a1 → wr a2 = a2 → wr a3 = a3 → Inv G → ∃ (q1 : Int × GS) (q2 : Int × GS), f_Hall_dower G a1 a2 a3 = some q1 ∧ f_Model_dower q1.2 a1 a2 a3 = some q2 ∧ q1.1 = q2.1 ∧ Inv q2.2
def Step_seize (Inv : GS → Prop) : Prop := ∀ (G : GS) (a1 : Int) (a2 : Int) (a3 : Int) (a4 : Int) (a5 : Int), wr a1 = a1 → wr a2 = a2 → wr a3 = a3 → wr a4 = a4 → wr a5 = a5 → Inv G → ∃ (q1 : Int × GS) (q2 : Int × GS), f_Hall_seize G a1 a2 a3 a4 a5 = some q1 ∧ f_Model_seize q1.2 a1 a2 a3 a4 a5 = some q2 ∧ q1.1 = q2.1 ∧ Inv q2.2
def Step_traverse (Inv : GS → Prop) : Prop := ∀ (G : GS) (a1 : Int), wr a1 = a1 → Inv G → ∃ (q1 : Int × GS) (q2 : Int × GS), f_Hall_traverse G a1 = some q1 ∧ f_Model_traverse q1.2 a1 = some q2 ∧ q1.1 = q2.1 ∧ Inv q2.2
def Step_seizing (Inv : GS → Prop) : Prop := ∀ (G : GS) (a1 : Int) (a2 : Int), wr a1 = a1 → wr a2 = a2 → Inv G → ∃ (q1 : Int) (q2 : Int), f_Hall_seizing G a1 a2 = some q1 ∧ f_Model_seizing G a1 a2 = some q2 ∧ q1 = q2 ∧ Inv G
def Step_holder (Inv : GS → Prop) : Prop := ∀ (G : GS) (a1 : Int) (a2 : Int) (a3 : Int), wr a1 = a1 → wr a2 = a2 → wr a3 = a3 → Inv G → ∃ (q1 : Int) (q2 : Int), f_Hall_holder G a1 a2 a3 = some q1 ∧ f_Model_holder G a1 a2 a3 = some q2 ∧ q1 = q2 ∧ Inv G
def Step_event (Inv : GS → Prop) : Prop := ∀ (G : GS) (a1 : Int) (a2 : Int), wr a1 = a1 → wr a2 = a2 → Inv G → ∃ (q1 : Int × GS) (q2 : Int × GS), f_Hall_event G a1 a2 = some q1 ∧ f_Model_event q1.2 a1 a2 = some q2 ∧ q1.1 = q2.1 ∧ Inv q2.2
def Step_memories (Inv : GS → Prop) : Prop := ∀ (G : GS) (a1 : Int), wr a1 = a1 → Inv G → ∃ (q1 : Int × GS) (q2 : Int × GS), f_Hall_memories G a1 = some q1 ∧ f_Model_memories q1.2 a1 = some q2 ∧ q1.1 = q2.1 ∧ Inv q2.2
def Step_forget (Inv : GS → Prop) : Prop := ∀ (G : GS) (a1 : Int), wr a1 = a1 → Inv G → ∃ (q1 : Int × GS) (q2 : Int × GS), f_Hall_forget G a1 = some q1 ∧ f_Model_forget q1.2 a1 = some q2 ∧ q1.1 = q2.1 ∧ Inv q2.2
def Step_proof (Inv : GS → Prop) : Prop := ∀ (G : GS) (a1 : Int) (a2 : Int), wr a1 = a1 → wr a2 = a2 → Inv G → ∃ (q1 : Int × GS) (q2 : Int × GS), f_Hall_proof G a1 a2 = some q1 ∧ f_Model_proof q1.2 a1 a2 = some q2 ∧ q1.1 = q2.1 ∧ Inv q2.2
def Step_proved (Inv : GS → Prop) : Prop := ∀ (G : GS) (a1 : Int), wr a1 = a1 → Inv G → ∃ (q1 : Int × GS) (q2 : Int × GS), f_Hall_proved G a1 = some q1 ∧ f_Model_proved q1.2 a1 = some q2 ∧ q1.1 = q2.1 ∧ Inv q2.2
def Step_find (Inv : GS → Prop) : Prop := ∀ (G : GS) (a1 : Int) (a2 : Int) (a3 : Int), wr a1 = a1 → wr a2 = a2 → wr a3 = a3 → Inv G → ∃ (q1 : Int × GS) (q2 : Int × GS), f_Hall_find G a1 a2 a3 = some q1 ∧ f_Model_find q1.2 a1 a2 a3 = some q2 ∧ q1.1 = q2.1 ∧ Inv q2.2
def Step_unsay (Inv : GS → Prop) : Prop := ∀ (G : GS) (a1 : Int) (a2 : Int), wr a1 = a1 → wr a2 = a2 → Inv G → ∃ (q1 : Int × GS) (q2 : Int × GS), f_Hall_unsay G a1 a2 = some q1 ∧ f_Model_unsay q1.2 a1 a2 = some q2 ∧ q1.1 = q2.1 ∧ Inv q2.2
def Step_quarrel (Inv : GS → Prop) : Prop := ∀ (G : GS) (a1 : Int), wr a1 = a1 → Inv G → ∃ (q1 : Int × GS) (q2 : Int × GS), f_Hall_quarrel G a1 = some q1 ∧ f_Model_quarrel q1.2 a1 = some q2 ∧ q1.1 = q2.1 ∧ Inv q2.2
def Step_chain (Inv : GS → Prop) : Prop := ∀ (G : GS) (a1 : Int) (a2 : Int), wr a1 = a1 → wr a2 = a2 → Inv G → ∃ (q1 : Int × GS) (q2 : Int × GS), f_Hall_chain G a1 a2 = some q1 ∧ f_Model_chain q1.2 a1 a2 = some q2 ∧ q1.1 = q2.1 ∧ Inv q2.2
theorem case_days {X : XT} {b N i : Nat} {xs : Nat → Int32} {G : GS} {q1 : Int × GS} {q2 : Int × GS} (hi : i + 6 ≤ N) (hN : N ≤ 3072) (h1 : f_Hall_days G (sc xs (i + 1)) = some q1) (h2 : f_Model_days q1.2 (sc xs (i + 1)) = some q2) (he : q1.1 = q2.1) (hk : JL X b N xs true NC 137 26133 1381 [(0, .ref b), (1, rf X 0), (2, rf X 81), (3, vi i)] [] q2.2) : JL X b N xs true NC 137 26133 180 [(0, .ref b), (1, rf X 0), (2, rf X 81), (3, vi i)] [] G := by
  refine l_aloadn (k := 1) (D_law1 0 rfl) rfl rfl ?_
  refine l_aloadn (k := 0) (D_law1 1 rfl) rfl rfl ?_
  refine l_iloadn (k := 3) (D_law1 2 rfl) rfl rfl ?_
  refine l_iconst (v := 1) (D_law1 3 rfl) rfl ?_
  refine l_iadd (D_law1 4 rfl) ?_
  refine l_sld (D_law1 5 rfl) (x' := ((i + 1 : Nat) : Int)) (wr_of (by omega) (by omega)) (by omega) (by omega) ?_
  rw [Int.toNat_natCast]
  refine l_callV (c_Hall_days (wr_sc _ _) h1) lk_Lawm_13 mok_Hall_days kd_0 (by decide) rfl (by decide) rfl rfl (Nat.le_of_ble_eq_true rfl) (by decide) (D_law1 6 rfl) (fun v a2 G2 q => ?_)
  obtain ⟨rfl, rfl, rfl, -⟩ := q
  refine l_aloadn (k := 2) (D_law1 7 rfl) rfl rfl ?_
  refine l_aloadn (k := 0) (D_law1 8 rfl) rfl rfl ?_
  refine l_iloadn (k := 3) (D_law1 9 rfl) rfl rfl ?_
  refine l_iconst (v := 1) (D_law1 10 rfl) rfl ?_
  refine l_iadd (D_law1 11 rfl) ?_
  refine l_sld (D_law1 12 rfl) (x' := ((i + 1 : Nat) : Int)) (wr_of (by omega) (by omega)) (by omega) (by omega) ?_
  rw [Int.toNat_natCast]
  refine l_callV (c_Model_days (wr_sc _ _) h2) lk_Lawm_17 mok_Model_days kd_81 (by decide) rfl (by decide) rfl rfl (Nat.le_of_ble_eq_true rfl) (by decide) (D_law1 13 rfl) (fun v a2 G2 q => ?_)
  obtain ⟨rfl, rfl, rfl, -⟩ := q
  exact l_same (tgt := 1381) (D_law1 14 rfl) rfl he hk
theorem case_person {X : XT} {b N i : Nat} {xs : Nat → Int32} {G : GS} {q1 : Int × GS} {q2 : Int × GS} (hi : i + 6 ≤ N) (hN : N ≤ 3072) (h1 : f_Hall_person G (sc xs (i + 1)) (sc xs (i + 2)) (sc xs (i + 3)) (sc xs (i + 4)) (sc xs (i + 5)) = some q1) (h2 : f_Model_person q1.2 (sc xs (i + 1)) (sc xs (i + 2)) (sc xs (i + 3)) (sc xs (i + 4)) (sc xs (i + 5)) = some q2) (he : q1.1 = q2.1) (hk : JL X b N xs true NC 137 26133 1381 [(0, .ref b), (1, rf X 0), (2, rf X 81), (3, vi i)] [] q2.2) : JL X b N xs true NC 137 26133 203 [(0, .ref b), (1, rf X 0), (2, rf X 81), (3, vi i)] [] G := by
  refine l_aloadn (k := 1) (D_law2 0 rfl) rfl rfl ?_
  refine l_aloadn (k := 0) (D_law2 1 rfl) rfl rfl ?_
  refine l_iloadn (k := 3) (D_law2 2 rfl) rfl rfl ?_
  refine l_iconst (v := 1) (D_law2 3 rfl) rfl ?_
  refine l_iadd (D_law2 4 rfl) ?_
  refine l_sld (D_law2 5 rfl) (x' := ((i + 1 : Nat) : Int)) (wr_of (by omega) (by omega)) (by omega) (by omega) ?_
  rw [Int.toNat_natCast]
  refine l_aloadn (k := 0) (D_law2 6 rfl) rfl rfl ?_
  refine l_iloadn (k := 3) (D_law2 7 rfl) rfl rfl ?_
  refine l_iconst (v := 2) (D_law2 8 rfl) rfl ?_
  refine l_iadd (D_law2 9 rfl) ?_
  refine l_sld (D_law2 10 rfl) (x' := ((i + 2 : Nat) : Int)) (wr_of (by omega) (by omega)) (by omega) (by omega) ?_
  rw [Int.toNat_natCast]
  refine l_aloadn (k := 0) (D_law2 11 rfl) rfl rfl ?_
  refine l_iloadn (k := 3) (D_law2 12 rfl) rfl rfl ?_
  refine l_iconst (v := 3) (D_law2 13 rfl) rfl ?_
  refine l_iadd (D_law2 14 rfl) ?_
  refine l_sld (D_law2 15 rfl) (x' := ((i + 3 : Nat) : Int)) (wr_of (by omega) (by omega)) (by omega) (by omega) ?_
  rw [Int.toNat_natCast]
  refine l_aloadn (k := 0) (D_law2 16 rfl) rfl rfl ?_
  refine l_iloadn (k := 3) (D_law2 17 rfl) rfl rfl ?_
  refine l_iconst (v := 4) (D_law2 18 rfl) rfl ?_
  refine l_iadd (D_law2 19 rfl) ?_
  refine l_sld (D_law2 20 rfl) (x' := ((i + 4 : Nat) : Int)) (wr_of (by omega) (by omega)) (by omega) (by omega) ?_
  rw [Int.toNat_natCast]
  refine l_aloadn (k := 0) (D_law2 21 rfl) rfl rfl ?_
  refine l_iloadn (k := 3) (D_law2 22 rfl) rfl rfl ?_
  refine l_iconst (v := 5) (D_law2 23 rfl) rfl ?_
  refine l_iadd (D_law2 24 rfl) ?_
  refine l_sld (D_law2 25 rfl) (x' := ((i + 5 : Nat) : Int)) (wr_of (by omega) (by omega)) (by omega) (by omega) ?_
  rw [Int.toNat_natCast]
  refine l_callV (c_Hall_person (wr_sc _ _) (wr_sc _ _) (wr_sc _ _) (wr_sc _ _) (wr_sc _ _) h1) lk_Lawm_18 mok_Hall_person kd_0 (by decide) rfl (by decide) rfl rfl (Nat.le_of_ble_eq_true rfl) (by decide) (D_law2 26 rfl) (fun v a2 G2 q => ?_)
  obtain ⟨rfl, rfl, rfl, -⟩ := q
  refine l_aloadn (k := 2) (D_law2 27 rfl) rfl rfl ?_
  refine l_aloadn (k := 0) (D_law2 28 rfl) rfl rfl ?_
  refine l_iloadn (k := 3) (D_law2 29 rfl) rfl rfl ?_
  refine l_iconst (v := 1) (D_law2 30 rfl) rfl ?_
  refine l_iadd (D_law2 31 rfl) ?_
  refine l_sld (D_law2 32 rfl) (x' := ((i + 1 : Nat) : Int)) (wr_of (by omega) (by omega)) (by omega) (by omega) ?_
  rw [Int.toNat_natCast]
  refine l_aloadn (k := 0) (D_law2 33 rfl) rfl rfl ?_
  refine l_iloadn (k := 3) (D_law2 34 rfl) rfl rfl ?_
  refine l_iconst (v := 2) (D_law2 35 rfl) rfl ?_
  refine l_iadd (D_law2 36 rfl) ?_
  refine l_sld (D_law2 37 rfl) (x' := ((i + 2 : Nat) : Int)) (wr_of (by omega) (by omega)) (by omega) (by omega) ?_
  rw [Int.toNat_natCast]
  refine l_aloadn (k := 0) (D_law2 38 rfl) rfl rfl ?_
  refine l_iloadn (k := 3) (D_law2 39 rfl) rfl rfl ?_
  refine l_iconst (v := 3) (D_law2 40 rfl) rfl ?_
  refine l_iadd (D_law2 41 rfl) ?_
  refine l_sld (D_law2 42 rfl) (x' := ((i + 3 : Nat) : Int)) (wr_of (by omega) (by omega)) (by omega) (by omega) ?_
  rw [Int.toNat_natCast]
  refine l_aloadn (k := 0) (D_law2 43 rfl) rfl rfl ?_
  refine l_iloadn (k := 3) (D_law2 44 rfl) rfl rfl ?_
  refine l_iconst (v := 4) (D_law2 45 rfl) rfl ?_
  refine l_iadd (D_law2 46 rfl) ?_
  refine l_sld (D_law2 47 rfl) (x' := ((i + 4 : Nat) : Int)) (wr_of (by omega) (by omega)) (by omega) (by omega) ?_
  rw [Int.toNat_natCast]
  refine l_aloadn (k := 0) (D_law2 48 rfl) rfl rfl ?_
  refine l_iloadn (k := 3) (D_law2 49 rfl) rfl rfl ?_
  refine l_iconst (v := 5) (D_law2 50 rfl) rfl ?_
  refine l_iadd (D_law2 51 rfl) ?_
  refine l_sld (D_law2 52 rfl) (x' := ((i + 5 : Nat) : Int)) (wr_of (by omega) (by omega)) (by omega) (by omega) ?_
  rw [Int.toNat_natCast]
  refine l_callV (c_Model_person (wr_sc _ _) (wr_sc _ _) (wr_sc _ _) (wr_sc _ _) (wr_sc _ _) h2) lk_Lawm_22 mok_Model_person kd_81 (by decide) rfl (by decide) rfl rfl (Nat.le_of_ble_eq_true rfl) (by decide) (D_law2 53 rfl) (fun v a2 G2 q => ?_)
  obtain ⟨rfl, rfl, rfl, -⟩ := q
  exact l_same (tgt := 1381) (D_law2 54 rfl) rfl he hk
theorem case_dies {X : XT} {b N i : Nat} {xs : Nat → Int32} {G : GS} {q1 : Int × GS} {q2 : Int × GS} (hi : i + 6 ≤ N) (hN : N ≤ 3072) (h1 : f_Hall_dies G (sc xs (i + 1)) (sc xs (i + 2)) = some q1) (h2 : f_Model_dies q1.2 (sc xs (i + 1)) (sc xs (i + 2)) = some q2) (he : q1.1 = q2.1) (hk : JL X b N xs true NC 137 26133 1381 [(0, .ref b), (1, rf X 0), (2, rf X 81), (3, vi i)] [] q2.2) : JL X b N xs true NC 137 26133 266 [(0, .ref b), (1, rf X 0), (2, rf X 81), (3, vi i)] [] G := by
  refine l_aloadn (k := 1) (D_law3 0 rfl) rfl rfl ?_
  refine l_aloadn (k := 0) (D_law3 1 rfl) rfl rfl ?_
  refine l_iloadn (k := 3) (D_law3 2 rfl) rfl rfl ?_
  refine l_iconst (v := 1) (D_law3 3 rfl) rfl ?_
  refine l_iadd (D_law3 4 rfl) ?_
  refine l_sld (D_law3 5 rfl) (x' := ((i + 1 : Nat) : Int)) (wr_of (by omega) (by omega)) (by omega) (by omega) ?_
  rw [Int.toNat_natCast]
  refine l_aloadn (k := 0) (D_law3 6 rfl) rfl rfl ?_
  refine l_iloadn (k := 3) (D_law3 7 rfl) rfl rfl ?_
  refine l_iconst (v := 2) (D_law3 8 rfl) rfl ?_
  refine l_iadd (D_law3 9 rfl) ?_
  refine l_sld (D_law3 10 rfl) (x' := ((i + 2 : Nat) : Int)) (wr_of (by omega) (by omega)) (by omega) (by omega) ?_
  rw [Int.toNat_natCast]
  refine l_callV (c_Hall_dies (wr_sc _ _) (wr_sc _ _) h1) lk_Lawm_23 mok_Hall_dies kd_0 (by decide) rfl (by decide) rfl rfl (Nat.le_of_ble_eq_true rfl) (by decide) (D_law3 11 rfl) (fun v a2 G2 q => ?_)
  obtain ⟨rfl, rfl, rfl, -, -⟩ := q
  refine l_aloadn (k := 2) (D_law3 12 rfl) rfl rfl ?_
  refine l_aloadn (k := 0) (D_law3 13 rfl) rfl rfl ?_
  refine l_iloadn (k := 3) (D_law3 14 rfl) rfl rfl ?_
  refine l_iconst (v := 1) (D_law3 15 rfl) rfl ?_
  refine l_iadd (D_law3 16 rfl) ?_
  refine l_sld (D_law3 17 rfl) (x' := ((i + 1 : Nat) : Int)) (wr_of (by omega) (by omega)) (by omega) (by omega) ?_
  rw [Int.toNat_natCast]
  refine l_aloadn (k := 0) (D_law3 18 rfl) rfl rfl ?_
  refine l_iloadn (k := 3) (D_law3 19 rfl) rfl rfl ?_
  refine l_iconst (v := 2) (D_law3 20 rfl) rfl ?_
  refine l_iadd (D_law3 21 rfl) ?_
  refine l_sld (D_law3 22 rfl) (x' := ((i + 2 : Nat) : Int)) (wr_of (by omega) (by omega)) (by omega) (by omega) ?_
  rw [Int.toNat_natCast]
  refine l_callV (c_Model_dies (wr_sc _ _) (wr_sc _ _) h2) lk_Lawm_27 mok_Model_dies kd_81 (by decide) rfl (by decide) rfl rfl (Nat.le_of_ble_eq_true rfl) (by decide) (D_law3 23 rfl) (fun v a2 G2 q => ?_)
  obtain ⟨rfl, rfl, rfl, -, -⟩ := q
  exact l_same (tgt := 1381) (D_law3 24 rfl) rfl he hk
theorem case_marry {X : XT} {b N i : Nat} {xs : Nat → Int32} {G : GS} {q1 : Int × GS} {q2 : Int × GS} (hi : i + 6 ≤ N) (hN : N ≤ 3072) (h1 : f_Hall_marry G (sc xs (i + 1)) (sc xs (i + 2)) = some q1) (h2 : f_Model_marry q1.2 (sc xs (i + 1)) (sc xs (i + 2)) = some q2) (he : q1.1 = q2.1) (hk : JL X b N xs true NC 137 26133 1381 [(0, .ref b), (1, rf X 0), (2, rf X 81), (3, vi i)] [] q2.2) : JL X b N xs true NC 137 26133 299 [(0, .ref b), (1, rf X 0), (2, rf X 81), (3, vi i)] [] G := by
  refine l_aloadn (k := 1) (D_law4 0 rfl) rfl rfl ?_
  refine l_aloadn (k := 0) (D_law4 1 rfl) rfl rfl ?_
  refine l_iloadn (k := 3) (D_law4 2 rfl) rfl rfl ?_
  refine l_iconst (v := 1) (D_law4 3 rfl) rfl ?_
  refine l_iadd (D_law4 4 rfl) ?_
  refine l_sld (D_law4 5 rfl) (x' := ((i + 1 : Nat) : Int)) (wr_of (by omega) (by omega)) (by omega) (by omega) ?_
  rw [Int.toNat_natCast]
  refine l_aloadn (k := 0) (D_law4 6 rfl) rfl rfl ?_
  refine l_iloadn (k := 3) (D_law4 7 rfl) rfl rfl ?_
  refine l_iconst (v := 2) (D_law4 8 rfl) rfl ?_
  refine l_iadd (D_law4 9 rfl) ?_
  refine l_sld (D_law4 10 rfl) (x' := ((i + 2 : Nat) : Int)) (wr_of (by omega) (by omega)) (by omega) (by omega) ?_
  rw [Int.toNat_natCast]
  refine l_callV (c_Hall_marry (wr_sc _ _) (wr_sc _ _) h1) lk_Lawm_28 mok_Hall_marry kd_0 (by decide) rfl (by decide) rfl rfl (Nat.le_of_ble_eq_true rfl) (by decide) (D_law4 11 rfl) (fun v a2 G2 q => ?_)
  obtain ⟨rfl, rfl, rfl, -, -⟩ := q
  refine l_aloadn (k := 2) (D_law4 12 rfl) rfl rfl ?_
  refine l_aloadn (k := 0) (D_law4 13 rfl) rfl rfl ?_
  refine l_iloadn (k := 3) (D_law4 14 rfl) rfl rfl ?_
  refine l_iconst (v := 1) (D_law4 15 rfl) rfl ?_
  refine l_iadd (D_law4 16 rfl) ?_
  refine l_sld (D_law4 17 rfl) (x' := ((i + 1 : Nat) : Int)) (wr_of (by omega) (by omega)) (by omega) (by omega) ?_
  rw [Int.toNat_natCast]
  refine l_aloadn (k := 0) (D_law4 18 rfl) rfl rfl ?_
  refine l_iloadn (k := 3) (D_law4 19 rfl) rfl rfl ?_
  refine l_iconst (v := 2) (D_law4 20 rfl) rfl ?_
  refine l_iadd (D_law4 21 rfl) ?_
  refine l_sld (D_law4 22 rfl) (x' := ((i + 2 : Nat) : Int)) (wr_of (by omega) (by omega)) (by omega) (by omega) ?_
  rw [Int.toNat_natCast]
  refine l_callV (c_Model_marry (wr_sc _ _) (wr_sc _ _) h2) lk_Lawm_31 mok_Model_marry kd_81 (by decide) rfl (by decide) rfl rfl (Nat.le_of_ble_eq_true rfl) (by decide) (D_law4 23 rfl) (fun v a2 G2 q => ?_)
  obtain ⟨rfl, rfl, rfl, -, -⟩ := q
  exact l_same (tgt := 1381) (D_law4 24 rfl) rfl he hk
theorem case_of {X : XT} {b N i : Nat} {xs : Nat → Int32} {G : GS} {q1 : Int} {q2 : Int} (hi : i + 6 ≤ N) (hN : N ≤ 3072) (h1 : f_Hall_of G (sc xs (i + 1)) (sc xs (i + 2)) = some q1) (h2 : f_Model_of G (sc xs (i + 1)) (sc xs (i + 2)) = some q2) (he : q1 = q2) (hk : JL X b N xs true NC 137 26133 1381 [(0, .ref b), (1, rf X 0), (2, rf X 81), (3, vi i)] [] G) : JL X b N xs true NC 137 26133 332 [(0, .ref b), (1, rf X 0), (2, rf X 81), (3, vi i)] [] G := by
  refine l_aloadn (k := 1) (D_law5 0 rfl) rfl rfl ?_
  refine l_aloadn (k := 0) (D_law5 1 rfl) rfl rfl ?_
  refine l_iloadn (k := 3) (D_law5 2 rfl) rfl rfl ?_
  refine l_iconst (v := 1) (D_law5 3 rfl) rfl ?_
  refine l_iadd (D_law5 4 rfl) ?_
  refine l_sld (D_law5 5 rfl) (x' := ((i + 1 : Nat) : Int)) (wr_of (by omega) (by omega)) (by omega) (by omega) ?_
  rw [Int.toNat_natCast]
  refine l_aloadn (k := 0) (D_law5 6 rfl) rfl rfl ?_
  refine l_iloadn (k := 3) (D_law5 7 rfl) rfl rfl ?_
  refine l_iconst (v := 2) (D_law5 8 rfl) rfl ?_
  refine l_iadd (D_law5 9 rfl) ?_
  refine l_sld (D_law5 10 rfl) (x' := ((i + 2 : Nat) : Int)) (wr_of (by omega) (by omega)) (by omega) (by omega) ?_
  rw [Int.toNat_natCast]
  refine l_callV (c_Hall_of (wr_sc _ _) (wr_sc _ _) h1) lk_Lawm_32 mok_Hall_of kd_0 (by decide) rfl (by decide) rfl rfl (Nat.le_of_ble_eq_true rfl) (by decide) (D_law5 11 rfl) (fun v a2 G2 q => ?_)
  obtain ⟨rfl, rfl, rfl, -⟩ := q
  refine l_aloadn (k := 2) (D_law5 12 rfl) rfl rfl ?_
  refine l_aloadn (k := 0) (D_law5 13 rfl) rfl rfl ?_
  refine l_iloadn (k := 3) (D_law5 14 rfl) rfl rfl ?_
  refine l_iconst (v := 1) (D_law5 15 rfl) rfl ?_
  refine l_iadd (D_law5 16 rfl) ?_
  refine l_sld (D_law5 17 rfl) (x' := ((i + 1 : Nat) : Int)) (wr_of (by omega) (by omega)) (by omega) (by omega) ?_
  rw [Int.toNat_natCast]
  refine l_aloadn (k := 0) (D_law5 18 rfl) rfl rfl ?_
  refine l_iloadn (k := 3) (D_law5 19 rfl) rfl rfl ?_
  refine l_iconst (v := 2) (D_law5 20 rfl) rfl ?_
  refine l_iadd (D_law5 21 rfl) ?_
  refine l_sld (D_law5 22 rfl) (x' := ((i + 2 : Nat) : Int)) (wr_of (by omega) (by omega)) (by omega) (by omega) ?_
  rw [Int.toNat_natCast]
  refine l_callV (c_Model_of (wr_sc _ _) (wr_sc _ _) h2) lk_Lawm_36 mok_Model_of kd_81 (by decide) rfl (by decide) rfl rfl (Nat.le_of_ble_eq_true rfl) (by decide) (D_law5 23 rfl) (fun v a2 G2 q => ?_)
  obtain ⟨rfl, rfl, rfl, -⟩ := q
  exact l_same (tgt := 1381) (D_law5 24 rfl) rfl he hk
theorem case_born {X : XT} {b N i : Nat} {xs : Nat → Int32} {G : GS} {q1 : Int × GS} {q2 : Int × GS} (hi : i + 6 ≤ N) (hN : N ≤ 3072) (h1 : f_Hall_born G (sc xs (i + 1)) (sc xs (i + 2)) (sc xs (i + 3)) = some q1) (h2 : f_Model_born q1.2 (sc xs (i + 1)) (sc xs (i + 2)) (sc xs (i + 3)) = some q2) (he : q1.1 = q2.1) (hk : JL X b N xs true NC 137 26133 1381 [(0, .ref b), (1, rf X 0), (2, rf X 81), (3, vi i)] [] q2.2) : JL X b N xs true NC 137 26133 365 [(0, .ref b), (1, rf X 0), (2, rf X 81), (3, vi i)] [] G := by
  refine l_aloadn (k := 1) (D_law6 0 rfl) rfl rfl ?_
  refine l_aloadn (k := 0) (D_law6 1 rfl) rfl rfl ?_
  refine l_iloadn (k := 3) (D_law6 2 rfl) rfl rfl ?_
  refine l_iconst (v := 1) (D_law6 3 rfl) rfl ?_
  refine l_iadd (D_law6 4 rfl) ?_
  refine l_sld (D_law6 5 rfl) (x' := ((i + 1 : Nat) : Int)) (wr_of (by omega) (by omega)) (by omega) (by omega) ?_
  rw [Int.toNat_natCast]
  refine l_aloadn (k := 0) (D_law6 6 rfl) rfl rfl ?_
  refine l_iloadn (k := 3) (D_law6 7 rfl) rfl rfl ?_
  refine l_iconst (v := 2) (D_law6 8 rfl) rfl ?_
  refine l_iadd (D_law6 9 rfl) ?_
  refine l_sld (D_law6 10 rfl) (x' := ((i + 2 : Nat) : Int)) (wr_of (by omega) (by omega)) (by omega) (by omega) ?_
  rw [Int.toNat_natCast]
  refine l_aloadn (k := 0) (D_law6 11 rfl) rfl rfl ?_
  refine l_iloadn (k := 3) (D_law6 12 rfl) rfl rfl ?_
  refine l_iconst (v := 3) (D_law6 13 rfl) rfl ?_
  refine l_iadd (D_law6 14 rfl) ?_
  refine l_sld (D_law6 15 rfl) (x' := ((i + 3 : Nat) : Int)) (wr_of (by omega) (by omega)) (by omega) (by omega) ?_
  rw [Int.toNat_natCast]
  refine l_callV (c_Hall_born (wr_sc _ _) (wr_sc _ _) (wr_sc _ _) h1) lk_Lawm_37 mok_Hall_born kd_0 (by decide) rfl (by decide) rfl rfl (Nat.le_of_ble_eq_true rfl) (by decide) (D_law6 16 rfl) (fun v a2 G2 q => ?_)
  obtain ⟨rfl, rfl, rfl, -, -⟩ := q
  refine l_aloadn (k := 2) (D_law6 17 rfl) rfl rfl ?_
  refine l_aloadn (k := 0) (D_law6 18 rfl) rfl rfl ?_
  refine l_iloadn (k := 3) (D_law6 19 rfl) rfl rfl ?_
  refine l_iconst (v := 1) (D_law6 20 rfl) rfl ?_
  refine l_iadd (D_law6 21 rfl) ?_
  refine l_sld (D_law6 22 rfl) (x' := ((i + 1 : Nat) : Int)) (wr_of (by omega) (by omega)) (by omega) (by omega) ?_
  rw [Int.toNat_natCast]
  refine l_aloadn (k := 0) (D_law6 23 rfl) rfl rfl ?_
  refine l_iloadn (k := 3) (D_law6 24 rfl) rfl rfl ?_
  refine l_iconst (v := 2) (D_law6 25 rfl) rfl ?_
  refine l_iadd (D_law6 26 rfl) ?_
  refine l_sld (D_law6 27 rfl) (x' := ((i + 2 : Nat) : Int)) (wr_of (by omega) (by omega)) (by omega) (by omega) ?_
  rw [Int.toNat_natCast]
  refine l_aloadn (k := 0) (D_law6 28 rfl) rfl rfl ?_
  refine l_iloadn (k := 3) (D_law6 29 rfl) rfl rfl ?_
  refine l_iconst (v := 3) (D_law6 30 rfl) rfl ?_
  refine l_iadd (D_law6 31 rfl) ?_
  refine l_sld (D_law6 32 rfl) (x' := ((i + 3 : Nat) : Int)) (wr_of (by omega) (by omega)) (by omega) (by omega) ?_
  rw [Int.toNat_natCast]
  refine l_callV (c_Model_born (wr_sc _ _) (wr_sc _ _) (wr_sc _ _) h2) lk_Lawm_41 mok_Model_born kd_81 (by decide) rfl (by decide) rfl rfl (Nat.le_of_ble_eq_true rfl) (by decide) (D_law6 33 rfl) (fun v a2 G2 q => ?_)
  obtain ⟨rfl, rfl, rfl, -, -⟩ := q
  exact l_same (tgt := 1381) (D_law6 34 rfl) rfl he hk
theorem case_land {X : XT} {b N i : Nat} {xs : Nat → Int32} {G : GS} {q1 : Int × GS} {q2 : Int × GS} (hi : i + 6 ≤ N) (hN : N ≤ 3072) (h1 : f_Hall_land G (sc xs (i + 1)) (sc xs (i + 2)) (sc xs (i + 3)) = some q1) (h2 : f_Model_land q1.2 (sc xs (i + 1)) (sc xs (i + 2)) (sc xs (i + 3)) = some q2) (he : q1.1 = q2.1) (hk : JL X b N xs true NC 137 26133 1381 [(0, .ref b), (1, rf X 0), (2, rf X 81), (3, vi i)] [] q2.2) : JL X b N xs true NC 137 26133 408 [(0, .ref b), (1, rf X 0), (2, rf X 81), (3, vi i)] [] G := by
  refine l_aloadn (k := 1) (D_law7 0 rfl) rfl rfl ?_
  refine l_aloadn (k := 0) (D_law7 1 rfl) rfl rfl ?_
  refine l_iloadn (k := 3) (D_law7 2 rfl) rfl rfl ?_
  refine l_iconst (v := 1) (D_law7 3 rfl) rfl ?_
  refine l_iadd (D_law7 4 rfl) ?_
  refine l_sld (D_law7 5 rfl) (x' := ((i + 1 : Nat) : Int)) (wr_of (by omega) (by omega)) (by omega) (by omega) ?_
  rw [Int.toNat_natCast]
  refine l_aloadn (k := 0) (D_law7 6 rfl) rfl rfl ?_
  refine l_iloadn (k := 3) (D_law7 7 rfl) rfl rfl ?_
  refine l_iconst (v := 2) (D_law7 8 rfl) rfl ?_
  refine l_iadd (D_law7 9 rfl) ?_
  refine l_sld (D_law7 10 rfl) (x' := ((i + 2 : Nat) : Int)) (wr_of (by omega) (by omega)) (by omega) (by omega) ?_
  rw [Int.toNat_natCast]
  refine l_aloadn (k := 0) (D_law7 11 rfl) rfl rfl ?_
  refine l_iloadn (k := 3) (D_law7 12 rfl) rfl rfl ?_
  refine l_iconst (v := 3) (D_law7 13 rfl) rfl ?_
  refine l_iadd (D_law7 14 rfl) ?_
  refine l_sld (D_law7 15 rfl) (x' := ((i + 3 : Nat) : Int)) (wr_of (by omega) (by omega)) (by omega) (by omega) ?_
  rw [Int.toNat_natCast]
  refine l_callV (c_Hall_land (wr_sc _ _) (wr_sc _ _) (wr_sc _ _) h1) lk_Lawm_42 mok_Hall_land kd_0 (by decide) rfl (by decide) rfl rfl (Nat.le_of_ble_eq_true rfl) (by decide) (D_law7 16 rfl) (fun v a2 G2 q => ?_)
  obtain ⟨rfl, rfl, rfl, -⟩ := q
  refine l_aloadn (k := 2) (D_law7 17 rfl) rfl rfl ?_
  refine l_aloadn (k := 0) (D_law7 18 rfl) rfl rfl ?_
  refine l_iloadn (k := 3) (D_law7 19 rfl) rfl rfl ?_
  refine l_iconst (v := 1) (D_law7 20 rfl) rfl ?_
  refine l_iadd (D_law7 21 rfl) ?_
  refine l_sld (D_law7 22 rfl) (x' := ((i + 1 : Nat) : Int)) (wr_of (by omega) (by omega)) (by omega) (by omega) ?_
  rw [Int.toNat_natCast]
  refine l_aloadn (k := 0) (D_law7 23 rfl) rfl rfl ?_
  refine l_iloadn (k := 3) (D_law7 24 rfl) rfl rfl ?_
  refine l_iconst (v := 2) (D_law7 25 rfl) rfl ?_
  refine l_iadd (D_law7 26 rfl) ?_
  refine l_sld (D_law7 27 rfl) (x' := ((i + 2 : Nat) : Int)) (wr_of (by omega) (by omega)) (by omega) (by omega) ?_
  rw [Int.toNat_natCast]
  refine l_aloadn (k := 0) (D_law7 28 rfl) rfl rfl ?_
  refine l_iloadn (k := 3) (D_law7 29 rfl) rfl rfl ?_
  refine l_iconst (v := 3) (D_law7 30 rfl) rfl ?_
  refine l_iadd (D_law7 31 rfl) ?_
  refine l_sld (D_law7 32 rfl) (x' := ((i + 3 : Nat) : Int)) (wr_of (by omega) (by omega)) (by omega) (by omega) ?_
  rw [Int.toNat_natCast]
  refine l_callV (c_Model_land (wr_sc _ _) (wr_sc _ _) (wr_sc _ _) h2) lk_Lawm_46 mok_Model_land kd_81 (by decide) rfl (by decide) rfl rfl (Nat.le_of_ble_eq_true rfl) (by decide) (D_law7 33 rfl) (fun v a2 G2 q => ?_)
  obtain ⟨rfl, rfl, rfl, -⟩ := q
  exact l_same (tgt := 1381) (D_law7 34 rfl) rfl he hk
theorem case_acre {X : XT} {b N i : Nat} {xs : Nat → Int32} {G : GS} {q1 : Int × GS} {q2 : Int × GS} (hi : i + 6 ≤ N) (hN : N ≤ 3072) (h1 : f_Hall_acre G (sc xs (i + 1)) (sc xs (i + 2)) (sc xs (i + 3)) (sc xs (i + 4)) = some q1) (h2 : f_Model_acre q1.2 (sc xs (i + 1)) (sc xs (i + 2)) (sc xs (i + 3)) (sc xs (i + 4)) = some q2) (he : q1.1 = q2.1) (hk : JL X b N xs true NC 137 26133 1381 [(0, .ref b), (1, rf X 0), (2, rf X 81), (3, vi i)] [] q2.2) : JL X b N xs true NC 137 26133 451 [(0, .ref b), (1, rf X 0), (2, rf X 81), (3, vi i)] [] G := by
  refine l_aloadn (k := 1) (D_law8 0 rfl) rfl rfl ?_
  refine l_aloadn (k := 0) (D_law8 1 rfl) rfl rfl ?_
  refine l_iloadn (k := 3) (D_law8 2 rfl) rfl rfl ?_
  refine l_iconst (v := 1) (D_law8 3 rfl) rfl ?_
  refine l_iadd (D_law8 4 rfl) ?_
  refine l_sld (D_law8 5 rfl) (x' := ((i + 1 : Nat) : Int)) (wr_of (by omega) (by omega)) (by omega) (by omega) ?_
  rw [Int.toNat_natCast]
  refine l_aloadn (k := 0) (D_law8 6 rfl) rfl rfl ?_
  refine l_iloadn (k := 3) (D_law8 7 rfl) rfl rfl ?_
  refine l_iconst (v := 2) (D_law8 8 rfl) rfl ?_
  refine l_iadd (D_law8 9 rfl) ?_
  refine l_sld (D_law8 10 rfl) (x' := ((i + 2 : Nat) : Int)) (wr_of (by omega) (by omega)) (by omega) (by omega) ?_
  rw [Int.toNat_natCast]
  refine l_aloadn (k := 0) (D_law8 11 rfl) rfl rfl ?_
  refine l_iloadn (k := 3) (D_law8 12 rfl) rfl rfl ?_
  refine l_iconst (v := 3) (D_law8 13 rfl) rfl ?_
  refine l_iadd (D_law8 14 rfl) ?_
  refine l_sld (D_law8 15 rfl) (x' := ((i + 3 : Nat) : Int)) (wr_of (by omega) (by omega)) (by omega) (by omega) ?_
  rw [Int.toNat_natCast]
  refine l_aloadn (k := 0) (D_law8 16 rfl) rfl rfl ?_
  refine l_iloadn (k := 3) (D_law8 17 rfl) rfl rfl ?_
  refine l_iconst (v := 4) (D_law8 18 rfl) rfl ?_
  refine l_iadd (D_law8 19 rfl) ?_
  refine l_sld (D_law8 20 rfl) (x' := ((i + 4 : Nat) : Int)) (wr_of (by omega) (by omega)) (by omega) (by omega) ?_
  rw [Int.toNat_natCast]
  refine l_callV (c_Hall_acre (wr_sc _ _) (wr_sc _ _) (wr_sc _ _) (wr_sc _ _) h1) lk_Lawm_47 mok_Hall_acre kd_0 (by decide) rfl (by decide) rfl rfl (Nat.le_of_ble_eq_true rfl) (by decide) (D_law8 21 rfl) (fun v a2 G2 q => ?_)
  obtain ⟨rfl, rfl, rfl, -, -⟩ := q
  refine l_aloadn (k := 2) (D_law8 22 rfl) rfl rfl ?_
  refine l_aloadn (k := 0) (D_law8 23 rfl) rfl rfl ?_
  refine l_iloadn (k := 3) (D_law8 24 rfl) rfl rfl ?_
  refine l_iconst (v := 1) (D_law8 25 rfl) rfl ?_
  refine l_iadd (D_law8 26 rfl) ?_
  refine l_sld (D_law8 27 rfl) (x' := ((i + 1 : Nat) : Int)) (wr_of (by omega) (by omega)) (by omega) (by omega) ?_
  rw [Int.toNat_natCast]
  refine l_aloadn (k := 0) (D_law8 28 rfl) rfl rfl ?_
  refine l_iloadn (k := 3) (D_law8 29 rfl) rfl rfl ?_
  refine l_iconst (v := 2) (D_law8 30 rfl) rfl ?_
  refine l_iadd (D_law8 31 rfl) ?_
  refine l_sld (D_law8 32 rfl) (x' := ((i + 2 : Nat) : Int)) (wr_of (by omega) (by omega)) (by omega) (by omega) ?_
  rw [Int.toNat_natCast]
  refine l_aloadn (k := 0) (D_law8 33 rfl) rfl rfl ?_
  refine l_iloadn (k := 3) (D_law8 34 rfl) rfl rfl ?_
  refine l_iconst (v := 3) (D_law8 35 rfl) rfl ?_
  refine l_iadd (D_law8 36 rfl) ?_
  refine l_sld (D_law8 37 rfl) (x' := ((i + 3 : Nat) : Int)) (wr_of (by omega) (by omega)) (by omega) (by omega) ?_
  rw [Int.toNat_natCast]
  refine l_aloadn (k := 0) (D_law8 38 rfl) rfl rfl ?_
  refine l_iloadn (k := 3) (D_law8 39 rfl) rfl rfl ?_
  refine l_iconst (v := 4) (D_law8 40 rfl) rfl ?_
  refine l_iadd (D_law8 41 rfl) ?_
  refine l_sld (D_law8 42 rfl) (x' := ((i + 4 : Nat) : Int)) (wr_of (by omega) (by omega)) (by omega) (by omega) ?_
  rw [Int.toNat_natCast]
  refine l_callV (c_Model_acre (wr_sc _ _) (wr_sc _ _) (wr_sc _ _) (wr_sc _ _) h2) lk_Lawm_51 mok_Model_acre kd_81 (by decide) rfl (by decide) rfl rfl (Nat.le_of_ble_eq_true rfl) (by decide) (D_law8 43 rfl) (fun v a2 G2 q => ?_)
  obtain ⟨rfl, rfl, rfl, -, -⟩ := q
  exact l_same (tgt := 1381) (D_law8 44 rfl) rfl he hk
theorem case_landOf {X : XT} {b N i : Nat} {xs : Nat → Int32} {G : GS} {q1 : Int} {q2 : Int} (hi : i + 6 ≤ N) (hN : N ≤ 3072) (h1 : f_Hall_landOf G (sc xs (i + 1)) (sc xs (i + 2)) = some q1) (h2 : f_Model_landOf G (sc xs (i + 1)) (sc xs (i + 2)) = some q2) (he : q1 = q2) (hk : JL X b N xs true NC 137 26133 1381 [(0, .ref b), (1, rf X 0), (2, rf X 81), (3, vi i)] [] G) : JL X b N xs true NC 137 26133 504 [(0, .ref b), (1, rf X 0), (2, rf X 81), (3, vi i)] [] G := by
  refine l_aloadn (k := 1) (D_law9 0 rfl) rfl rfl ?_
  refine l_aloadn (k := 0) (D_law9 1 rfl) rfl rfl ?_
  refine l_iloadn (k := 3) (D_law9 2 rfl) rfl rfl ?_
  refine l_iconst (v := 1) (D_law9 3 rfl) rfl ?_
  refine l_iadd (D_law9 4 rfl) ?_
  refine l_sld (D_law9 5 rfl) (x' := ((i + 1 : Nat) : Int)) (wr_of (by omega) (by omega)) (by omega) (by omega) ?_
  rw [Int.toNat_natCast]
  refine l_aloadn (k := 0) (D_law9 6 rfl) rfl rfl ?_
  refine l_iloadn (k := 3) (D_law9 7 rfl) rfl rfl ?_
  refine l_iconst (v := 2) (D_law9 8 rfl) rfl ?_
  refine l_iadd (D_law9 9 rfl) ?_
  refine l_sld (D_law9 10 rfl) (x' := ((i + 2 : Nat) : Int)) (wr_of (by omega) (by omega)) (by omega) (by omega) ?_
  rw [Int.toNat_natCast]
  refine l_callV (c_Hall_landOf (wr_sc _ _) (wr_sc _ _) h1) lk_Lawm_52 mok_Hall_landOf kd_0 (by decide) rfl (by decide) rfl rfl (Nat.le_of_ble_eq_true rfl) (by decide) (D_law9 11 rfl) (fun v a2 G2 q => ?_)
  obtain ⟨rfl, rfl, rfl, -⟩ := q
  refine l_aloadn (k := 2) (D_law9 12 rfl) rfl rfl ?_
  refine l_aloadn (k := 0) (D_law9 13 rfl) rfl rfl ?_
  refine l_iloadn (k := 3) (D_law9 14 rfl) rfl rfl ?_
  refine l_iconst (v := 1) (D_law9 15 rfl) rfl ?_
  refine l_iadd (D_law9 16 rfl) ?_
  refine l_sld (D_law9 17 rfl) (x' := ((i + 1 : Nat) : Int)) (wr_of (by omega) (by omega)) (by omega) (by omega) ?_
  rw [Int.toNat_natCast]
  refine l_aloadn (k := 0) (D_law9 18 rfl) rfl rfl ?_
  refine l_iloadn (k := 3) (D_law9 19 rfl) rfl rfl ?_
  refine l_iconst (v := 2) (D_law9 20 rfl) rfl ?_
  refine l_iadd (D_law9 21 rfl) ?_
  refine l_sld (D_law9 22 rfl) (x' := ((i + 2 : Nat) : Int)) (wr_of (by omega) (by omega)) (by omega) (by omega) ?_
  rw [Int.toNat_natCast]
  refine l_callV (c_Model_landOf (wr_sc _ _) (wr_sc _ _) h2) lk_Lawm_55 mok_Model_landOf kd_81 (by decide) rfl (by decide) rfl rfl (Nat.le_of_ble_eq_true rfl) (by decide) (D_law9 23 rfl) (fun v a2 G2 q => ?_)
  obtain ⟨rfl, rfl, rfl, -⟩ := q
  exact l_same (tgt := 1381) (D_law9 24 rfl) rfl he hk
theorem case_reign {X : XT} {b N i : Nat} {xs : Nat → Int32} {G : GS} {q1 : Int × GS} {q2 : Int × GS} (hi : i + 6 ≤ N) (hN : N ≤ 3072) (h1 : f_Hall_reign G (sc xs (i + 1)) = some q1) (h2 : f_Model_reign q1.2 (sc xs (i + 1)) = some q2) (he : q1.1 = q2.1) (hk : JL X b N xs true NC 137 26133 1381 [(0, .ref b), (1, rf X 0), (2, rf X 81), (3, vi i)] [] q2.2) : JL X b N xs true NC 137 26133 537 [(0, .ref b), (1, rf X 0), (2, rf X 81), (3, vi i)] [] G := by
  refine l_aloadn (k := 1) (D_law10 0 rfl) rfl rfl ?_
  refine l_aloadn (k := 0) (D_law10 1 rfl) rfl rfl ?_
  refine l_iloadn (k := 3) (D_law10 2 rfl) rfl rfl ?_
  refine l_iconst (v := 1) (D_law10 3 rfl) rfl ?_
  refine l_iadd (D_law10 4 rfl) ?_
  refine l_sld (D_law10 5 rfl) (x' := ((i + 1 : Nat) : Int)) (wr_of (by omega) (by omega)) (by omega) (by omega) ?_
  rw [Int.toNat_natCast]
  refine l_callV (c_Hall_reign (wr_sc _ _) h1) lk_Lawm_56 mok_Hall_reign kd_0 (by decide) rfl (by decide) rfl rfl (Nat.le_of_ble_eq_true rfl) (by decide) (D_law10 6 rfl) (fun v a2 G2 q => ?_)
  obtain ⟨rfl, rfl, rfl, -⟩ := q
  refine l_aloadn (k := 2) (D_law10 7 rfl) rfl rfl ?_
  refine l_aloadn (k := 0) (D_law10 8 rfl) rfl rfl ?_
  refine l_iloadn (k := 3) (D_law10 9 rfl) rfl rfl ?_
  refine l_iconst (v := 1) (D_law10 10 rfl) rfl ?_
  refine l_iadd (D_law10 11 rfl) ?_
  refine l_sld (D_law10 12 rfl) (x' := ((i + 1 : Nat) : Int)) (wr_of (by omega) (by omega)) (by omega) (by omega) ?_
  rw [Int.toNat_natCast]
  refine l_callV (c_Model_reign (wr_sc _ _) h2) lk_Lawm_59 mok_Model_reign kd_81 (by decide) rfl (by decide) rfl rfl (Nat.le_of_ble_eq_true rfl) (by decide) (D_law10 13 rfl) (fun v a2 G2 q => ?_)
  obtain ⟨rfl, rfl, rfl, -⟩ := q
  exact l_same (tgt := 1381) (D_law10 14 rfl) rfl he hk
theorem case_feed {X : XT} {b N i : Nat} {xs : Nat → Int32} {G : GS} {q1 : Int × GS} {q2 : Int × GS} (hi : i + 6 ≤ N) (hN : N ≤ 3072) (h1 : f_Hall_feed G (sc xs (i + 1)) (sc xs (i + 2)) (sc xs (i + 3)) (sc xs (i + 4)) (sc xs (i + 5)) = some q1) (h2 : f_Model_feed q1.2 (sc xs (i + 1)) (sc xs (i + 2)) (sc xs (i + 3)) (sc xs (i + 4)) (sc xs (i + 5)) = some q2) (he : q1.1 = q2.1) (hk : JL X b N xs true NC 137 26133 1381 [(0, .ref b), (1, rf X 0), (2, rf X 81), (3, vi i)] [] q2.2) : JL X b N xs true NC 137 26133 560 [(0, .ref b), (1, rf X 0), (2, rf X 81), (3, vi i)] [] G := by
  refine l_aloadn (k := 1) (D_law11 0 rfl) rfl rfl ?_
  refine l_aloadn (k := 0) (D_law11 1 rfl) rfl rfl ?_
  refine l_iloadn (k := 3) (D_law11 2 rfl) rfl rfl ?_
  refine l_iconst (v := 1) (D_law11 3 rfl) rfl ?_
  refine l_iadd (D_law11 4 rfl) ?_
  refine l_sld (D_law11 5 rfl) (x' := ((i + 1 : Nat) : Int)) (wr_of (by omega) (by omega)) (by omega) (by omega) ?_
  rw [Int.toNat_natCast]
  refine l_aloadn (k := 0) (D_law11 6 rfl) rfl rfl ?_
  refine l_iloadn (k := 3) (D_law11 7 rfl) rfl rfl ?_
  refine l_iconst (v := 2) (D_law11 8 rfl) rfl ?_
  refine l_iadd (D_law11 9 rfl) ?_
  refine l_sld (D_law11 10 rfl) (x' := ((i + 2 : Nat) : Int)) (wr_of (by omega) (by omega)) (by omega) (by omega) ?_
  rw [Int.toNat_natCast]
  refine l_aloadn (k := 0) (D_law11 11 rfl) rfl rfl ?_
  refine l_iloadn (k := 3) (D_law11 12 rfl) rfl rfl ?_
  refine l_iconst (v := 3) (D_law11 13 rfl) rfl ?_
  refine l_iadd (D_law11 14 rfl) ?_
  refine l_sld (D_law11 15 rfl) (x' := ((i + 3 : Nat) : Int)) (wr_of (by omega) (by omega)) (by omega) (by omega) ?_
  rw [Int.toNat_natCast]
  refine l_aloadn (k := 0) (D_law11 16 rfl) rfl rfl ?_
  refine l_iloadn (k := 3) (D_law11 17 rfl) rfl rfl ?_
  refine l_iconst (v := 4) (D_law11 18 rfl) rfl ?_
  refine l_iadd (D_law11 19 rfl) ?_
  refine l_sld (D_law11 20 rfl) (x' := ((i + 4 : Nat) : Int)) (wr_of (by omega) (by omega)) (by omega) (by omega) ?_
  rw [Int.toNat_natCast]
  refine l_aloadn (k := 0) (D_law11 21 rfl) rfl rfl ?_
  refine l_iloadn (k := 3) (D_law11 22 rfl) rfl rfl ?_
  refine l_iconst (v := 5) (D_law11 23 rfl) rfl ?_
  refine l_iadd (D_law11 24 rfl) ?_
  refine l_sld (D_law11 25 rfl) (x' := ((i + 5 : Nat) : Int)) (wr_of (by omega) (by omega)) (by omega) (by omega) ?_
  rw [Int.toNat_natCast]
  refine l_callV (c_Hall_feed (wr_sc _ _) (wr_sc _ _) (wr_sc _ _) (wr_sc _ _) (wr_sc _ _) h1) lk_Lawm_60 mok_Hall_feed kd_0 (by decide) rfl (by decide) rfl rfl (Nat.le_of_ble_eq_true rfl) (by decide) (D_law11 26 rfl) (fun v a2 G2 q => ?_)
  obtain ⟨rfl, rfl, rfl, -⟩ := q
  refine l_aloadn (k := 2) (D_law11 27 rfl) rfl rfl ?_
  refine l_aloadn (k := 0) (D_law11 28 rfl) rfl rfl ?_
  refine l_iloadn (k := 3) (D_law11 29 rfl) rfl rfl ?_
  refine l_iconst (v := 1) (D_law11 30 rfl) rfl ?_
  refine l_iadd (D_law11 31 rfl) ?_
  refine l_sld (D_law11 32 rfl) (x' := ((i + 1 : Nat) : Int)) (wr_of (by omega) (by omega)) (by omega) (by omega) ?_
  rw [Int.toNat_natCast]
  refine l_aloadn (k := 0) (D_law11 33 rfl) rfl rfl ?_
  refine l_iloadn (k := 3) (D_law11 34 rfl) rfl rfl ?_
  refine l_iconst (v := 2) (D_law11 35 rfl) rfl ?_
  refine l_iadd (D_law11 36 rfl) ?_
  refine l_sld (D_law11 37 rfl) (x' := ((i + 2 : Nat) : Int)) (wr_of (by omega) (by omega)) (by omega) (by omega) ?_
  rw [Int.toNat_natCast]
  refine l_aloadn (k := 0) (D_law11 38 rfl) rfl rfl ?_
  refine l_iloadn (k := 3) (D_law11 39 rfl) rfl rfl ?_
  refine l_iconst (v := 3) (D_law11 40 rfl) rfl ?_
  refine l_iadd (D_law11 41 rfl) ?_
  refine l_sld (D_law11 42 rfl) (x' := ((i + 3 : Nat) : Int)) (wr_of (by omega) (by omega)) (by omega) (by omega) ?_
  rw [Int.toNat_natCast]
  refine l_aloadn (k := 0) (D_law11 43 rfl) rfl rfl ?_
  refine l_iloadn (k := 3) (D_law11 44 rfl) rfl rfl ?_
  refine l_iconst (v := 4) (D_law11 45 rfl) rfl ?_
  refine l_iadd (D_law11 46 rfl) ?_
  refine l_sld (D_law11 47 rfl) (x' := ((i + 4 : Nat) : Int)) (wr_of (by omega) (by omega)) (by omega) (by omega) ?_
  rw [Int.toNat_natCast]
  refine l_aloadn (k := 0) (D_law11 48 rfl) rfl rfl ?_
  refine l_iloadn (k := 3) (D_law11 49 rfl) rfl rfl ?_
  refine l_iconst (v := 5) (D_law11 50 rfl) rfl ?_
  refine l_iadd (D_law11 51 rfl) ?_
  refine l_sld (D_law11 52 rfl) (x' := ((i + 5 : Nat) : Int)) (wr_of (by omega) (by omega)) (by omega) (by omega) ?_
  rw [Int.toNat_natCast]
  refine l_callV (c_Model_feed (wr_sc _ _) (wr_sc _ _) (wr_sc _ _) (wr_sc _ _) (wr_sc _ _) h2) lk_Lawm_63 mok_Model_feed kd_81 (by decide) rfl (by decide) rfl rfl (Nat.le_of_ble_eq_true rfl) (by decide) (D_law11 53 rfl) (fun v a2 G2 q => ?_)
  obtain ⟨rfl, rfl, rfl, -⟩ := q
  exact l_same (tgt := 1381) (D_law11 54 rfl) rfl he hk
theorem case_end {X : XT} {b N i : Nat} {xs : Nat → Int32} {G : GS} {q1 : Int × GS} {q2 : Int × GS} (hi : i + 6 ≤ N) (hN : N ≤ 3072) (h1 : f_Hall_end G (sc xs (i + 1)) = some q1) (h2 : f_Model_end q1.2 (sc xs (i + 1)) = some q2) (he : q1.1 = q2.1) (hk : JL X b N xs true NC 137 26133 1381 [(0, .ref b), (1, rf X 0), (2, rf X 81), (3, vi i)] [] q2.2) : JL X b N xs true NC 137 26133 623 [(0, .ref b), (1, rf X 0), (2, rf X 81), (3, vi i)] [] G := by
  refine l_aloadn (k := 1) (D_law12 0 rfl) rfl rfl ?_
  refine l_aloadn (k := 0) (D_law12 1 rfl) rfl rfl ?_
  refine l_iloadn (k := 3) (D_law12 2 rfl) rfl rfl ?_
  refine l_iconst (v := 1) (D_law12 3 rfl) rfl ?_
  refine l_iadd (D_law12 4 rfl) ?_
  refine l_sld (D_law12 5 rfl) (x' := ((i + 1 : Nat) : Int)) (wr_of (by omega) (by omega)) (by omega) (by omega) ?_
  rw [Int.toNat_natCast]
  refine l_callV (c_Hall_end (wr_sc _ _) h1) lk_Lawm_64 mok_Hall_end kd_0 (by decide) rfl (by decide) rfl rfl (Nat.le_of_ble_eq_true rfl) (by decide) (D_law12 6 rfl) (fun v a2 G2 q => ?_)
  obtain ⟨rfl, rfl, rfl, -, -⟩ := q
  refine l_aloadn (k := 2) (D_law12 7 rfl) rfl rfl ?_
  refine l_aloadn (k := 0) (D_law12 8 rfl) rfl rfl ?_
  refine l_iloadn (k := 3) (D_law12 9 rfl) rfl rfl ?_
  refine l_iconst (v := 1) (D_law12 10 rfl) rfl ?_
  refine l_iadd (D_law12 11 rfl) ?_
  refine l_sld (D_law12 12 rfl) (x' := ((i + 1 : Nat) : Int)) (wr_of (by omega) (by omega)) (by omega) (by omega) ?_
  rw [Int.toNat_natCast]
  refine l_callV (c_Model_end (wr_sc _ _) h2) lk_Lawm_68 mok_Model_end kd_81 (by decide) rfl (by decide) rfl rfl (Nat.le_of_ble_eq_true rfl) (by decide) (D_law12 13 rfl) (fun v a2 G2 q => ?_)
  obtain ⟨rfl, rfl, rfl, -, -⟩ := q
  exact l_same (tgt := 1381) (D_law12 14 rfl) rfl he hk
theorem case_reads {X : XT} {b N i : Nat} {xs : Nat → Int32} {G : GS} {q1 : Int × GS} {q2 : Int × GS} (hi : i + 6 ≤ N) (hN : N ≤ 3072) (h1 : f_Hall_reads G (sc xs (i + 1)) = some q1) (h2 : f_Model_reads q1.2 (sc xs (i + 1)) = some q2) (he : q1.1 = q2.1) (hk : JL X b N xs true NC 137 26133 1381 [(0, .ref b), (1, rf X 0), (2, rf X 81), (3, vi i)] [] q2.2) : JL X b N xs true NC 137 26133 646 [(0, .ref b), (1, rf X 0), (2, rf X 81), (3, vi i)] [] G := by
  refine l_aloadn (k := 1) (D_law13 0 rfl) rfl rfl ?_
  refine l_aloadn (k := 0) (D_law13 1 rfl) rfl rfl ?_
  refine l_iloadn (k := 3) (D_law13 2 rfl) rfl rfl ?_
  refine l_iconst (v := 1) (D_law13 3 rfl) rfl ?_
  refine l_iadd (D_law13 4 rfl) ?_
  refine l_sld (D_law13 5 rfl) (x' := ((i + 1 : Nat) : Int)) (wr_of (by omega) (by omega)) (by omega) (by omega) ?_
  rw [Int.toNat_natCast]
  refine l_callV (c_Hall_reads (wr_sc _ _) h1) lk_Lawm_69 mok_Hall_reads kd_0 (by decide) rfl (by decide) rfl rfl (Nat.le_of_ble_eq_true rfl) (by decide) (D_law13 6 rfl) (fun v a2 G2 q => ?_)
  obtain ⟨rfl, rfl, rfl, -⟩ := q
  refine l_aloadn (k := 2) (D_law13 7 rfl) rfl rfl ?_
  refine l_aloadn (k := 0) (D_law13 8 rfl) rfl rfl ?_
  refine l_iloadn (k := 3) (D_law13 9 rfl) rfl rfl ?_
  refine l_iconst (v := 1) (D_law13 10 rfl) rfl ?_
  refine l_iadd (D_law13 11 rfl) ?_
  refine l_sld (D_law13 12 rfl) (x' := ((i + 1 : Nat) : Int)) (wr_of (by omega) (by omega)) (by omega) (by omega) ?_
  rw [Int.toNat_natCast]
  refine l_callV (c_Model_reads (wr_sc _ _) h2) lk_Lawm_72 mok_Model_reads kd_81 (by decide) rfl (by decide) rfl rfl (Nat.le_of_ble_eq_true rfl) (by decide) (D_law13 13 rfl) (fun v a2 G2 q => ?_)
  obtain ⟨rfl, rfl, rfl, -⟩ := q
  exact l_same (tgt := 1381) (D_law13 14 rfl) rfl he hk
theorem case_fault {X : XT} {b N i : Nat} {xs : Nat → Int32} {G : GS} {q1 : Int} {q2 : Int} (hi : i + 6 ≤ N) (hN : N ≤ 3072) (h1 : f_Hall_fault G (sc xs (i + 1)) = some q1) (h2 : f_Model_fault G (sc xs (i + 1)) = some q2) (he : q1 = q2) (hk : JL X b N xs true NC 137 26133 1381 [(0, .ref b), (1, rf X 0), (2, rf X 81), (3, vi i)] [] G) : JL X b N xs true NC 137 26133 669 [(0, .ref b), (1, rf X 0), (2, rf X 81), (3, vi i)] [] G := by
  refine l_aloadn (k := 1) (D_law14 0 rfl) rfl rfl ?_
  refine l_aloadn (k := 0) (D_law14 1 rfl) rfl rfl ?_
  refine l_iloadn (k := 3) (D_law14 2 rfl) rfl rfl ?_
  refine l_iconst (v := 1) (D_law14 3 rfl) rfl ?_
  refine l_iadd (D_law14 4 rfl) ?_
  refine l_sld (D_law14 5 rfl) (x' := ((i + 1 : Nat) : Int)) (wr_of (by omega) (by omega)) (by omega) (by omega) ?_
  rw [Int.toNat_natCast]
  refine l_callV (c_Hall_fault (wr_sc _ _) h1) lk_Lawm_73 mok_Hall_fault kd_0 (by decide) rfl (by decide) rfl rfl (Nat.le_of_ble_eq_true rfl) (by decide) (D_law14 6 rfl) (fun v a2 G2 q => ?_)
  obtain ⟨rfl, rfl, rfl, -⟩ := q
  refine l_aloadn (k := 2) (D_law14 7 rfl) rfl rfl ?_
  refine l_aloadn (k := 0) (D_law14 8 rfl) rfl rfl ?_
  refine l_iloadn (k := 3) (D_law14 9 rfl) rfl rfl ?_
  refine l_iconst (v := 1) (D_law14 10 rfl) rfl ?_
  refine l_iadd (D_law14 11 rfl) ?_
  refine l_sld (D_law14 12 rfl) (x' := ((i + 1 : Nat) : Int)) (wr_of (by omega) (by omega)) (by omega) (by omega) ?_
  rw [Int.toNat_natCast]
  refine l_callV (c_Model_fault (wr_sc _ _) h2) lk_Lawm_76 mok_Model_fault kd_81 (by decide) rfl (by decide) rfl rfl (Nat.le_of_ble_eq_true rfl) (by decide) (D_law14 13 rfl) (fun v a2 G2 q => ?_)
  obtain ⟨rfl, rfl, rfl, -⟩ := q
  exact l_same (tgt := 1381) (D_law14 14 rfl) rfl he hk
theorem case_lawOn {X : XT} {b N i : Nat} {xs : Nat → Int32} {G : GS} {q1 : Int} {q2 : Int} (hi : i + 6 ≤ N) (hN : N ≤ 3072) (h1 : f_Hall_lawOn G (sc xs (i + 1)) (sc xs (i + 2)) = some q1) (h2 : f_Model_lawOn G (sc xs (i + 1)) (sc xs (i + 2)) = some q2) (he : q1 = q2) (hk : JL X b N xs true NC 137 26133 1381 [(0, .ref b), (1, rf X 0), (2, rf X 81), (3, vi i)] [] G) : JL X b N xs true NC 137 26133 692 [(0, .ref b), (1, rf X 0), (2, rf X 81), (3, vi i)] [] G := by
  refine l_aloadn (k := 1) (D_law15 0 rfl) rfl rfl ?_
  refine l_aloadn (k := 0) (D_law15 1 rfl) rfl rfl ?_
  refine l_iloadn (k := 3) (D_law15 2 rfl) rfl rfl ?_
  refine l_iconst (v := 1) (D_law15 3 rfl) rfl ?_
  refine l_iadd (D_law15 4 rfl) ?_
  refine l_sld (D_law15 5 rfl) (x' := ((i + 1 : Nat) : Int)) (wr_of (by omega) (by omega)) (by omega) (by omega) ?_
  rw [Int.toNat_natCast]
  refine l_aloadn (k := 0) (D_law15 6 rfl) rfl rfl ?_
  refine l_iloadn (k := 3) (D_law15 7 rfl) rfl rfl ?_
  refine l_iconst (v := 2) (D_law15 8 rfl) rfl ?_
  refine l_iadd (D_law15 9 rfl) ?_
  refine l_sld (D_law15 10 rfl) (x' := ((i + 2 : Nat) : Int)) (wr_of (by omega) (by omega)) (by omega) (by omega) ?_
  rw [Int.toNat_natCast]
  refine l_callV (c_Hall_lawOn (wr_sc _ _) (wr_sc _ _) h1) lk_Lawm_77 mok_Hall_lawOn kd_0 (by decide) rfl (by decide) rfl rfl (Nat.le_of_ble_eq_true rfl) (by decide) (D_law15 11 rfl) (fun v a2 G2 q => ?_)
  obtain ⟨rfl, rfl, rfl, -⟩ := q
  refine l_aloadn (k := 2) (D_law15 12 rfl) rfl rfl ?_
  refine l_aloadn (k := 0) (D_law15 13 rfl) rfl rfl ?_
  refine l_iloadn (k := 3) (D_law15 14 rfl) rfl rfl ?_
  refine l_iconst (v := 1) (D_law15 15 rfl) rfl ?_
  refine l_iadd (D_law15 16 rfl) ?_
  refine l_sld (D_law15 17 rfl) (x' := ((i + 1 : Nat) : Int)) (wr_of (by omega) (by omega)) (by omega) (by omega) ?_
  rw [Int.toNat_natCast]
  refine l_aloadn (k := 0) (D_law15 18 rfl) rfl rfl ?_
  refine l_iloadn (k := 3) (D_law15 19 rfl) rfl rfl ?_
  refine l_iconst (v := 2) (D_law15 20 rfl) rfl ?_
  refine l_iadd (D_law15 21 rfl) ?_
  refine l_sld (D_law15 22 rfl) (x' := ((i + 2 : Nat) : Int)) (wr_of (by omega) (by omega)) (by omega) (by omega) ?_
  rw [Int.toNat_natCast]
  refine l_callV (c_Model_lawOn (wr_sc _ _) (wr_sc _ _) h2) lk_Lawm_80 mok_Model_lawOn kd_81 (by decide) rfl (by decide) rfl rfl (Nat.le_of_ble_eq_true rfl) (by decide) (D_law15 23 rfl) (fun v a2 G2 q => ?_)
  obtain ⟨rfl, rfl, rfl, -⟩ := q
  exact l_same (tgt := 1381) (D_law15 24 rfl) rfl he hk
theorem case_heirs {X : XT} {b N i : Nat} {xs : Nat → Int32} {G : GS} {q1 : Int × GS} {q2 : Int × GS} (hi : i + 6 ≤ N) (hN : N ≤ 3072) (h1 : f_Hall_heirs G (sc xs (i + 1)) (sc xs (i + 2)) = some q1) (h2 : f_Model_heirs q1.2 (sc xs (i + 1)) (sc xs (i + 2)) = some q2) (he : q1.1 = q2.1) (hk : JL X b N xs true NC 137 26133 1381 [(0, .ref b), (1, rf X 0), (2, rf X 81), (3, vi i)] [] q2.2) : JL X b N xs true NC 137 26133 725 [(0, .ref b), (1, rf X 0), (2, rf X 81), (3, vi i)] [] G := by
  refine l_aloadn (k := 1) (D_law16 0 rfl) rfl rfl ?_
  refine l_aloadn (k := 0) (D_law16 1 rfl) rfl rfl ?_
  refine l_iloadn (k := 3) (D_law16 2 rfl) rfl rfl ?_
  refine l_iconst (v := 1) (D_law16 3 rfl) rfl ?_
  refine l_iadd (D_law16 4 rfl) ?_
  refine l_sld (D_law16 5 rfl) (x' := ((i + 1 : Nat) : Int)) (wr_of (by omega) (by omega)) (by omega) (by omega) ?_
  rw [Int.toNat_natCast]
  refine l_aloadn (k := 0) (D_law16 6 rfl) rfl rfl ?_
  refine l_iloadn (k := 3) (D_law16 7 rfl) rfl rfl ?_
  refine l_iconst (v := 2) (D_law16 8 rfl) rfl ?_
  refine l_iadd (D_law16 9 rfl) ?_
  refine l_sld (D_law16 10 rfl) (x' := ((i + 2 : Nat) : Int)) (wr_of (by omega) (by omega)) (by omega) (by omega) ?_
  rw [Int.toNat_natCast]
  refine l_callV (c_Hall_heirs (wr_sc _ _) (wr_sc _ _) h1) lk_Lawm_81 mok_Hall_heirs kd_0 (by decide) rfl (by decide) rfl rfl (Nat.le_of_ble_eq_true rfl) (by decide) (D_law16 11 rfl) (fun v a2 G2 q => ?_)
  obtain ⟨rfl, rfl, rfl, -⟩ := q
  refine l_aloadn (k := 2) (D_law16 12 rfl) rfl rfl ?_
  refine l_aloadn (k := 0) (D_law16 13 rfl) rfl rfl ?_
  refine l_iloadn (k := 3) (D_law16 14 rfl) rfl rfl ?_
  refine l_iconst (v := 1) (D_law16 15 rfl) rfl ?_
  refine l_iadd (D_law16 16 rfl) ?_
  refine l_sld (D_law16 17 rfl) (x' := ((i + 1 : Nat) : Int)) (wr_of (by omega) (by omega)) (by omega) (by omega) ?_
  rw [Int.toNat_natCast]
  refine l_aloadn (k := 0) (D_law16 18 rfl) rfl rfl ?_
  refine l_iloadn (k := 3) (D_law16 19 rfl) rfl rfl ?_
  refine l_iconst (v := 2) (D_law16 20 rfl) rfl ?_
  refine l_iadd (D_law16 21 rfl) ?_
  refine l_sld (D_law16 22 rfl) (x' := ((i + 2 : Nat) : Int)) (wr_of (by omega) (by omega)) (by omega) (by omega) ?_
  rw [Int.toNat_natCast]
  refine l_callV (c_Model_heirs (wr_sc _ _) (wr_sc _ _) h2) lk_Lawm_84 mok_Model_heirs kd_81 (by decide) rfl (by decide) rfl rfl (Nat.le_of_ble_eq_true rfl) (by decide) (D_law16 23 rfl) (fun v a2 G2 q => ?_)
  obtain ⟨rfl, rfl, rfl, -⟩ := q
  exact l_same (tgt := 1381) (D_law16 24 rfl) rfl he hk
theorem case_share {X : XT} {b N i : Nat} {xs : Nat → Int32} {G : GS} {q1 : Int × GS} {q2 : Int × GS} (hi : i + 6 ≤ N) (hN : N ≤ 3072) (h1 : f_Hall_share G (sc xs (i + 1)) (sc xs (i + 2)) (sc xs (i + 3)) (sc xs (i + 4)) = some q1) (h2 : f_Model_share q1.2 (sc xs (i + 1)) (sc xs (i + 2)) (sc xs (i + 3)) (sc xs (i + 4)) = some q2) (he : q1.1 = q2.1) (hk : JL X b N xs true NC 137 26133 1381 [(0, .ref b), (1, rf X 0), (2, rf X 81), (3, vi i)] [] q2.2) : JL X b N xs true NC 137 26133 758 [(0, .ref b), (1, rf X 0), (2, rf X 81), (3, vi i)] [] G := by
  refine l_aloadn (k := 1) (D_law17 0 rfl) rfl rfl ?_
  refine l_aloadn (k := 0) (D_law17 1 rfl) rfl rfl ?_
  refine l_iloadn (k := 3) (D_law17 2 rfl) rfl rfl ?_
  refine l_iconst (v := 1) (D_law17 3 rfl) rfl ?_
  refine l_iadd (D_law17 4 rfl) ?_
  refine l_sld (D_law17 5 rfl) (x' := ((i + 1 : Nat) : Int)) (wr_of (by omega) (by omega)) (by omega) (by omega) ?_
  rw [Int.toNat_natCast]
  refine l_aloadn (k := 0) (D_law17 6 rfl) rfl rfl ?_
  refine l_iloadn (k := 3) (D_law17 7 rfl) rfl rfl ?_
  refine l_iconst (v := 2) (D_law17 8 rfl) rfl ?_
  refine l_iadd (D_law17 9 rfl) ?_
  refine l_sld (D_law17 10 rfl) (x' := ((i + 2 : Nat) : Int)) (wr_of (by omega) (by omega)) (by omega) (by omega) ?_
  rw [Int.toNat_natCast]
  refine l_aloadn (k := 0) (D_law17 11 rfl) rfl rfl ?_
  refine l_iloadn (k := 3) (D_law17 12 rfl) rfl rfl ?_
  refine l_iconst (v := 3) (D_law17 13 rfl) rfl ?_
  refine l_iadd (D_law17 14 rfl) ?_
  refine l_sld (D_law17 15 rfl) (x' := ((i + 3 : Nat) : Int)) (wr_of (by omega) (by omega)) (by omega) (by omega) ?_
  rw [Int.toNat_natCast]
  refine l_aloadn (k := 0) (D_law17 16 rfl) rfl rfl ?_
  refine l_iloadn (k := 3) (D_law17 17 rfl) rfl rfl ?_
  refine l_iconst (v := 4) (D_law17 18 rfl) rfl ?_
  refine l_iadd (D_law17 19 rfl) ?_
  refine l_sld (D_law17 20 rfl) (x' := ((i + 4 : Nat) : Int)) (wr_of (by omega) (by omega)) (by omega) (by omega) ?_
  rw [Int.toNat_natCast]
  refine l_callV (c_Hall_share (wr_sc _ _) (wr_sc _ _) (wr_sc _ _) (wr_sc _ _) h1) lk_Lawm_85 mok_Hall_share kd_0 (by decide) rfl (by decide) rfl rfl (Nat.le_of_ble_eq_true rfl) (by decide) (D_law17 21 rfl) (fun v a2 G2 q => ?_)
  obtain ⟨rfl, rfl, rfl, -⟩ := q
  refine l_aloadn (k := 2) (D_law17 22 rfl) rfl rfl ?_
  refine l_aloadn (k := 0) (D_law17 23 rfl) rfl rfl ?_
  refine l_iloadn (k := 3) (D_law17 24 rfl) rfl rfl ?_
  refine l_iconst (v := 1) (D_law17 25 rfl) rfl ?_
  refine l_iadd (D_law17 26 rfl) ?_
  refine l_sld (D_law17 27 rfl) (x' := ((i + 1 : Nat) : Int)) (wr_of (by omega) (by omega)) (by omega) (by omega) ?_
  rw [Int.toNat_natCast]
  refine l_aloadn (k := 0) (D_law17 28 rfl) rfl rfl ?_
  refine l_iloadn (k := 3) (D_law17 29 rfl) rfl rfl ?_
  refine l_iconst (v := 2) (D_law17 30 rfl) rfl ?_
  refine l_iadd (D_law17 31 rfl) ?_
  refine l_sld (D_law17 32 rfl) (x' := ((i + 2 : Nat) : Int)) (wr_of (by omega) (by omega)) (by omega) (by omega) ?_
  rw [Int.toNat_natCast]
  refine l_aloadn (k := 0) (D_law17 33 rfl) rfl rfl ?_
  refine l_iloadn (k := 3) (D_law17 34 rfl) rfl rfl ?_
  refine l_iconst (v := 3) (D_law17 35 rfl) rfl ?_
  refine l_iadd (D_law17 36 rfl) ?_
  refine l_sld (D_law17 37 rfl) (x' := ((i + 3 : Nat) : Int)) (wr_of (by omega) (by omega)) (by omega) (by omega) ?_
  rw [Int.toNat_natCast]
  refine l_aloadn (k := 0) (D_law17 38 rfl) rfl rfl ?_
  refine l_iloadn (k := 3) (D_law17 39 rfl) rfl rfl ?_
  refine l_iconst (v := 4) (D_law17 40 rfl) rfl ?_
  refine l_iadd (D_law17 41 rfl) ?_
  refine l_sld (D_law17 42 rfl) (x' := ((i + 4 : Nat) : Int)) (wr_of (by omega) (by omega)) (by omega) (by omega) ?_
  rw [Int.toNat_natCast]
  refine l_callV (c_Model_share (wr_sc _ _) (wr_sc _ _) (wr_sc _ _) (wr_sc _ _) h2) lk_Lawm_89 mok_Model_share kd_81 (by decide) rfl (by decide) rfl rfl (Nat.le_of_ble_eq_true rfl) (by decide) (D_law17 43 rfl) (fun v a2 G2 q => ?_)
  obtain ⟨rfl, rfl, rfl, -⟩ := q
  refine l_lcmp (D_law17 44 rfl) ?_
  refine l_samel (tgt := 1381) (D_law17 45 rfl) rfl ?_ hk
  rw [he]; exact lc_self _
theorem case_ward {X : XT} {b N i : Nat} {xs : Nat → Int32} {G : GS} {q1 : Int × GS} {q2 : Int × GS} (hi : i + 6 ≤ N) (hN : N ≤ 3072) (h1 : f_Hall_ward G (sc xs (i + 1)) (sc xs (i + 2)) (sc xs (i + 3)) (sc xs (i + 4)) = some q1) (h2 : f_Model_ward q1.2 (sc xs (i + 1)) (sc xs (i + 2)) (sc xs (i + 3)) (sc xs (i + 4)) = some q2) (he : q1.1 = q2.1) (hk : JL X b N xs true NC 137 26133 1381 [(0, .ref b), (1, rf X 0), (2, rf X 81), (3, vi i)] [] q2.2) : JL X b N xs true NC 137 26133 812 [(0, .ref b), (1, rf X 0), (2, rf X 81), (3, vi i)] [] G := by
  refine l_aloadn (k := 1) (D_law18 0 rfl) rfl rfl ?_
  refine l_aloadn (k := 0) (D_law18 1 rfl) rfl rfl ?_
  refine l_iloadn (k := 3) (D_law18 2 rfl) rfl rfl ?_
  refine l_iconst (v := 1) (D_law18 3 rfl) rfl ?_
  refine l_iadd (D_law18 4 rfl) ?_
  refine l_sld (D_law18 5 rfl) (x' := ((i + 1 : Nat) : Int)) (wr_of (by omega) (by omega)) (by omega) (by omega) ?_
  rw [Int.toNat_natCast]
  refine l_aloadn (k := 0) (D_law18 6 rfl) rfl rfl ?_
  refine l_iloadn (k := 3) (D_law18 7 rfl) rfl rfl ?_
  refine l_iconst (v := 2) (D_law18 8 rfl) rfl ?_
  refine l_iadd (D_law18 9 rfl) ?_
  refine l_sld (D_law18 10 rfl) (x' := ((i + 2 : Nat) : Int)) (wr_of (by omega) (by omega)) (by omega) (by omega) ?_
  rw [Int.toNat_natCast]
  refine l_aloadn (k := 0) (D_law18 11 rfl) rfl rfl ?_
  refine l_iloadn (k := 3) (D_law18 12 rfl) rfl rfl ?_
  refine l_iconst (v := 3) (D_law18 13 rfl) rfl ?_
  refine l_iadd (D_law18 14 rfl) ?_
  refine l_sld (D_law18 15 rfl) (x' := ((i + 3 : Nat) : Int)) (wr_of (by omega) (by omega)) (by omega) (by omega) ?_
  rw [Int.toNat_natCast]
  refine l_aloadn (k := 0) (D_law18 16 rfl) rfl rfl ?_
  refine l_iloadn (k := 3) (D_law18 17 rfl) rfl rfl ?_
  refine l_iconst (v := 4) (D_law18 18 rfl) rfl ?_
  refine l_iadd (D_law18 19 rfl) ?_
  refine l_sld (D_law18 20 rfl) (x' := ((i + 4 : Nat) : Int)) (wr_of (by omega) (by omega)) (by omega) (by omega) ?_
  rw [Int.toNat_natCast]
  refine l_callV (c_Hall_ward (wr_sc _ _) (wr_sc _ _) (wr_sc _ _) (wr_sc _ _) h1) lk_Lawm_90 mok_Hall_ward kd_0 (by decide) rfl (by decide) rfl rfl (Nat.le_of_ble_eq_true rfl) (by decide) (D_law18 21 rfl) (fun v a2 G2 q => ?_)
  obtain ⟨rfl, rfl, rfl, -⟩ := q
  refine l_aloadn (k := 2) (D_law18 22 rfl) rfl rfl ?_
  refine l_aloadn (k := 0) (D_law18 23 rfl) rfl rfl ?_
  refine l_iloadn (k := 3) (D_law18 24 rfl) rfl rfl ?_
  refine l_iconst (v := 1) (D_law18 25 rfl) rfl ?_
  refine l_iadd (D_law18 26 rfl) ?_
  refine l_sld (D_law18 27 rfl) (x' := ((i + 1 : Nat) : Int)) (wr_of (by omega) (by omega)) (by omega) (by omega) ?_
  rw [Int.toNat_natCast]
  refine l_aloadn (k := 0) (D_law18 28 rfl) rfl rfl ?_
  refine l_iloadn (k := 3) (D_law18 29 rfl) rfl rfl ?_
  refine l_iconst (v := 2) (D_law18 30 rfl) rfl ?_
  refine l_iadd (D_law18 31 rfl) ?_
  refine l_sld (D_law18 32 rfl) (x' := ((i + 2 : Nat) : Int)) (wr_of (by omega) (by omega)) (by omega) (by omega) ?_
  rw [Int.toNat_natCast]
  refine l_aloadn (k := 0) (D_law18 33 rfl) rfl rfl ?_
  refine l_iloadn (k := 3) (D_law18 34 rfl) rfl rfl ?_
  refine l_iconst (v := 3) (D_law18 35 rfl) rfl ?_
  refine l_iadd (D_law18 36 rfl) ?_
  refine l_sld (D_law18 37 rfl) (x' := ((i + 3 : Nat) : Int)) (wr_of (by omega) (by omega)) (by omega) (by omega) ?_
  rw [Int.toNat_natCast]
  refine l_aloadn (k := 0) (D_law18 38 rfl) rfl rfl ?_
  refine l_iloadn (k := 3) (D_law18 39 rfl) rfl rfl ?_
  refine l_iconst (v := 4) (D_law18 40 rfl) rfl ?_
  refine l_iadd (D_law18 41 rfl) ?_
  refine l_sld (D_law18 42 rfl) (x' := ((i + 4 : Nat) : Int)) (wr_of (by omega) (by omega)) (by omega) (by omega) ?_
  rw [Int.toNat_natCast]
  refine l_callV (c_Model_ward (wr_sc _ _) (wr_sc _ _) (wr_sc _ _) (wr_sc _ _) h2) lk_Lawm_93 mok_Model_ward kd_81 (by decide) rfl (by decide) rfl rfl (Nat.le_of_ble_eq_true rfl) (by decide) (D_law18 43 rfl) (fun v a2 G2 q => ?_)
  obtain ⟨rfl, rfl, rfl, -⟩ := q
  refine l_lcmp (D_law18 44 rfl) ?_
  refine l_samel (tgt := 1381) (D_law18 45 rfl) rfl ?_ hk
  rw [he]; exact lc_self _
theorem case_relief {X : XT} {b N i : Nat} {xs : Nat → Int32} {G : GS} {q1 : Int × GS} {q2 : Int × GS} (hi : i + 6 ≤ N) (hN : N ≤ 3072) (h1 : f_Hall_relief G (sc xs (i + 1)) (sc xs (i + 2)) (sc xs (i + 3)) = some q1) (h2 : f_Model_relief q1.2 (sc xs (i + 1)) (sc xs (i + 2)) (sc xs (i + 3)) = some q2) (he : q1.1 = q2.1) (hk : JL X b N xs true NC 137 26133 1381 [(0, .ref b), (1, rf X 0), (2, rf X 81), (3, vi i)] [] q2.2) : JL X b N xs true NC 137 26133 866 [(0, .ref b), (1, rf X 0), (2, rf X 81), (3, vi i)] [] G := by
  refine l_aloadn (k := 1) (D_law19 0 rfl) rfl rfl ?_
  refine l_aloadn (k := 0) (D_law19 1 rfl) rfl rfl ?_
  refine l_iloadn (k := 3) (D_law19 2 rfl) rfl rfl ?_
  refine l_iconst (v := 1) (D_law19 3 rfl) rfl ?_
  refine l_iadd (D_law19 4 rfl) ?_
  refine l_sld (D_law19 5 rfl) (x' := ((i + 1 : Nat) : Int)) (wr_of (by omega) (by omega)) (by omega) (by omega) ?_
  rw [Int.toNat_natCast]
  refine l_aloadn (k := 0) (D_law19 6 rfl) rfl rfl ?_
  refine l_iloadn (k := 3) (D_law19 7 rfl) rfl rfl ?_
  refine l_iconst (v := 2) (D_law19 8 rfl) rfl ?_
  refine l_iadd (D_law19 9 rfl) ?_
  refine l_sld (D_law19 10 rfl) (x' := ((i + 2 : Nat) : Int)) (wr_of (by omega) (by omega)) (by omega) (by omega) ?_
  rw [Int.toNat_natCast]
  refine l_aloadn (k := 0) (D_law19 11 rfl) rfl rfl ?_
  refine l_iloadn (k := 3) (D_law19 12 rfl) rfl rfl ?_
  refine l_iconst (v := 3) (D_law19 13 rfl) rfl ?_
  refine l_iadd (D_law19 14 rfl) ?_
  refine l_sld (D_law19 15 rfl) (x' := ((i + 3 : Nat) : Int)) (wr_of (by omega) (by omega)) (by omega) (by omega) ?_
  rw [Int.toNat_natCast]
  refine l_callV (c_Hall_relief (wr_sc _ _) (wr_sc _ _) (wr_sc _ _) h1) lk_Lawm_94 mok_Hall_relief kd_0 (by decide) rfl (by decide) rfl rfl (Nat.le_of_ble_eq_true rfl) (by decide) (D_law19 16 rfl) (fun v a2 G2 q => ?_)
  obtain ⟨rfl, rfl, rfl, -⟩ := q
  refine l_aloadn (k := 2) (D_law19 17 rfl) rfl rfl ?_
  refine l_aloadn (k := 0) (D_law19 18 rfl) rfl rfl ?_
  refine l_iloadn (k := 3) (D_law19 19 rfl) rfl rfl ?_
  refine l_iconst (v := 1) (D_law19 20 rfl) rfl ?_
  refine l_iadd (D_law19 21 rfl) ?_
  refine l_sld (D_law19 22 rfl) (x' := ((i + 1 : Nat) : Int)) (wr_of (by omega) (by omega)) (by omega) (by omega) ?_
  rw [Int.toNat_natCast]
  refine l_aloadn (k := 0) (D_law19 23 rfl) rfl rfl ?_
  refine l_iloadn (k := 3) (D_law19 24 rfl) rfl rfl ?_
  refine l_iconst (v := 2) (D_law19 25 rfl) rfl ?_
  refine l_iadd (D_law19 26 rfl) ?_
  refine l_sld (D_law19 27 rfl) (x' := ((i + 2 : Nat) : Int)) (wr_of (by omega) (by omega)) (by omega) (by omega) ?_
  rw [Int.toNat_natCast]
  refine l_aloadn (k := 0) (D_law19 28 rfl) rfl rfl ?_
  refine l_iloadn (k := 3) (D_law19 29 rfl) rfl rfl ?_
  refine l_iconst (v := 3) (D_law19 30 rfl) rfl ?_
  refine l_iadd (D_law19 31 rfl) ?_
  refine l_sld (D_law19 32 rfl) (x' := ((i + 3 : Nat) : Int)) (wr_of (by omega) (by omega)) (by omega) (by omega) ?_
  rw [Int.toNat_natCast]
  refine l_callV (c_Model_relief (wr_sc _ _) (wr_sc _ _) (wr_sc _ _) h2) lk_Lawm_97 mok_Model_relief kd_81 (by decide) rfl (by decide) rfl rfl (Nat.le_of_ble_eq_true rfl) (by decide) (D_law19 33 rfl) (fun v a2 G2 q => ?_)
  obtain ⟨rfl, rfl, rfl, -⟩ := q
  exact l_same (tgt := 1381) (D_law19 34 rfl) rfl he hk
theorem case_dower {X : XT} {b N i : Nat} {xs : Nat → Int32} {G : GS} {q1 : Int × GS} {q2 : Int × GS} (hi : i + 6 ≤ N) (hN : N ≤ 3072) (h1 : f_Hall_dower G (sc xs (i + 1)) (sc xs (i + 2)) (sc xs (i + 3)) = some q1) (h2 : f_Model_dower q1.2 (sc xs (i + 1)) (sc xs (i + 2)) (sc xs (i + 3)) = some q2) (he : q1.1 = q2.1) (hk : JL X b N xs true NC 137 26133 1381 [(0, .ref b), (1, rf X 0), (2, rf X 81), (3, vi i)] [] q2.2) : JL X b N xs true NC 137 26133 909 [(0, .ref b), (1, rf X 0), (2, rf X 81), (3, vi i)] [] G := by
  refine l_aloadn (k := 1) (D_law20 0 rfl) rfl rfl ?_
  refine l_aloadn (k := 0) (D_law20 1 rfl) rfl rfl ?_
  refine l_iloadn (k := 3) (D_law20 2 rfl) rfl rfl ?_
  refine l_iconst (v := 1) (D_law20 3 rfl) rfl ?_
  refine l_iadd (D_law20 4 rfl) ?_
  refine l_sld (D_law20 5 rfl) (x' := ((i + 1 : Nat) : Int)) (wr_of (by omega) (by omega)) (by omega) (by omega) ?_
  rw [Int.toNat_natCast]
  refine l_aloadn (k := 0) (D_law20 6 rfl) rfl rfl ?_
  refine l_iloadn (k := 3) (D_law20 7 rfl) rfl rfl ?_
  refine l_iconst (v := 2) (D_law20 8 rfl) rfl ?_
  refine l_iadd (D_law20 9 rfl) ?_
  refine l_sld (D_law20 10 rfl) (x' := ((i + 2 : Nat) : Int)) (wr_of (by omega) (by omega)) (by omega) (by omega) ?_
  rw [Int.toNat_natCast]
  refine l_aloadn (k := 0) (D_law20 11 rfl) rfl rfl ?_
  refine l_iloadn (k := 3) (D_law20 12 rfl) rfl rfl ?_
  refine l_iconst (v := 3) (D_law20 13 rfl) rfl ?_
  refine l_iadd (D_law20 14 rfl) ?_
  refine l_sld (D_law20 15 rfl) (x' := ((i + 3 : Nat) : Int)) (wr_of (by omega) (by omega)) (by omega) (by omega) ?_
  rw [Int.toNat_natCast]
  refine l_callV (c_Hall_dower (wr_sc _ _) (wr_sc _ _) (wr_sc _ _) h1) lk_Lawm_98 mok_Hall_dower kd_0 (by decide) rfl (by decide) rfl rfl (Nat.le_of_ble_eq_true rfl) (by decide) (D_law20 16 rfl) (fun v a2 G2 q => ?_)
  obtain ⟨rfl, rfl, rfl, -⟩ := q
  refine l_aloadn (k := 2) (D_law20 17 rfl) rfl rfl ?_
  refine l_aloadn (k := 0) (D_law20 18 rfl) rfl rfl ?_
  refine l_iloadn (k := 3) (D_law20 19 rfl) rfl rfl ?_
  refine l_iconst (v := 1) (D_law20 20 rfl) rfl ?_
  refine l_iadd (D_law20 21 rfl) ?_
  refine l_sld (D_law20 22 rfl) (x' := ((i + 1 : Nat) : Int)) (wr_of (by omega) (by omega)) (by omega) (by omega) ?_
  rw [Int.toNat_natCast]
  refine l_aloadn (k := 0) (D_law20 23 rfl) rfl rfl ?_
  refine l_iloadn (k := 3) (D_law20 24 rfl) rfl rfl ?_
  refine l_iconst (v := 2) (D_law20 25 rfl) rfl ?_
  refine l_iadd (D_law20 26 rfl) ?_
  refine l_sld (D_law20 27 rfl) (x' := ((i + 2 : Nat) : Int)) (wr_of (by omega) (by omega)) (by omega) (by omega) ?_
  rw [Int.toNat_natCast]
  refine l_aloadn (k := 0) (D_law20 28 rfl) rfl rfl ?_
  refine l_iloadn (k := 3) (D_law20 29 rfl) rfl rfl ?_
  refine l_iconst (v := 3) (D_law20 30 rfl) rfl ?_
  refine l_iadd (D_law20 31 rfl) ?_
  refine l_sld (D_law20 32 rfl) (x' := ((i + 3 : Nat) : Int)) (wr_of (by omega) (by omega)) (by omega) (by omega) ?_
  rw [Int.toNat_natCast]
  refine l_callV (c_Model_dower (wr_sc _ _) (wr_sc _ _) (wr_sc _ _) h2) lk_Lawm_101 mok_Model_dower kd_81 (by decide) rfl (by decide) rfl rfl (Nat.le_of_ble_eq_true rfl) (by decide) (D_law20 33 rfl) (fun v a2 G2 q => ?_)
  obtain ⟨rfl, rfl, rfl, -⟩ := q
  exact l_same (tgt := 1381) (D_law20 34 rfl) rfl he hk
theorem case_seize {X : XT} {b N i : Nat} {xs : Nat → Int32} {G : GS} {q1 : Int × GS} {q2 : Int × GS} (hi : i + 6 ≤ N) (hN : N ≤ 3072) (h1 : f_Hall_seize G (sc xs (i + 1)) (sc xs (i + 2)) (sc xs (i + 3)) (sc xs (i + 4)) (sc xs (i + 5)) = some q1) (h2 : f_Model_seize q1.2 (sc xs (i + 1)) (sc xs (i + 2)) (sc xs (i + 3)) (sc xs (i + 4)) (sc xs (i + 5)) = some q2) (he : q1.1 = q2.1) (hk : JL X b N xs true NC 137 26133 1381 [(0, .ref b), (1, rf X 0), (2, rf X 81), (3, vi i)] [] q2.2) : JL X b N xs true NC 137 26133 952 [(0, .ref b), (1, rf X 0), (2, rf X 81), (3, vi i)] [] G := by
  refine l_aloadn (k := 1) (D_law21 0 rfl) rfl rfl ?_
  refine l_aloadn (k := 0) (D_law21 1 rfl) rfl rfl ?_
  refine l_iloadn (k := 3) (D_law21 2 rfl) rfl rfl ?_
  refine l_iconst (v := 1) (D_law21 3 rfl) rfl ?_
  refine l_iadd (D_law21 4 rfl) ?_
  refine l_sld (D_law21 5 rfl) (x' := ((i + 1 : Nat) : Int)) (wr_of (by omega) (by omega)) (by omega) (by omega) ?_
  rw [Int.toNat_natCast]
  refine l_aloadn (k := 0) (D_law21 6 rfl) rfl rfl ?_
  refine l_iloadn (k := 3) (D_law21 7 rfl) rfl rfl ?_
  refine l_iconst (v := 2) (D_law21 8 rfl) rfl ?_
  refine l_iadd (D_law21 9 rfl) ?_
  refine l_sld (D_law21 10 rfl) (x' := ((i + 2 : Nat) : Int)) (wr_of (by omega) (by omega)) (by omega) (by omega) ?_
  rw [Int.toNat_natCast]
  refine l_aloadn (k := 0) (D_law21 11 rfl) rfl rfl ?_
  refine l_iloadn (k := 3) (D_law21 12 rfl) rfl rfl ?_
  refine l_iconst (v := 3) (D_law21 13 rfl) rfl ?_
  refine l_iadd (D_law21 14 rfl) ?_
  refine l_sld (D_law21 15 rfl) (x' := ((i + 3 : Nat) : Int)) (wr_of (by omega) (by omega)) (by omega) (by omega) ?_
  rw [Int.toNat_natCast]
  refine l_aloadn (k := 0) (D_law21 16 rfl) rfl rfl ?_
  refine l_iloadn (k := 3) (D_law21 17 rfl) rfl rfl ?_
  refine l_iconst (v := 4) (D_law21 18 rfl) rfl ?_
  refine l_iadd (D_law21 19 rfl) ?_
  refine l_sld (D_law21 20 rfl) (x' := ((i + 4 : Nat) : Int)) (wr_of (by omega) (by omega)) (by omega) (by omega) ?_
  rw [Int.toNat_natCast]
  refine l_aloadn (k := 0) (D_law21 21 rfl) rfl rfl ?_
  refine l_iloadn (k := 3) (D_law21 22 rfl) rfl rfl ?_
  refine l_iconst (v := 5) (D_law21 23 rfl) rfl ?_
  refine l_iadd (D_law21 24 rfl) ?_
  refine l_sld (D_law21 25 rfl) (x' := ((i + 5 : Nat) : Int)) (wr_of (by omega) (by omega)) (by omega) (by omega) ?_
  rw [Int.toNat_natCast]
  refine l_callV (c_Hall_seize (wr_sc _ _) (wr_sc _ _) (wr_sc _ _) (wr_sc _ _) (wr_sc _ _) h1) lk_Lawm_102 mok_Hall_seize kd_0 (by decide) rfl (by decide) rfl rfl (Nat.le_of_ble_eq_true rfl) (by decide) (D_law21 26 rfl) (fun v a2 G2 q => ?_)
  obtain ⟨rfl, rfl, rfl, -⟩ := q
  refine l_aloadn (k := 2) (D_law21 27 rfl) rfl rfl ?_
  refine l_aloadn (k := 0) (D_law21 28 rfl) rfl rfl ?_
  refine l_iloadn (k := 3) (D_law21 29 rfl) rfl rfl ?_
  refine l_iconst (v := 1) (D_law21 30 rfl) rfl ?_
  refine l_iadd (D_law21 31 rfl) ?_
  refine l_sld (D_law21 32 rfl) (x' := ((i + 1 : Nat) : Int)) (wr_of (by omega) (by omega)) (by omega) (by omega) ?_
  rw [Int.toNat_natCast]
  refine l_aloadn (k := 0) (D_law21 33 rfl) rfl rfl ?_
  refine l_iloadn (k := 3) (D_law21 34 rfl) rfl rfl ?_
  refine l_iconst (v := 2) (D_law21 35 rfl) rfl ?_
  refine l_iadd (D_law21 36 rfl) ?_
  refine l_sld (D_law21 37 rfl) (x' := ((i + 2 : Nat) : Int)) (wr_of (by omega) (by omega)) (by omega) (by omega) ?_
  rw [Int.toNat_natCast]
  refine l_aloadn (k := 0) (D_law21 38 rfl) rfl rfl ?_
  refine l_iloadn (k := 3) (D_law21 39 rfl) rfl rfl ?_
  refine l_iconst (v := 3) (D_law21 40 rfl) rfl ?_
  refine l_iadd (D_law21 41 rfl) ?_
  refine l_sld (D_law21 42 rfl) (x' := ((i + 3 : Nat) : Int)) (wr_of (by omega) (by omega)) (by omega) (by omega) ?_
  rw [Int.toNat_natCast]
  refine l_aloadn (k := 0) (D_law21 43 rfl) rfl rfl ?_
  refine l_iloadn (k := 3) (D_law21 44 rfl) rfl rfl ?_
  refine l_iconst (v := 4) (D_law21 45 rfl) rfl ?_
  refine l_iadd (D_law21 46 rfl) ?_
  refine l_sld (D_law21 47 rfl) (x' := ((i + 4 : Nat) : Int)) (wr_of (by omega) (by omega)) (by omega) (by omega) ?_
  rw [Int.toNat_natCast]
  refine l_aloadn (k := 0) (D_law21 48 rfl) rfl rfl ?_
  refine l_iloadn (k := 3) (D_law21 49 rfl) rfl rfl ?_
  refine l_iconst (v := 5) (D_law21 50 rfl) rfl ?_
  refine l_iadd (D_law21 51 rfl) ?_
  refine l_sld (D_law21 52 rfl) (x' := ((i + 5 : Nat) : Int)) (wr_of (by omega) (by omega)) (by omega) (by omega) ?_
  rw [Int.toNat_natCast]
  refine l_callV (c_Model_seize (wr_sc _ _) (wr_sc _ _) (wr_sc _ _) (wr_sc _ _) (wr_sc _ _) h2) lk_Lawm_105 mok_Model_seize kd_81 (by decide) rfl (by decide) rfl rfl (Nat.le_of_ble_eq_true rfl) (by decide) (D_law21 53 rfl) (fun v a2 G2 q => ?_)
  obtain ⟨rfl, rfl, rfl, -⟩ := q
  exact l_same (tgt := 1381) (D_law21 54 rfl) rfl he hk
theorem case_traverse {X : XT} {b N i : Nat} {xs : Nat → Int32} {G : GS} {q1 : Int × GS} {q2 : Int × GS} (hi : i + 6 ≤ N) (hN : N ≤ 3072) (h1 : f_Hall_traverse G (sc xs (i + 1)) = some q1) (h2 : f_Model_traverse q1.2 (sc xs (i + 1)) = some q2) (he : q1.1 = q2.1) (hk : JL X b N xs true NC 137 26133 1381 [(0, .ref b), (1, rf X 0), (2, rf X 81), (3, vi i)] [] q2.2) : JL X b N xs true NC 137 26133 1015 [(0, .ref b), (1, rf X 0), (2, rf X 81), (3, vi i)] [] G := by
  refine l_aloadn (k := 1) (D_law22 0 rfl) rfl rfl ?_
  refine l_aloadn (k := 0) (D_law22 1 rfl) rfl rfl ?_
  refine l_iloadn (k := 3) (D_law22 2 rfl) rfl rfl ?_
  refine l_iconst (v := 1) (D_law22 3 rfl) rfl ?_
  refine l_iadd (D_law22 4 rfl) ?_
  refine l_sld (D_law22 5 rfl) (x' := ((i + 1 : Nat) : Int)) (wr_of (by omega) (by omega)) (by omega) (by omega) ?_
  rw [Int.toNat_natCast]
  refine l_callV (c_Hall_traverse (wr_sc _ _) h1) lk_Lawm_106 mok_Hall_traverse kd_0 (by decide) rfl (by decide) rfl rfl (Nat.le_of_ble_eq_true rfl) (by decide) (D_law22 6 rfl) (fun v a2 G2 q => ?_)
  obtain ⟨rfl, rfl, rfl, -⟩ := q
  refine l_aloadn (k := 2) (D_law22 7 rfl) rfl rfl ?_
  refine l_aloadn (k := 0) (D_law22 8 rfl) rfl rfl ?_
  refine l_iloadn (k := 3) (D_law22 9 rfl) rfl rfl ?_
  refine l_iconst (v := 1) (D_law22 10 rfl) rfl ?_
  refine l_iadd (D_law22 11 rfl) ?_
  refine l_sld (D_law22 12 rfl) (x' := ((i + 1 : Nat) : Int)) (wr_of (by omega) (by omega)) (by omega) (by omega) ?_
  rw [Int.toNat_natCast]
  refine l_callV (c_Model_traverse (wr_sc _ _) h2) lk_Lawm_109 mok_Model_traverse kd_81 (by decide) rfl (by decide) rfl rfl (Nat.le_of_ble_eq_true rfl) (by decide) (D_law22 13 rfl) (fun v a2 G2 q => ?_)
  obtain ⟨rfl, rfl, rfl, -⟩ := q
  exact l_same (tgt := 1381) (D_law22 14 rfl) rfl he hk
theorem case_seizing {X : XT} {b N i : Nat} {xs : Nat → Int32} {G : GS} {q1 : Int} {q2 : Int} (hi : i + 6 ≤ N) (hN : N ≤ 3072) (h1 : f_Hall_seizing G (sc xs (i + 1)) (sc xs (i + 2)) = some q1) (h2 : f_Model_seizing G (sc xs (i + 1)) (sc xs (i + 2)) = some q2) (he : q1 = q2) (hk : JL X b N xs true NC 137 26133 1381 [(0, .ref b), (1, rf X 0), (2, rf X 81), (3, vi i)] [] G) : JL X b N xs true NC 137 26133 1038 [(0, .ref b), (1, rf X 0), (2, rf X 81), (3, vi i)] [] G := by
  refine l_aloadn (k := 1) (D_law23 0 rfl) rfl rfl ?_
  refine l_aloadn (k := 0) (D_law23 1 rfl) rfl rfl ?_
  refine l_iloadn (k := 3) (D_law23 2 rfl) rfl rfl ?_
  refine l_iconst (v := 1) (D_law23 3 rfl) rfl ?_
  refine l_iadd (D_law23 4 rfl) ?_
  refine l_sld (D_law23 5 rfl) (x' := ((i + 1 : Nat) : Int)) (wr_of (by omega) (by omega)) (by omega) (by omega) ?_
  rw [Int.toNat_natCast]
  refine l_aloadn (k := 0) (D_law23 6 rfl) rfl rfl ?_
  refine l_iloadn (k := 3) (D_law23 7 rfl) rfl rfl ?_
  refine l_iconst (v := 2) (D_law23 8 rfl) rfl ?_
  refine l_iadd (D_law23 9 rfl) ?_
  refine l_sld (D_law23 10 rfl) (x' := ((i + 2 : Nat) : Int)) (wr_of (by omega) (by omega)) (by omega) (by omega) ?_
  rw [Int.toNat_natCast]
  refine l_callV (c_Hall_seizing (wr_sc _ _) (wr_sc _ _) h1) lk_Lawm_110 mok_Hall_seizing kd_0 (by decide) rfl (by decide) rfl rfl (Nat.le_of_ble_eq_true rfl) (by decide) (D_law23 11 rfl) (fun v a2 G2 q => ?_)
  obtain ⟨rfl, rfl, rfl, -⟩ := q
  refine l_aloadn (k := 2) (D_law23 12 rfl) rfl rfl ?_
  refine l_aloadn (k := 0) (D_law23 13 rfl) rfl rfl ?_
  refine l_iloadn (k := 3) (D_law23 14 rfl) rfl rfl ?_
  refine l_iconst (v := 1) (D_law23 15 rfl) rfl ?_
  refine l_iadd (D_law23 16 rfl) ?_
  refine l_sld (D_law23 17 rfl) (x' := ((i + 1 : Nat) : Int)) (wr_of (by omega) (by omega)) (by omega) (by omega) ?_
  rw [Int.toNat_natCast]
  refine l_aloadn (k := 0) (D_law23 18 rfl) rfl rfl ?_
  refine l_iloadn (k := 3) (D_law23 19 rfl) rfl rfl ?_
  refine l_iconst (v := 2) (D_law23 20 rfl) rfl ?_
  refine l_iadd (D_law23 21 rfl) ?_
  refine l_sld (D_law23 22 rfl) (x' := ((i + 2 : Nat) : Int)) (wr_of (by omega) (by omega)) (by omega) (by omega) ?_
  rw [Int.toNat_natCast]
  refine l_callV (c_Model_seizing (wr_sc _ _) (wr_sc _ _) h2) lk_Lawm_113 mok_Model_seizing kd_81 (by decide) rfl (by decide) rfl rfl (Nat.le_of_ble_eq_true rfl) (by decide) (D_law23 23 rfl) (fun v a2 G2 q => ?_)
  obtain ⟨rfl, rfl, rfl, -⟩ := q
  exact l_same (tgt := 1381) (D_law23 24 rfl) rfl he hk
theorem case_holder {X : XT} {b N i : Nat} {xs : Nat → Int32} {G : GS} {q1 : Int} {q2 : Int} (hi : i + 6 ≤ N) (hN : N ≤ 3072) (h1 : f_Hall_holder G (sc xs (i + 1)) (sc xs (i + 2)) (sc xs (i + 3)) = some q1) (h2 : f_Model_holder G (sc xs (i + 1)) (sc xs (i + 2)) (sc xs (i + 3)) = some q2) (he : q1 = q2) (hk : JL X b N xs true NC 137 26133 1381 [(0, .ref b), (1, rf X 0), (2, rf X 81), (3, vi i)] [] G) : JL X b N xs true NC 137 26133 1071 [(0, .ref b), (1, rf X 0), (2, rf X 81), (3, vi i)] [] G := by
  refine l_aloadn (k := 1) (D_law24 0 rfl) rfl rfl ?_
  refine l_aloadn (k := 0) (D_law24 1 rfl) rfl rfl ?_
  refine l_iloadn (k := 3) (D_law24 2 rfl) rfl rfl ?_
  refine l_iconst (v := 1) (D_law24 3 rfl) rfl ?_
  refine l_iadd (D_law24 4 rfl) ?_
  refine l_sld (D_law24 5 rfl) (x' := ((i + 1 : Nat) : Int)) (wr_of (by omega) (by omega)) (by omega) (by omega) ?_
  rw [Int.toNat_natCast]
  refine l_aloadn (k := 0) (D_law24 6 rfl) rfl rfl ?_
  refine l_iloadn (k := 3) (D_law24 7 rfl) rfl rfl ?_
  refine l_iconst (v := 2) (D_law24 8 rfl) rfl ?_
  refine l_iadd (D_law24 9 rfl) ?_
  refine l_sld (D_law24 10 rfl) (x' := ((i + 2 : Nat) : Int)) (wr_of (by omega) (by omega)) (by omega) (by omega) ?_
  rw [Int.toNat_natCast]
  refine l_aloadn (k := 0) (D_law24 11 rfl) rfl rfl ?_
  refine l_iloadn (k := 3) (D_law24 12 rfl) rfl rfl ?_
  refine l_iconst (v := 3) (D_law24 13 rfl) rfl ?_
  refine l_iadd (D_law24 14 rfl) ?_
  refine l_sld (D_law24 15 rfl) (x' := ((i + 3 : Nat) : Int)) (wr_of (by omega) (by omega)) (by omega) (by omega) ?_
  rw [Int.toNat_natCast]
  refine l_callV (c_Hall_holder (wr_sc _ _) (wr_sc _ _) (wr_sc _ _) h1) lk_Lawm_114 mok_Hall_holder kd_0 (by decide) rfl (by decide) rfl rfl (Nat.le_of_ble_eq_true rfl) (by decide) (D_law24 16 rfl) (fun v a2 G2 q => ?_)
  obtain ⟨rfl, rfl, rfl, -⟩ := q
  refine l_aloadn (k := 2) (D_law24 17 rfl) rfl rfl ?_
  refine l_aloadn (k := 0) (D_law24 18 rfl) rfl rfl ?_
  refine l_iloadn (k := 3) (D_law24 19 rfl) rfl rfl ?_
  refine l_iconst (v := 1) (D_law24 20 rfl) rfl ?_
  refine l_iadd (D_law24 21 rfl) ?_
  refine l_sld (D_law24 22 rfl) (x' := ((i + 1 : Nat) : Int)) (wr_of (by omega) (by omega)) (by omega) (by omega) ?_
  rw [Int.toNat_natCast]
  refine l_aloadn (k := 0) (D_law24 23 rfl) rfl rfl ?_
  refine l_iloadn (k := 3) (D_law24 24 rfl) rfl rfl ?_
  refine l_iconst (v := 2) (D_law24 25 rfl) rfl ?_
  refine l_iadd (D_law24 26 rfl) ?_
  refine l_sld (D_law24 27 rfl) (x' := ((i + 2 : Nat) : Int)) (wr_of (by omega) (by omega)) (by omega) (by omega) ?_
  rw [Int.toNat_natCast]
  refine l_aloadn (k := 0) (D_law24 28 rfl) rfl rfl ?_
  refine l_iloadn (k := 3) (D_law24 29 rfl) rfl rfl ?_
  refine l_iconst (v := 3) (D_law24 30 rfl) rfl ?_
  refine l_iadd (D_law24 31 rfl) ?_
  refine l_sld (D_law24 32 rfl) (x' := ((i + 3 : Nat) : Int)) (wr_of (by omega) (by omega)) (by omega) (by omega) ?_
  rw [Int.toNat_natCast]
  refine l_callV (c_Model_holder (wr_sc _ _) (wr_sc _ _) (wr_sc _ _) h2) lk_Lawm_117 mok_Model_holder kd_81 (by decide) rfl (by decide) rfl rfl (Nat.le_of_ble_eq_true rfl) (by decide) (D_law24 33 rfl) (fun v a2 G2 q => ?_)
  obtain ⟨rfl, rfl, rfl, -⟩ := q
  exact l_same (tgt := 1381) (D_law24 34 rfl) rfl he hk
theorem case_event {X : XT} {b N i : Nat} {xs : Nat → Int32} {G : GS} {q1 : Int × GS} {q2 : Int × GS} (hi : i + 6 ≤ N) (hN : N ≤ 3072) (h1 : f_Hall_event G (sc xs (i + 1)) (sc xs (i + 2)) = some q1) (h2 : f_Model_event q1.2 (sc xs (i + 1)) (sc xs (i + 2)) = some q2) (he : q1.1 = q2.1) (hk : JL X b N xs true NC 137 26133 1381 [(0, .ref b), (1, rf X 0), (2, rf X 81), (3, vi i)] [] q2.2) : JL X b N xs true NC 137 26133 1114 [(0, .ref b), (1, rf X 0), (2, rf X 81), (3, vi i)] [] G := by
  refine l_aloadn (k := 1) (D_law25 0 rfl) rfl rfl ?_
  refine l_aloadn (k := 0) (D_law25 1 rfl) rfl rfl ?_
  refine l_iloadn (k := 3) (D_law25 2 rfl) rfl rfl ?_
  refine l_iconst (v := 1) (D_law25 3 rfl) rfl ?_
  refine l_iadd (D_law25 4 rfl) ?_
  refine l_sld (D_law25 5 rfl) (x' := ((i + 1 : Nat) : Int)) (wr_of (by omega) (by omega)) (by omega) (by omega) ?_
  rw [Int.toNat_natCast]
  refine l_aloadn (k := 0) (D_law25 6 rfl) rfl rfl ?_
  refine l_iloadn (k := 3) (D_law25 7 rfl) rfl rfl ?_
  refine l_iconst (v := 2) (D_law25 8 rfl) rfl ?_
  refine l_iadd (D_law25 9 rfl) ?_
  refine l_sld (D_law25 10 rfl) (x' := ((i + 2 : Nat) : Int)) (wr_of (by omega) (by omega)) (by omega) (by omega) ?_
  rw [Int.toNat_natCast]
  refine l_callV (c_Hall_event (wr_sc _ _) (wr_sc _ _) h1) lk_Lawm_118 mok_Hall_event kd_0 (by decide) rfl (by decide) rfl rfl (Nat.le_of_ble_eq_true rfl) (by decide) (D_law25 11 rfl) (fun v a2 G2 q => ?_)
  obtain ⟨rfl, rfl, rfl, -, -⟩ := q
  refine l_aloadn (k := 2) (D_law25 12 rfl) rfl rfl ?_
  refine l_aloadn (k := 0) (D_law25 13 rfl) rfl rfl ?_
  refine l_iloadn (k := 3) (D_law25 14 rfl) rfl rfl ?_
  refine l_iconst (v := 1) (D_law25 15 rfl) rfl ?_
  refine l_iadd (D_law25 16 rfl) ?_
  refine l_sld (D_law25 17 rfl) (x' := ((i + 1 : Nat) : Int)) (wr_of (by omega) (by omega)) (by omega) (by omega) ?_
  rw [Int.toNat_natCast]
  refine l_aloadn (k := 0) (D_law25 18 rfl) rfl rfl ?_
  refine l_iloadn (k := 3) (D_law25 19 rfl) rfl rfl ?_
  refine l_iconst (v := 2) (D_law25 20 rfl) rfl ?_
  refine l_iadd (D_law25 21 rfl) ?_
  refine l_sld (D_law25 22 rfl) (x' := ((i + 2 : Nat) : Int)) (wr_of (by omega) (by omega)) (by omega) (by omega) ?_
  rw [Int.toNat_natCast]
  refine l_callV (c_Model_event (wr_sc _ _) (wr_sc _ _) h2) lk_Lawm_121 mok_Model_event kd_81 (by decide) rfl (by decide) rfl rfl (Nat.le_of_ble_eq_true rfl) (by decide) (D_law25 23 rfl) (fun v a2 G2 q => ?_)
  obtain ⟨rfl, rfl, rfl, -, -⟩ := q
  exact l_same (tgt := 1381) (D_law25 24 rfl) rfl he hk
theorem case_memories {X : XT} {b N i : Nat} {xs : Nat → Int32} {G : GS} {q1 : Int × GS} {q2 : Int × GS} (hi : i + 6 ≤ N) (hN : N ≤ 3072) (h1 : f_Hall_memories G (sc xs (i + 1)) = some q1) (h2 : f_Model_memories q1.2 (sc xs (i + 1)) = some q2) (he : q1.1 = q2.1) (hk : JL X b N xs true NC 137 26133 1381 [(0, .ref b), (1, rf X 0), (2, rf X 81), (3, vi i)] [] q2.2) : JL X b N xs true NC 137 26133 1147 [(0, .ref b), (1, rf X 0), (2, rf X 81), (3, vi i)] [] G := by
  refine l_aloadn (k := 1) (D_law26 0 rfl) rfl rfl ?_
  refine l_aloadn (k := 0) (D_law26 1 rfl) rfl rfl ?_
  refine l_iloadn (k := 3) (D_law26 2 rfl) rfl rfl ?_
  refine l_iconst (v := 1) (D_law26 3 rfl) rfl ?_
  refine l_iadd (D_law26 4 rfl) ?_
  refine l_sld (D_law26 5 rfl) (x' := ((i + 1 : Nat) : Int)) (wr_of (by omega) (by omega)) (by omega) (by omega) ?_
  rw [Int.toNat_natCast]
  refine l_callV (c_Hall_memories (wr_sc _ _) h1) lk_Lawm_122 mok_Hall_memories kd_0 (by decide) rfl (by decide) rfl rfl (Nat.le_of_ble_eq_true rfl) (by decide) (D_law26 6 rfl) (fun v a2 G2 q => ?_)
  obtain ⟨rfl, rfl, rfl, -⟩ := q
  refine l_aloadn (k := 2) (D_law26 7 rfl) rfl rfl ?_
  refine l_aloadn (k := 0) (D_law26 8 rfl) rfl rfl ?_
  refine l_iloadn (k := 3) (D_law26 9 rfl) rfl rfl ?_
  refine l_iconst (v := 1) (D_law26 10 rfl) rfl ?_
  refine l_iadd (D_law26 11 rfl) ?_
  refine l_sld (D_law26 12 rfl) (x' := ((i + 1 : Nat) : Int)) (wr_of (by omega) (by omega)) (by omega) (by omega) ?_
  rw [Int.toNat_natCast]
  refine l_callV (c_Model_memories (wr_sc _ _) h2) lk_Lawm_125 mok_Model_memories kd_81 (by decide) rfl (by decide) rfl rfl (Nat.le_of_ble_eq_true rfl) (by decide) (D_law26 13 rfl) (fun v a2 G2 q => ?_)
  obtain ⟨rfl, rfl, rfl, -⟩ := q
  exact l_same (tgt := 1381) (D_law26 14 rfl) rfl he hk
theorem case_forget {X : XT} {b N i : Nat} {xs : Nat → Int32} {G : GS} {q1 : Int × GS} {q2 : Int × GS} (hi : i + 6 ≤ N) (hN : N ≤ 3072) (h1 : f_Hall_forget G (sc xs (i + 1)) = some q1) (h2 : f_Model_forget q1.2 (sc xs (i + 1)) = some q2) (he : q1.1 = q2.1) (hk : JL X b N xs true NC 137 26133 1381 [(0, .ref b), (1, rf X 0), (2, rf X 81), (3, vi i)] [] q2.2) : JL X b N xs true NC 137 26133 1170 [(0, .ref b), (1, rf X 0), (2, rf X 81), (3, vi i)] [] G := by
  refine l_aloadn (k := 1) (D_law27 0 rfl) rfl rfl ?_
  refine l_aloadn (k := 0) (D_law27 1 rfl) rfl rfl ?_
  refine l_iloadn (k := 3) (D_law27 2 rfl) rfl rfl ?_
  refine l_iconst (v := 1) (D_law27 3 rfl) rfl ?_
  refine l_iadd (D_law27 4 rfl) ?_
  refine l_sld (D_law27 5 rfl) (x' := ((i + 1 : Nat) : Int)) (wr_of (by omega) (by omega)) (by omega) (by omega) ?_
  rw [Int.toNat_natCast]
  refine l_callV (c_Hall_forget (wr_sc _ _) h1) lk_Lawm_126 mok_Hall_forget kd_0 (by decide) rfl (by decide) rfl rfl (Nat.le_of_ble_eq_true rfl) (by decide) (D_law27 6 rfl) (fun v a2 G2 q => ?_)
  obtain ⟨rfl, rfl, rfl, -, -⟩ := q
  refine l_aloadn (k := 2) (D_law27 7 rfl) rfl rfl ?_
  refine l_aloadn (k := 0) (D_law27 8 rfl) rfl rfl ?_
  refine l_iloadn (k := 3) (D_law27 9 rfl) rfl rfl ?_
  refine l_iconst (v := 1) (D_law27 10 rfl) rfl ?_
  refine l_iadd (D_law27 11 rfl) ?_
  refine l_sld (D_law27 12 rfl) (x' := ((i + 1 : Nat) : Int)) (wr_of (by omega) (by omega)) (by omega) (by omega) ?_
  rw [Int.toNat_natCast]
  refine l_callV (c_Model_forget (wr_sc _ _) h2) lk_Lawm_129 mok_Model_forget kd_81 (by decide) rfl (by decide) rfl rfl (Nat.le_of_ble_eq_true rfl) (by decide) (D_law27 13 rfl) (fun v a2 G2 q => ?_)
  obtain ⟨rfl, rfl, rfl, -, -⟩ := q
  exact l_same (tgt := 1381) (D_law27 14 rfl) rfl he hk
theorem case_proof {X : XT} {b N i : Nat} {xs : Nat → Int32} {G : GS} {q1 : Int × GS} {q2 : Int × GS} (hi : i + 6 ≤ N) (hN : N ≤ 3072) (h1 : f_Hall_proof G (sc xs (i + 1)) (sc xs (i + 2)) = some q1) (h2 : f_Model_proof q1.2 (sc xs (i + 1)) (sc xs (i + 2)) = some q2) (he : q1.1 = q2.1) (hk : JL X b N xs true NC 137 26133 1381 [(0, .ref b), (1, rf X 0), (2, rf X 81), (3, vi i)] [] q2.2) : JL X b N xs true NC 137 26133 1193 [(0, .ref b), (1, rf X 0), (2, rf X 81), (3, vi i)] [] G := by
  refine l_aloadn (k := 1) (D_law28 0 rfl) rfl rfl ?_
  refine l_aloadn (k := 0) (D_law28 1 rfl) rfl rfl ?_
  refine l_iloadn (k := 3) (D_law28 2 rfl) rfl rfl ?_
  refine l_iconst (v := 1) (D_law28 3 rfl) rfl ?_
  refine l_iadd (D_law28 4 rfl) ?_
  refine l_sld (D_law28 5 rfl) (x' := ((i + 1 : Nat) : Int)) (wr_of (by omega) (by omega)) (by omega) (by omega) ?_
  rw [Int.toNat_natCast]
  refine l_aloadn (k := 0) (D_law28 6 rfl) rfl rfl ?_
  refine l_iloadn (k := 3) (D_law28 7 rfl) rfl rfl ?_
  refine l_iconst (v := 2) (D_law28 8 rfl) rfl ?_
  refine l_iadd (D_law28 9 rfl) ?_
  refine l_sld (D_law28 10 rfl) (x' := ((i + 2 : Nat) : Int)) (wr_of (by omega) (by omega)) (by omega) (by omega) ?_
  rw [Int.toNat_natCast]
  refine l_callV (c_Hall_proof (wr_sc _ _) (wr_sc _ _) h1) lk_Lawm_130 mok_Hall_proof kd_0 (by decide) rfl (by decide) rfl rfl (Nat.le_of_ble_eq_true rfl) (by decide) (D_law28 11 rfl) (fun v a2 G2 q => ?_)
  obtain ⟨rfl, rfl, rfl, -⟩ := q
  refine l_aloadn (k := 2) (D_law28 12 rfl) rfl rfl ?_
  refine l_aloadn (k := 0) (D_law28 13 rfl) rfl rfl ?_
  refine l_iloadn (k := 3) (D_law28 14 rfl) rfl rfl ?_
  refine l_iconst (v := 1) (D_law28 15 rfl) rfl ?_
  refine l_iadd (D_law28 16 rfl) ?_
  refine l_sld (D_law28 17 rfl) (x' := ((i + 1 : Nat) : Int)) (wr_of (by omega) (by omega)) (by omega) (by omega) ?_
  rw [Int.toNat_natCast]
  refine l_aloadn (k := 0) (D_law28 18 rfl) rfl rfl ?_
  refine l_iloadn (k := 3) (D_law28 19 rfl) rfl rfl ?_
  refine l_iconst (v := 2) (D_law28 20 rfl) rfl ?_
  refine l_iadd (D_law28 21 rfl) ?_
  refine l_sld (D_law28 22 rfl) (x' := ((i + 2 : Nat) : Int)) (wr_of (by omega) (by omega)) (by omega) (by omega) ?_
  rw [Int.toNat_natCast]
  refine l_callV (c_Model_proof (wr_sc _ _) (wr_sc _ _) h2) lk_Lawm_133 mok_Model_proof kd_81 (by decide) rfl (by decide) rfl rfl (Nat.le_of_ble_eq_true rfl) (by decide) (D_law28 23 rfl) (fun v a2 G2 q => ?_)
  obtain ⟨rfl, rfl, rfl, -⟩ := q
  exact l_same (tgt := 1381) (D_law28 24 rfl) rfl he hk
theorem case_proved {X : XT} {b N i : Nat} {xs : Nat → Int32} {G : GS} {q1 : Int × GS} {q2 : Int × GS} (hi : i + 6 ≤ N) (hN : N ≤ 3072) (h1 : f_Hall_proved G (sc xs (i + 1)) = some q1) (h2 : f_Model_proved q1.2 (sc xs (i + 1)) = some q2) (he : q1.1 = q2.1) (hk : JL X b N xs true NC 137 26133 1381 [(0, .ref b), (1, rf X 0), (2, rf X 81), (3, vi i)] [] q2.2) : JL X b N xs true NC 137 26133 1226 [(0, .ref b), (1, rf X 0), (2, rf X 81), (3, vi i)] [] G := by
  refine l_aloadn (k := 1) (D_law29 0 rfl) rfl rfl ?_
  refine l_aloadn (k := 0) (D_law29 1 rfl) rfl rfl ?_
  refine l_iloadn (k := 3) (D_law29 2 rfl) rfl rfl ?_
  refine l_iconst (v := 1) (D_law29 3 rfl) rfl ?_
  refine l_iadd (D_law29 4 rfl) ?_
  refine l_sld (D_law29 5 rfl) (x' := ((i + 1 : Nat) : Int)) (wr_of (by omega) (by omega)) (by omega) (by omega) ?_
  rw [Int.toNat_natCast]
  refine l_callV (c_Hall_proved (wr_sc _ _) h1) lk_Lawm_134 mok_Hall_proved kd_0 (by decide) rfl (by decide) rfl rfl (Nat.le_of_ble_eq_true rfl) (by decide) (D_law29 6 rfl) (fun v a2 G2 q => ?_)
  obtain ⟨rfl, rfl, rfl, -, -⟩ := q
  refine l_aloadn (k := 2) (D_law29 7 rfl) rfl rfl ?_
  refine l_aloadn (k := 0) (D_law29 8 rfl) rfl rfl ?_
  refine l_iloadn (k := 3) (D_law29 9 rfl) rfl rfl ?_
  refine l_iconst (v := 1) (D_law29 10 rfl) rfl ?_
  refine l_iadd (D_law29 11 rfl) ?_
  refine l_sld (D_law29 12 rfl) (x' := ((i + 1 : Nat) : Int)) (wr_of (by omega) (by omega)) (by omega) (by omega) ?_
  rw [Int.toNat_natCast]
  refine l_callV (c_Model_proved (wr_sc _ _) h2) lk_Lawm_137 mok_Model_proved kd_81 (by decide) rfl (by decide) rfl rfl (Nat.le_of_ble_eq_true rfl) (by decide) (D_law29 13 rfl) (fun v a2 G2 q => ?_)
  obtain ⟨rfl, rfl, rfl, -, -⟩ := q
  exact l_same (tgt := 1381) (D_law29 14 rfl) rfl he hk
theorem case_find {X : XT} {b N i : Nat} {xs : Nat → Int32} {G : GS} {q1 : Int × GS} {q2 : Int × GS} (hi : i + 6 ≤ N) (hN : N ≤ 3072) (h1 : f_Hall_find G (sc xs (i + 1)) (sc xs (i + 2)) (sc xs (i + 3)) = some q1) (h2 : f_Model_find q1.2 (sc xs (i + 1)) (sc xs (i + 2)) (sc xs (i + 3)) = some q2) (he : q1.1 = q2.1) (hk : JL X b N xs true NC 137 26133 1381 [(0, .ref b), (1, rf X 0), (2, rf X 81), (3, vi i)] [] q2.2) : JL X b N xs true NC 137 26133 1249 [(0, .ref b), (1, rf X 0), (2, rf X 81), (3, vi i)] [] G := by
  refine l_aloadn (k := 1) (D_law30 0 rfl) rfl rfl ?_
  refine l_aloadn (k := 0) (D_law30 1 rfl) rfl rfl ?_
  refine l_iloadn (k := 3) (D_law30 2 rfl) rfl rfl ?_
  refine l_iconst (v := 1) (D_law30 3 rfl) rfl ?_
  refine l_iadd (D_law30 4 rfl) ?_
  refine l_sld (D_law30 5 rfl) (x' := ((i + 1 : Nat) : Int)) (wr_of (by omega) (by omega)) (by omega) (by omega) ?_
  rw [Int.toNat_natCast]
  refine l_aloadn (k := 0) (D_law30 6 rfl) rfl rfl ?_
  refine l_iloadn (k := 3) (D_law30 7 rfl) rfl rfl ?_
  refine l_iconst (v := 2) (D_law30 8 rfl) rfl ?_
  refine l_iadd (D_law30 9 rfl) ?_
  refine l_sld (D_law30 10 rfl) (x' := ((i + 2 : Nat) : Int)) (wr_of (by omega) (by omega)) (by omega) (by omega) ?_
  rw [Int.toNat_natCast]
  refine l_aloadn (k := 0) (D_law30 11 rfl) rfl rfl ?_
  refine l_iloadn (k := 3) (D_law30 12 rfl) rfl rfl ?_
  refine l_iconst (v := 3) (D_law30 13 rfl) rfl ?_
  refine l_iadd (D_law30 14 rfl) ?_
  refine l_sld (D_law30 15 rfl) (x' := ((i + 3 : Nat) : Int)) (wr_of (by omega) (by omega)) (by omega) (by omega) ?_
  rw [Int.toNat_natCast]
  refine l_callV (c_Hall_find (wr_sc _ _) (wr_sc _ _) (wr_sc _ _) h1) lk_Lawm_138 mok_Hall_find kd_0 (by decide) rfl (by decide) rfl rfl (Nat.le_of_ble_eq_true rfl) (by decide) (D_law30 16 rfl) (fun v a2 G2 q => ?_)
  obtain ⟨rfl, rfl, rfl, -, -⟩ := q
  refine l_aloadn (k := 2) (D_law30 17 rfl) rfl rfl ?_
  refine l_aloadn (k := 0) (D_law30 18 rfl) rfl rfl ?_
  refine l_iloadn (k := 3) (D_law30 19 rfl) rfl rfl ?_
  refine l_iconst (v := 1) (D_law30 20 rfl) rfl ?_
  refine l_iadd (D_law30 21 rfl) ?_
  refine l_sld (D_law30 22 rfl) (x' := ((i + 1 : Nat) : Int)) (wr_of (by omega) (by omega)) (by omega) (by omega) ?_
  rw [Int.toNat_natCast]
  refine l_aloadn (k := 0) (D_law30 23 rfl) rfl rfl ?_
  refine l_iloadn (k := 3) (D_law30 24 rfl) rfl rfl ?_
  refine l_iconst (v := 2) (D_law30 25 rfl) rfl ?_
  refine l_iadd (D_law30 26 rfl) ?_
  refine l_sld (D_law30 27 rfl) (x' := ((i + 2 : Nat) : Int)) (wr_of (by omega) (by omega)) (by omega) (by omega) ?_
  rw [Int.toNat_natCast]
  refine l_aloadn (k := 0) (D_law30 28 rfl) rfl rfl ?_
  refine l_iloadn (k := 3) (D_law30 29 rfl) rfl rfl ?_
  refine l_iconst (v := 3) (D_law30 30 rfl) rfl ?_
  refine l_iadd (D_law30 31 rfl) ?_
  refine l_sld (D_law30 32 rfl) (x' := ((i + 3 : Nat) : Int)) (wr_of (by omega) (by omega)) (by omega) (by omega) ?_
  rw [Int.toNat_natCast]
  refine l_callV (c_Model_find (wr_sc _ _) (wr_sc _ _) (wr_sc _ _) h2) lk_Lawm_141 mok_Model_find kd_81 (by decide) rfl (by decide) rfl rfl (Nat.le_of_ble_eq_true rfl) (by decide) (D_law30 33 rfl) (fun v a2 G2 q => ?_)
  obtain ⟨rfl, rfl, rfl, -, -⟩ := q
  exact l_same (tgt := 1381) (D_law30 34 rfl) rfl he hk
theorem case_unsay {X : XT} {b N i : Nat} {xs : Nat → Int32} {G : GS} {q1 : Int × GS} {q2 : Int × GS} (hi : i + 6 ≤ N) (hN : N ≤ 3072) (h1 : f_Hall_unsay G (sc xs (i + 1)) (sc xs (i + 2)) = some q1) (h2 : f_Model_unsay q1.2 (sc xs (i + 1)) (sc xs (i + 2)) = some q2) (he : q1.1 = q2.1) (hk : JL X b N xs true NC 137 26133 1381 [(0, .ref b), (1, rf X 0), (2, rf X 81), (3, vi i)] [] q2.2) : JL X b N xs true NC 137 26133 1292 [(0, .ref b), (1, rf X 0), (2, rf X 81), (3, vi i)] [] G := by
  refine l_aloadn (k := 1) (D_law31 0 rfl) rfl rfl ?_
  refine l_aloadn (k := 0) (D_law31 1 rfl) rfl rfl ?_
  refine l_iloadn (k := 3) (D_law31 2 rfl) rfl rfl ?_
  refine l_iconst (v := 1) (D_law31 3 rfl) rfl ?_
  refine l_iadd (D_law31 4 rfl) ?_
  refine l_sld (D_law31 5 rfl) (x' := ((i + 1 : Nat) : Int)) (wr_of (by omega) (by omega)) (by omega) (by omega) ?_
  rw [Int.toNat_natCast]
  refine l_aloadn (k := 0) (D_law31 6 rfl) rfl rfl ?_
  refine l_iloadn (k := 3) (D_law31 7 rfl) rfl rfl ?_
  refine l_iconst (v := 2) (D_law31 8 rfl) rfl ?_
  refine l_iadd (D_law31 9 rfl) ?_
  refine l_sld (D_law31 10 rfl) (x' := ((i + 2 : Nat) : Int)) (wr_of (by omega) (by omega)) (by omega) (by omega) ?_
  rw [Int.toNat_natCast]
  refine l_callV (c_Hall_unsay (wr_sc _ _) (wr_sc _ _) h1) lk_Lawm_142 mok_Hall_unsay kd_0 (by decide) rfl (by decide) rfl rfl (Nat.le_of_ble_eq_true rfl) (by decide) (D_law31 11 rfl) (fun v a2 G2 q => ?_)
  obtain ⟨rfl, rfl, rfl, -, -⟩ := q
  refine l_aloadn (k := 2) (D_law31 12 rfl) rfl rfl ?_
  refine l_aloadn (k := 0) (D_law31 13 rfl) rfl rfl ?_
  refine l_iloadn (k := 3) (D_law31 14 rfl) rfl rfl ?_
  refine l_iconst (v := 1) (D_law31 15 rfl) rfl ?_
  refine l_iadd (D_law31 16 rfl) ?_
  refine l_sld (D_law31 17 rfl) (x' := ((i + 1 : Nat) : Int)) (wr_of (by omega) (by omega)) (by omega) (by omega) ?_
  rw [Int.toNat_natCast]
  refine l_aloadn (k := 0) (D_law31 18 rfl) rfl rfl ?_
  refine l_iloadn (k := 3) (D_law31 19 rfl) rfl rfl ?_
  refine l_iconst (v := 2) (D_law31 20 rfl) rfl ?_
  refine l_iadd (D_law31 21 rfl) ?_
  refine l_sld (D_law31 22 rfl) (x' := ((i + 2 : Nat) : Int)) (wr_of (by omega) (by omega)) (by omega) (by omega) ?_
  rw [Int.toNat_natCast]
  refine l_callV (c_Model_unsay (wr_sc _ _) (wr_sc _ _) h2) lk_Lawm_145 mok_Model_unsay kd_81 (by decide) rfl (by decide) rfl rfl (Nat.le_of_ble_eq_true rfl) (by decide) (D_law31 23 rfl) (fun v a2 G2 q => ?_)
  obtain ⟨rfl, rfl, rfl, -, -⟩ := q
  exact l_same (tgt := 1381) (D_law31 24 rfl) rfl he hk
theorem case_quarrel {X : XT} {b N i : Nat} {xs : Nat → Int32} {G : GS} {q1 : Int × GS} {q2 : Int × GS} (hi : i + 6 ≤ N) (hN : N ≤ 3072) (h1 : f_Hall_quarrel G (sc xs (i + 1)) = some q1) (h2 : f_Model_quarrel q1.2 (sc xs (i + 1)) = some q2) (he : q1.1 = q2.1) (hk : JL X b N xs true NC 137 26133 1381 [(0, .ref b), (1, rf X 0), (2, rf X 81), (3, vi i)] [] q2.2) : JL X b N xs true NC 137 26133 1325 [(0, .ref b), (1, rf X 0), (2, rf X 81), (3, vi i)] [] G := by
  refine l_aloadn (k := 1) (D_law32 0 rfl) rfl rfl ?_
  refine l_aloadn (k := 0) (D_law32 1 rfl) rfl rfl ?_
  refine l_iloadn (k := 3) (D_law32 2 rfl) rfl rfl ?_
  refine l_iconst (v := 1) (D_law32 3 rfl) rfl ?_
  refine l_iadd (D_law32 4 rfl) ?_
  refine l_sld (D_law32 5 rfl) (x' := ((i + 1 : Nat) : Int)) (wr_of (by omega) (by omega)) (by omega) (by omega) ?_
  rw [Int.toNat_natCast]
  refine l_callV (c_Hall_quarrel (wr_sc _ _) h1) lk_Lawm_146 mok_Hall_quarrel kd_0 (by decide) rfl (by decide) rfl rfl (Nat.le_of_ble_eq_true rfl) (by decide) (D_law32 6 rfl) (fun v a2 G2 q => ?_)
  obtain ⟨rfl, rfl, rfl, -⟩ := q
  refine l_aloadn (k := 2) (D_law32 7 rfl) rfl rfl ?_
  refine l_aloadn (k := 0) (D_law32 8 rfl) rfl rfl ?_
  refine l_iloadn (k := 3) (D_law32 9 rfl) rfl rfl ?_
  refine l_iconst (v := 1) (D_law32 10 rfl) rfl ?_
  refine l_iadd (D_law32 11 rfl) ?_
  refine l_sld (D_law32 12 rfl) (x' := ((i + 1 : Nat) : Int)) (wr_of (by omega) (by omega)) (by omega) (by omega) ?_
  rw [Int.toNat_natCast]
  refine l_callV (c_Model_quarrel (wr_sc _ _) h2) lk_Lawm_149 mok_Model_quarrel kd_81 (by decide) rfl (by decide) rfl rfl (Nat.le_of_ble_eq_true rfl) (by decide) (D_law32 13 rfl) (fun v a2 G2 q => ?_)
  obtain ⟨rfl, rfl, rfl, -⟩ := q
  exact l_same (tgt := 1381) (D_law32 14 rfl) rfl he hk
theorem case_chain {X : XT} {b N i : Nat} {xs : Nat → Int32} {G : GS} {q1 : Int × GS} {q2 : Int × GS} (hi : i + 6 ≤ N) (hN : N ≤ 3072) (h1 : f_Hall_chain G (sc xs (i + 1)) (sc xs (i + 2)) = some q1) (h2 : f_Model_chain q1.2 (sc xs (i + 1)) (sc xs (i + 2)) = some q2) (he : q1.1 = q2.1) (hk : JL X b N xs true NC 137 26133 1381 [(0, .ref b), (1, rf X 0), (2, rf X 81), (3, vi i)] [] q2.2) : JL X b N xs true NC 137 26133 1348 [(0, .ref b), (1, rf X 0), (2, rf X 81), (3, vi i)] [] G := by
  refine l_aloadn (k := 1) (D_law33 0 rfl) rfl rfl ?_
  refine l_aloadn (k := 0) (D_law33 1 rfl) rfl rfl ?_
  refine l_iloadn (k := 3) (D_law33 2 rfl) rfl rfl ?_
  refine l_iconst (v := 1) (D_law33 3 rfl) rfl ?_
  refine l_iadd (D_law33 4 rfl) ?_
  refine l_sld (D_law33 5 rfl) (x' := ((i + 1 : Nat) : Int)) (wr_of (by omega) (by omega)) (by omega) (by omega) ?_
  rw [Int.toNat_natCast]
  refine l_aloadn (k := 0) (D_law33 6 rfl) rfl rfl ?_
  refine l_iloadn (k := 3) (D_law33 7 rfl) rfl rfl ?_
  refine l_iconst (v := 2) (D_law33 8 rfl) rfl ?_
  refine l_iadd (D_law33 9 rfl) ?_
  refine l_sld (D_law33 10 rfl) (x' := ((i + 2 : Nat) : Int)) (wr_of (by omega) (by omega)) (by omega) (by omega) ?_
  rw [Int.toNat_natCast]
  refine l_callV (c_Hall_chain (wr_sc _ _) (wr_sc _ _) h1) lk_Lawm_150 mok_Hall_chain kd_0 (by decide) rfl (by decide) rfl rfl (Nat.le_of_ble_eq_true rfl) (by decide) (D_law33 11 rfl) (fun v a2 G2 q => ?_)
  obtain ⟨rfl, rfl, rfl, -⟩ := q
  refine l_aloadn (k := 2) (D_law33 12 rfl) rfl rfl ?_
  refine l_aloadn (k := 0) (D_law33 13 rfl) rfl rfl ?_
  refine l_iloadn (k := 3) (D_law33 14 rfl) rfl rfl ?_
  refine l_iconst (v := 1) (D_law33 15 rfl) rfl ?_
  refine l_iadd (D_law33 16 rfl) ?_
  refine l_sld (D_law33 17 rfl) (x' := ((i + 1 : Nat) : Int)) (wr_of (by omega) (by omega)) (by omega) (by omega) ?_
  rw [Int.toNat_natCast]
  refine l_aloadn (k := 0) (D_law33 18 rfl) rfl rfl ?_
  refine l_iloadn (k := 3) (D_law33 19 rfl) rfl rfl ?_
  refine l_iconst (v := 2) (D_law33 20 rfl) rfl ?_
  refine l_iadd (D_law33 21 rfl) ?_
  refine l_sld (D_law33 22 rfl) (x' := ((i + 2 : Nat) : Int)) (wr_of (by omega) (by omega)) (by omega) (by omega) ?_
  rw [Int.toNat_natCast]
  refine l_callV (c_Model_chain (wr_sc _ _) (wr_sc _ _) h2) lk_Lawm_153 mok_Model_chain kd_81 (by decide) rfl (by decide) rfl rfl (Nat.le_of_ble_eq_true rfl) (by decide) (D_law33 23 rfl) (fun v a2 G2 q => ?_)
  obtain ⟨rfl, rfl, rfl, -⟩ := q
  exact l_same (tgt := 1381) (D_law33 24 rfl) rfl he hk
theorem law_loop {Inv : GS → Prop} (S_days : Step_days Inv) (S_person : Step_person Inv) (S_dies : Step_dies Inv) (S_marry : Step_marry Inv) (S_of : Step_of Inv) (S_born : Step_born Inv) (S_land : Step_land Inv) (S_acre : Step_acre Inv) (S_landOf : Step_landOf Inv) (S_reign : Step_reign Inv) (S_feed : Step_feed Inv) (S_end : Step_end Inv) (S_reads : Step_reads Inv) (S_fault : Step_fault Inv) (S_lawOn : Step_lawOn Inv) (S_heirs : Step_heirs Inv) (S_share : Step_share Inv) (S_ward : Step_ward Inv) (S_relief : Step_relief Inv) (S_dower : Step_dower Inv) (S_seize : Step_seize Inv) (S_traverse : Step_traverse Inv) (S_seizing : Step_seizing Inv) (S_holder : Step_holder Inv) (S_event : Step_event Inv) (S_memories : Step_memories Inv) (S_forget : Step_forget Inv) (S_proof : Step_proof Inv) (S_proved : Step_proved Inv) (S_find : Step_find Inv) (S_unsay : Step_unsay Inv) (S_quarrel : Step_quarrel Inv) (S_chain : Step_chain Inv) {X : XT} {b N : Nat} {xs : Nat → Int32} (hN : N ≤ 3072) : ∀ (n i : Nat) (G : GS), i ≤ N → N < i + n → Inv G → JL X b N xs true NC 137 26133 18 [(0, .ref b), (1, rf X 0), (2, rf X 81), (3, vi i)] [] G := by
  intro n
  induction n with
  | zero => intro i G h1 h2; omega
  | succ n ih =>
    intro i G hi hn hI
    refine l_iloadn (k := 3) (D_law0 10 rfl) rfl rfl ?_
    refine l_aloadn (k := 0) (D_law0 11 rfl) rfl rfl ?_
    refine l_slen (D_law0 12 rfl) ?_
    refine l_bipush (v := 6) (D_law0 13 rfl) rfl ?_
    refine l_isub (D_law0 14 rfl) ?_
    refine l_ic_gt (tgt := 1387) (D_law0 15 rfl) rfl (wr_of (by omega) (by omega)) (wr_of (by omega) (by omega)) (fun _ => ?_) (fun hc => ?_)
    · refine l_iconst (v := 1) (D_law34 2 rfl) rfl ?_
      exact l_end (D_law34 3 rfl) (by decide) (by decide)
    · have hi6 : i + 6 ≤ N := by omega
      have hend : ∀ G2 : GS, Inv G2 → JL X b N xs true NC 137 26133 1381 [(0, .ref b), (1, rf X 0), (2, rf X 81), (3, vi i)] [] G2 := by
        intro G2 h2
        refine l_iinc (k := 3) (x' := ((i + 6 : Nat) : Int)) (L' := [(3, vi ((i + 6 : Nat) : Int)), (0, .ref b), (1, rf X 0), (2, rf X 81)]) (D_law34 0 rfl) rfl (wr_of (by omega) (by omega)) (by decide) rfl ?_
        refine l_goto (tgt := 18) (D_law34 1 rfl) rfl ?_
        refine l_loc [1, 2, 3, 0] rfl ?_
        exact ih (i + 6) G2 hi6 (by omega) h2
      refine l_aloadn (k := 0) (D_law0 16 rfl) rfl rfl ?_
      refine l_iloadn (k := 3) (D_law0 17 rfl) rfl rfl ?_
      refine l_sld (D_law0 18 rfl) (x' := ((i : Nat) : Int)) (wr_of (by omega) (by omega)) (by omega) (by omega) ?_
      rw [Int.toNat_natCast]
      refine l_bipush (v := 63) (D_law0 19 rfl) rfl ?_
      refine l_iand (D_law0 20 rfl) ?_
      generalize hop : bAnd (sc xs i) 63 = op
      have hwo : wr op = op := by rw [← hop]; exact wr_bAnd _ _
      by_cases c0 : op = 0
      · obtain ⟨q1, q2, h1, h2, he, h3⟩ := S_days G (sc xs (i + 1)) (wr_sc _ _) hI
        exact l_tIn (tgt := 180) (D_law0 21 rfl) hwo c0 (by decide) (by decide) rfl rfl (case_days hi6 hN h1 h2 he (hend _ h3))
      by_cases c1 : op = 1
      · obtain ⟨q1, q2, h1, h2, he, h3⟩ := S_person G (sc xs (i + 1)) (sc xs (i + 2)) (sc xs (i + 3)) (sc xs (i + 4)) (sc xs (i + 5)) (wr_sc _ _) (wr_sc _ _) (wr_sc _ _) (wr_sc _ _) (wr_sc _ _) hI
        exact l_tIn (tgt := 203) (D_law0 21 rfl) hwo c1 (by decide) (by decide) rfl rfl (case_person hi6 hN h1 h2 he (hend _ h3))
      by_cases c2 : op = 2
      · obtain ⟨q1, q2, h1, h2, he, h3⟩ := S_dies G (sc xs (i + 1)) (sc xs (i + 2)) (wr_sc _ _) (wr_sc _ _) hI
        exact l_tIn (tgt := 266) (D_law0 21 rfl) hwo c2 (by decide) (by decide) rfl rfl (case_dies hi6 hN h1 h2 he (hend _ h3))
      by_cases c3 : op = 3
      · obtain ⟨q1, q2, h1, h2, he, h3⟩ := S_marry G (sc xs (i + 1)) (sc xs (i + 2)) (wr_sc _ _) (wr_sc _ _) hI
        exact l_tIn (tgt := 299) (D_law0 21 rfl) hwo c3 (by decide) (by decide) rfl rfl (case_marry hi6 hN h1 h2 he (hend _ h3))
      by_cases c4 : op = 4
      · obtain ⟨q1, q2, h1, h2, he, h3⟩ := S_of G (sc xs (i + 1)) (sc xs (i + 2)) (wr_sc _ _) (wr_sc _ _) hI
        exact l_tIn (tgt := 332) (D_law0 21 rfl) hwo c4 (by decide) (by decide) rfl rfl (case_of hi6 hN h1 h2 he (hend _ h3))
      by_cases c5 : op = 5
      · obtain ⟨q1, q2, h1, h2, he, h3⟩ := S_born G (sc xs (i + 1)) (sc xs (i + 2)) (sc xs (i + 3)) (wr_sc _ _) (wr_sc _ _) (wr_sc _ _) hI
        exact l_tIn (tgt := 365) (D_law0 21 rfl) hwo c5 (by decide) (by decide) rfl rfl (case_born hi6 hN h1 h2 he (hend _ h3))
      by_cases c6 : op = 6
      · obtain ⟨q1, q2, h1, h2, he, h3⟩ := S_land G (sc xs (i + 1)) (sc xs (i + 2)) (sc xs (i + 3)) (wr_sc _ _) (wr_sc _ _) (wr_sc _ _) hI
        exact l_tIn (tgt := 408) (D_law0 21 rfl) hwo c6 (by decide) (by decide) rfl rfl (case_land hi6 hN h1 h2 he (hend _ h3))
      by_cases c7 : op = 7
      · obtain ⟨q1, q2, h1, h2, he, h3⟩ := S_acre G (sc xs (i + 1)) (sc xs (i + 2)) (sc xs (i + 3)) (sc xs (i + 4)) (wr_sc _ _) (wr_sc _ _) (wr_sc _ _) (wr_sc _ _) hI
        exact l_tIn (tgt := 451) (D_law0 21 rfl) hwo c7 (by decide) (by decide) rfl rfl (case_acre hi6 hN h1 h2 he (hend _ h3))
      by_cases c8 : op = 8
      · obtain ⟨q1, q2, h1, h2, he, h3⟩ := S_landOf G (sc xs (i + 1)) (sc xs (i + 2)) (wr_sc _ _) (wr_sc _ _) hI
        exact l_tIn (tgt := 504) (D_law0 21 rfl) hwo c8 (by decide) (by decide) rfl rfl (case_landOf hi6 hN h1 h2 he (hend _ h3))
      by_cases c9 : op = 9
      · obtain ⟨q1, q2, h1, h2, he, h3⟩ := S_reign G (sc xs (i + 1)) (wr_sc _ _) hI
        exact l_tIn (tgt := 537) (D_law0 21 rfl) hwo c9 (by decide) (by decide) rfl rfl (case_reign hi6 hN h1 h2 he (hend _ h3))
      by_cases c10 : op = 10
      · obtain ⟨q1, q2, h1, h2, he, h3⟩ := S_feed G (sc xs (i + 1)) (sc xs (i + 2)) (sc xs (i + 3)) (sc xs (i + 4)) (sc xs (i + 5)) (wr_sc _ _) (wr_sc _ _) (wr_sc _ _) (wr_sc _ _) (wr_sc _ _) hI
        exact l_tIn (tgt := 560) (D_law0 21 rfl) hwo c10 (by decide) (by decide) rfl rfl (case_feed hi6 hN h1 h2 he (hend _ h3))
      by_cases c11 : op = 11
      · obtain ⟨q1, q2, h1, h2, he, h3⟩ := S_end G (sc xs (i + 1)) (wr_sc _ _) hI
        exact l_tIn (tgt := 623) (D_law0 21 rfl) hwo c11 (by decide) (by decide) rfl rfl (case_end hi6 hN h1 h2 he (hend _ h3))
      by_cases c12 : op = 12
      · obtain ⟨q1, q2, h1, h2, he, h3⟩ := S_reads G (sc xs (i + 1)) (wr_sc _ _) hI
        exact l_tIn (tgt := 646) (D_law0 21 rfl) hwo c12 (by decide) (by decide) rfl rfl (case_reads hi6 hN h1 h2 he (hend _ h3))
      by_cases c13 : op = 13
      · obtain ⟨q1, q2, h1, h2, he, h3⟩ := S_fault G (sc xs (i + 1)) (wr_sc _ _) hI
        exact l_tIn (tgt := 669) (D_law0 21 rfl) hwo c13 (by decide) (by decide) rfl rfl (case_fault hi6 hN h1 h2 he (hend _ h3))
      by_cases c14 : op = 14
      · obtain ⟨q1, q2, h1, h2, he, h3⟩ := S_lawOn G (sc xs (i + 1)) (sc xs (i + 2)) (wr_sc _ _) (wr_sc _ _) hI
        exact l_tIn (tgt := 692) (D_law0 21 rfl) hwo c14 (by decide) (by decide) rfl rfl (case_lawOn hi6 hN h1 h2 he (hend _ h3))
      by_cases c15 : op = 15
      · obtain ⟨q1, q2, h1, h2, he, h3⟩ := S_heirs G (sc xs (i + 1)) (sc xs (i + 2)) (wr_sc _ _) (wr_sc _ _) hI
        exact l_tIn (tgt := 725) (D_law0 21 rfl) hwo c15 (by decide) (by decide) rfl rfl (case_heirs hi6 hN h1 h2 he (hend _ h3))
      by_cases c16 : op = 16
      · obtain ⟨q1, q2, h1, h2, he, h3⟩ := S_share G (sc xs (i + 1)) (sc xs (i + 2)) (sc xs (i + 3)) (sc xs (i + 4)) (wr_sc _ _) (wr_sc _ _) (wr_sc _ _) (wr_sc _ _) hI
        exact l_tIn (tgt := 758) (D_law0 21 rfl) hwo c16 (by decide) (by decide) rfl rfl (case_share hi6 hN h1 h2 he (hend _ h3))
      by_cases c17 : op = 17
      · obtain ⟨q1, q2, h1, h2, he, h3⟩ := S_ward G (sc xs (i + 1)) (sc xs (i + 2)) (sc xs (i + 3)) (sc xs (i + 4)) (wr_sc _ _) (wr_sc _ _) (wr_sc _ _) (wr_sc _ _) hI
        exact l_tIn (tgt := 812) (D_law0 21 rfl) hwo c17 (by decide) (by decide) rfl rfl (case_ward hi6 hN h1 h2 he (hend _ h3))
      by_cases c18 : op = 18
      · obtain ⟨q1, q2, h1, h2, he, h3⟩ := S_relief G (sc xs (i + 1)) (sc xs (i + 2)) (sc xs (i + 3)) (wr_sc _ _) (wr_sc _ _) (wr_sc _ _) hI
        exact l_tIn (tgt := 866) (D_law0 21 rfl) hwo c18 (by decide) (by decide) rfl rfl (case_relief hi6 hN h1 h2 he (hend _ h3))
      by_cases c19 : op = 19
      · obtain ⟨q1, q2, h1, h2, he, h3⟩ := S_dower G (sc xs (i + 1)) (sc xs (i + 2)) (sc xs (i + 3)) (wr_sc _ _) (wr_sc _ _) (wr_sc _ _) hI
        exact l_tIn (tgt := 909) (D_law0 21 rfl) hwo c19 (by decide) (by decide) rfl rfl (case_dower hi6 hN h1 h2 he (hend _ h3))
      by_cases c20 : op = 20
      · obtain ⟨q1, q2, h1, h2, he, h3⟩ := S_seize G (sc xs (i + 1)) (sc xs (i + 2)) (sc xs (i + 3)) (sc xs (i + 4)) (sc xs (i + 5)) (wr_sc _ _) (wr_sc _ _) (wr_sc _ _) (wr_sc _ _) (wr_sc _ _) hI
        exact l_tIn (tgt := 952) (D_law0 21 rfl) hwo c20 (by decide) (by decide) rfl rfl (case_seize hi6 hN h1 h2 he (hend _ h3))
      by_cases c21 : op = 21
      · obtain ⟨q1, q2, h1, h2, he, h3⟩ := S_traverse G (sc xs (i + 1)) (wr_sc _ _) hI
        exact l_tIn (tgt := 1015) (D_law0 21 rfl) hwo c21 (by decide) (by decide) rfl rfl (case_traverse hi6 hN h1 h2 he (hend _ h3))
      by_cases c22 : op = 22
      · obtain ⟨q1, q2, h1, h2, he, h3⟩ := S_seizing G (sc xs (i + 1)) (sc xs (i + 2)) (wr_sc _ _) (wr_sc _ _) hI
        exact l_tIn (tgt := 1038) (D_law0 21 rfl) hwo c22 (by decide) (by decide) rfl rfl (case_seizing hi6 hN h1 h2 he (hend _ h3))
      by_cases c23 : op = 23
      · obtain ⟨q1, q2, h1, h2, he, h3⟩ := S_holder G (sc xs (i + 1)) (sc xs (i + 2)) (sc xs (i + 3)) (wr_sc _ _) (wr_sc _ _) (wr_sc _ _) hI
        exact l_tIn (tgt := 1071) (D_law0 21 rfl) hwo c23 (by decide) (by decide) rfl rfl (case_holder hi6 hN h1 h2 he (hend _ h3))
      by_cases c24 : op = 24
      · obtain ⟨q1, q2, h1, h2, he, h3⟩ := S_event G (sc xs (i + 1)) (sc xs (i + 2)) (wr_sc _ _) (wr_sc _ _) hI
        exact l_tIn (tgt := 1114) (D_law0 21 rfl) hwo c24 (by decide) (by decide) rfl rfl (case_event hi6 hN h1 h2 he (hend _ h3))
      by_cases c25 : op = 25
      · obtain ⟨q1, q2, h1, h2, he, h3⟩ := S_memories G (sc xs (i + 1)) (wr_sc _ _) hI
        exact l_tIn (tgt := 1147) (D_law0 21 rfl) hwo c25 (by decide) (by decide) rfl rfl (case_memories hi6 hN h1 h2 he (hend _ h3))
      by_cases c26 : op = 26
      · obtain ⟨q1, q2, h1, h2, he, h3⟩ := S_forget G (sc xs (i + 1)) (wr_sc _ _) hI
        exact l_tIn (tgt := 1170) (D_law0 21 rfl) hwo c26 (by decide) (by decide) rfl rfl (case_forget hi6 hN h1 h2 he (hend _ h3))
      by_cases c27 : op = 27
      · obtain ⟨q1, q2, h1, h2, he, h3⟩ := S_proof G (sc xs (i + 1)) (sc xs (i + 2)) (wr_sc _ _) (wr_sc _ _) hI
        exact l_tIn (tgt := 1193) (D_law0 21 rfl) hwo c27 (by decide) (by decide) rfl rfl (case_proof hi6 hN h1 h2 he (hend _ h3))
      by_cases c28 : op = 28
      · obtain ⟨q1, q2, h1, h2, he, h3⟩ := S_proved G (sc xs (i + 1)) (wr_sc _ _) hI
        exact l_tIn (tgt := 1226) (D_law0 21 rfl) hwo c28 (by decide) (by decide) rfl rfl (case_proved hi6 hN h1 h2 he (hend _ h3))
      by_cases c29 : op = 29
      · obtain ⟨q1, q2, h1, h2, he, h3⟩ := S_find G (sc xs (i + 1)) (sc xs (i + 2)) (sc xs (i + 3)) (wr_sc _ _) (wr_sc _ _) (wr_sc _ _) hI
        exact l_tIn (tgt := 1249) (D_law0 21 rfl) hwo c29 (by decide) (by decide) rfl rfl (case_find hi6 hN h1 h2 he (hend _ h3))
      by_cases c30 : op = 30
      · obtain ⟨q1, q2, h1, h2, he, h3⟩ := S_unsay G (sc xs (i + 1)) (sc xs (i + 2)) (wr_sc _ _) (wr_sc _ _) hI
        exact l_tIn (tgt := 1292) (D_law0 21 rfl) hwo c30 (by decide) (by decide) rfl rfl (case_unsay hi6 hN h1 h2 he (hend _ h3))
      by_cases c31 : op = 31
      · obtain ⟨q1, q2, h1, h2, he, h3⟩ := S_quarrel G (sc xs (i + 1)) (wr_sc _ _) hI
        exact l_tIn (tgt := 1325) (D_law0 21 rfl) hwo c31 (by decide) (by decide) rfl rfl (case_quarrel hi6 hN h1 h2 he (hend _ h3))
      by_cases c32 : op = 32
      · obtain ⟨q1, q2, h1, h2, he, h3⟩ := S_chain G (sc xs (i + 1)) (sc xs (i + 2)) (wr_sc _ _) (wr_sc _ _) hI
        exact l_tIn (tgt := 1348) (D_law0 21 rfl) hwo c32 (by decide) (by decide) rfl rfl (case_chain hi6 hN h1 h2 he (hend _ h3))
      exact l_tOut (tgt := 1381) (D_law0 21 rfl) hwo (by omega) rfl (hend G hI)
