/-! the methods one by one -/
theorem mt_0 : MT[0]? = some (yX0_nameIn, cX0_nameIn, 7, some FieldType.long, 0, tb_0) := rfl
theorem ma_0 : MA[0]? = some (yX0_nameIn, cX0_nameIn, 7, some FieldType.long, 0, tb_0) := rfl
theorem mt_1 : MT[1]? = some (yX0_numbered, cX0_numbered, 3, some FieldType.long, 0, tb_1) := rfl
theorem ma_1 : MA[1]? = some (yX0_numbered, cX0_numbered, 3, some FieldType.long, 0, tb_1) := rfl
theorem mt_2 : MT[2]? = some (yX0_nameOf, cX0_nameOf, 2, some FieldType.long, 0, tb_2) := rfl
theorem ma_2 : MA[2]? = some (yX0_nameOf, cX0_nameOf, 2, some FieldType.long, 0, tb_2) := rfl
theorem mt_3 : MT[3]? = some (yX0_placeAnchor, cX0_placeAnchor, 7, some FieldType.long, 0, tb_3) := rfl
theorem ma_3 : MA[3]? = some (yX0_placeAnchor, cX0_placeAnchor, 7, some FieldType.long, 0, tb_3) := rfl
theorem mt_4 : MT[4]? = some (yX0_indexOf, cX0_indexOf, 5, some FieldType.int, 0, tb_4) := rfl
theorem ma_4 : MA[4]? = some (yX0_indexOf, cX0_indexOf, 5, some FieldType.int, 0, tb_4) := rfl
theorem mt_5 : MT[5]? = some (yX0_spell, cX0_spell, 10, some FieldType.int, 0, tb_5) := rfl
theorem ma_5 : MA[5]? = some (yX0_spell, cX0_spell, 10, some FieldType.int, 0, tb_5) := rfl
theorem mt_6 : MT[6]? = some (yX0_spellNumber, cX0_spellNumber, 4, some FieldType.int, 0, tb_6) := rfl
theorem ma_6 : MA[6]? = some (yX0_spellNumber, cX0_spellNumber, 4, some FieldType.int, 0, tb_6) := rfl
theorem mt_7 : MT[7]? = some (yX1_init, cX1_init, 1, none, 1, tb_7) := rfl
theorem ma_7 : MA[7]? = some (yX1_init, cX1_init, 1, none, 1, tb_7) := rfl
theorem mt_8 : MT[8]? = some (yX1_build, cX1_build, 4, none, 1, tb_8) := rfl
theorem ma_8 : MA[8]? = some (yX1_build, cX1_build, 4, none, 1, tb_8) := rfl
theorem mt_9 : MT[9]? = some (yX1_addPage, cX1_addPage, 9, none, 1, tb_9) := rfl
theorem ma_9 : MA[9]? = some (yX1_addPage, cX1_addPage, 9, none, 1, tb_9) := rfl
theorem mt_10 : MT[10]? = some (yX1_isReplaced, cX1_isReplaced, 3, some FieldType.boolean, 1, tb_10) := rfl
theorem ma_10 : MA[10]? = some (yX1_isReplaced, cX1_isReplaced, 3, some FieldType.boolean, 1, tb_10) := rfl
theorem mt_11 : MT[11]? = some (yX1_addHeading, cX1_addHeading, 6, none, 1, tb_11) := rfl
theorem ma_11 : MA[11]? = some (yX1_addHeading, cX1_addHeading, 6, none, 1, tb_11) := rfl
theorem mt_12 : MT[12]? = some (yX1_headingsNamed, cX1_headingsNamed, 5, some FieldType.int, 1, tb_12) := rfl
theorem ma_12 : MA[12]? = some (yX1_headingsNamed, cX1_headingsNamed, 5, some FieldType.int, 1, tb_12) := rfl
theorem mt_13 : MT[13]? = some (yX1_headingWith, cX1_headingWith, 4, some FieldType.int, 1, tb_13) := rfl
theorem ma_13 : MA[13]? = some (yX1_headingWith, cX1_headingWith, 4, some FieldType.int, 1, tb_13) := rfl
theorem mt_14 : MT[14]? = some (yX1_partOf, cX1_partOf, 5, some FieldType.int, 1, tb_14) := rfl
theorem ma_14 : MA[14]? = some (yX1_partOf, cX1_partOf, 5, some FieldType.int, 1, tb_14) := rfl
theorem mt_15 : MT[15]? = some (yX2_init, cX2_init, 2, none, 2, tb_15) := rfl
theorem ma_15 : MA[15]? = some (yX2_init, cX2_init, 2, none, 2, tb_15) := rfl
theorem mt_16 : MT[16]? = some (yX2_find, cX2_find, 8, none, 2, tb_16) := rfl
theorem ma_16 : MA[16]? = some (yX2_find, cX2_find, 8, none, 2, tb_16) := rfl
theorem mt_17 : MT[17]? = some (yX2_offerHeadings, cX2_offerHeadings, 10, none, 2, tb_17) := rfl
theorem ma_17 : MA[17]? = some (yX2_offerHeadings, cX2_offerHeadings, 10, none, 2, tb_17) := rfl
theorem mt_18 : MT[18]? = some (yX2_offer, cX2_offer, 6, none, 2, tb_18) := rfl
theorem ma_18 : MA[18]? = some (yX2_offer, cX2_offer, 6, none, 2, tb_18) := rfl
theorem mt_19 : MT[19]? = some (yX2_stepsTo, cX2_stepsTo, 6, some FieldType.int, 2, tb_19) := rfl
theorem ma_19 : MA[19]? = some (yX2_stepsTo, cX2_stepsTo, 6, some FieldType.int, 2, tb_19) := rfl
theorem mt_20 : MT[20]? = some (yX2_fillRow, cX2_fillRow, 7, some FieldType.int, 2, tb_20) := rfl
theorem ma_20 : MA[20]? = some (yX2_fillRow, cX2_fillRow, 7, some FieldType.int, 2, tb_20) := rfl
theorem mt_21 : MT[21]? = some (yX3_init, cX3_init, 2, none, 3, tb_21) := rfl
theorem ma_21 : MA[21]? = some (yX3_init, cX3_init, 2, none, 3, tb_21) := rfl
theorem mt_22 : MT[22]? = some (yX3_read, cX3_read, 6, none, 3, tb_22) := rfl
theorem ma_22 : MA[22]? = some (yX3_read, cX3_read, 6, none, 3, tb_22) := rfl
theorem mt_23 : MT[23]? = some (yX3_addLine, cX3_addLine, 4, none, 3, tb_23) := rfl
theorem ma_23 : MA[23]? = some (yX3_addLine, cX3_addLine, 4, none, 3, tb_23) := rfl
theorem mt_24 : MT[24]? = some (yX3_addHeading, cX3_addHeading, 5, none, 3, tb_24) := rfl
theorem ma_24 : MA[24]? = some (yX3_addHeading, cX3_addHeading, 5, none, 3, tb_24) := rfl
theorem mt_25 : MT[25]? = some (yX3_addInclude, cX3_addInclude, 5, none, 3, tb_25) := rfl
theorem ma_25 : MA[25]? = some (yX3_addInclude, cX3_addInclude, 5, none, 3, tb_25) := rfl
theorem mt_26 : MT[26]? = some (yX3_readLinks, cX3_readLinks, 6, none, 3, tb_26) := rfl
theorem ma_26 : MA[26]? = some (yX3_readLinks, cX3_readLinks, 6, none, 3, tb_26) := rfl
theorem mt_27 : MT[27]? = some (yX3_growSection, cX3_growSection, 7, none, 3, tb_27) := rfl
theorem ma_27 : MA[27]? = some (yX3_growSection, cX3_growSection, 7, none, 3, tb_27) := rfl
theorem mt_28 : MT[28]? = some (yX4_init, cX4_init, 1, none, 4, tb_28) := rfl
theorem ma_28 : MA[28]? = some (yX4_init, cX4_init, 1, none, 4, tb_28) := rfl
theorem mt_29 : MT[29]? = some (yX4_pageFault, cX4_pageFault, 4, some FieldType.int, 4, tb_29) := rfl
theorem ma_29 : MA[29]? = some (yX4_pageFault, cX4_pageFault, 4, some FieldType.int, 4, tb_29) := rfl
theorem mt_30 : MT[30]? = some (yX4_redirectFault, cX4_redirectFault, 3, some FieldType.int, 4, tb_30) := rfl
theorem ma_30 : MA[30]? = some (yX4_redirectFault, cX4_redirectFault, 3, some FieldType.int, 4, tb_30) := rfl
theorem mt_31 : MT[31]? = some (yX4_begin, cX4_begin, 3, none, 4, tb_31) := rfl
theorem ma_31 : MA[31]? = some (yX4_begin, cX4_begin, 3, none, 4, tb_31) := rfl
theorem mt_32 : MT[32]? = some (yX4_isNext, cX4_isNext, 2, some FieldType.boolean, 4, tb_32) := rfl
theorem ma_32 : MA[32]? = some (yX4_isNext, cX4_isNext, 2, some FieldType.boolean, 4, tb_32) := rfl
theorem mt_33 : MT[33]? = some (yX4_take, cX4_take, 2, some FieldType.boolean, 4, tb_33) := rfl
theorem ma_33 : MA[33]? = some (yX4_take, cX4_take, 2, some FieldType.boolean, 4, tb_33) := rfl
theorem mt_34 : MT[34]? = some (yX4_takeBetween, cX4_takeBetween, 3, some FieldType.boolean, 4, tb_34) := rfl
theorem ma_34 : MA[34]? = some (yX4_takeBetween, cX4_takeBetween, 3, some FieldType.boolean, 4, tb_34) := rfl
theorem mt_35 : MT[35]? = some (yX4_takeLine, cX4_takeLine, 2, some FieldType.boolean, 4, tb_35) := rfl
theorem ma_35 : MA[35]? = some (yX4_takeLine, cX4_takeLine, 2, some FieldType.boolean, 4, tb_35) := rfl
theorem mt_36 : MT[36]? = some (yX4_takeHeading, cX4_takeHeading, 2, some FieldType.boolean, 4, tb_36) := rfl
theorem ma_36 : MA[36]? = some (yX4_takeHeading, cX4_takeHeading, 2, some FieldType.boolean, 4, tb_36) := rfl
theorem mt_37 : MT[37]? = some (yX4_takeInclude, cX4_takeInclude, 1, some FieldType.boolean, 4, tb_37) := rfl
theorem ma_37 : MA[37]? = some (yX4_takeInclude, cX4_takeInclude, 1, some FieldType.boolean, 4, tb_37) := rfl
theorem mt_38 : MT[38]? = some (yX4_takeElement, cX4_takeElement, 2, some FieldType.boolean, 4, tb_38) := rfl
theorem ma_38 : MA[38]? = some (yX4_takeElement, cX4_takeElement, 2, some FieldType.boolean, 4, tb_38) := rfl
theorem mt_39 : MT[39]? = some (yX4_takePlace, cX4_takePlace, 1, some FieldType.boolean, 4, tb_39) := rfl
theorem ma_39 : MA[39]? = some (yX4_takePlace, cX4_takePlace, 1, some FieldType.boolean, 4, tb_39) := rfl
theorem mt_40 : MT[40]? = some (yX4_takeAnchor, cX4_takeAnchor, 1, some FieldType.boolean, 4, tb_40) := rfl
theorem ma_40 : MA[40]? = some (yX4_takeAnchor, cX4_takeAnchor, 1, some FieldType.boolean, 4, tb_40) := rfl
theorem mt_41 : MT[41]? = some (yX4_takeName, cX4_takeName, 2, some FieldType.boolean, 4, tb_41) := rfl
theorem ma_41 : MA[41]? = some (yX4_takeName, cX4_takeName, 2, some FieldType.boolean, 4, tb_41) := rfl
theorem mt_42 : MT[42]? = some (yX5_init, cX5_init, 2, none, 5, tb_42) := rfl
theorem ma_42 : MA[42]? = some (yX5_init, cX5_init, 2, none, 5, tb_42) := rfl
theorem mt_43 : MT[43]? = some (yX5_follow, cX5_follow, 3, none, 5, tb_43) := rfl
theorem ma_43 : MA[43]? = some (yX5_follow, cX5_follow, 3, none, 5, tb_43) := rfl
theorem mt_44 : MT[44]? = some (yX5_usesOf, cX5_usesOf, 4, some FieldType.int, 5, tb_44) := rfl
theorem ma_44 : MA[44]? = some (yX5_usesOf, cX5_usesOf, 4, some FieldType.int, 5, tb_44) := rfl
theorem mt_45 : MT[45]? = some (yX5_wasHere, cX5_wasHere, 2, some FieldType.boolean, 5, tb_45) := rfl
theorem ma_45 : MA[45]? = some (yX5_wasHere, cX5_wasHere, 2, some FieldType.boolean, 5, tb_45) := rfl
theorem mt_46 : MT[46]? = some (yX5_isGood, cX5_isGood, 1, some FieldType.boolean, 5, tb_46) := rfl
theorem ma_46 : MA[46]? = some (yX5_isGood, cX5_isGood, 1, some FieldType.boolean, 5, tb_46) := rfl
theorem mt_47 : MT[47]? = some (yX5_goOn, cX5_goOn, 4, some FieldType.boolean, 5, tb_47) := rfl
theorem ma_47 : MA[47]? = some (yX5_goOn, cX5_goOn, 4, some FieldType.boolean, 5, tb_47) := rfl
theorem mt_48 : MT[48]? = some (yX6_init, cX6_init, 2, none, 6, tb_48) := rfl
theorem ma_48 : MA[48]? = some (yX6_init, cX6_init, 2, none, 6, tb_48) := rfl
theorem mt_49 : MT[49]? = some (yX6_replaceSource, cX6_replaceSource, 4, none, 6, tb_49) := rfl
theorem ma_49 : MA[49]? = some (yX6_replaceSource, cX6_replaceSource, 4, none, 6, tb_49) := rfl
theorem mt_50 : MT[50]? = some (yX6_restore, cX6_restore, 3, none, 6, tb_50) := rfl
theorem ma_50 : MA[50]? = some (yX6_restore, cX6_restore, 3, none, 6, tb_50) := rfl
theorem mt_51 : MT[51]? = some (yX6_readSource, cX6_readSource, 3, none, 6, tb_51) := rfl
theorem ma_51 : MA[51]? = some (yX6_readSource, cX6_readSource, 3, none, 6, tb_51) := rfl
theorem mt_52 : MT[52]? = some (yX6_expandAll, cX6_expandAll, 2, none, 6, tb_52) := rfl
theorem ma_52 : MA[52]? = some (yX6_expandAll, cX6_expandAll, 2, none, 6, tb_52) := rfl
theorem mt_53 : MT[53]? = some (yX6_rememberSections, cX6_rememberSections, 6, none, 6, tb_53) := rfl
theorem ma_53 : MA[53]? = some (yX6_rememberSections, cX6_rememberSections, 6, none, 6, tb_53) := rfl
theorem mt_54 : MT[54]? = some (yX6_sectionsWith, cX6_sectionsWith, 6, some FieldType.int, 6, tb_54) := rfl
theorem ma_54 : MA[54]? = some (yX6_sectionsWith, cX6_sectionsWith, 6, some FieldType.int, 6, tb_54) := rfl
theorem mt_55 : MT[55]? = some (yX6_includedFrom, cX6_includedFrom, 6, some FieldType.int, 6, tb_55) := rfl
theorem ma_55 : MA[55]? = some (yX6_includedFrom, cX6_includedFrom, 6, some FieldType.int, 6, tb_55) := rfl
theorem mt_56 : MT[56]? = some (yX6_spellTarget, cX6_spellTarget, 7, some FieldType.int, 6, tb_56) := rfl
theorem ma_56 : MA[56]? = some (yX6_spellTarget, cX6_spellTarget, 7, some FieldType.int, 6, tb_56) := rfl
theorem mt_57 : MT[57]? = some (yX6_writeTarget, cX6_writeTarget, 6, none, 6, tb_57) := rfl
theorem ma_57 : MA[57]? = some (yX6_writeTarget, cX6_writeTarget, 6, none, 6, tb_57) := rfl
theorem mt_58 : MT[58]? = some (yX7_init, cX7_init, 1, none, 7, tb_58) := rfl
theorem ma_58 : MA[58]? = some (yX7_init, cX7_init, 1, none, 7, tb_58) := rfl
theorem mt_59 : MT[59]? = some (yX7_become, cX7_become, 2, none, 7, tb_59) := rfl
theorem ma_59 : MA[59]? = some (yX7_become, cX7_become, 2, none, 7, tb_59) := rfl
theorem mt_60 : MT[60]? = some (yX7_hasSource, cX7_hasSource, 2, some FieldType.boolean, 7, tb_60) := rfl
theorem ma_60 : MA[60]? = some (yX7_hasSource, cX7_hasSource, 2, some FieldType.boolean, 7, tb_60) := rfl
theorem mt_61 : MT[61]? = some (yX7_sources, cX7_sources, 3, some FieldType.int, 7, tb_61) := rfl
theorem ma_61 : MA[61]? = some (yX7_sources, cX7_sources, 3, some FieldType.int, 7, tb_61) := rfl
theorem mt_62 : MT[62]? = some (yX7_redirectFrom, cX7_redirectFrom, 5, some FieldType.int, 7, tb_62) := rfl
theorem ma_62 : MA[62]? = some (yX7_redirectFrom, cX7_redirectFrom, 5, some FieldType.int, 7, tb_62) := rfl
theorem mt_63 : MT[63]? = some (yX7_addRedirect, cX7_addRedirect, 7, none, 7, tb_63) := rfl
theorem ma_63 : MA[63]? = some (yX7_addRedirect, cX7_addRedirect, 7, none, 7, tb_63) := rfl
theorem mt_64 : MT[64]? = some (yX7_dropRedirect, cX7_dropRedirect, 3, none, 7, tb_64) := rfl
theorem ma_64 : MA[64]? = some (yX7_dropRedirect, cX7_dropRedirect, 3, none, 7, tb_64) := rfl
theorem mt_65 : MT[65]? = some (yX7_entryWith, cX7_entryWith, 5, some FieldType.int, 7, tb_65) := rfl
theorem ma_65 : MA[65]? = some (yX7_entryWith, cX7_entryWith, 5, some FieldType.int, 7, tb_65) := rfl
theorem mt_66 : MT[66]? = some (yX7_addEntry, cX7_addEntry, 5, none, 7, tb_66) := rfl
theorem ma_66 : MA[66]? = some (yX7_addEntry, cX7_addEntry, 5, none, 7, tb_66) := rfl
theorem mt_67 : MT[67]? = some (yX7_dropEntry, cX7_dropEntry, 3, none, 7, tb_67) := rfl
theorem ma_67 : MA[67]? = some (yX7_dropEntry, cX7_dropEntry, 3, none, 7, tb_67) := rfl
theorem mt_68 : MT[68]? = some (yX8_init, cX8_init, 1, none, 8, tb_68) := rfl
theorem ma_68 : MA[68]? = some (yX8_init, cX8_init, 1, none, 8, tb_68) := rfl
theorem mt_69 : MT[69]? = some (yX8_put, cX8_put, 5, some FieldType.int, 8, tb_69) := rfl
theorem ma_69 : MA[69]? = some (yX8_put, cX8_put, 5, some FieldType.int, 8, tb_69) := rfl
theorem mt_70 : MT[70]? = some (yX8_wipe, cX8_wipe, 2, some FieldType.int, 8, tb_70) := rfl
theorem ma_70 : MA[70]? = some (yX8_wipe, cX8_wipe, 2, some FieldType.int, 8, tb_70) := rfl
theorem mt_71 : MT[71]? = some (yX8_fault, cX8_fault, 2, some FieldType.int, 8, tb_71) := rfl
theorem ma_71 : MA[71]? = some (yX8_fault, cX8_fault, 2, some FieldType.int, 8, tb_71) := rfl
theorem mt_72 : MT[72]? = some (yX8_load, cX8_load, 2, some FieldType.int, 8, tb_72) := rfl
theorem ma_72 : MA[72]? = some (yX8_load, cX8_load, 2, some FieldType.int, 8, tb_72) := rfl
theorem mt_73 : MT[73]? = some (yX8_remove, cX8_remove, 2, some FieldType.int, 8, tb_73) := rfl
theorem ma_73 : MA[73]? = some (yX8_remove, cX8_remove, 2, some FieldType.int, 8, tb_73) := rfl
theorem mt_74 : MT[74]? = some (yX8_character, cX8_character, 4, some FieldType.int, 8, tb_74) := rfl
theorem ma_74 : MA[74]? = some (yX8_character, cX8_character, 4, some FieldType.int, 8, tb_74) := rfl
theorem mt_75 : MT[75]? = some (yX8_about, cX8_about, 5, some FieldType.int, 8, tb_75) := rfl
theorem ma_75 : MA[75]? = some (yX8_about, cX8_about, 5, some FieldType.int, 8, tb_75) := rfl
theorem mt_76 : MT[76]? = some (yX8_heading, cX8_heading, 5, some FieldType.int, 8, tb_76) := rfl
theorem ma_76 : MA[76]? = some (yX8_heading, cX8_heading, 5, some FieldType.int, 8, tb_76) := rfl
theorem mt_77 : MT[77]? = some (yX8_anchor, cX8_anchor, 5, some FieldType.int, 8, tb_77) := rfl
theorem ma_77 : MA[77]? = some (yX8_anchor, cX8_anchor, 5, some FieldType.int, 8, tb_77) := rfl
theorem mt_78 : MT[78]? = some (yX8_section, cX8_section, 4, some FieldType.int, 8, tb_78) := rfl
theorem ma_78 : MA[78]? = some (yX8_section, cX8_section, 4, some FieldType.int, 8, tb_78) := rfl
theorem mt_79 : MT[79]? = some (yX8_cycles, cX8_cycles, 3, some FieldType.int, 8, tb_79) := rfl
theorem ma_79 : MA[79]? = some (yX8_cycles, cX8_cycles, 3, some FieldType.int, 8, tb_79) := rfl
theorem mt_80 : MT[80]? = some (yX8_redirect, cX8_redirect, 8, some FieldType.int, 8, tb_80) := rfl
theorem ma_80 : MA[80]? = some (yX8_redirect, cX8_redirect, 8, some FieldType.int, 8, tb_80) := rfl
theorem mt_81 : MT[81]? = some (yX8_unredirect, cX8_unredirect, 2, some FieldType.int, 8, tb_81) := rfl
theorem ma_81 : MA[81]? = some (yX8_unredirect, cX8_unredirect, 2, some FieldType.int, 8, tb_81) := rfl
theorem mt_82 : MT[82]? = some (yX8_redirection, cX8_redirection, 3, some FieldType.int, 8, tb_82) := rfl
theorem ma_82 : MA[82]? = some (yX8_redirection, cX8_redirection, 3, some FieldType.int, 8, tb_82) := rfl
theorem mt_83 : MT[83]? = some (yX8_link, cX8_link, 5, some FieldType.int, 8, tb_83) := rfl
theorem ma_83 : MA[83]? = some (yX8_link, cX8_link, 5, some FieldType.int, 8, tb_83) := rfl
theorem mt_84 : MT[84]? = some (yX8_tally, cX8_tally, 2, some FieldType.int, 8, tb_84) := rfl
theorem ma_84 : MA[84]? = some (yX8_tally, cX8_tally, 2, some FieldType.int, 8, tb_84) := rfl
theorem mt_85 : MT[85]? = some (yX8_reach, cX8_reach, 4, some FieldType.int, 8, tb_85) := rfl
theorem ma_85 : MA[85]? = some (yX8_reach, cX8_reach, 4, some FieldType.int, 8, tb_85) := rfl
theorem mt_86 : MT[86]? = some (yX8_memory, cX8_memory, 4, some FieldType.int, 8, tb_86) := rfl
theorem ma_86 : MA[86]? = some (yX8_memory, cX8_memory, 4, some FieldType.int, 8, tb_86) := rfl
theorem mt_87 : MT[87]? = some (yX8_repair, cX8_repair, 4, some FieldType.int, 8, tb_87) := rfl
theorem ma_87 : MA[87]? = some (yX8_repair, cX8_repair, 4, some FieldType.int, 8, tb_87) := rfl
theorem mt_88 : MT[88]? = some (yX8_mend, cX8_mend, 3, some FieldType.int, 8, tb_88) := rfl
theorem ma_88 : MA[88]? = some (yX8_mend, cX8_mend, 3, some FieldType.int, 8, tb_88) := rfl
theorem mt_89 : MT[89]? = some (yX8_mendAll, cX8_mendAll, 5, some FieldType.int, 8, tb_89) := rfl
theorem ma_89 : MA[89]? = some (yX8_mendAll, cX8_mendAll, 5, some FieldType.int, 8, tb_89) := rfl
theorem mt_90 : MT[90]? = some (yX8_straighten, cX8_straighten, 4, some FieldType.int, 8, tb_90) := rfl
theorem ma_90 : MA[90]? = some (yX8_straighten, cX8_straighten, 4, some FieldType.int, 8, tb_90) := rfl
theorem mt_91 : MT[91]? = some (yX8_undo, cX8_undo, 2, some FieldType.int, 8, tb_91) := rfl
theorem ma_91 : MA[91]? = some (yX8_undo, cX8_undo, 2, some FieldType.int, 8, tb_91) := rfl
theorem mt_92 : MT[92]? = some (yX8_count, cX8_count, 2, some FieldType.int, 8, tb_92) := rfl
theorem ma_92 : MA[92]? = some (yX8_count, cX8_count, 2, some FieldType.int, 8, tb_92) := rfl
theorem mt_93 : MT[93]? = some (yX8_isPage, cX8_isPage, 1, some FieldType.boolean, 8, tb_93) := rfl
theorem ma_93 : MA[93]? = some (yX8_isPage, cX8_isPage, 1, some FieldType.boolean, 8, tb_93) := rfl
theorem mt_94 : MT[94]? = some (yX8_isHeading, cX8_isHeading, 3, some FieldType.boolean, 8, tb_94) := rfl
theorem ma_94 : MA[94]? = some (yX8_isHeading, cX8_isHeading, 3, some FieldType.boolean, 8, tb_94) := rfl
theorem mt_95 : MT[95]? = some (yX8_isLink, cX8_isLink, 3, some FieldType.boolean, 8, tb_95) := rfl
theorem ma_95 : MA[95]? = some (yX8_isLink, cX8_isLink, 3, some FieldType.boolean, 8, tb_95) := rfl
theorem mt_96 : MT[96]? = some (yX8_isRedirect, cX8_isRedirect, 2, some FieldType.boolean, 8, tb_96) := rfl
theorem ma_96 : MA[96]? = some (yX8_isRedirect, cX8_isRedirect, 2, some FieldType.boolean, 8, tb_96) := rfl
theorem mt_97 : MT[97]? = some (yX8_isIn, cX8_isIn, 2, some FieldType.boolean, 8, tb_97) := rfl
theorem ma_97 : MA[97]? = some (yX8_isIn, cX8_isIn, 2, some FieldType.boolean, 8, tb_97) := rfl
theorem mt_98 : MT[98]? = some (yX8_charactersIn, cX8_charactersIn, 7, some FieldType.int, 8, tb_98) := rfl
theorem ma_98 : MA[98]? = some (yX8_charactersIn, cX8_charactersIn, 7, some FieldType.int, 8, tb_98) := rfl
theorem mt_99 : MT[99]? = some (yX8_arrowInPad, cX8_arrowInPad, 2, some FieldType.int, 8, tb_99) := rfl
theorem ma_99 : MA[99]? = some (yX8_arrowInPad, cX8_arrowInPad, 2, some FieldType.int, 8, tb_99) := rfl
theorem mt_100 : MT[100]? = some (yX8_isBroken, cX8_isBroken, 4, some FieldType.boolean, 8, tb_100) := rfl
theorem ma_100 : MA[100]? = some (yX8_isBroken, cX8_isBroken, 4, some FieldType.boolean, 8, tb_100) := rfl
theorem mt_101 : MT[101]? = some (yX8_linksOfKinds, cX8_linksOfKinds, 7, some FieldType.int, 8, tb_101) := rfl
theorem ma_101 : MA[101]? = some (yX8_linksOfKinds, cX8_linksOfKinds, 7, some FieldType.int, 8, tb_101) := rfl
theorem mt_102 : MT[102]? = some (yX8_usesOf, cX8_usesOf, 6, some FieldType.int, 8, tb_102) := rfl
theorem ma_102 : MA[102]? = some (yX8_usesOf, cX8_usesOf, 6, some FieldType.int, 8, tb_102) := rfl
theorem mt_103 : MT[103]? = some (yX8_reachedFrom, cX8_reachedFrom, 6, some FieldType.int, 8, tb_103) := rfl
theorem ma_103 : MA[103]? = some (yX8_reachedFrom, cX8_reachedFrom, 6, some FieldType.int, 8, tb_103) := rfl
theorem mt_104 : MT[104]? = some (yX8_neighboursOf, cX8_neighboursOf, 5, some FieldType.int, 8, tb_104) := rfl
theorem ma_104 : MA[104]? = some (yX8_neighboursOf, cX8_neighboursOf, 5, some FieldType.int, 8, tb_104) := rfl
theorem mt_105 : MT[105]? = some (yX8_writePlace, cX8_writePlace, 8, some FieldType.int, 8, tb_105) := rfl
theorem ma_105 : MA[105]? = some (yX8_writePlace, cX8_writePlace, 8, some FieldType.int, 8, tb_105) := rfl
theorem mt_106 : MT[106]? = some (yX8_keepState, cX8_keepState, 3, none, 8, tb_106) := rfl
theorem ma_106 : MA[106]? = some (yX8_keepState, cX8_keepState, 3, none, 8, tb_106) := rfl
theorem mt_107 : MT[107]? = some (yX9_init, cX9_init, 2, none, 9, tb_107) := rfl
theorem ma_107 : MA[107]? = some (yX9_init, cX9_init, 2, none, 9, tb_107) := rfl
theorem mt_108 : MT[108]? = some (yX9_in, cX9_in, 3, some FieldType.boolean, 9, tb_108) := rfl
theorem ma_108 : MA[108]? = some (yX9_in, cX9_in, 3, some FieldType.boolean, 9, tb_108) := rfl
theorem mt_109 : MT[109]? = some (yX9_isPage, cX9_isPage, 1, some FieldType.boolean, 9, tb_109) := rfl
theorem ma_109 : MA[109]? = some (yX9_isPage, cX9_isPage, 1, some FieldType.boolean, 9, tb_109) := rfl
theorem mt_110 : MT[110]? = some (yX9_size, cX9_size, 2, some FieldType.int, 9, tb_110) := rfl
theorem ma_110 : MA[110]? = some (yX9_size, cX9_size, 2, some FieldType.int, 9, tb_110) := rfl
theorem mt_111 : MT[111]? = some (yX9_hasSource, cX9_hasSource, 2, some FieldType.boolean, 9, tb_111) := rfl
theorem ma_111 : MA[111]? = some (yX9_hasSource, cX9_hasSource, 2, some FieldType.boolean, 9, tb_111) := rfl
theorem mt_112 : MT[112]? = some (yX9_sign, cX9_sign, 3, some FieldType.int, 9, tb_112) := rfl
theorem ma_112 : MA[112]? = some (yX9_sign, cX9_sign, 3, some FieldType.int, 9, tb_112) := rfl
theorem mt_113 : MT[113]? = some (yX9_put, cX9_put, 7, some FieldType.int, 9, tb_113) := rfl
theorem ma_113 : MA[113]? = some (yX9_put, cX9_put, 7, some FieldType.int, 9, tb_113) := rfl
theorem mt_114 : MT[114]? = some (yX9_wipe, cX9_wipe, 2, some FieldType.int, 9, tb_114) := rfl
theorem ma_114 : MA[114]? = some (yX9_wipe, cX9_wipe, 2, some FieldType.int, 9, tb_114) := rfl
theorem mt_115 : MT[115]? = some (yX9_next, cX9_next, 1, some FieldType.int, 9, tb_115) := rfl
theorem ma_115 : MA[115]? = some (yX9_next, cX9_next, 1, some FieldType.int, 9, tb_115) := rfl
theorem mt_116 : MT[116]? = some (yX9_isNext, cX9_isNext, 2, some FieldType.boolean, 9, tb_116) := rfl
theorem ma_116 : MA[116]? = some (yX9_isNext, cX9_isNext, 2, some FieldType.boolean, 9, tb_116) := rfl
theorem mt_117 : MT[117]? = some (yX9_isSmallNext, cX9_isSmallNext, 1, some FieldType.boolean, 9, tb_117) := rfl
theorem ma_117 : MA[117]? = some (yX9_isSmallNext, cX9_isSmallNext, 1, some FieldType.boolean, 9, tb_117) := rfl
theorem mt_118 : MT[118]? = some (yX9_isDigitNext, cX9_isDigitNext, 1, some FieldType.boolean, 9, tb_118) := rfl
theorem ma_118 : MA[118]? = some (yX9_isDigitNext, cX9_isDigitNext, 1, some FieldType.boolean, 9, tb_118) := rfl
theorem mt_119 : MT[119]? = some (yX9_keepSign, cX9_keepSign, 1, none, 9, tb_119) := rfl
theorem ma_119 : MA[119]? = some (yX9_keepSign, cX9_keepSign, 1, none, 9, tb_119) := rfl
theorem mt_120 : MT[120]? = some (yX9_readName, cX9_readName, 1, some FieldType.boolean, 9, tb_120) := rfl
theorem ma_120 : MA[120]? = some (yX9_readName, cX9_readName, 1, some FieldType.boolean, 9, tb_120) := rfl
theorem mt_121 : MT[121]? = some (yX9_readAnchor, cX9_readAnchor, 1, some FieldType.boolean, 9, tb_121) := rfl
theorem ma_121 : MA[121]? = some (yX9_readAnchor, cX9_readAnchor, 1, some FieldType.boolean, 9, tb_121) := rfl
theorem mt_122 : MT[122]? = some (yX9_readLetter, cX9_readLetter, 1, some FieldType.boolean, 9, tb_122) := rfl
theorem ma_122 : MA[122]? = some (yX9_readLetter, cX9_readLetter, 1, some FieldType.boolean, 9, tb_122) := rfl
theorem mt_123 : MT[123]? = some (yX9_readPlace, cX9_readPlace, 1, some FieldType.boolean, 9, tb_123) := rfl
theorem ma_123 : MA[123]? = some (yX9_readPlace, cX9_readPlace, 1, some FieldType.boolean, 9, tb_123) := rfl
theorem mt_124 : MT[124]? = some (yX9_readHeading, cX9_readHeading, 2, some FieldType.boolean, 9, tb_124) := rfl
theorem ma_124 : MA[124]? = some (yX9_readHeading, cX9_readHeading, 2, some FieldType.boolean, 9, tb_124) := rfl
theorem mt_125 : MT[125]? = some (yX9_readInclude, cX9_readInclude, 1, some FieldType.boolean, 9, tb_125) := rfl
theorem ma_125 : MA[125]? = some (yX9_readInclude, cX9_readInclude, 1, some FieldType.boolean, 9, tb_125) := rfl
theorem mt_126 : MT[126]? = some (yX9_readElement, cX9_readElement, 2, some FieldType.boolean, 9, tb_126) := rfl
theorem ma_126 : MA[126]? = some (yX9_readElement, cX9_readElement, 2, some FieldType.boolean, 9, tb_126) := rfl
theorem mt_127 : MT[127]? = some (yX9_readElements, cX9_readElements, 2, some FieldType.boolean, 9, tb_127) := rfl
theorem ma_127 : MA[127]? = some (yX9_readElements, cX9_readElements, 2, some FieldType.boolean, 9, tb_127) := rfl
theorem mt_128 : MT[128]? = some (yX9_readLine, cX9_readLine, 1, some FieldType.boolean, 9, tb_128) := rfl
theorem ma_128 : MA[128]? = some (yX9_readLine, cX9_readLine, 1, some FieldType.boolean, 9, tb_128) := rfl
theorem mt_129 : MT[129]? = some (yX9_faultOfPage, cX9_faultOfPage, 2, some FieldType.int, 9, tb_129) := rfl
theorem ma_129 : MA[129]? = some (yX9_faultOfPage, cX9_faultOfPage, 2, some FieldType.int, 9, tb_129) := rfl
theorem mt_130 : MT[130]? = some (yX9_readSide, cX9_readSide, 3, some FieldType.boolean, 9, tb_130) := rfl
theorem ma_130 : MA[130]? = some (yX9_readSide, cX9_readSide, 3, some FieldType.boolean, 9, tb_130) := rfl
theorem mt_131 : MT[131]? = some (yX9_faultOfRedirect, cX9_faultOfRedirect, 2, some FieldType.int, 9, tb_131) := rfl
theorem ma_131 : MA[131]? = some (yX9_faultOfRedirect, cX9_faultOfRedirect, 2, some FieldType.int, 9, tb_131) := rfl
theorem mt_132 : MT[132]? = some (yX9_fault, cX9_fault, 2, some FieldType.int, 9, tb_132) := rfl
theorem ma_132 : MA[132]? = some (yX9_fault, cX9_fault, 2, some FieldType.int, 9, tb_132) := rfl
theorem mt_133 : MT[133]? = some (yX9_putDown, cX9_putDown, 2, none, 9, tb_133) := rfl
theorem ma_133 : MA[133]? = some (yX9_putDown, cX9_putDown, 2, none, 9, tb_133) := rfl
theorem mt_134 : MT[134]? = some (yX9_undo, cX9_undo, 2, some FieldType.int, 9, tb_134) := rfl
theorem ma_134 : MA[134]? = some (yX9_undo, cX9_undo, 2, some FieldType.int, 9, tb_134) := rfl
theorem mt_135 : MT[135]? = some (yX9_areSameAnchors, cX9_areSameAnchors, 7, some FieldType.boolean, 9, tb_135) := rfl
theorem ma_135 : MA[135]? = some (yX9_areSameAnchors, cX9_areSameAnchors, 7, some FieldType.boolean, 9, tb_135) := rfl
theorem mt_136 : MT[136]? = some (yX9_remember, cX9_remember, 6, none, 9, tb_136) := rfl
theorem ma_136 : MA[136]? = some (yX9_remember, cX9_remember, 6, none, 9, tb_136) := rfl
theorem mt_137 : MT[137]? = some (yX9_dropEntry, cX9_dropEntry, 3, none, 9, tb_137) := rfl
theorem ma_137 : MA[137]? = some (yX9_dropEntry, cX9_dropEntry, 3, none, 9, tb_137) := rfl
theorem mt_138 : MT[138]? = some (yX9_forget, cX9_forget, 5, none, 9, tb_138) := rfl
theorem ma_138 : MA[138]? = some (yX9_forget, cX9_forget, 5, none, 9, tb_138) := rfl
theorem mt_139 : MT[139]? = some (yX9_linesOf, cX9_linesOf, 4, some FieldType.int, 9, tb_139) := rfl
theorem ma_139 : MA[139]? = some (yX9_linesOf, cX9_linesOf, 4, some FieldType.int, 9, tb_139) := rfl
theorem mt_140 : MT[140]? = some (yX9_load, cX9_load, 3, some FieldType.int, 9, tb_140) := rfl
theorem ma_140 : MA[140]? = some (yX9_load, cX9_load, 3, some FieldType.int, 9, tb_140) := rfl
theorem mt_141 : MT[141]? = some (yX9_sources, cX9_sources, 3, some FieldType.int, 9, tb_141) := rfl
theorem ma_141 : MA[141]? = some (yX9_sources, cX9_sources, 3, some FieldType.int, 9, tb_141) := rfl
theorem mt_142 : MT[142]? = some (yX9_remove, cX9_remove, 2, some FieldType.int, 9, tb_142) := rfl
theorem ma_142 : MA[142]? = some (yX9_remove, cX9_remove, 2, some FieldType.int, 9, tb_142) := rfl
theorem mt_143 : MT[143]? = some (yX9_character, cX9_character, 3, some FieldType.int, 9, tb_143) := rfl
theorem ma_143 : MA[143]? = some (yX9_character, cX9_character, 3, some FieldType.int, 9, tb_143) := rfl
theorem mt_144 : MT[144]? = some (yX9_anchorAt, cX9_anchorAt, 2, some FieldType.int, 9, tb_144) := rfl
theorem ma_144 : MA[144]? = some (yX9_anchorAt, cX9_anchorAt, 2, some FieldType.int, 9, tb_144) := rfl
theorem mt_145 : MT[145]? = some (yX9_linkAnchor, cX9_linkAnchor, 2, some FieldType.int, 9, tb_145) := rfl
theorem ma_145 : MA[145]? = some (yX9_linkAnchor, cX9_linkAnchor, 2, some FieldType.int, 9, tb_145) := rfl
theorem mt_146 : MT[146]? = some (yX9_lineEnd, cX9_lineEnd, 4, some FieldType.int, 9, tb_146) := rfl
theorem ma_146 : MA[146]? = some (yX9_lineEnd, cX9_lineEnd, 4, some FieldType.int, 9, tb_146) := rfl
theorem mt_147 : MT[147]? = some (yX9_keepAnchor, cX9_keepAnchor, 6, none, 9, tb_147) := rfl
theorem ma_147 : MA[147]? = some (yX9_keepAnchor, cX9_keepAnchor, 6, none, 9, tb_147) := rfl
theorem mt_148 : MT[148]? = some (yX9_keepLink, cX9_keepLink, 7, none, 9, tb_148) := rfl
theorem ma_148 : MA[148]? = some (yX9_keepLink, cX9_keepLink, 7, none, 9, tb_148) := rfl
theorem mt_149 : MT[149]? = some (yX9_layLinks, cX9_layLinks, 6, none, 9, tb_149) := rfl
theorem ma_149 : MA[149]? = some (yX9_layLinks, cX9_layLinks, 6, none, 9, tb_149) := rfl
theorem mt_150 : MT[150]? = some (yX9_digestLine, cX9_digestLine, 7, none, 9, tb_150) := rfl
theorem ma_150 : MA[150]? = some (yX9_digestLine, cX9_digestLine, 7, none, 9, tb_150) := rfl
theorem mt_151 : MT[151]? = some (yX9_layOwn, cX9_layOwn, 5, none, 9, tb_151) := rfl
theorem ma_151 : MA[151]? = some (yX9_layOwn, cX9_layOwn, 5, none, 9, tb_151) := rfl
theorem mt_152 : MT[152]? = some (yX9_push, cX9_push, 3, none, 9, tb_152) := rfl
theorem ma_152 : MA[152]? = some (yX9_push, cX9_push, 3, none, 9, tb_152) := rfl
theorem mt_153 : MT[153]? = some (yX9_namesakes, cX9_namesakes, 9, some FieldType.int, 9, tb_153) := rfl
theorem ma_153 : MA[153]? = some (yX9_namesakes, cX9_namesakes, 9, some FieldType.int, 9, tb_153) := rfl
theorem mt_154 : MT[154]? = some (yX9_appendSign, cX9_appendSign, 3, none, 9, tb_154) := rfl
theorem ma_154 : MA[154]? = some (yX9_appendSign, cX9_appendSign, 3, none, 9, tb_154) := rfl
theorem mt_155 : MT[155]? = some (yX9_keepHeading, cX9_keepHeading, 12, none, 9, tb_155) := rfl
theorem ma_155 : MA[155]? = some (yX9_keepHeading, cX9_keepHeading, 12, none, 9, tb_155) := rfl
theorem mt_156 : MT[156]? = some (yX9_layExpansion, cX9_layExpansion, 10, none, 9, tb_156) := rfl
theorem ma_156 : MA[156]? = some (yX9_layExpansion, cX9_layExpansion, 10, none, 9, tb_156) := rfl
theorem mt_157 : MT[157]? = some (yX9_layAll, cX9_layAll, 2, none, 9, tb_157) := rfl
theorem ma_157 : MA[157]? = some (yX9_layAll, cX9_layAll, 2, none, 9, tb_157) := rfl
theorem mt_158 : MT[158]? = some (yX9_about, cX9_about, 3, some FieldType.int, 9, tb_158) := rfl
theorem ma_158 : MA[158]? = some (yX9_about, cX9_about, 3, some FieldType.int, 9, tb_158) := rfl
theorem mt_159 : MT[159]? = some (yX9_isHeading, cX9_isHeading, 3, some FieldType.boolean, 9, tb_159) := rfl
theorem ma_159 : MA[159]? = some (yX9_isHeading, cX9_isHeading, 3, some FieldType.boolean, 9, tb_159) := rfl
theorem mt_160 : MT[160]? = some (yX9_heading, cX9_heading, 5, some FieldType.int, 9, tb_160) := rfl
theorem ma_160 : MA[160]? = some (yX9_heading, cX9_heading, 5, some FieldType.int, 9, tb_160) := rfl
theorem mt_161 : MT[161]? = some (yX9_anchor, cX9_anchor, 5, some FieldType.int, 9, tb_161) := rfl
theorem ma_161 : MA[161]? = some (yX9_anchor, cX9_anchor, 5, some FieldType.int, 9, tb_161) := rfl
theorem mt_162 : MT[162]? = some (yX9_section, cX9_section, 5, some FieldType.int, 9, tb_162) := rfl
theorem ma_162 : MA[162]? = some (yX9_section, cX9_section, 5, some FieldType.int, 9, tb_162) := rfl
theorem mt_163 : MT[163]? = some (yX9_included, cX9_included, 6, some FieldType.int, 9, tb_163) := rfl
theorem ma_163 : MA[163]? = some (yX9_included, cX9_included, 6, some FieldType.int, 9, tb_163) := rfl
theorem mt_164 : MT[164]? = some (yX9_cycles, cX9_cycles, 3, some FieldType.int, 9, tb_164) := rfl
theorem ma_164 : MA[164]? = some (yX9_cycles, cX9_cycles, 3, some FieldType.int, 9, tb_164) := rfl
theorem mt_165 : MT[165]? = some (yX9_turnAt, cX9_turnAt, 2, some FieldType.int, 9, tb_165) := rfl
theorem ma_165 : MA[165]? = some (yX9_turnAt, cX9_turnAt, 2, some FieldType.int, 9, tb_165) := rfl
theorem mt_166 : MT[166]? = some (yX9_turns, cX9_turns, 1, some FieldType.int, 9, tb_166) := rfl
theorem ma_166 : MA[166]? = some (yX9_turns, cX9_turns, 1, some FieldType.int, 9, tb_166) := rfl
theorem mt_167 : MT[167]? = some (yX9_areSamePlaces, cX9_areSamePlaces, 5, some FieldType.boolean, 9, tb_167) := rfl
theorem ma_167 : MA[167]? = some (yX9_areSamePlaces, cX9_areSamePlaces, 5, some FieldType.boolean, 9, tb_167) := rfl
theorem mt_168 : MT[168]? = some (yX9_redirect, cX9_redirect, 3, some FieldType.int, 9, tb_168) := rfl
theorem ma_168 : MA[168]? = some (yX9_redirect, cX9_redirect, 3, some FieldType.int, 9, tb_168) := rfl
theorem mt_169 : MT[169]? = some (yX9_isTurn, cX9_isTurn, 2, some FieldType.boolean, 9, tb_169) := rfl
theorem ma_169 : MA[169]? = some (yX9_isTurn, cX9_isTurn, 2, some FieldType.boolean, 9, tb_169) := rfl
theorem mt_170 : MT[170]? = some (yX9_unredirect, cX9_unredirect, 3, some FieldType.int, 9, tb_170) := rfl
theorem ma_170 : MA[170]? = some (yX9_unredirect, cX9_unredirect, 3, some FieldType.int, 9, tb_170) := rfl
theorem mt_171 : MT[171]? = some (yX9_redirection, cX9_redirection, 3, some FieldType.int, 9, tb_171) := rfl
theorem ma_171 : MA[171]? = some (yX9_redirection, cX9_redirection, 3, some FieldType.int, 9, tb_171) := rfl
theorem mt_172 : MT[172]? = some (yX9_headingWith, cX9_headingWith, 5, some FieldType.int, 9, tb_172) := rfl
theorem ma_172 : MA[172]? = some (yX9_headingWith, cX9_headingWith, 5, some FieldType.int, 9, tb_172) := rfl
theorem mt_173 : MT[173]? = some (yX9_wasHere, cX9_wasHere, 3, some FieldType.boolean, 9, tb_173) := rfl
theorem ma_173 : MA[173]? = some (yX9_wasHere, cX9_wasHere, 3, some FieldType.boolean, 9, tb_173) := rfl
theorem mt_174 : MT[174]? = some (yX9_isGood, cX9_isGood, 3, some FieldType.boolean, 9, tb_174) := rfl
theorem ma_174 : MA[174]? = some (yX9_isGood, cX9_isGood, 3, some FieldType.boolean, 9, tb_174) := rfl
theorem mt_175 : MT[175]? = some (yX9_turnFrom, cX9_turnFrom, 5, some FieldType.int, 9, tb_175) := rfl
theorem ma_175 : MA[175]? = some (yX9_turnFrom, cX9_turnFrom, 5, some FieldType.int, 9, tb_175) := rfl
theorem mt_176 : MT[176]? = some (yX9_go, cX9_go, 6, none, 9, tb_176) := rfl
theorem ma_176 : MA[176]? = some (yX9_go, cX9_go, 6, none, 9, tb_176) := rfl
theorem mt_177 : MT[177]? = some (yX9_resolve, cX9_resolve, 7, none, 9, tb_177) := rfl
theorem ma_177 : MA[177]? = some (yX9_resolve, cX9_resolve, 7, none, 9, tb_177) := rfl
theorem mt_178 : MT[178]? = some (yX9_isLink, cX9_isLink, 3, some FieldType.boolean, 9, tb_178) := rfl
theorem ma_178 : MA[178]? = some (yX9_isLink, cX9_isLink, 3, some FieldType.boolean, 9, tb_178) := rfl
theorem mt_179 : MT[179]? = some (yX9_link, cX9_link, 4, some FieldType.int, 9, tb_179) := rfl
theorem ma_179 : MA[179]? = some (yX9_link, cX9_link, 4, some FieldType.int, 9, tb_179) := rfl
theorem mt_180 : MT[180]? = some (yX9_followedBy, cX9_followedBy, 3, some FieldType.int, 9, tb_180) := rfl
theorem ma_180 : MA[180]? = some (yX9_followedBy, cX9_followedBy, 3, some FieldType.int, 9, tb_180) := rfl
theorem mt_181 : MT[181]? = some (yX9_tallyOf, cX9_tallyOf, 5, some FieldType.int, 9, tb_181) := rfl
theorem ma_181 : MA[181]? = some (yX9_tallyOf, cX9_tallyOf, 5, some FieldType.int, 9, tb_181) := rfl
theorem mt_182 : MT[182]? = some (yX9_tally, cX9_tally, 2, some FieldType.int, 9, tb_182) := rfl
theorem ma_182 : MA[182]? = some (yX9_tally, cX9_tally, 2, some FieldType.int, 9, tb_182) := rfl
theorem mt_183 : MT[183]? = some (yX9_reach, cX9_reach, 6, some FieldType.int, 9, tb_183) := rfl
theorem ma_183 : MA[183]? = some (yX9_reach, cX9_reach, 6, some FieldType.int, 9, tb_183) := rfl
theorem mt_184 : MT[184]? = some (yX9_endsOf, cX9_endsOf, 4, some FieldType.int, 9, tb_184) := rfl
theorem ma_184 : MA[184]? = some (yX9_endsOf, cX9_endsOf, 4, some FieldType.int, 9, tb_184) := rfl
theorem mt_185 : MT[185]? = some (yX9_alike, cX9_alike, 5, some FieldType.int, 9, tb_185) := rfl
theorem ma_185 : MA[185]? = some (yX9_alike, cX9_alike, 5, some FieldType.int, 9, tb_185) := rfl
theorem mt_186 : MT[186]? = some (yX9_memory, cX9_memory, 4, some FieldType.int, 9, tb_186) := rfl
theorem ma_186 : MA[186]? = some (yX9_memory, cX9_memory, 4, some FieldType.int, 9, tb_186) := rfl
theorem mt_187 : MT[187]? = some (yX9_lesser, cX9_lesser, 2, some FieldType.int, 9, tb_187) := rfl
theorem ma_187 : MA[187]? = some (yX9_lesser, cX9_lesser, 2, some FieldType.int, 9, tb_187) := rfl
theorem mt_188 : MT[188]? = some (yX9_changes, cX9_changes, 9, some FieldType.int, 9, tb_188) := rfl
theorem ma_188 : MA[188]? = some (yX9_changes, cX9_changes, 9, some FieldType.int, 9, tb_188) := rfl
theorem mt_189 : MT[189]? = some (yX9_remembered, cX9_remembered, 5, some FieldType.int, 9, tb_189) := rfl
theorem ma_189 : MA[189]? = some (yX9_remembered, cX9_remembered, 5, some FieldType.int, 9, tb_189) := rfl
theorem mt_190 : MT[190]? = some (yX9_isSectionWith, cX9_isSectionWith, 6, some FieldType.boolean, 9, tb_190) := rfl
theorem ma_190 : MA[190]? = some (yX9_isSectionWith, cX9_isSectionWith, 6, some FieldType.boolean, 9, tb_190) := rfl
theorem mt_191 : MT[191]? = some (yX9_offer, cX9_offer, 4, none, 9, tb_191) := rfl
theorem ma_191 : MA[191]? = some (yX9_offer, cX9_offer, 4, none, 9, tb_191) := rfl
theorem mt_192 : MT[192]? = some (yX9_layRepair, cX9_layRepair, 12, none, 9, tb_192) := rfl
theorem ma_192 : MA[192]? = some (yX9_layRepair, cX9_layRepair, 12, none, 9, tb_192) := rfl
theorem mt_193 : MT[193]? = some (yX9_isBroken, cX9_isBroken, 3, some FieldType.boolean, 9, tb_193) := rfl
theorem ma_193 : MA[193]? = some (yX9_isBroken, cX9_isBroken, 3, some FieldType.boolean, 9, tb_193) := rfl
theorem mt_194 : MT[194]? = some (yX9_repair, cX9_repair, 4, some FieldType.int, 9, tb_194) := rfl
theorem ma_194 : MA[194]? = some (yX9_repair, cX9_repair, 4, some FieldType.int, 9, tb_194) := rfl
theorem mt_195 : MT[195]? = some (yX9_say, cX9_say, 2, none, 9, tb_195) := rfl
theorem ma_195 : MA[195]? = some (yX9_say, cX9_say, 2, none, 9, tb_195) := rfl
theorem mt_196 : MT[196]? = some (yX9_layTarget, cX9_layTarget, 6, none, 9, tb_196) := rfl
theorem ma_196 : MA[196]? = some (yX9_layTarget, cX9_layTarget, 6, none, 9, tb_196) := rfl
theorem mt_197 : MT[197]? = some (yX9_fitsTarget, cX9_fitsTarget, 4, some FieldType.boolean, 9, tb_197) := rfl
theorem ma_197 : MA[197]? = some (yX9_fitsTarget, cX9_fitsTarget, 4, some FieldType.boolean, 9, tb_197) := rfl
theorem mt_198 : MT[198]? = some (yX9_writeTarget, cX9_writeTarget, 7, none, 9, tb_198) := rfl
theorem ma_198 : MA[198]? = some (yX9_writeTarget, cX9_writeTarget, 7, none, 9, tb_198) := rfl
theorem mt_199 : MT[199]? = some (yX9_mend, cX9_mend, 3, some FieldType.int, 9, tb_199) := rfl
theorem ma_199 : MA[199]? = some (yX9_mend, cX9_mend, 3, some FieldType.int, 9, tb_199) := rfl
theorem mt_200 : MT[200]? = some (yX9_mendAll, cX9_mendAll, 4, some FieldType.int, 9, tb_200) := rfl
theorem ma_200 : MA[200]? = some (yX9_mendAll, cX9_mendAll, 4, some FieldType.int, 9, tb_200) := rfl
theorem mt_201 : MT[201]? = some (yX9_straighten, cX9_straighten, 3, some FieldType.int, 9, tb_201) := rfl
theorem ma_201 : MA[201]? = some (yX9_straighten, cX9_straighten, 3, some FieldType.int, 9, tb_201) := rfl
theorem mt_202 : MT[202]? = some (yX9_count, cX9_count, 2, some FieldType.int, 9, tb_202) := rfl
theorem ma_202 : MA[202]? = some (yX9_count, cX9_count, 2, some FieldType.int, 9, tb_202) := rfl
theorem mt_203 : MT[203]? = some (yX9_linksOfAll, cX9_linksOfAll, 3, some FieldType.int, 9, tb_203) := rfl
theorem ma_203 : MA[203]? = some (yX9_linksOfAll, cX9_linksOfAll, 3, some FieldType.int, 9, tb_203) := rfl
theorem ma_204 : MA[204]? = some (x, cL_law, 4, some FieldType.boolean, 10, tb_204) := rfl
