/-! printed by wip/whole/links.py: every method's table is its code's, on -/
set_option maxRecDepth 100000 in
theorem zk_X9_list_t : zm_tb 9 cX9_list false (some .int) zt_X9_list = true := by decide +kernel
set_option maxRecDepth 100000 in
theorem zk_X9_list : zm_mok zm_ms (RX9, yX9_list, cX9_list, 3, (some .int), false, 2, 6, false, [4], zt_X9_list) := ⟨rfl, by decide +kernel, ⟨by decide +kernel, by decide +kernel⟩, zm_WL_in 765 rfl rfl, zm_WL_in 44 (by decide +kernel) rfl, by decide +kernel, (fun h => Bool.noConfusion h), (fun _ => ⟨zm_WL_in 763 (by decide +kernel) rfl, zm_WL_in 764 (by decide +kernel) rfl, TX9, 13, rfl⟩), by decide, zm_tb_ok rfl zk_X9_list_t⟩
set_option maxRecDepth 100000 in
theorem zk_X9_put_t : zm_tb 9 cX9_put false (some .int) zt_X9_put = true := by decide +kernel
set_option maxRecDepth 100000 in
theorem zk_X9_put : zm_mok zm_ms (RX9, yX9_put, cX9_put, 4, (some .int), false, 3, 6, false, [4, 27], zt_X9_put) := ⟨rfl, by decide +kernel, ⟨by decide +kernel, by decide +kernel⟩, zm_WL_in 769 rfl rfl, zm_WL_in 44 (by decide +kernel) rfl, by decide +kernel, (fun h => Bool.noConfusion h), (fun _ => ⟨zm_WL_in 767 (by decide +kernel) rfl, zm_WL_in 768 (by decide +kernel) rfl, TX9, 13, rfl⟩), by decide, zm_tb_ok rfl zk_X9_put_t⟩
set_option maxRecDepth 100000 in
theorem zk_X9_get_t : zm_tb 9 cX9_get false (some .long) zt_X9_get = true := by decide +kernel
set_option maxRecDepth 100000 in
theorem zk_X9_get : zm_mok zm_ms (RX9, yX9_get, cX9_get, 3, (some .long), false, 2, 6, false, [13], zt_X9_get) := ⟨rfl, by decide +kernel, ⟨by decide +kernel, by decide +kernel⟩, zm_WL_in 777 rfl rfl, zm_WL_in 44 (by decide +kernel) rfl, by decide +kernel, (fun h => Bool.noConfusion h), (fun _ => ⟨zm_WL_in 775 (by decide +kernel) rfl, zm_WL_in 776 (by decide +kernel) rfl, TX9, 13, rfl⟩), by decide, zm_tb_ok rfl zk_X9_get_t⟩
set_option maxRecDepth 100000 in
theorem zk_X9_image_t : zm_tb 9 cX9_image false (some .int) zt_X9_image = true := by decide +kernel
set_option maxRecDepth 100000 in
theorem zk_X9_image : zm_mok zm_ms (RX9, yX9_image, cX9_image, 1, (some .int), false, 0, 6, false, [11], zt_X9_image) := ⟨rfl, by decide +kernel, ⟨by decide +kernel, by decide +kernel⟩, zm_WL_in 781 rfl rfl, zm_WL_in 44 (by decide +kernel) rfl, by decide +kernel, (fun h => Bool.noConfusion h), (fun _ => ⟨zm_WL_in 779 (by decide +kernel) rfl, zm_WL_in 780 (by decide +kernel) rfl, TX9, 13, rfl⟩), by decide, zm_tb_ok rfl zk_X9_image_t⟩
set_option maxRecDepth 100000 in
theorem zk_X9_undo_t : zm_tb 9 cX9_undo false (some .int) zt_X9_undo = true := by decide +kernel
set_option maxRecDepth 100000 in
theorem zk_X9_undo : zm_mok zm_ms (RX9, yX9_undo, cX9_undo, 1, (some .int), false, 0, 6, false, [21], zt_X9_undo) := ⟨rfl, by decide +kernel, ⟨by decide +kernel, by decide +kernel⟩, zm_WL_in 791 rfl rfl, zm_WL_in 44 (by decide +kernel) rfl, by decide +kernel, (fun h => Bool.noConfusion h), (fun _ => ⟨zm_WL_in 789 (by decide +kernel) rfl, zm_WL_in 790 (by decide +kernel) rfl, TX9, 13, rfl⟩), by decide, zm_tb_ok rfl zk_X9_undo_t⟩
set_option maxRecDepth 100000 in
theorem zk_X9_count_t : zm_tb 9 cX9_count false (some .int) zt_X9_count = true := by decide +kernel
set_option maxRecDepth 100000 in
theorem zk_X9_count : zm_mok zm_ms (RX9, yX9_count, cX9_count, 2, (some .int), false, 1, 6, false, [], zt_X9_count) := ⟨rfl, by decide +kernel, ⟨by decide +kernel, by decide +kernel⟩, zm_WL_in 795 rfl rfl, zm_WL_in 44 (by decide +kernel) rfl, by decide +kernel, (fun h => Bool.noConfusion h), (fun _ => ⟨zm_WL_in 793 (by decide +kernel) rfl, zm_WL_in 794 (by decide +kernel) rfl, TX9, 13, rfl⟩), by decide, zm_tb_ok rfl zk_X9_count_t⟩
set_option maxRecDepth 100000 in
theorem zk_X9_trailLength_t : zm_tb 9 cX9_trailLength false (some .int) zt_X9_trailLength = true := by decide +kernel
set_option maxRecDepth 100000 in
theorem zk_X9_trailLength : zm_mok zm_ms (RX9, yX9_trailLength, cX9_trailLength, 6, (some .int), false, 2, 6, false, [9, 39], zt_X9_trailLength) := ⟨rfl, by decide +kernel, ⟨by decide +kernel, by decide +kernel⟩, zm_WL_in 419 rfl rfl, zm_WL_in 44 (by decide +kernel) rfl, by decide +kernel, (fun h => Bool.noConfusion h), (fun _ => ⟨zm_WL_in 418 (by decide +kernel) rfl, zm_WL_in 3 (by decide +kernel) rfl, TX9, 13, rfl⟩), by decide, zm_tb_ok rfl zk_X9_trailLength_t⟩
set_option maxRecDepth 100000 in
theorem zk_X9_isRacingField_t : zm_tb 9 cX9_isRacingField true (some .boolean) zt_X9_isRacingField = true := by decide +kernel
set_option maxRecDepth 100000 in
theorem zk_X9_isRacingField : zm_mok zm_ms (RX9, yX9_isRacingField, cX9_isRacingField, 3, (some .boolean), false, 1, 6, true, [17, 42], zt_X9_isRacingField) := ⟨rfl, by decide +kernel, ⟨by decide +kernel, by decide +kernel⟩, zm_WL_in 451 rfl rfl, zm_WL_in 44 (by decide +kernel) rfl, by decide +kernel, (fun h => Bool.noConfusion h), (fun _ => ⟨zm_WL_in 450 (by decide +kernel) rfl, zm_WL_in 5 (by decide +kernel) rfl, TX9, 13, rfl⟩), by decide, zm_tb_ok rfl zk_X9_isRacingField_t⟩
set_option maxRecDepth 100000 in
theorem zk_X9_placeInSet_t : zm_tb 9 cX9_placeInSet false (some .int) zt_X9_placeInSet = true := by decide +kernel
set_option maxRecDepth 100000 in
theorem zk_X9_placeInSet : zm_mok zm_ms (RX9, yX9_placeInSet, cX9_placeInSet, 2, (some .int), true, 2, 0, false, [], zt_X9_placeInSet) := ⟨rfl, by decide +kernel, ⟨by decide +kernel, by decide +kernel⟩, zm_WL_in 479 rfl rfl, zm_WL_in 44 (by decide +kernel) rfl, by decide +kernel, (fun _ => zm_WL_in 478 (by decide +kernel) rfl), (fun h => Bool.noConfusion h), by decide, zm_tb_ok rfl zk_X9_placeInSet_t⟩
set_option maxRecDepth 100000 in
theorem zk_X9_mostOfRow_t : zm_tb 9 cX9_mostOfRow false (some .int) zt_X9_mostOfRow = true := by decide +kernel
set_option maxRecDepth 100000 in
theorem zk_X9_mostOfRow : zm_mok zm_ms (RX9, yX9_mostOfRow, cX9_mostOfRow, 1, (some .int), true, 1, 0, false, [], zt_X9_mostOfRow) := ⟨rfl, by decide +kernel, ⟨by decide +kernel, by decide +kernel⟩, zm_WL_in 709 rfl rfl, zm_WL_in 44 (by decide +kernel) rfl, by decide +kernel, (fun _ => zm_WL_in 708 (by decide +kernel) rfl), (fun h => Bool.noConfusion h), by decide, zm_tb_ok rfl zk_X9_mostOfRow_t⟩
set_option maxRecDepth 100000 in
theorem zk_X9_writeStrip_t : zm_tb 9 cX9_writeStrip false (some .int) zt_X9_writeStrip = true := by decide +kernel
set_option maxRecDepth 100000 in
theorem zk_X9_writeStrip : zm_mok zm_ms (RX9, yX9_writeStrip, cX9_writeStrip, 2, (some .int), false, 0, 6, false, [16, 50], zt_X9_writeStrip) := ⟨rfl, by decide +kernel, ⟨by decide +kernel, by decide +kernel⟩, zm_WL_in 742 rfl rfl, zm_WL_in 44 (by decide +kernel) rfl, by decide +kernel, (fun h => Bool.noConfusion h), (fun _ => ⟨zm_WL_in 741 (by decide +kernel) rfl, zm_WL_in 11 (by decide +kernel) rfl, TX9, 13, rfl⟩), by decide, zm_tb_ok rfl zk_X9_writeStrip_t⟩
set_option maxRecDepth 100000 in
theorem zk_X9_writeWord_t : zm_tb 9 cX9_writeWord false (some .int) zt_X9_writeWord = true := by decide +kernel
set_option maxRecDepth 100000 in
theorem zk_X9_writeWord : zm_mok zm_ms (RX9, yX9_writeWord, cX9_writeWord, 3, (some .int), false, 1, 6, false, [5, 10, 37], zt_X9_writeWord) := ⟨rfl, by decide +kernel, ⟨by decide +kernel, by decide +kernel⟩, zm_WL_in 749 rfl rfl, zm_WL_in 44 (by decide +kernel) rfl, by decide +kernel, (fun h => Bool.noConfusion h), (fun _ => ⟨zm_WL_in 748 (by decide +kernel) rfl, zm_WL_in 12 (by decide +kernel) rfl, TX9, 13, rfl⟩), by decide, zm_tb_ok rfl zk_X9_writeWord_t⟩
set_option maxRecDepth 100000 in
theorem zk_X9_signOf_t : zm_tb 9 cX9_signOf false (some .int) zt_X9_signOf = true := by decide +kernel
set_option maxRecDepth 100000 in
theorem zk_X9_signOf : zm_mok zm_ms (RX9, yX9_signOf, cX9_signOf, 1, (some .int), true, 1, 0, false, [], zt_X9_signOf) := ⟨rfl, by decide +kernel, ⟨by decide +kernel, by decide +kernel⟩, zm_WL_in 745 rfl rfl, zm_WL_in 44 (by decide +kernel) rfl, by decide +kernel, (fun _ => zm_WL_in 744 (by decide +kernel) rfl), (fun h => Bool.noConfusion h), by decide, zm_tb_ok rfl zk_X9_signOf_t⟩
set_option maxRecDepth 100000 in
theorem zk_X9_hasList_t : zm_tb 9 cX9_hasList true (some .boolean) zt_X9_hasList = true := by decide +kernel
set_option maxRecDepth 100000 in
theorem zk_X9_hasList : zm_mok zm_ms (RX9, yX9_hasList, cX9_hasList, 1, (some .boolean), true, 1, 0, true, [], zt_X9_hasList) := ⟨rfl, by decide +kernel, ⟨by decide +kernel, by decide +kernel⟩, zm_WL_in 761 rfl rfl, zm_WL_in 44 (by decide +kernel) rfl, by decide +kernel, (fun _ => zm_WL_in 760 (by decide +kernel) rfl), (fun h => Bool.noConfusion h), by decide, zm_tb_ok rfl zk_X9_hasList_t⟩
set_option maxRecDepth 100000 in
theorem zk_X9_hasListPlace_t : zm_tb 9 cX9_hasListPlace true (some .boolean) zt_X9_hasListPlace = true := by decide +kernel
set_option maxRecDepth 100000 in
theorem zk_X9_hasListPlace : zm_mok zm_ms (RX9, yX9_hasListPlace, cX9_hasListPlace, 3, (some .boolean), false, 2, 6, true, [], zt_X9_hasListPlace) := ⟨rfl, by decide +kernel, ⟨by decide +kernel, by decide +kernel⟩, zm_WL_in 773 rfl rfl, zm_WL_in 44 (by decide +kernel) rfl, by decide +kernel, (fun h => Bool.noConfusion h), (fun _ => ⟨zm_WL_in 772 (by decide +kernel) rfl, zm_WL_in 13 (by decide +kernel) rfl, TX9, 13, rfl⟩), by decide, zm_tb_ok rfl zk_X9_hasListPlace_t⟩
set_option maxRecDepth 100000 in
theorem zk_X10_in_t : zm_tb 10 cX10_in true (some .boolean) zt_X10_in = true := by decide +kernel
set_option maxRecDepth 100000 in
theorem zk_X10_in : zm_mok zm_ms (RX10, yX10_in, cX10_in, 3, (some .boolean), true, 3, 0, true, [], zt_X10_in) := ⟨rfl, by decide +kernel, ⟨by decide +kernel, by decide +kernel⟩, zm_WL_in 897 rfl rfl, zm_WL_in 52 (by decide +kernel) rfl, by decide +kernel, (fun _ => zm_WL_in 896 (by decide +kernel) rfl), (fun h => Bool.noConfusion h), by decide, zm_tb_ok rfl zk_X10_in_t⟩
set_option maxRecDepth 100000 in
theorem zk_X10_isWord_t : zm_tb 10 cX10_isWord true (some .boolean) zt_X10_isWord = true := by decide +kernel
set_option maxRecDepth 100000 in
theorem zk_X10_isWord : zm_mok zm_ms (RX10, yX10_isWord, cX10_isWord, 2, (some .boolean), false, 1, 7, true, [], zt_X10_isWord) := ⟨rfl, by decide +kernel, ⟨by decide +kernel, by decide +kernel⟩, zm_WL_in 924 rfl rfl, zm_WL_in 52 (by decide +kernel) rfl, by decide +kernel, (fun h => Bool.noConfusion h), (fun _ => ⟨zm_WL_in 923 (by decide +kernel) rfl, zm_WL_in 16 (by decide +kernel) rfl, TX10, 29, rfl⟩), by decide, zm_tb_ok rfl zk_X10_isWord_t⟩
set_option maxRecDepth 100000 in
theorem zk_X10_isPart_t : zm_tb 10 cX10_isPart true (some .boolean) zt_X10_isPart = true := by decide +kernel
set_option maxRecDepth 100000 in
theorem zk_X10_isPart : zm_mok zm_ms (RX10, yX10_isPart, cX10_isPart, 1, (some .boolean), true, 1, 0, true, [], zt_X10_isPart) := ⟨rfl, by decide +kernel, ⟨by decide +kernel, by decide +kernel⟩, zm_WL_in 976 rfl rfl, zm_WL_in 52 (by decide +kernel) rfl, by decide +kernel, (fun _ => zm_WL_in 975 (by decide +kernel) rfl), (fun h => Bool.noConfusion h), by decide, zm_tb_ok rfl zk_X10_isPart_t⟩
set_option maxRecDepth 100000 in
theorem zk_X10_isList_t : zm_tb 10 cX10_isList true (some .boolean) zt_X10_isList = true := by decide +kernel
set_option maxRecDepth 100000 in
theorem zk_X10_isList : zm_mok zm_ms (RX10, yX10_isList, cX10_isList, 1, (some .boolean), true, 1, 0, true, [], zt_X10_isList) := ⟨rfl, by decide +kernel, ⟨by decide +kernel, by decide +kernel⟩, zm_WL_in 1194 rfl rfl, zm_WL_in 52 (by decide +kernel) rfl, by decide +kernel, (fun _ => zm_WL_in 1193 (by decide +kernel) rfl), (fun h => Bool.noConfusion h), by decide, zm_tb_ok rfl zk_X10_isList_t⟩
set_option maxRecDepth 100000 in
theorem zk_X10_ten_t : zm_tb 10 cX10_ten false (some .int) zt_X10_ten = true := by decide +kernel
set_option maxRecDepth 100000 in
theorem zk_X10_ten : zm_mok zm_ms (RX10, yX10_ten, cX10_ten, 3, (some .int), true, 1, 0, false, [4], zt_X10_ten) := ⟨rfl, by decide +kernel, ⟨by decide +kernel, by decide +kernel⟩, zm_WL_in 946 rfl rfl, zm_WL_in 52 (by decide +kernel) rfl, by decide +kernel, (fun _ => zm_WL_in 945 (by decide +kernel) rfl), (fun h => Bool.noConfusion h), by decide, zm_tb_ok rfl zk_X10_ten_t⟩
set_option maxRecDepth 100000 in
theorem zk_X10_sizeOf_t : zm_tb 10 cX10_sizeOf false (some .int) zt_X10_sizeOf = true := by decide +kernel
set_option maxRecDepth 100000 in
theorem zk_X10_sizeOf : zm_mok zm_ms (RX10, yX10_sizeOf, cX10_sizeOf, 3, (some .int), true, 1, 0, false, [4], zt_X10_sizeOf) := ⟨rfl, by decide +kernel, ⟨by decide +kernel, by decide +kernel⟩, zm_WL_in 931 rfl rfl, zm_WL_in 52 (by decide +kernel) rfl, by decide +kernel, (fun _ => zm_WL_in 930 (by decide +kernel) rfl), (fun h => Bool.noConfusion h), by decide, zm_tb_ok rfl zk_X10_sizeOf_t⟩
set_option maxRecDepth 100000 in
theorem zk_X10_letterOf_t : zm_tb 10 cX10_letterOf false (some .int) zt_X10_letterOf = true := by decide +kernel
set_option maxRecDepth 100000 in
theorem zk_X10_letterOf : zm_mok zm_ms (RX10, yX10_letterOf, cX10_letterOf, 2, (some .int), true, 2, 0, false, [], zt_X10_letterOf) := ⟨rfl, by decide +kernel, ⟨by decide +kernel, by decide +kernel⟩, zm_WL_in 1051 rfl rfl, zm_WL_in 52 (by decide +kernel) rfl, by decide +kernel, (fun _ => zm_WL_in 1050 (by decide +kernel) rfl), (fun h => Bool.noConfusion h), by decide, zm_tb_ok rfl zk_X10_letterOf_t⟩
set_option maxRecDepth 100000 in
theorem zk_X10_hasThird_t : zm_tb 10 cX10_hasThird true (some .boolean) zt_X10_hasThird = true := by decide +kernel
set_option maxRecDepth 100000 in
theorem zk_X10_hasThird : zm_mok zm_ms (RX10, yX10_hasThird, cX10_hasThird, 2, (some .boolean), true, 1, 0, true, [2], zt_X10_hasThird) := ⟨rfl, by decide +kernel, ⟨by decide +kernel, by decide +kernel⟩, zm_WL_in 900 rfl rfl, zm_WL_in 52 (by decide +kernel) rfl, by decide +kernel, (fun _ => zm_WL_in 899 (by decide +kernel) rfl), (fun h => Bool.noConfusion h), by decide, zm_tb_ok rfl zk_X10_hasThird_t⟩
set_option maxRecDepth 100000 in
theorem zk_X10_isSuch_t : zm_tb 10 cX10_isSuch true (some .boolean) zt_X10_isSuch = true := by decide +kernel
set_option maxRecDepth 100000 in
theorem zk_X10_isSuch : zm_mok zm_ms (RX10, yX10_isSuch, cX10_isSuch, 3, (some .boolean), false, 1, 7, true, [17], zt_X10_isSuch) := ⟨rfl, by decide +kernel, ⟨by decide +kernel, by decide +kernel⟩, zm_WL_in 928 rfl rfl, zm_WL_in 52 (by decide +kernel) rfl, by decide +kernel, (fun h => Bool.noConfusion h), (fun _ => ⟨zm_WL_in 927 (by decide +kernel) rfl, zm_WL_in 17 (by decide +kernel) rfl, TX10, 29, rfl⟩), by decide, zm_tb_ok rfl zk_X10_isSuch_t⟩
set_option maxRecDepth 100000 in
theorem zk_X10_on_t : zm_tb 10 cX10_on false (some .int) zt_X10_on = true := by decide +kernel
set_option maxRecDepth 100000 in
theorem zk_X10_on : zm_mok zm_ms (RX10, yX10_on, cX10_on, 2, (some .int), false, 1, 7, false, [], zt_X10_on) := ⟨rfl, by decide +kernel, ⟨by decide +kernel, by decide +kernel⟩, zm_WL_in 1134 rfl rfl, zm_WL_in 52 (by decide +kernel) rfl, by decide +kernel, (fun h => Bool.noConfusion h), (fun _ => ⟨zm_WL_in 1133 (by decide +kernel) rfl, zm_WL_in 38 (by decide +kernel) rfl, TX10, 29, rfl⟩), by decide, zm_tb_ok rfl zk_X10_on_t⟩
set_option maxRecDepth 100000 in
theorem zk_X10_overlap_t : zm_tb 10 cX10_overlap false (some .int) zt_X10_overlap = true := by decide +kernel
set_option maxRecDepth 100000 in
theorem zk_X10_overlap : zm_mok zm_ms (RX10, yX10_overlap, cX10_overlap, 6, (some .int), true, 2, 0, false, [20], zt_X10_overlap) := ⟨rfl, by decide +kernel, ⟨by decide +kernel, by decide +kernel⟩, zm_WL_in 942 rfl rfl, zm_WL_in 52 (by decide +kernel) rfl, by decide +kernel, (fun _ => zm_WL_in 941 (by decide +kernel) rfl), (fun h => Bool.noConfusion h), by decide, zm_tb_ok rfl zk_X10_overlap_t⟩
set_option maxRecDepth 100000 in
theorem zk_X10_numberOf_t : zm_tb 10 cX10_numberOf false (some .int) zt_X10_numberOf = true := by decide +kernel
set_option maxRecDepth 100000 in
theorem zk_X10_numberOf : zm_mok zm_ms (RX10, yX10_numberOf, cX10_numberOf, 7, (some .int), false, 2, 7, false, [15], zt_X10_numberOf) := ⟨rfl, by decide +kernel, ⟨by decide +kernel, by decide +kernel⟩, zm_WL_in 939 rfl rfl, zm_WL_in 52 (by decide +kernel) rfl, by decide +kernel, (fun h => Bool.noConfusion h), (fun _ => ⟨zm_WL_in 938 (by decide +kernel) rfl, zm_WL_in 18 (by decide +kernel) rfl, TX10, 29, rfl⟩), by decide, zm_tb_ok rfl zk_X10_numberOf_t⟩
set_option maxRecDepth 100000 in
theorem zk_X10_stands_t : zm_tb 10 cX10_stands true (some .boolean) zt_X10_stands = true := by decide +kernel
set_option maxRecDepth 100000 in
theorem zk_X10_stands : zm_mok zm_ms (RX10, yX10_stands, cX10_stands, 4, (some .boolean), true, 2, 0, true, [10], zt_X10_stands) := ⟨rfl, by decide +kernel, ⟨by decide +kernel, by decide +kernel⟩, zm_WL_in 969 rfl rfl, zm_WL_in 52 (by decide +kernel) rfl, by decide +kernel, (fun _ => zm_WL_in 968 (by decide +kernel) rfl), (fun h => Bool.noConfusion h), by decide, zm_tb_ok rfl zk_X10_stands_t⟩
set_option maxRecDepth 100000 in
theorem zk_X10_areApart_t : zm_tb 10 cX10_areApart true (some .boolean) zt_X10_areApart = true := by decide +kernel
set_option maxRecDepth 100000 in
theorem zk_X10_areApart : zm_mok zm_ms (RX10, yX10_areApart, cX10_areApart, 2, (some .boolean), true, 2, 0, true, [], zt_X10_areApart) := ⟨rfl, by decide +kernel, ⟨by decide +kernel, by decide +kernel⟩, zm_WL_in 979 rfl rfl, zm_WL_in 52 (by decide +kernel) rfl, by decide +kernel, (fun _ => zm_WL_in 978 (by decide +kernel) rfl), (fun h => Bool.noConfusion h), by decide, zm_tb_ok rfl zk_X10_areApart_t⟩
set_option maxRecDepth 100000 in
theorem zk_X10_weight_t : zm_tb 10 cX10_weight false (some .int) zt_X10_weight = true := by decide +kernel
set_option maxRecDepth 100000 in
theorem zk_X10_weight : zm_mok zm_ms (RX10, yX10_weight, cX10_weight, 3, (some .int), false, 2, 7, false, [], zt_X10_weight) := ⟨rfl, by decide +kernel, ⟨by decide +kernel, by decide +kernel⟩, zm_WL_in 954 rfl rfl, zm_WL_in 52 (by decide +kernel) rfl, by decide +kernel, (fun h => Bool.noConfusion h), (fun _ => ⟨zm_WL_in 953 (by decide +kernel) rfl, zm_WL_in 20 (by decide +kernel) rfl, TX10, 29, rfl⟩), by decide, zm_tb_ok rfl zk_X10_weight_t⟩
set_option maxRecDepth 100000 in
theorem zk_X10_beats_t : zm_tb 10 cX10_beats true (some .boolean) zt_X10_beats = true := by decide +kernel
set_option maxRecDepth 100000 in
theorem zk_X10_beats : zm_mok zm_ms (RX10, yX10_beats, cX10_beats, 3, (some .boolean), false, 2, 7, true, [], zt_X10_beats) := ⟨rfl, by decide +kernel, ⟨by decide +kernel, by decide +kernel⟩, zm_WL_in 1007 rfl rfl, zm_WL_in 52 (by decide +kernel) rfl, by decide +kernel, (fun h => Bool.noConfusion h), (fun _ => ⟨zm_WL_in 1006 (by decide +kernel) rfl, zm_WL_in 23 (by decide +kernel) rfl, TX10, 29, rfl⟩), by decide, zm_tb_ok rfl zk_X10_beats_t⟩
set_option maxRecDepth 100000 in
theorem zk_X10_bestAnswer_t : zm_tb 10 cX10_bestAnswer false (some .int) zt_X10_bestAnswer = true := by decide +kernel
set_option maxRecDepth 100000 in
theorem zk_X10_bestAnswer : zm_mok zm_ms (RX10, yX10_bestAnswer, cX10_bestAnswer, 9, (some .int), false, 1, 7, false, [16], zt_X10_bestAnswer) := ⟨rfl, by decide +kernel, ⟨by decide +kernel, by decide +kernel⟩, zm_WL_in 950 rfl rfl, zm_WL_in 52 (by decide +kernel) rfl, by decide +kernel, (fun h => Bool.noConfusion h), (fun _ => ⟨zm_WL_in 949 (by decide +kernel) rfl, zm_WL_in 19 (by decide +kernel) rfl, TX10, 29, rfl⟩), by decide, zm_tb_ok rfl zk_X10_bestAnswer_t⟩
set_option maxRecDepth 100000 in
theorem zk_X10_lowest_t : zm_tb 10 cX10_lowest false (some .long) zt_X10_lowest = true := by decide +kernel
set_option maxRecDepth 100000 in
theorem zk_X10_lowest : zm_mok zm_ms (RX10, yX10_lowest, cX10_lowest, 11, (some .long), true, 3, 0, false, [28], zt_X10_lowest) := ⟨rfl, by decide +kernel, ⟨by decide +kernel, by decide +kernel⟩, zm_WL_in 987 rfl rfl, zm_WL_in 52 (by decide +kernel) rfl, by decide +kernel, (fun _ => zm_WL_in 986 (by decide +kernel) rfl), (fun h => Bool.noConfusion h), by decide, zm_tb_ok rfl zk_X10_lowest_t⟩
set_option maxRecDepth 100000 in
theorem zk_X10_chanceOf_t : zm_tb 10 cX10_chanceOf false (some .long) zt_X10_chanceOf = true := by decide +kernel
set_option maxRecDepth 100000 in
theorem zk_X10_chanceOf : zm_mok zm_ms (RX10, yX10_chanceOf, cX10_chanceOf, 5, (some .long), false, 3, 7, false, [], zt_X10_chanceOf) := ⟨rfl, by decide +kernel, ⟨by decide +kernel, by decide +kernel⟩, zm_WL_in 984 rfl rfl, zm_WL_in 52 (by decide +kernel) rfl, by decide +kernel, (fun h => Bool.noConfusion h), (fun _ => ⟨zm_WL_in 983 (by decide +kernel) rfl, zm_WL_in 21 (by decide +kernel) rfl, TX10, 29, rfl⟩), by decide, zm_tb_ok rfl zk_X10_chanceOf_t⟩
set_option maxRecDepth 100000 in
theorem zk_X10_sides_t : zm_tb 10 cX10_sides false (some .int) zt_X10_sides = true := by decide +kernel
set_option maxRecDepth 100000 in
theorem zk_X10_sides : zm_mok zm_ms (RX10, yX10_sides, cX10_sides, 3, (some .int), false, 1, 7, false, [6, 19, 50], zt_X10_sides) := ⟨rfl, by decide +kernel, ⟨by decide +kernel, by decide +kernel⟩, zm_WL_in 894 rfl rfl, zm_WL_in 52 (by decide +kernel) rfl, by decide +kernel, (fun h => Bool.noConfusion h), (fun _ => ⟨zm_WL_in 892 (by decide +kernel) rfl, zm_WL_in 893 (by decide +kernel) rfl, TX10, 29, rfl⟩), by decide, zm_tb_ok rfl zk_X10_sides_t⟩
set_option maxRecDepth 100000 in
theorem zk_X10_feed_t : zm_tb 10 cX10_feed false (some .int) zt_X10_feed = true := by decide +kernel
set_option maxRecDepth 100000 in
theorem zk_X10_feed : zm_mok zm_ms (RX10, yX10_feed, cX10_feed, 2, (some .int), false, 1, 7, false, [7], zt_X10_feed) := ⟨rfl, by decide +kernel, ⟨by decide +kernel, by decide +kernel⟩, zm_WL_in 904 rfl rfl, zm_WL_in 52 (by decide +kernel) rfl, by decide +kernel, (fun h => Bool.noConfusion h), (fun _ => ⟨zm_WL_in 902 (by decide +kernel) rfl, zm_WL_in 903 (by decide +kernel) rfl, TX10, 29, rfl⟩), by decide, zm_tb_ok rfl zk_X10_feed_t⟩
set_option maxRecDepth 100000 in
theorem zk_X10_sign_t : zm_tb 10 cX10_sign false (some .int) zt_X10_sign = true := by decide +kernel
set_option maxRecDepth 100000 in
theorem zk_X10_sign : zm_mok zm_ms (RX10, yX10_sign, cX10_sign, 2, (some .int), false, 1, 7, false, [], zt_X10_sign) := ⟨rfl, by decide +kernel, ⟨by decide +kernel, by decide +kernel⟩, zm_WL_in 916 rfl rfl, zm_WL_in 52 (by decide +kernel) rfl, by decide +kernel, (fun h => Bool.noConfusion h), (fun _ => ⟨zm_WL_in 915 (by decide +kernel) rfl, zm_WL_in 15 (by decide +kernel) rfl, TX10, 29, rfl⟩), by decide, zm_tb_ok rfl zk_X10_sign_t⟩
set_option maxRecDepth 100000 in
theorem zk_X10_reads_t : zm_tb 10 cX10_reads false (some .int) zt_X10_reads = true := by decide +kernel
set_option maxRecDepth 100000 in
theorem zk_X10_reads : zm_mok zm_ms (RX10, yX10_reads, cX10_reads, 8, (some .int), false, 0, 7, false, [4, 9, 14, 28, 105], zt_X10_reads) := ⟨rfl, by decide +kernel, ⟨by decide +kernel, by decide +kernel⟩, zm_WL_in 912 rfl rfl, zm_WL_in 52 (by decide +kernel) rfl, by decide +kernel, (fun h => Bool.noConfusion h), (fun _ => ⟨zm_WL_in 911 (by decide +kernel) rfl, zm_WL_in 14 (by decide +kernel) rfl, TX10, 29, rfl⟩), by decide, zm_tb_ok rfl zk_X10_reads_t⟩
set_option maxRecDepth 100000 in
theorem zk_X10_words_t : zm_tb 10 cX10_words false (some .int) zt_X10_words = true := by decide +kernel
set_option maxRecDepth 100000 in
theorem zk_X10_words : zm_mok zm_ms (RX10, yX10_words, cX10_words, 3, (some .int), false, 0, 7, false, [4, 32], zt_X10_words) := ⟨rfl, by decide +kernel, ⟨by decide +kernel, by decide +kernel⟩, zm_WL_in 908 rfl rfl, zm_WL_in 52 (by decide +kernel) rfl, by decide +kernel, (fun h => Bool.noConfusion h), (fun _ => ⟨zm_WL_in 906 (by decide +kernel) rfl, zm_WL_in 907 (by decide +kernel) rfl, TX10, 29, rfl⟩), by decide, zm_tb_ok rfl zk_X10_words_t⟩
set_option maxRecDepth 100000 in
theorem zk_X10_becomes_t : zm_tb 10 cX10_becomes false (some .int) zt_X10_becomes = true := by decide +kernel
set_option maxRecDepth 100000 in
theorem zk_X10_becomes : zm_mok zm_ms (RX10, yX10_becomes, cX10_becomes, 4, (some .int), false, 2, 7, false, [15], zt_X10_becomes) := ⟨rfl, by decide +kernel, ⟨by decide +kernel, by decide +kernel⟩, zm_WL_in 920 rfl rfl, zm_WL_in 52 (by decide +kernel) rfl, by decide +kernel, (fun h => Bool.noConfusion h), (fun _ => ⟨zm_WL_in 918 (by decide +kernel) rfl, zm_WL_in 919 (by decide +kernel) rfl, TX10, 29, rfl⟩), by decide, zm_tb_ok rfl zk_X10_becomes_t⟩
set_option maxRecDepth 100000 in
theorem zk_X10_of_t : zm_tb 10 cX10_of false (some .int) zt_X10_of = true := by decide +kernel
set_option maxRecDepth 100000 in
theorem zk_X10_of : zm_mok zm_ms (RX10, yX10_of, cX10_of, 4, (some .int), false, 2, 7, false, [5], zt_X10_of) := ⟨rfl, by decide +kernel, ⟨by decide +kernel, by decide +kernel⟩, zm_WL_in 935 rfl rfl, zm_WL_in 52 (by decide +kernel) rfl, by decide +kernel, (fun h => Bool.noConfusion h), (fun _ => ⟨zm_WL_in 933 (by decide +kernel) rfl, zm_WL_in 934 (by decide +kernel) rfl, TX10, 29, rfl⟩), by decide, zm_tb_ok rfl zk_X10_of_t⟩
set_option maxRecDepth 100000 in
theorem zk_X10_overlaps_t : zm_tb 10 cX10_overlaps false (some .int) zt_X10_overlaps = true := by decide +kernel
set_option maxRecDepth 100000 in
theorem zk_X10_overlaps : zm_mok zm_ms (RX10, yX10_overlaps, cX10_overlaps, 3, (some .int), false, 2, 7, false, [13], zt_X10_overlaps) := ⟨rfl, by decide +kernel, ⟨by decide +kernel, by decide +kernel⟩, zm_WL_in 958 rfl rfl, zm_WL_in 52 (by decide +kernel) rfl, by decide +kernel, (fun h => Bool.noConfusion h), (fun _ => ⟨zm_WL_in 956 (by decide +kernel) rfl, zm_WL_in 957 (by decide +kernel) rfl, TX10, 29, rfl⟩), by decide, zm_tb_ok rfl zk_X10_overlaps_t⟩
set_option maxRecDepth 100000 in
theorem zk_X10_number_t : zm_tb 10 cX10_number false (some .int) zt_X10_number = true := by decide +kernel
set_option maxRecDepth 100000 in
theorem zk_X10_number : zm_mok zm_ms (RX10, yX10_number, cX10_number, 3, (some .int), false, 2, 7, false, [13], zt_X10_number) := ⟨rfl, by decide +kernel, ⟨by decide +kernel, by decide +kernel⟩, zm_WL_in 962 rfl rfl, zm_WL_in 52 (by decide +kernel) rfl, by decide +kernel, (fun h => Bool.noConfusion h), (fun _ => ⟨zm_WL_in 960 (by decide +kernel) rfl, zm_WL_in 961 (by decide +kernel) rfl, TX10, 29, rfl⟩), by decide, zm_tb_ok rfl zk_X10_number_t⟩
set_option maxRecDepth 100000 in
theorem zk_X10_isIn_t : zm_tb 10 cX10_isIn false (some .int) zt_X10_isIn = true := by decide +kernel
set_option maxRecDepth 100000 in
theorem zk_X10_isIn : zm_mok zm_ms (RX10, yX10_isIn, cX10_isIn, 3, (some .int), false, 2, 7, false, [13], zt_X10_isIn) := ⟨rfl, by decide +kernel, ⟨by decide +kernel, by decide +kernel⟩, zm_WL_in 966 rfl rfl, zm_WL_in 52 (by decide +kernel) rfl, by decide +kernel, (fun h => Bool.noConfusion h), (fun _ => ⟨zm_WL_in 964 (by decide +kernel) rfl, zm_WL_in 965 (by decide +kernel) rfl, TX10, 29, rfl⟩), by decide, zm_tb_ok rfl zk_X10_isIn_t⟩
set_option maxRecDepth 100000 in
theorem zk_X10_chance_t : zm_tb 10 cX10_chance false (some .long) zt_X10_chance = true := by decide +kernel
set_option maxRecDepth 100000 in
theorem zk_X10_chance : zm_mok zm_ms (RX10, yX10_chance, cX10_chance, 4, (some .long), false, 3, 7, false, [20, 38], zt_X10_chance) := ⟨rfl, by decide +kernel, ⟨by decide +kernel, by decide +kernel⟩, zm_WL_in 973 rfl rfl, zm_WL_in 52 (by decide +kernel) rfl, by decide +kernel, (fun h => Bool.noConfusion h), (fun _ => ⟨zm_WL_in 971 (by decide +kernel) rfl, zm_WL_in 972 (by decide +kernel) rfl, TX10, 29, rfl⟩), by decide, zm_tb_ok rfl zk_X10_chance_t⟩
set_option maxRecDepth 100000 in
theorem zk_X10_answered_t : zm_tb 10 cX10_answered false (some .long) zt_X10_answered = true := by decide +kernel
set_option maxRecDepth 100000 in
theorem zk_X10_answered : zm_mok zm_ms (RX10, yX10_answered, cX10_answered, 4, (some .long), false, 2, 7, false, [12], zt_X10_answered) := ⟨rfl, by decide +kernel, ⟨by decide +kernel, by decide +kernel⟩, zm_WL_in 991 rfl rfl, zm_WL_in 52 (by decide +kernel) rfl, by decide +kernel, (fun h => Bool.noConfusion h), (fun _ => ⟨zm_WL_in 989 (by decide +kernel) rfl, zm_WL_in 990 (by decide +kernel) rfl, TX10, 29, rfl⟩), by decide, zm_tb_ok rfl zk_X10_answered_t⟩
set_option maxRecDepth 100000 in
theorem zk_X10_trail_t : zm_tb 10 cX10_trail false (some .int) zt_X10_trail = true := by decide +kernel
set_option maxRecDepth 100000 in
theorem zk_X10_trail : zm_mok zm_ms (RX10, yX10_trail, cX10_trail, 6, (some .int), false, 2, 7, false, [14, 29, 32], zt_X10_trail) := ⟨rfl, by decide +kernel, ⟨by decide +kernel, by decide +kernel⟩, zm_WL_in 995 rfl rfl, zm_WL_in 52 (by decide +kernel) rfl, by decide +kernel, (fun h => Bool.noConfusion h), (fun _ => ⟨zm_WL_in 993 (by decide +kernel) rfl, zm_WL_in 994 (by decide +kernel) rfl, TX10, 29, rfl⟩), by decide, zm_tb_ok rfl zk_X10_trail_t⟩
set_option maxRecDepth 100000 in
theorem zk_X10_rings_t : zm_tb 10 cX10_rings true (some .boolean) zt_X10_rings = true := by decide +kernel
set_option maxRecDepth 100000 in
theorem zk_X10_rings : zm_mok zm_ms (RX10, yX10_rings, cX10_rings, 6, (some .boolean), false, 2, 7, true, [36, 84], zt_X10_rings) := ⟨rfl, by decide +kernel, ⟨by decide +kernel, by decide +kernel⟩, zm_WL_in 1003 rfl rfl, zm_WL_in 52 (by decide +kernel) rfl, by decide +kernel, (fun h => Bool.noConfusion h), (fun _ => ⟨zm_WL_in 1002 (by decide +kernel) rfl, zm_WL_in 22 (by decide +kernel) rfl, TX10, 29, rfl⟩), by decide, zm_tb_ok rfl zk_X10_rings_t⟩
set_option maxRecDepth 100000 in
theorem zk_X10_ring_t : zm_tb 10 cX10_ring false (some .int) zt_X10_ring = true := by decide +kernel
set_option maxRecDepth 100000 in
theorem zk_X10_ring : zm_mok zm_ms (RX10, yX10_ring, cX10_ring, 3, (some .int), false, 1, 7, false, [2, 39], zt_X10_ring) := ⟨rfl, by decide +kernel, ⟨by decide +kernel, by decide +kernel⟩, zm_WL_in 999 rfl rfl, zm_WL_in 52 (by decide +kernel) rfl, by decide +kernel, (fun h => Bool.noConfusion h), (fun _ => ⟨zm_WL_in 997 (by decide +kernel) rfl, zm_WL_in 998 (by decide +kernel) rfl, TX10, 29, rfl⟩), by decide, zm_tb_ok rfl zk_X10_ring_t⟩
set_option maxRecDepth 100000 in
theorem zk_X10_sets_t : zm_tb 10 cX10_sets true (some .boolean) zt_X10_sets = true := by decide +kernel
set_option maxRecDepth 100000 in
theorem zk_X10_sets : zm_mok zm_ms (RX10, yX10_sets, cX10_sets, 4, (some .boolean), false, 1, 7, true, [23, 30], zt_X10_sets) := ⟨rfl, by decide +kernel, ⟨by decide +kernel, by decide +kernel⟩, zm_WL_in 1015 rfl rfl, zm_WL_in 52 (by decide +kernel) rfl, by decide +kernel, (fun h => Bool.noConfusion h), (fun _ => ⟨zm_WL_in 1014 (by decide +kernel) rfl, zm_WL_in 24 (by decide +kernel) rfl, TX10, 29, rfl⟩), by decide, zm_tb_ok rfl zk_X10_sets_t⟩
set_option maxRecDepth 100000 in
theorem zk_X10_isField_t : zm_tb 10 cX10_isField true (some .boolean) zt_X10_isField = true := by decide +kernel
set_option maxRecDepth 100000 in
theorem zk_X10_isField : zm_mok zm_ms (RX10, yX10_isField, cX10_isField, 3, (some .boolean), false, 0, 7, true, [2, 12], zt_X10_isField) := ⟨rfl, by decide +kernel, ⟨by decide +kernel, by decide +kernel⟩, zm_WL_in 1020 rfl rfl, zm_WL_in 52 (by decide +kernel) rfl, by decide +kernel, (fun h => Bool.noConfusion h), (fun _ => ⟨zm_WL_in 1019 (by decide +kernel) rfl, zm_WL_in 25 (by decide +kernel) rfl, TX10, 29, rfl⟩), by decide, zm_tb_ok rfl zk_X10_isField_t⟩
set_option maxRecDepth 100000 in
theorem zk_X10_square_t : zm_tb 10 cX10_square false (some .long) zt_X10_square = true := by decide +kernel
set_option maxRecDepth 100000 in
theorem zk_X10_square : zm_mok zm_ms (RX10, yX10_square, cX10_square, 9, (some .long), false, 3, 7, false, [16], zt_X10_square) := ⟨rfl, by decide +kernel, ⟨by decide +kernel, by decide +kernel⟩, zm_WL_in 1033 rfl rfl, zm_WL_in 52 (by decide +kernel) rfl, by decide +kernel, (fun h => Bool.noConfusion h), (fun _ => ⟨zm_WL_in 1032 (by decide +kernel) rfl, zm_WL_in 28 (by decide +kernel) rfl, TX10, 29, rfl⟩), by decide, zm_tb_ok rfl zk_X10_square_t⟩
set_option maxRecDepth 100000 in
theorem zk_X10_fills_t : zm_tb 10 cX10_fills false none zt_X10_fills = true := by decide +kernel
set_option maxRecDepth 100000 in
theorem zk_X10_fills : zm_mok zm_ms (RX10, yX10_fills, cX10_fills, 7, none, false, 1, 7, false, [7, 15, 74], zt_X10_fills) := ⟨rfl, by decide +kernel, ⟨by decide +kernel, by decide +kernel⟩, zm_WL_in 1028 rfl rfl, zm_WL_in 52 (by decide +kernel) rfl, by decide +kernel, (fun h => Bool.noConfusion h), (fun _ => ⟨zm_WL_in 1027 (by decide +kernel) rfl, zm_WL_in 27 (by decide +kernel) rfl, TX10, 29, rfl⟩), by decide, zm_tb_ok rfl zk_X10_fills_t⟩
set_option maxRecDepth 100000 in
theorem zk_X10_solved_t : zm_tb 10 cX10_solved false (some .long) zt_X10_solved = true := by decide +kernel
set_option maxRecDepth 100000 in
theorem zk_X10_solved : zm_mok zm_ms (RX10, yX10_solved, cX10_solved, 5, (some .long), false, 2, 7, false, [5, 23], zt_X10_solved) := ⟨rfl, by decide +kernel, ⟨by decide +kernel, by decide +kernel⟩, zm_WL_in 1024 rfl rfl, zm_WL_in 52 (by decide +kernel) rfl, by decide +kernel, (fun h => Bool.noConfusion h), (fun _ => ⟨zm_WL_in 1023 (by decide +kernel) rfl, zm_WL_in 26 (by decide +kernel) rfl, TX10, 29, rfl⟩), by decide, zm_tb_ok rfl zk_X10_solved_t⟩
set_option maxRecDepth 100000 in
theorem zk_X10_field_t : zm_tb 10 cX10_field false (some .long) zt_X10_field = true := by decide +kernel
set_option maxRecDepth 100000 in
theorem zk_X10_field : zm_mok zm_ms (RX10, yX10_field, cX10_field, 5, (some .long), false, 3, 7, false, [5, 57], zt_X10_field) := ⟨rfl, by decide +kernel, ⟨by decide +kernel, by decide +kernel⟩, zm_WL_in 1011 rfl rfl, zm_WL_in 52 (by decide +kernel) rfl, by decide +kernel, (fun h => Bool.noConfusion h), (fun _ => ⟨zm_WL_in 1009 (by decide +kernel) rfl, zm_WL_in 1010 (by decide +kernel) rfl, TX10, 29, rfl⟩), by decide, zm_tb_ok rfl zk_X10_field_t⟩
set_option maxRecDepth 100000 in
theorem zk_X10_mean_t : zm_tb 10 cX10_mean false (some .long) zt_X10_mean = true := by decide +kernel
set_option maxRecDepth 100000 in
theorem zk_X10_mean : zm_mok zm_ms (RX10, yX10_mean, cX10_mean, 3, (some .long), false, 2, 7, false, [5, 31], zt_X10_mean) := ⟨rfl, by decide +kernel, ⟨by decide +kernel, by decide +kernel⟩, zm_WL_in 1037 rfl rfl, zm_WL_in 52 (by decide +kernel) rfl, by decide +kernel, (fun h => Bool.noConfusion h), (fun _ => ⟨zm_WL_in 1035 (by decide +kernel) rfl, zm_WL_in 1036 (by decide +kernel) rfl, TX10, 29, rfl⟩), by decide, zm_tb_ok rfl zk_X10_mean_t⟩
set_option maxRecDepth 100000 in
theorem zk_X10_fourOf_t : zm_tb 10 cX10_fourOf false (some .int) zt_X10_fourOf = true := by decide +kernel
set_option maxRecDepth 100000 in
theorem zk_X10_fourOf : zm_mok zm_ms (RX10, yX10_fourOf, cX10_fourOf, 3, (some .int), true, 1, 0, false, [4], zt_X10_fourOf) := ⟨rfl, by decide +kernel, ⟨by decide +kernel, by decide +kernel⟩, zm_WL_in 1048 rfl rfl, zm_WL_in 52 (by decide +kernel) rfl, by decide +kernel, (fun _ => zm_WL_in 1047 (by decide +kernel) rfl), (fun h => Bool.noConfusion h), by decide, zm_tb_ok rfl zk_X10_fourOf_t⟩
set_option maxRecDepth 100000 in
theorem zk_X10_within_t : zm_tb 10 cX10_within false (some .int) zt_X10_within = true := by decide +kernel
set_option maxRecDepth 100000 in
theorem zk_X10_within : zm_mok zm_ms (RX10, yX10_within, cX10_within, 10, (some .int), false, 3, 7, false, [13, 60, 95, 114, 139, 165, 185, 251], zt_X10_within) := ⟨rfl, by decide +kernel, ⟨by decide +kernel, by decide +kernel⟩, zm_WL_in 1041 rfl rfl, zm_WL_in 52 (by decide +kernel) rfl, by decide +kernel, (fun h => Bool.noConfusion h), (fun _ => ⟨zm_WL_in 1039 (by decide +kernel) rfl, zm_WL_in 1040 (by decide +kernel) rfl, TX10, 29, rfl⟩), by decide, zm_tb_ok rfl zk_X10_within_t⟩
set_option maxRecDepth 100000 in
theorem zk_X10_endsBy_t : zm_tb 10 cX10_endsBy false (some .int) zt_X10_endsBy = true := by decide +kernel
set_option maxRecDepth 100000 in
theorem zk_X10_endsBy : zm_mok zm_ms (RX10, yX10_endsBy, cX10_endsBy, 4, (some .int), false, 1, 7, false, [2, 36], zt_X10_endsBy) := ⟨rfl, by decide +kernel, ⟨by decide +kernel, by decide +kernel⟩, zm_WL_in 1045 rfl rfl, zm_WL_in 52 (by decide +kernel) rfl, by decide +kernel, (fun h => Bool.noConfusion h), (fun _ => ⟨zm_WL_in 1044 (by decide +kernel) rfl, zm_WL_in 29 (by decide +kernel) rfl, TX10, 29, rfl⟩), by decide, zm_tb_ok rfl zk_X10_endsBy_t⟩
set_option maxRecDepth 100000 in
theorem zk_X10_cast_t : zm_tb 10 cX10_cast false (some .int) zt_X10_cast = true := by decide +kernel
set_option maxRecDepth 100000 in
theorem zk_X10_cast : zm_mok zm_ms (RX10, yX10_cast, cX10_cast, 2, (some .int), false, 1, 7, false, [9], zt_X10_cast) := ⟨rfl, by decide +kernel, ⟨by decide +kernel, by decide +kernel⟩, zm_WL_in 1055 rfl rfl, zm_WL_in 52 (by decide +kernel) rfl, by decide +kernel, (fun h => Bool.noConfusion h), (fun _ => ⟨zm_WL_in 1053 (by decide +kernel) rfl, zm_WL_in 1054 (by decide +kernel) rfl, TX10, 29, rfl⟩), by decide, zm_tb_ok rfl zk_X10_cast_t⟩
set_option maxRecDepth 100000 in
theorem zk_X10_drawn_t : zm_tb 10 cX10_drawn false (some .int) zt_X10_drawn = true := by decide +kernel
set_option maxRecDepth 100000 in
theorem zk_X10_drawn : zm_mok zm_ms (RX10, yX10_drawn, cX10_drawn, 2, (some .int), false, 1, 7, false, [], zt_X10_drawn) := ⟨rfl, by decide +kernel, ⟨by decide +kernel, by decide +kernel⟩, zm_WL_in 1064 rfl rfl, zm_WL_in 52 (by decide +kernel) rfl, by decide +kernel, (fun h => Bool.noConfusion h), (fun _ => ⟨zm_WL_in 1063 (by decide +kernel) rfl, zm_WL_in 30 (by decide +kernel) rfl, TX10, 29, rfl⟩), by decide, zm_tb_ok rfl zk_X10_drawn_t⟩
set_option maxRecDepth 100000 in
theorem zk_X10_casts_t : zm_tb 10 cX10_casts false (some .int) zt_X10_casts = true := by decide +kernel
set_option maxRecDepth 100000 in
theorem zk_X10_casts : zm_mok zm_ms (RX10, yX10_casts, cX10_casts, 5, (some .int), false, 2, 7, false, [18, 62], zt_X10_casts) := ⟨rfl, by decide +kernel, ⟨by decide +kernel, by decide +kernel⟩, zm_WL_in 1059 rfl rfl, zm_WL_in 52 (by decide +kernel) rfl, by decide +kernel, (fun h => Bool.noConfusion h), (fun _ => ⟨zm_WL_in 1057 (by decide +kernel) rfl, zm_WL_in 1058 (by decide +kernel) rfl, TX10, 29, rfl⟩), by decide, zm_tb_ok rfl zk_X10_casts_t⟩
set_option maxRecDepth 100000 in
theorem zk_X10_wipe_t : zm_tb 10 cX10_wipe false (some .int) zt_X10_wipe = true := by decide +kernel
set_option maxRecDepth 100000 in
theorem zk_X10_wipe : zm_mok zm_ms (RX10, yX10_wipe, cX10_wipe, 2, (some .int), false, 0, 7, false, [], zt_X10_wipe) := ⟨rfl, by decide +kernel, ⟨by decide +kernel, by decide +kernel⟩, zm_WL_in 1068 rfl rfl, zm_WL_in 52 (by decide +kernel) rfl, by decide +kernel, (fun h => Bool.noConfusion h), (fun _ => ⟨zm_WL_in 1066 (by decide +kernel) rfl, zm_WL_in 1067 (by decide +kernel) rfl, TX10, 29, rfl⟩), by decide, zm_tb_ok rfl zk_X10_wipe_t⟩
set_option maxRecDepth 100000 in
theorem zk_X10_strip_t : zm_tb 10 cX10_strip false (some .int) zt_X10_strip = true := by decide +kernel
set_option maxRecDepth 100000 in
theorem zk_X10_strip : zm_mok zm_ms (RX10, yX10_strip, cX10_strip, 2, (some .int), false, 1, 7, false, [11], zt_X10_strip) := ⟨rfl, by decide +kernel, ⟨by decide +kernel, by decide +kernel⟩, zm_WL_in 1072 rfl rfl, zm_WL_in 52 (by decide +kernel) rfl, by decide +kernel, (fun h => Bool.noConfusion h), (fun _ => ⟨zm_WL_in 1070 (by decide +kernel) rfl, zm_WL_in 1071 (by decide +kernel) rfl, TX10, 29, rfl⟩), by decide, zm_tb_ok rfl zk_X10_strip_t⟩
set_option maxRecDepth 100000 in
theorem zk_X10_endsAt_t : zm_tb 10 cX10_endsAt true (some .boolean) zt_X10_endsAt = true := by decide +kernel
set_option maxRecDepth 100000 in
theorem zk_X10_endsAt : zm_mok zm_ms (RX10, yX10_endsAt, cX10_endsAt, 5, (some .boolean), false, 2, 7, true, [17], zt_X10_endsAt) := ⟨rfl, by decide +kernel, ⟨by decide +kernel, by decide +kernel⟩, zm_WL_in 1080 rfl rfl, zm_WL_in 52 (by decide +kernel) rfl, by decide +kernel, (fun h => Bool.noConfusion h), (fun _ => ⟨zm_WL_in 1079 (by decide +kernel) rfl, zm_WL_in 31 (by decide +kernel) rfl, TX10, 29, rfl⟩), by decide, zm_tb_ok rfl zk_X10_endsAt_t⟩
set_option maxRecDepth 100000 in
theorem zk_X10_ends_t : zm_tb 10 cX10_ends false (some .long) zt_X10_ends = true := by decide +kernel
set_option maxRecDepth 100000 in
theorem zk_X10_ends : zm_mok zm_ms (RX10, yX10_ends, cX10_ends, 5, (some .long), false, 1, 7, false, [17], zt_X10_ends) := ⟨rfl, by decide +kernel, ⟨by decide +kernel, by decide +kernel⟩, zm_WL_in 1076 rfl rfl, zm_WL_in 52 (by decide +kernel) rfl, by decide +kernel, (fun h => Bool.noConfusion h), (fun _ => ⟨zm_WL_in 1074 (by decide +kernel) rfl, zm_WL_in 1075 (by decide +kernel) rfl, TX10, 29, rfl⟩), by decide, zm_tb_ok rfl zk_X10_ends_t⟩
set_option maxRecDepth 100000 in
theorem zk_X10_firstOf_t : zm_tb 10 cX10_firstOf false (some .int) zt_X10_firstOf = true := by decide +kernel
set_option maxRecDepth 100000 in
theorem zk_X10_firstOf : zm_mok zm_ms (RX10, yX10_firstOf, cX10_firstOf, 3, (some .int), false, 1, 7, false, [2], zt_X10_firstOf) := ⟨rfl, by decide +kernel, ⟨by decide +kernel, by decide +kernel⟩, zm_WL_in 1088 rfl rfl, zm_WL_in 52 (by decide +kernel) rfl, by decide +kernel, (fun h => Bool.noConfusion h), (fun _ => ⟨zm_WL_in 1087 (by decide +kernel) rfl, zm_WL_in 32 (by decide +kernel) rfl, TX10, 29, rfl⟩), by decide, zm_tb_ok rfl zk_X10_firstOf_t⟩
set_option maxRecDepth 100000 in
theorem zk_X10_matched_t : zm_tb 10 cX10_matched false (some .int) zt_X10_matched = true := by decide +kernel
set_option maxRecDepth 100000 in
theorem zk_X10_matched : zm_mok zm_ms (RX10, yX10_matched, cX10_matched, 5, (some .int), false, 1, 7, false, [4, 12, 21], zt_X10_matched) := ⟨rfl, by decide +kernel, ⟨by decide +kernel, by decide +kernel⟩, zm_WL_in 1094 rfl rfl, zm_WL_in 52 (by decide +kernel) rfl, by decide +kernel, (fun h => Bool.noConfusion h), (fun _ => ⟨zm_WL_in 1093 (by decide +kernel) rfl, zm_WL_in 33 (by decide +kernel) rfl, TX10, 29, rfl⟩), by decide, zm_tb_ok rfl zk_X10_matched_t⟩
set_option maxRecDepth 100000 in
theorem zk_X10_seen_t : zm_tb 10 cX10_seen false (some .int) zt_X10_seen = true := by decide +kernel
set_option maxRecDepth 100000 in
theorem zk_X10_seen : zm_mok zm_ms (RX10, yX10_seen, cX10_seen, 3, (some .int), false, 2, 7, false, [14], zt_X10_seen) := ⟨rfl, by decide +kernel, ⟨by decide +kernel, by decide +kernel⟩, zm_WL_in 1084 rfl rfl, zm_WL_in 52 (by decide +kernel) rfl, by decide +kernel, (fun h => Bool.noConfusion h), (fun _ => ⟨zm_WL_in 1082 (by decide +kernel) rfl, zm_WL_in 1083 (by decide +kernel) rfl, TX10, 29, rfl⟩), by decide, zm_tb_ok rfl zk_X10_seen_t⟩
set_option maxRecDepth 100000 in
theorem zk_X10_who_t : zm_tb 10 cX10_who false (some .int) zt_X10_who = true := by decide +kernel
set_option maxRecDepth 100000 in
theorem zk_X10_who : zm_mok zm_ms (RX10, yX10_who, cX10_who, 5, (some .int), false, 0, 7, false, [8, 21, 51], zt_X10_who) := ⟨rfl, by decide +kernel, ⟨by decide +kernel, by decide +kernel⟩, zm_WL_in 1098 rfl rfl, zm_WL_in 52 (by decide +kernel) rfl, by decide +kernel, (fun h => Bool.noConfusion h), (fun _ => ⟨zm_WL_in 1096 (by decide +kernel) rfl, zm_WL_in 1097 (by decide +kernel) rfl, TX10, 29, rfl⟩), by decide, zm_tb_ok rfl zk_X10_who_t⟩
set_option maxRecDepth 100000 in
theorem zk_X10_were_t : zm_tb 10 cX10_were false (some .int) zt_X10_were = true := by decide +kernel
set_option maxRecDepth 100000 in
theorem zk_X10_were : zm_mok zm_ms (RX10, yX10_were, cX10_were, 6, (some .int), false, 2, 7, false, [19, 37], zt_X10_were) := ⟨rfl, by decide +kernel, ⟨by decide +kernel, by decide +kernel⟩, zm_WL_in 1102 rfl rfl, zm_WL_in 52 (by decide +kernel) rfl, by decide +kernel, (fun h => Bool.noConfusion h), (fun _ => ⟨zm_WL_in 1100 (by decide +kernel) rfl, zm_WL_in 1101 (by decide +kernel) rfl, TX10, 29, rfl⟩), by decide, zm_tb_ok rfl zk_X10_were_t⟩
set_option maxRecDepth 100000 in
theorem zk_X10_player_t : zm_tb 10 cX10_player false (some .int) zt_X10_player = true := by decide +kernel
set_option maxRecDepth 100000 in
theorem zk_X10_player : zm_mok zm_ms (RX10, yX10_player, cX10_player, 3, (some .int), false, 2, 7, false, [14], zt_X10_player) := ⟨rfl, by decide +kernel, ⟨by decide +kernel, by decide +kernel⟩, zm_WL_in 1107 rfl rfl, zm_WL_in 52 (by decide +kernel) rfl, by decide +kernel, (fun h => Bool.noConfusion h), (fun _ => ⟨zm_WL_in 1105 (by decide +kernel) rfl, zm_WL_in 1106 (by decide +kernel) rfl, TX10, 29, rfl⟩), by decide, zm_tb_ok rfl zk_X10_player_t⟩
set_option maxRecDepth 100000 in
theorem zk_X10_isPlayer_t : zm_tb 10 cX10_isPlayer true (some .boolean) zt_X10_isPlayer = true := by decide +kernel
set_option maxRecDepth 100000 in
theorem zk_X10_isPlayer : zm_mok zm_ms (RX10, yX10_isPlayer, cX10_isPlayer, 2, (some .boolean), false, 1, 7, true, [], zt_X10_isPlayer) := ⟨rfl, by decide +kernel, ⟨by decide +kernel, by decide +kernel⟩, zm_WL_in 1115 rfl rfl, zm_WL_in 52 (by decide +kernel) rfl, by decide +kernel, (fun h => Bool.noConfusion h), (fun _ => ⟨zm_WL_in 1114 (by decide +kernel) rfl, zm_WL_in 34 (by decide +kernel) rfl, TX10, 29, rfl⟩), by decide, zm_tb_ok rfl zk_X10_isPlayer_t⟩
set_option maxRecDepth 100000 in
theorem zk_X10_turned_t : zm_tb 10 cX10_turned false (some .int) zt_X10_turned = true := by decide +kernel
set_option maxRecDepth 100000 in
theorem zk_X10_turned : zm_mok zm_ms (RX10, yX10_turned, cX10_turned, 3, (some .int), true, 1, 0, false, [4], zt_X10_turned) := ⟨rfl, by decide +kernel, ⟨by decide +kernel, by decide +kernel⟩, zm_WL_in 1130 rfl rfl, zm_WL_in 52 (by decide +kernel) rfl, by decide +kernel, (fun _ => zm_WL_in 1129 (by decide +kernel) rfl), (fun h => Bool.noConfusion h), by decide, zm_tb_ok rfl zk_X10_turned_t⟩
set_option maxRecDepth 100000 in
theorem zk_X10_shifted_t : zm_tb 10 cX10_shifted false (some .int) zt_X10_shifted = true := by decide +kernel
set_option maxRecDepth 100000 in
theorem zk_X10_shifted : zm_mok zm_ms (RX10, yX10_shifted, cX10_shifted, 4, (some .int), false, 1, 7, false, [4], zt_X10_shifted) := ⟨rfl, by decide +kernel, ⟨by decide +kernel, by decide +kernel⟩, zm_WL_in 1141 rfl rfl, zm_WL_in 52 (by decide +kernel) rfl, by decide +kernel, (fun h => Bool.noConfusion h), (fun _ => ⟨zm_WL_in 1140 (by decide +kernel) rfl, zm_WL_in 39 (by decide +kernel) rfl, TX10, 29, rfl⟩), by decide, zm_tb_ok rfl zk_X10_shifted_t⟩
set_option maxRecDepth 100000 in
theorem zk_X10_ahead_t : zm_tb 10 cX10_ahead false (some .int) zt_X10_ahead = true := by decide +kernel
set_option maxRecDepth 100000 in
theorem zk_X10_ahead : zm_mok zm_ms (RX10, yX10_ahead, cX10_ahead, 2, (some .int), true, 2, 0, false, [], zt_X10_ahead) := ⟨rfl, by decide +kernel, ⟨by decide +kernel, by decide +kernel⟩, zm_WL_in 1137 rfl rfl, zm_WL_in 52 (by decide +kernel) rfl, by decide +kernel, (fun _ => zm_WL_in 1136 (by decide +kernel) rfl), (fun h => Bool.noConfusion h), by decide, zm_tb_ok rfl zk_X10_ahead_t⟩
set_option maxRecDepth 100000 in
theorem zk_X10_picks_t : zm_tb 10 cX10_picks false (some .int) zt_X10_picks = true := by decide +kernel
set_option maxRecDepth 100000 in
theorem zk_X10_picks : zm_mok zm_ms (RX10, yX10_picks, cX10_picks, 5, (some .int), false, 2, 7, false, [], zt_X10_picks) := ⟨rfl, by decide +kernel, ⟨by decide +kernel, by decide +kernel⟩, zm_WL_in 1127 rfl rfl, zm_WL_in 52 (by decide +kernel) rfl, by decide +kernel, (fun h => Bool.noConfusion h), (fun _ => ⟨zm_WL_in 1126 (by decide +kernel) rfl, zm_WL_in 37 (by decide +kernel) rfl, TX10, 29, rfl⟩), by decide, zm_tb_ok rfl zk_X10_picks_t⟩
set_option maxRecDepth 100000 in
theorem zk_X10_firstPick_t : zm_tb 10 cX10_firstPick false (some .int) zt_X10_firstPick = true := by decide +kernel
set_option maxRecDepth 100000 in
theorem zk_X10_firstPick : zm_mok zm_ms (RX10, yX10_firstPick, cX10_firstPick, 2, (some .int), false, 1, 7, false, [], zt_X10_firstPick) := ⟨rfl, by decide +kernel, ⟨by decide +kernel, by decide +kernel⟩, zm_WL_in 1123 rfl rfl, zm_WL_in 52 (by decide +kernel) rfl, by decide +kernel, (fun h => Bool.noConfusion h), (fun _ => ⟨zm_WL_in 1122 (by decide +kernel) rfl, zm_WL_in 36 (by decide +kernel) rfl, TX10, 29, rfl⟩), by decide, zm_tb_ok rfl zk_X10_firstPick_t⟩
set_option maxRecDepth 100000 in
theorem zk_X10_wins_t : zm_tb 10 cX10_wins false (some .int) zt_X10_wins = true := by decide +kernel
set_option maxRecDepth 100000 in
theorem zk_X10_wins : zm_mok zm_ms (RX10, yX10_wins, cX10_wins, 5, (some .int), false, 1, 7, false, [11], zt_X10_wins) := ⟨rfl, by decide +kernel, ⟨by decide +kernel, by decide +kernel⟩, zm_WL_in 1119 rfl rfl, zm_WL_in 52 (by decide +kernel) rfl, by decide +kernel, (fun h => Bool.noConfusion h), (fun _ => ⟨zm_WL_in 1118 (by decide +kernel) rfl, zm_WL_in 35 (by decide +kernel) rfl, TX10, 29, rfl⟩), by decide, zm_tb_ok rfl zk_X10_wins_t⟩
set_option maxRecDepth 100000 in
theorem zk_X10_playerOf_t : zm_tb 10 cX10_playerOf false (some .int) zt_X10_playerOf = true := by decide +kernel
set_option maxRecDepth 100000 in
theorem zk_X10_playerOf : zm_mok zm_ms (RX10, yX10_playerOf, cX10_playerOf, 3, (some .int), false, 2, 7, false, [14], zt_X10_playerOf) := ⟨rfl, by decide +kernel, ⟨by decide +kernel, by decide +kernel⟩, zm_WL_in 1111 rfl rfl, zm_WL_in 52 (by decide +kernel) rfl, by decide +kernel, (fun h => Bool.noConfusion h), (fun _ => ⟨zm_WL_in 1109 (by decide +kernel) rfl, zm_WL_in 1110 (by decide +kernel) rfl, TX10, 29, rfl⟩), by decide, zm_tb_ok rfl zk_X10_playerOf_t⟩
set_option maxRecDepth 100000 in
theorem zk_X10_areTwo_t : zm_tb 10 cX10_areTwo true (some .boolean) zt_X10_areTwo = true := by decide +kernel
set_option maxRecDepth 100000 in
theorem zk_X10_areTwo : zm_mok zm_ms (RX10, yX10_areTwo, cX10_areTwo, 3, (some .boolean), false, 2, 7, true, [], zt_X10_areTwo) := ⟨rfl, by decide +kernel, ⟨by decide +kernel, by decide +kernel⟩, zm_WL_in 1149 rfl rfl, zm_WL_in 52 (by decide +kernel) rfl, by decide +kernel, (fun h => Bool.noConfusion h), (fun _ => ⟨zm_WL_in 1148 (by decide +kernel) rfl, zm_WL_in 40 (by decide +kernel) rfl, TX10, 29, rfl⟩), by decide, zm_tb_ok rfl zk_X10_areTwo_t⟩
set_option maxRecDepth 100000 in
theorem zk_X10_pick_t : zm_tb 10 cX10_pick false (some .int) zt_X10_pick = true := by decide +kernel
set_option maxRecDepth 100000 in
theorem zk_X10_pick : zm_mok zm_ms (RX10, yX10_pick, cX10_pick, 5, (some .int), false, 3, 7, false, [], zt_X10_pick) := ⟨rfl, by decide +kernel, ⟨by decide +kernel, by decide +kernel⟩, zm_WL_in 1145 rfl rfl, zm_WL_in 52 (by decide +kernel) rfl, by decide +kernel, (fun h => Bool.noConfusion h), (fun _ => ⟨zm_WL_in 1143 (by decide +kernel) rfl, zm_WL_in 1144 (by decide +kernel) rfl, TX10, 29, rfl⟩), by decide, zm_tb_ok rfl zk_X10_pick_t⟩
set_option maxRecDepth 100000 in
theorem zk_X10_match_t : zm_tb 10 cX10_match false (some .long) zt_X10_match = true := by decide +kernel
set_option maxRecDepth 100000 in
theorem zk_X10_match : zm_mok zm_ms (RX10, yX10_match, cX10_match, 6, (some .long), false, 3, 7, false, [], zt_X10_match) := ⟨rfl, by decide +kernel, ⟨by decide +kernel, by decide +kernel⟩, zm_WL_in 1153 rfl rfl, zm_WL_in 52 (by decide +kernel) rfl, by decide +kernel, (fun h => Bool.noConfusion h), (fun _ => ⟨zm_WL_in 1151 (by decide +kernel) rfl, zm_WL_in 1152 (by decide +kernel) rfl, TX10, 29, rfl⟩), by decide, zm_tb_ok rfl zk_X10_match_t⟩
set_option maxRecDepth 100000 in
theorem zk_X10_duels_t : zm_tb 10 cX10_duels false (some .int) zt_X10_duels = true := by decide +kernel
set_option maxRecDepth 100000 in
theorem zk_X10_duels : zm_mok zm_ms (RX10, yX10_duels, cX10_duels, 7, (some .int), false, 3, 7, false, [9], zt_X10_duels) := ⟨rfl, by decide +kernel, ⟨by decide +kernel, by decide +kernel⟩, zm_WL_in 1161 rfl rfl, zm_WL_in 52 (by decide +kernel) rfl, by decide +kernel, (fun h => Bool.noConfusion h), (fun _ => ⟨zm_WL_in 1160 (by decide +kernel) rfl, zm_WL_in 41 (by decide +kernel) rfl, TX10, 29, rfl⟩), by decide, zm_tb_ok rfl zk_X10_duels_t⟩
set_option maxRecDepth 100000 in
theorem zk_X10_duel_t : zm_tb 10 cX10_duel false (some .int) zt_X10_duel = true := by decide +kernel
set_option maxRecDepth 100000 in
theorem zk_X10_duel : zm_mok zm_ms (RX10, yX10_duel, cX10_duel, 6, (some .int), false, 4, 7, false, [28, 48], zt_X10_duel) := ⟨rfl, by decide +kernel, ⟨by decide +kernel, by decide +kernel⟩, zm_WL_in 1157 rfl rfl, zm_WL_in 52 (by decide +kernel) rfl, by decide +kernel, (fun h => Bool.noConfusion h), (fun _ => ⟨zm_WL_in 1155 (by decide +kernel) rfl, zm_WL_in 1156 (by decide +kernel) rfl, TX10, 29, rfl⟩), by decide, zm_tb_ok rfl zk_X10_duel_t⟩
set_option maxRecDepth 100000 in
theorem zk_X10_odds_t : zm_tb 10 cX10_odds false (some .long) zt_X10_odds = true := by decide +kernel
set_option maxRecDepth 100000 in
theorem zk_X10_odds : zm_mok zm_ms (RX10, yX10_odds, cX10_odds, 8, (some .long), false, 5, 7, false, [37, 68], zt_X10_odds) := ⟨rfl, by decide +kernel, ⟨by decide +kernel, by decide +kernel⟩, zm_WL_in 1166 rfl rfl, zm_WL_in 52 (by decide +kernel) rfl, by decide +kernel, (fun h => Bool.noConfusion h), (fun _ => ⟨zm_WL_in 1164 (by decide +kernel) rfl, zm_WL_in 1165 (by decide +kernel) rfl, TX10, 29, rfl⟩), by decide, zm_tb_ok rfl zk_X10_odds_t⟩
set_option maxRecDepth 100000 in
theorem zk_X10_plan_t : zm_tb 10 cX10_plan false (some .int) zt_X10_plan = true := by decide +kernel
set_option maxRecDepth 100000 in
theorem zk_X10_plan : zm_mok zm_ms (RX10, yX10_plan, cX10_plan, 3, (some .int), false, 2, 7, false, [47], zt_X10_plan) := ⟨rfl, by decide +kernel, ⟨by decide +kernel, by decide +kernel⟩, zm_WL_in 1170 rfl rfl, zm_WL_in 52 (by decide +kernel) rfl, by decide +kernel, (fun h => Bool.noConfusion h), (fun _ => ⟨zm_WL_in 1168 (by decide +kernel) rfl, zm_WL_in 1169 (by decide +kernel) rfl, TX10, 29, rfl⟩), by decide, zm_tb_ok rfl zk_X10_plan_t⟩
set_option maxRecDepth 100000 in
theorem zk_X10_does_t : zm_tb 10 cX10_does false none zt_X10_does = true := by decide +kernel
set_option maxRecDepth 100000 in
theorem zk_X10_does : zm_mok zm_ms (RX10, yX10_does, cX10_does, 5, none, false, 2, 7, false, [80, 88, 114], zt_X10_does) := ⟨rfl, by decide +kernel, ⟨by decide +kernel, by decide +kernel⟩, zm_WL_in 1178 rfl rfl, zm_WL_in 52 (by decide +kernel) rfl, by decide +kernel, (fun h => Bool.noConfusion h), (fun _ => ⟨zm_WL_in 1177 (by decide +kernel) rfl, zm_WL_in 42 (by decide +kernel) rfl, TX10, 29, rfl⟩), by decide, zm_tb_ok rfl zk_X10_does_t⟩
set_option maxRecDepth 100000 in
theorem zk_X10_behind_t : zm_tb 10 cX10_behind false (some .int) zt_X10_behind = true := by decide +kernel
set_option maxRecDepth 100000 in
theorem zk_X10_behind : zm_mok zm_ms (RX10, yX10_behind, cX10_behind, 4, (some .int), false, 1, 7, false, [6, 28, 43, 69, 130, 141], zt_X10_behind) := ⟨rfl, by decide +kernel, ⟨by decide +kernel, by decide +kernel⟩, zm_WL_in 1174 rfl rfl, zm_WL_in 52 (by decide +kernel) rfl, by decide +kernel, (fun h => Bool.noConfusion h), (fun _ => ⟨zm_WL_in 1172 (by decide +kernel) rfl, zm_WL_in 1173 (by decide +kernel) rfl, TX10, 29, rfl⟩), by decide, zm_tb_ok rfl zk_X10_behind_t⟩
set_option maxRecDepth 100000 in
theorem zk_X10_write_t : zm_tb 10 cX10_write false (some .int) zt_X10_write = true := by decide +kernel
set_option maxRecDepth 100000 in
theorem zk_X10_write : zm_mok zm_ms (RX10, yX10_write, cX10_write, 3, (some .int), false, 1, 7, false, [10, 37, 42, 81], zt_X10_write) := ⟨rfl, by decide +kernel, ⟨by decide +kernel, by decide +kernel⟩, zm_WL_in 1183 rfl rfl, zm_WL_in 52 (by decide +kernel) rfl, by decide +kernel, (fun h => Bool.noConfusion h), (fun _ => ⟨zm_WL_in 1181 (by decide +kernel) rfl, zm_WL_in 1182 (by decide +kernel) rfl, TX10, 29, rfl⟩), by decide, zm_tb_ok rfl zk_X10_write_t⟩
set_option maxRecDepth 100000 in
theorem zk_X10_paper_t : zm_tb 10 cX10_paper false (some .int) zt_X10_paper = true := by decide +kernel
set_option maxRecDepth 100000 in
theorem zk_X10_paper : zm_mok zm_ms (RX10, yX10_paper, cX10_paper, 2, (some .int), false, 1, 7, false, [11], zt_X10_paper) := ⟨rfl, by decide +kernel, ⟨by decide +kernel, by decide +kernel⟩, zm_WL_in 1187 rfl rfl, zm_WL_in 52 (by decide +kernel) rfl, by decide +kernel, (fun h => Bool.noConfusion h), (fun _ => ⟨zm_WL_in 1185 (by decide +kernel) rfl, zm_WL_in 1186 (by decide +kernel) rfl, TX10, 29, rfl⟩), by decide, zm_tb_ok rfl zk_X10_paper_t⟩
set_option maxRecDepth 100000 in
theorem zk_X10_judge_t : zm_tb 10 cX10_judge false (some .int) zt_X10_judge = true := by decide +kernel
set_option maxRecDepth 100000 in
theorem zk_X10_judge : zm_mok zm_ms (RX10, yX10_judge, cX10_judge, 3, (some .int), false, 1, 7, false, [4, 23], zt_X10_judge) := ⟨rfl, by decide +kernel, ⟨by decide +kernel, by decide +kernel⟩, zm_WL_in 1191 rfl rfl, zm_WL_in 52 (by decide +kernel) rfl, by decide +kernel, (fun h => Bool.noConfusion h), (fun _ => ⟨zm_WL_in 1189 (by decide +kernel) rfl, zm_WL_in 1190 (by decide +kernel) rfl, TX10, 29, rfl⟩), by decide, zm_tb_ok rfl zk_X10_judge_t⟩
set_option maxRecDepth 100000 in
theorem zk_X10_list_t : zm_tb 10 cX10_list false (some .int) zt_X10_list = true := by decide +kernel
set_option maxRecDepth 100000 in
theorem zk_X10_list : zm_mok zm_ms (RX10, yX10_list, cX10_list, 4, (some .int), false, 2, 7, false, [4, 34], zt_X10_list) := ⟨rfl, by decide +kernel, ⟨by decide +kernel, by decide +kernel⟩, zm_WL_in 1198 rfl rfl, zm_WL_in 52 (by decide +kernel) rfl, by decide +kernel, (fun h => Bool.noConfusion h), (fun _ => ⟨zm_WL_in 1196 (by decide +kernel) rfl, zm_WL_in 1197 (by decide +kernel) rfl, TX10, 29, rfl⟩), by decide, zm_tb_ok rfl zk_X10_list_t⟩
set_option maxRecDepth 100000 in
theorem zk_X10_put_t : zm_tb 10 cX10_put false (some .int) zt_X10_put = true := by decide +kernel
set_option maxRecDepth 100000 in
theorem zk_X10_put : zm_mok zm_ms (RX10, yX10_put, cX10_put, 4, (some .int), false, 3, 7, false, [4, 34], zt_X10_put) := ⟨rfl, by decide +kernel, ⟨by decide +kernel, by decide +kernel⟩, zm_WL_in 1202 rfl rfl, zm_WL_in 52 (by decide +kernel) rfl, by decide +kernel, (fun h => Bool.noConfusion h), (fun _ => ⟨zm_WL_in 1200 (by decide +kernel) rfl, zm_WL_in 1201 (by decide +kernel) rfl, TX10, 29, rfl⟩), by decide, zm_tb_ok rfl zk_X10_put_t⟩
set_option maxRecDepth 100000 in
theorem zk_X10_get_t : zm_tb 10 cX10_get false (some .long) zt_X10_get = true := by decide +kernel
set_option maxRecDepth 100000 in
theorem zk_X10_get : zm_mok zm_ms (RX10, yX10_get, cX10_get, 3, (some .long), false, 2, 7, false, [4, 20], zt_X10_get) := ⟨rfl, by decide +kernel, ⟨by decide +kernel, by decide +kernel⟩, zm_WL_in 1206 rfl rfl, zm_WL_in 52 (by decide +kernel) rfl, by decide +kernel, (fun h => Bool.noConfusion h), (fun _ => ⟨zm_WL_in 1204 (by decide +kernel) rfl, zm_WL_in 1205 (by decide +kernel) rfl, TX10, 29, rfl⟩), by decide, zm_tb_ok rfl zk_X10_get_t⟩
set_option maxRecDepth 100000 in
theorem zk_X10_image_t : zm_tb 10 cX10_image false (some .int) zt_X10_image = true := by decide +kernel
set_option maxRecDepth 100000 in
theorem zk_X10_image : zm_mok zm_ms (RX10, yX10_image, cX10_image, 2, (some .int), false, 0, 7, false, [57, 85, 114, 157], zt_X10_image) := ⟨rfl, by decide +kernel, ⟨by decide +kernel, by decide +kernel⟩, zm_WL_in 1210 rfl rfl, zm_WL_in 52 (by decide +kernel) rfl, by decide +kernel, (fun h => Bool.noConfusion h), (fun _ => ⟨zm_WL_in 1208 (by decide +kernel) rfl, zm_WL_in 1209 (by decide +kernel) rfl, TX10, 29, rfl⟩), by decide, zm_tb_ok rfl zk_X10_image_t⟩
set_option maxRecDepth 100000 in
theorem zk_X10_undo_t : zm_tb 10 cX10_undo false (some .int) zt_X10_undo = true := by decide +kernel
set_option maxRecDepth 100000 in
theorem zk_X10_undo : zm_mok zm_ms (RX10, yX10_undo, cX10_undo, 2, (some .int), false, 0, 7, false, [62, 90, 119, 162], zt_X10_undo) := ⟨rfl, by decide +kernel, ⟨by decide +kernel, by decide +kernel⟩, zm_WL_in 1214 rfl rfl, zm_WL_in 52 (by decide +kernel) rfl, by decide +kernel, (fun h => Bool.noConfusion h), (fun _ => ⟨zm_WL_in 1212 (by decide +kernel) rfl, zm_WL_in 1213 (by decide +kernel) rfl, TX10, 29, rfl⟩), by decide, zm_tb_ok rfl zk_X10_undo_t⟩
set_option maxRecDepth 100000 in
theorem zk_X10_count_t : zm_tb 10 cX10_count false (some .int) zt_X10_count = true := by decide +kernel
set_option maxRecDepth 100000 in
theorem zk_X10_count : zm_mok zm_ms (RX10, yX10_count, cX10_count, 2, (some .int), false, 1, 7, false, [], zt_X10_count) := ⟨rfl, by decide +kernel, ⟨by decide +kernel, by decide +kernel⟩, zm_WL_in 1218 rfl rfl, zm_WL_in 52 (by decide +kernel) rfl, by decide +kernel, (fun h => Bool.noConfusion h), (fun _ => ⟨zm_WL_in 1216 (by decide +kernel) rfl, zm_WL_in 1217 (by decide +kernel) rfl, TX10, 29, rfl⟩), by decide, zm_tb_ok rfl zk_X10_count_t⟩
set_option maxRecDepth 100000 in
theorem zk_J6_bitCount_0f7a4_t : zm_tb 11 cJ6_bitCount_0f7a4 false (some .int) zt_J6_bitCount_0f7a4 = true := by decide +kernel
set_option maxRecDepth 100000 in
theorem zk_J6_bitCount_0f7a4 : zm_mok zm_ms (RJ6, yJ6_bitCount_0f7a4, cJ6_bitCount_0f7a4, 1, (some .int), true, 1, 0, false, [], zt_J6_bitCount_0f7a4) := ⟨rfl, by decide +kernel, ⟨by decide +kernel, by decide +kernel⟩, zm_WL_in 458 rfl rfl, zm_WL_in 57 (by decide +kernel) rfl, by decide +kernel, (fun _ => zm_WL_in 457 (by decide +kernel) rfl), (fun h => Bool.noConfusion h), by decide, zm_tb_ok rfl zk_J6_bitCount_0f7a4_t⟩
set_option maxRecDepth 100000 in
theorem zk_J13_bitCount_95d88_t : zm_tb 12 cJ13_bitCount_95d88 false (some .int) zt_J13_bitCount_95d88 = true := by decide +kernel
set_option maxRecDepth 100000 in
theorem zk_J13_bitCount_95d88 : zm_mok zm_ms (RJ13, yJ13_bitCount_95d88, cJ13_bitCount_95d88, 2, (some .int), true, 1, 0, false, [], zt_J13_bitCount_95d88) := ⟨rfl, by decide +kernel, ⟨by decide +kernel, by decide +kernel⟩, zm_WL_in 584 rfl rfl, zm_WL_in 58 (by decide +kernel) rfl, by decide +kernel, (fun _ => zm_WL_in 583 (by decide +kernel) rfl), (fun h => Bool.noConfusion h), by decide, zm_tb_ok rfl zk_J13_bitCount_95d88_t⟩
set_option maxRecDepth 100000 in
theorem zk_J7_fill_53178_t : zm_tb 15 cJ7_fill_53178 false none zt_J7_fill_53178 = true := by decide +kernel
set_option maxRecDepth 100000 in
theorem zk_J7_fill_53178 : zm_mok zm_ms (RJ7, yJ7_fill_53178, cJ7_fill_53178, 4, none, true, 2, 0, false, [5], zt_J7_fill_53178) := ⟨rfl, by decide +kernel, ⟨by decide +kernel, by decide +kernel⟩, zm_WL_in 222 rfl rfl, zm_WL_in 51 (by decide +kernel) rfl, by decide +kernel, (fun _ => zm_WL_in 221 (by decide +kernel) rfl), (fun h => Bool.noConfusion h), by decide, zm_tb_ok rfl zk_J7_fill_53178_t⟩
theorem zk_l0 : ∀ M ∈ zm_msl0, zm_mok zm_ms M := List.forall_mem_cons.mpr ⟨zk_X0_copyFrom, List.forall_mem_cons.mpr ⟨zk_X0_hasWord, List.forall_mem_cons.mpr ⟨zk_X0_areTwoWords, List.forall_mem_cons.mpr ⟨zk_X0_wordAt, List.forall_mem_cons.mpr ⟨zk_X0_addWord, List.forall_mem_cons.mpr ⟨zk_X0_hasThirdLetter, List.forall_mem_cons.mpr ⟨zk_X0_isSet, List.forall_mem_cons.mpr ⟨zk_X0_isInSet, List.forall_mem_cons.mpr ⟨zk_X0_firstOn, List.forall_mem_cons.mpr ⟨zk_X0_hasPlayer, List.forall_mem_cons.mpr ⟨zk_X0_areTwoPlayers, List.forall_mem_cons.mpr ⟨zk_X0_addPlayer, List.forall_mem_cons.mpr ⟨zk_X0_firstPick, List.forall_mem_cons.mpr ⟨zk_X0_pickAgainst, List.forall_mem_cons.mpr ⟨zk_X0_wins, List.forall_mem_cons.mpr ⟨zk_X0_addRow, fun _ h => absurd h List.not_mem_nil⟩⟩⟩⟩⟩⟩⟩⟩⟩⟩⟩⟩⟩⟩⟩⟩
theorem zk_l1 : ∀ M ∈ zm_msl1, zm_mok zm_ms M := List.forall_mem_cons.mpr ⟨zk_X0_followPlan, List.forall_mem_cons.mpr ⟨zk_X1_nextSeed, List.forall_mem_cons.mpr ⟨zk_X1_drawn, List.forall_mem_cons.mpr ⟨zk_X1_run, List.forall_mem_cons.mpr ⟨zk_X2_fill, List.forall_mem_cons.mpr ⟨zk_X2_hasOneInAnother, List.forall_mem_cons.mpr ⟨zk_X2_chancePart, List.forall_mem_cons.mpr ⟨zk_X2_meanPart, List.forall_mem_cons.mpr ⟨zk_X2_setApart, List.forall_mem_cons.mpr ⟨zk_X2_weight, List.forall_mem_cons.mpr ⟨zk_X2_wholeWeight, List.forall_mem_cons.mpr ⟨zk_X2_minor, List.forall_mem_cons.mpr ⟨zk_X2_rowsWithin, List.forall_mem_cons.mpr ⟨zk_X2_countEndings, List.forall_mem_cons.mpr ⟨zk_X2_endingsAt, List.forall_mem_cons.mpr ⟨zk_X3_isPart, fun _ h => absurd h List.not_mem_nil⟩⟩⟩⟩⟩⟩⟩⟩⟩⟩⟩⟩⟩⟩⟩⟩
theorem zk_l2 : ∀ M ∈ zm_msl2, zm_mok zm_ms M := List.forall_mem_cons.mpr ⟨zk_X3_partOf, List.forall_mem_cons.mpr ⟨zk_X3_commonDivisor, List.forall_mem_cons.mpr ⟨zk_X4_share, List.forall_mem_cons.mpr ⟨zk_X4_chancePart, List.forall_mem_cons.mpr ⟨zk_X4_beats, List.forall_mem_cons.mpr ⟨zk_X4_bestAnswer, List.forall_mem_cons.mpr ⟨zk_X5_wordAt, List.forall_mem_cons.mpr ⟨zk_X5_find, List.forall_mem_cons.mpr ⟨zk_X5_closes, List.forall_mem_cons.mpr ⟨zk_X5_isBeaten, List.forall_mem_cons.mpr ⟨zk_X6_copyFrom, List.forall_mem_cons.mpr ⟨zk_X6_hasPlace, List.forall_mem_cons.mpr ⟨zk_X6_letterAt, List.forall_mem_cons.mpr ⟨zk_X6_append, List.forall_mem_cons.mpr ⟨zk_X6_dropLast, List.forall_mem_cons.mpr ⟨zk_X6_putOneOn, fun _ h => absurd h List.not_mem_nil⟩⟩⟩⟩⟩⟩⟩⟩⟩⟩⟩⟩⟩⟩⟩⟩
theorem zk_l3 : ∀ M ∈ zm_msl3, zm_mok zm_ms M := List.forall_mem_cons.mpr ⟨zk_X6_endBits, List.forall_mem_cons.mpr ⟨zk_X6_firstEnd, List.forall_mem_cons.mpr ⟨zk_X6_matched, List.forall_mem_cons.mpr ⟨zk_X7_append, List.forall_mem_cons.mpr ⟨zk_X7_read, List.forall_mem_cons.mpr ⟨zk_X7_goesOn, List.forall_mem_cons.mpr ⟨zk_X7_addLetters, List.forall_mem_cons.mpr ⟨zk_X7_endClause, List.forall_mem_cons.mpr ⟨zk_X8_tens, List.forall_mem_cons.mpr ⟨zk_X8_length, List.forall_mem_cons.mpr ⟨zk_X8_isWord, List.forall_mem_cons.mpr ⟨zk_X8_letterAt, List.forall_mem_cons.mpr ⟨zk_X8_firstLetters, List.forall_mem_cons.mpr ⟨zk_X8_lastLetters, List.forall_mem_cons.mpr ⟨zk_X8_grown, List.forall_mem_cons.mpr ⟨zk_X8_endsWith, fun _ h => absurd h List.not_mem_nil⟩⟩⟩⟩⟩⟩⟩⟩⟩⟩⟩⟩⟩⟩⟩⟩
theorem zk_l4 : ∀ M ∈ zm_msl4, zm_mok zm_ms M := List.forall_mem_cons.mpr ⟨zk_X8_overlapBits, List.forall_mem_cons.mpr ⟨zk_X8_numberOn, List.forall_mem_cons.mpr ⟨zk_X8_standsIn, List.forall_mem_cons.mpr ⟨zk_X8_clash, List.forall_mem_cons.mpr ⟨zk_X8_oneOn, List.forall_mem_cons.mpr ⟨zk_X8_turned, List.forall_mem_cons.mpr ⟨zk_X8_shifted, List.forall_mem_cons.mpr ⟨zk_X8_doubled, List.forall_mem_cons.mpr ⟨zk_X8_answering, List.forall_mem_cons.mpr ⟨zk_X8_ledBy, List.forall_mem_cons.mpr ⟨zk_X8_least, List.forall_mem_cons.mpr ⟨zk_X8_following, List.forall_mem_cons.mpr ⟨zk_X9_sides, List.forall_mem_cons.mpr ⟨zk_X9_feed, List.forall_mem_cons.mpr ⟨zk_X9_words, List.forall_mem_cons.mpr ⟨zk_X9_becomes, fun _ h => absurd h List.not_mem_nil⟩⟩⟩⟩⟩⟩⟩⟩⟩⟩⟩⟩⟩⟩⟩⟩
theorem zk_l5 : ∀ M ∈ zm_msl5, zm_mok zm_ms M := List.forall_mem_cons.mpr ⟨zk_X9_of, List.forall_mem_cons.mpr ⟨zk_X9_overlaps, List.forall_mem_cons.mpr ⟨zk_X9_number, List.forall_mem_cons.mpr ⟨zk_X9_isIn, List.forall_mem_cons.mpr ⟨zk_X9_chance, List.forall_mem_cons.mpr ⟨zk_X9_answered, List.forall_mem_cons.mpr ⟨zk_X9_trail, List.forall_mem_cons.mpr ⟨zk_X9_ring, List.forall_mem_cons.mpr ⟨zk_X9_field, List.forall_mem_cons.mpr ⟨zk_X9_mean, List.forall_mem_cons.mpr ⟨zk_X9_within, List.forall_mem_cons.mpr ⟨zk_X9_cast, List.forall_mem_cons.mpr ⟨zk_X9_casts, List.forall_mem_cons.mpr ⟨zk_X9_wipe, List.forall_mem_cons.mpr ⟨zk_X9_strip, List.forall_mem_cons.mpr ⟨zk_X9_ends, fun _ h => absurd h List.not_mem_nil⟩⟩⟩⟩⟩⟩⟩⟩⟩⟩⟩⟩⟩⟩⟩⟩
theorem zk_l6 : ∀ M ∈ zm_msl6, zm_mok zm_ms M := List.forall_mem_cons.mpr ⟨zk_X9_seen, List.forall_mem_cons.mpr ⟨zk_X9_who, List.forall_mem_cons.mpr ⟨zk_X9_were, List.forall_mem_cons.mpr ⟨zk_X9_player, List.forall_mem_cons.mpr ⟨zk_X9_playerOf, List.forall_mem_cons.mpr ⟨zk_X9_pick, List.forall_mem_cons.mpr ⟨zk_X9_match, List.forall_mem_cons.mpr ⟨zk_X9_duel, List.forall_mem_cons.mpr ⟨zk_X9_odds, List.forall_mem_cons.mpr ⟨zk_X9_plan, List.forall_mem_cons.mpr ⟨zk_X9_behind, List.forall_mem_cons.mpr ⟨zk_X9_write, List.forall_mem_cons.mpr ⟨zk_X9_paper, List.forall_mem_cons.mpr ⟨zk_X9_judge, List.forall_mem_cons.mpr ⟨zk_X9_list, List.forall_mem_cons.mpr ⟨zk_X9_put, fun _ h => absurd h List.not_mem_nil⟩⟩⟩⟩⟩⟩⟩⟩⟩⟩⟩⟩⟩⟩⟩⟩
theorem zk_l7 : ∀ M ∈ zm_msl7, zm_mok zm_ms M := List.forall_mem_cons.mpr ⟨zk_X9_get, List.forall_mem_cons.mpr ⟨zk_X9_image, List.forall_mem_cons.mpr ⟨zk_X9_undo, List.forall_mem_cons.mpr ⟨zk_X9_count, List.forall_mem_cons.mpr ⟨zk_X9_trailLength, List.forall_mem_cons.mpr ⟨zk_X9_isRacingField, List.forall_mem_cons.mpr ⟨zk_X9_placeInSet, List.forall_mem_cons.mpr ⟨zk_X9_mostOfRow, List.forall_mem_cons.mpr ⟨zk_X9_writeStrip, List.forall_mem_cons.mpr ⟨zk_X9_writeWord, List.forall_mem_cons.mpr ⟨zk_X9_signOf, List.forall_mem_cons.mpr ⟨zk_X9_hasList, List.forall_mem_cons.mpr ⟨zk_X9_hasListPlace, List.forall_mem_cons.mpr ⟨zk_X10_in, List.forall_mem_cons.mpr ⟨zk_X10_isWord, List.forall_mem_cons.mpr ⟨zk_X10_isPart, fun _ h => absurd h List.not_mem_nil⟩⟩⟩⟩⟩⟩⟩⟩⟩⟩⟩⟩⟩⟩⟩⟩
theorem zk_l8 : ∀ M ∈ zm_msl8, zm_mok zm_ms M := List.forall_mem_cons.mpr ⟨zk_X10_isList, List.forall_mem_cons.mpr ⟨zk_X10_ten, List.forall_mem_cons.mpr ⟨zk_X10_sizeOf, List.forall_mem_cons.mpr ⟨zk_X10_letterOf, List.forall_mem_cons.mpr ⟨zk_X10_hasThird, List.forall_mem_cons.mpr ⟨zk_X10_isSuch, List.forall_mem_cons.mpr ⟨zk_X10_on, List.forall_mem_cons.mpr ⟨zk_X10_overlap, List.forall_mem_cons.mpr ⟨zk_X10_numberOf, List.forall_mem_cons.mpr ⟨zk_X10_stands, List.forall_mem_cons.mpr ⟨zk_X10_areApart, List.forall_mem_cons.mpr ⟨zk_X10_weight, List.forall_mem_cons.mpr ⟨zk_X10_beats, List.forall_mem_cons.mpr ⟨zk_X10_bestAnswer, List.forall_mem_cons.mpr ⟨zk_X10_lowest, List.forall_mem_cons.mpr ⟨zk_X10_chanceOf, fun _ h => absurd h List.not_mem_nil⟩⟩⟩⟩⟩⟩⟩⟩⟩⟩⟩⟩⟩⟩⟩⟩
theorem zk_l9 : ∀ M ∈ zm_msl9, zm_mok zm_ms M := List.forall_mem_cons.mpr ⟨zk_X10_sides, List.forall_mem_cons.mpr ⟨zk_X10_feed, List.forall_mem_cons.mpr ⟨zk_X10_sign, List.forall_mem_cons.mpr ⟨zk_X10_reads, List.forall_mem_cons.mpr ⟨zk_X10_words, List.forall_mem_cons.mpr ⟨zk_X10_becomes, List.forall_mem_cons.mpr ⟨zk_X10_of, List.forall_mem_cons.mpr ⟨zk_X10_overlaps, List.forall_mem_cons.mpr ⟨zk_X10_number, List.forall_mem_cons.mpr ⟨zk_X10_isIn, List.forall_mem_cons.mpr ⟨zk_X10_chance, List.forall_mem_cons.mpr ⟨zk_X10_answered, List.forall_mem_cons.mpr ⟨zk_X10_trail, List.forall_mem_cons.mpr ⟨zk_X10_rings, List.forall_mem_cons.mpr ⟨zk_X10_ring, List.forall_mem_cons.mpr ⟨zk_X10_sets, fun _ h => absurd h List.not_mem_nil⟩⟩⟩⟩⟩⟩⟩⟩⟩⟩⟩⟩⟩⟩⟩⟩
theorem zk_l10 : ∀ M ∈ zm_msl10, zm_mok zm_ms M := List.forall_mem_cons.mpr ⟨zk_X10_isField, List.forall_mem_cons.mpr ⟨zk_X10_square, List.forall_mem_cons.mpr ⟨zk_X10_fills, List.forall_mem_cons.mpr ⟨zk_X10_solved, List.forall_mem_cons.mpr ⟨zk_X10_field, List.forall_mem_cons.mpr ⟨zk_X10_mean, List.forall_mem_cons.mpr ⟨zk_X10_fourOf, List.forall_mem_cons.mpr ⟨zk_X10_within, List.forall_mem_cons.mpr ⟨zk_X10_endsBy, List.forall_mem_cons.mpr ⟨zk_X10_cast, List.forall_mem_cons.mpr ⟨zk_X10_drawn, List.forall_mem_cons.mpr ⟨zk_X10_casts, List.forall_mem_cons.mpr ⟨zk_X10_wipe, List.forall_mem_cons.mpr ⟨zk_X10_strip, List.forall_mem_cons.mpr ⟨zk_X10_endsAt, List.forall_mem_cons.mpr ⟨zk_X10_ends, fun _ h => absurd h List.not_mem_nil⟩⟩⟩⟩⟩⟩⟩⟩⟩⟩⟩⟩⟩⟩⟩⟩
theorem zk_l11 : ∀ M ∈ zm_msl11, zm_mok zm_ms M := List.forall_mem_cons.mpr ⟨zk_X10_firstOf, List.forall_mem_cons.mpr ⟨zk_X10_matched, List.forall_mem_cons.mpr ⟨zk_X10_seen, List.forall_mem_cons.mpr ⟨zk_X10_who, List.forall_mem_cons.mpr ⟨zk_X10_were, List.forall_mem_cons.mpr ⟨zk_X10_player, List.forall_mem_cons.mpr ⟨zk_X10_isPlayer, List.forall_mem_cons.mpr ⟨zk_X10_turned, List.forall_mem_cons.mpr ⟨zk_X10_shifted, List.forall_mem_cons.mpr ⟨zk_X10_ahead, List.forall_mem_cons.mpr ⟨zk_X10_picks, List.forall_mem_cons.mpr ⟨zk_X10_firstPick, List.forall_mem_cons.mpr ⟨zk_X10_wins, List.forall_mem_cons.mpr ⟨zk_X10_playerOf, List.forall_mem_cons.mpr ⟨zk_X10_areTwo, List.forall_mem_cons.mpr ⟨zk_X10_pick, fun _ h => absurd h List.not_mem_nil⟩⟩⟩⟩⟩⟩⟩⟩⟩⟩⟩⟩⟩⟩⟩⟩
theorem zk_l12 : ∀ M ∈ zm_msl12, zm_mok zm_ms M := List.forall_mem_cons.mpr ⟨zk_X10_match, List.forall_mem_cons.mpr ⟨zk_X10_duels, List.forall_mem_cons.mpr ⟨zk_X10_duel, List.forall_mem_cons.mpr ⟨zk_X10_odds, List.forall_mem_cons.mpr ⟨zk_X10_plan, List.forall_mem_cons.mpr ⟨zk_X10_does, List.forall_mem_cons.mpr ⟨zk_X10_behind, List.forall_mem_cons.mpr ⟨zk_X10_write, List.forall_mem_cons.mpr ⟨zk_X10_paper, List.forall_mem_cons.mpr ⟨zk_X10_judge, List.forall_mem_cons.mpr ⟨zk_X10_list, List.forall_mem_cons.mpr ⟨zk_X10_put, List.forall_mem_cons.mpr ⟨zk_X10_get, List.forall_mem_cons.mpr ⟨zk_X10_image, List.forall_mem_cons.mpr ⟨zk_X10_undo, List.forall_mem_cons.mpr ⟨zk_X10_count, fun _ h => absurd h List.not_mem_nil⟩⟩⟩⟩⟩⟩⟩⟩⟩⟩⟩⟩⟩⟩⟩⟩
theorem zk_l13 : ∀ M ∈ zm_msl13, zm_mok zm_ms M := List.forall_mem_cons.mpr ⟨zk_J6_bitCount_0f7a4, List.forall_mem_cons.mpr ⟨zk_J13_bitCount_95d88, List.forall_mem_cons.mpr ⟨zk_J7_fill_53178, fun _ h => absurd h List.not_mem_nil⟩⟩⟩
theorem zk_all : ∀ l ∈ zm_msl, ∀ M ∈ l, zm_mok zm_ms M := List.forall_mem_cons.mpr ⟨zk_l0, List.forall_mem_cons.mpr ⟨zk_l1, List.forall_mem_cons.mpr ⟨zk_l2, List.forall_mem_cons.mpr ⟨zk_l3, List.forall_mem_cons.mpr ⟨zk_l4, List.forall_mem_cons.mpr ⟨zk_l5, List.forall_mem_cons.mpr ⟨zk_l6, List.forall_mem_cons.mpr ⟨zk_l7, List.forall_mem_cons.mpr ⟨zk_l8, List.forall_mem_cons.mpr ⟨zk_l9, List.forall_mem_cons.mpr ⟨zk_l10, List.forall_mem_cons.mpr ⟨zk_l11, List.forall_mem_cons.mpr ⟨zk_l12, List.forall_mem_cons.mpr ⟨zk_l13, fun _ h => absurd h List.not_mem_nil⟩⟩⟩⟩⟩⟩⟩⟩⟩⟩⟩⟩⟩⟩
theorem zk_ms : ∀ (μ : Nat) (M : zm_M), zm_ms μ = some M → zm_mok zm_ms M := by
  intro μ M h
  unfold zm_ms at h
  split at h
  · next l hl => exact zk_all l (List.mem_of_getElem? hl) M (List.mem_of_getElem? h)
  · cases h

