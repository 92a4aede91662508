/-! printed by wip/whole/links.py: the law's table is its code's -/
set_option maxRecDepth 100000 in
theorem zk_law_8 : (((zt_L_law.drop 64).take 8).all fun l => l.all (zm_eb 16 cL_law true (some .boolean))) = true := by decide +kernel
set_option maxRecDepth 100000 in
theorem zk_law_9 : (((zt_L_law.drop 72).take 8).all fun l => l.all (zm_eb 16 cL_law true (some .boolean))) = true := by decide +kernel
set_option maxRecDepth 100000 in
theorem zk_law_10 : (((zt_L_law.drop 80).take 8).all fun l => l.all (zm_eb 16 cL_law true (some .boolean))) = true := by decide +kernel
set_option maxRecDepth 100000 in
theorem zk_law_11 : (((zt_L_law.drop 88).take 3).all fun l => l.all (zm_eb 16 cL_law true (some .boolean))) = true := by decide +kernel
theorem zk_law_sp : zt_L_law = (zt_L_law.drop 0).take 8 ++ ((zt_L_law.drop 8).take 8 ++ ((zt_L_law.drop 16).take 8 ++ ((zt_L_law.drop 24).take 8 ++ ((zt_L_law.drop 32).take 8 ++ ((zt_L_law.drop 40).take 8 ++ ((zt_L_law.drop 48).take 8 ++ ((zt_L_law.drop 56).take 8 ++ ((zt_L_law.drop 64).take 8 ++ ((zt_L_law.drop 72).take 8 ++ ((zt_L_law.drop 80).take 8 ++ ((zt_L_law.drop 88).take 3))))))))))) := by rfl
theorem zk_law_t : zm_tb 16 cL_law true (some .boolean) zt_L_law = true := by
  unfold zm_tb
  rw [zk_law_sp]
  simp only [List.all_append, Bool.and_eq_true]
  exact ⟨zk_law_0, zk_law_1, zk_law_2, zk_law_3, zk_law_4, zk_law_5, zk_law_6, zk_law_7, zk_law_8, zk_law_9, zk_law_10, zk_law_11⟩
theorem zk_law : zm_tok zm_ms RL cL_law (some .boolean) true zt_L_law := zm_tb_ok rfl zk_law_t
