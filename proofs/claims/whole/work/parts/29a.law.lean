/-! printed by wip/whole/links.py: the law's table is its code's -/
set_option maxRecDepth 100000 in
theorem zk_law_0 : (((zt_L_law.drop 0).take 8).all fun l => l.all (zm_eb 16 cL_law true (some .boolean))) = true := by decide +kernel
set_option maxRecDepth 100000 in
theorem zk_law_1 : (((zt_L_law.drop 8).take 8).all fun l => l.all (zm_eb 16 cL_law true (some .boolean))) = true := by decide +kernel
set_option maxRecDepth 100000 in
theorem zk_law_2 : (((zt_L_law.drop 16).take 8).all fun l => l.all (zm_eb 16 cL_law true (some .boolean))) = true := by decide +kernel
set_option maxRecDepth 100000 in
theorem zk_law_3 : (((zt_L_law.drop 24).take 8).all fun l => l.all (zm_eb 16 cL_law true (some .boolean))) = true := by decide +kernel
