/-! printed by wip/whole/links.py: the law's table is its code's -/
set_option maxRecDepth 100000 in
theorem zk_law_4 : (((zt_L_law.drop 32).take 8).all fun l => l.all (zm_eb 16 cL_law true (some .boolean))) = true := by decide +kernel
set_option maxRecDepth 100000 in
theorem zk_law_5 : (((zt_L_law.drop 40).take 8).all fun l => l.all (zm_eb 16 cL_law true (some .boolean))) = true := by decide +kernel
set_option maxRecDepth 100000 in
theorem zk_law_6 : (((zt_L_law.drop 48).take 8).all fun l => l.all (zm_eb 16 cL_law true (some .boolean))) = true := by decide +kernel
set_option maxRecDepth 100000 in
theorem zk_law_7 : (((zt_L_law.drop 56).take 8).all fun l => l.all (zm_eb 16 cL_law true (some .boolean))) = true := by decide +kernel
