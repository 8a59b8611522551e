set_option maxRecDepth 16384 in
theorem tf_o_1_0 : (tables_1_1.take 40).all (fun c => su_isCode c || c.before start1.args0 tf_about) = true := by decide +kernel
set_option maxRecDepth 16384 in
theorem tf_o_1_1 : ((tables_1_1.drop 40).take 40).all (fun c => su_isCode c || c.before start1.args0 tf_about) = true := by decide +kernel
set_option maxRecDepth 16384 in
theorem tf_o_1_2 : (((tables_1_1.drop 40).drop 40).take 40).all (fun c => su_isCode c || c.before start1.args0 tf_about) = true := by decide +kernel
set_option maxRecDepth 16384 in
theorem tf_o_1_3 : ((((tables_1_1.drop 40).drop 40).drop 40).take 40).all (fun c => su_isCode c || c.before start1.args0 tf_about) = true := by decide +kernel
set_option maxRecDepth 16384 in
theorem tf_o_1_4 : (((((tables_1_1.drop 40).drop 40).drop 40).drop 40).take 40).all (fun c => su_isCode c || c.before start1.args0 tf_about) = true := by decide +kernel
set_option maxRecDepth 16384 in
theorem tf_o_1_5 : (((((tables_1_1.drop 40).drop 40).drop 40).drop 40).drop 40).all (fun c => su_isCode c || c.before start1.args0 tf_about) = true := by decide +kernel
theorem tf_o_1 : tables_1_1.all (fun c => su_isCode c || c.before start1.args0 tf_about) = true := (start1.su_all_split _ 40 tables_1_1 tf_o_1_0 (start1.su_all_split _ 40 (tables_1_1.drop 40) tf_o_1_1 (start1.su_all_split _ 40 ((tables_1_1.drop 40).drop 40) tf_o_1_2 (start1.su_all_split _ 40 (((tables_1_1.drop 40).drop 40).drop 40) tf_o_1_3 (start1.su_all_split _ 40 ((((tables_1_1.drop 40).drop 40).drop 40).drop 40) tf_o_1_4 tf_o_1_5)))))
set_option maxRecDepth 16384 in
theorem tf_s_1 : tables_1_1.all tf_same = true := by decide +kernel
theorem tf_w_1 : ∀ c ∈ tables_1_1, c.before start1.args0 tf_about = true := fun c h => su_words tf_o_1 (tf_codes start1.words_1 tf_s_1) c h
