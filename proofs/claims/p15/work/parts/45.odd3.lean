set_option maxRecDepth 16384 in
theorem tf_o_3_0 : (tables_1_3.take 40).all (fun c => su_isCode c || c.before start1.args0 tf_about) = true := by decide +kernel
set_option maxRecDepth 16384 in
theorem tf_o_3_1 : ((tables_1_3.drop 40).take 40).all (fun c => su_isCode c || c.before start1.args0 tf_about) = true := by decide +kernel
set_option maxRecDepth 16384 in
theorem tf_o_3_2 : (((tables_1_3.drop 40).drop 40).take 40).all (fun c => su_isCode c || c.before start1.args0 tf_about) = true := by decide +kernel
set_option maxRecDepth 16384 in
theorem tf_o_3_3 : ((((tables_1_3.drop 40).drop 40).drop 40).take 40).all (fun c => su_isCode c || c.before start1.args0 tf_about) = true := by decide +kernel
set_option maxRecDepth 16384 in
theorem tf_o_3_4 : (((((tables_1_3.drop 40).drop 40).drop 40).drop 40).take 40).all (fun c => su_isCode c || c.before start1.args0 tf_about) = true := by decide +kernel
set_option maxRecDepth 16384 in
theorem tf_o_3_5 : (((((tables_1_3.drop 40).drop 40).drop 40).drop 40).drop 40).all (fun c => su_isCode c || c.before start1.args0 tf_about) = true := by decide +kernel
theorem tf_o_3 : tables_1_3.all (fun c => su_isCode c || c.before start1.args0 tf_about) = true := (start1.su_all_split _ 40 tables_1_3 tf_o_3_0 (start1.su_all_split _ 40 (tables_1_3.drop 40) tf_o_3_1 (start1.su_all_split _ 40 ((tables_1_3.drop 40).drop 40) tf_o_3_2 (start1.su_all_split _ 40 (((tables_1_3.drop 40).drop 40).drop 40) tf_o_3_3 (start1.su_all_split _ 40 ((((tables_1_3.drop 40).drop 40).drop 40).drop 40) tf_o_3_4 tf_o_3_5)))))
set_option maxRecDepth 16384 in
theorem tf_s_3 : tables_1_3.all tf_same = true := by decide +kernel
theorem tf_w_3 : ∀ c ∈ tables_1_3, c.before start1.args0 tf_about = true := fun c h => su_words tf_o_3 (tf_codes start1.words_3 tf_s_3) c h
set_option maxRecDepth 16384 in
theorem tf_o_4_0 : (tables_1_4.take 40).all (fun c => su_isCode c || c.before start1.args0 tf_about) = true := by decide +kernel
set_option maxRecDepth 16384 in
theorem tf_o_4_1 : (tables_1_4.drop 40).all (fun c => su_isCode c || c.before start1.args0 tf_about) = true := by decide +kernel
theorem tf_o_4 : tables_1_4.all (fun c => su_isCode c || c.before start1.args0 tf_about) = true := (start1.su_all_split _ 40 tables_1_4 tf_o_4_0 tf_o_4_1)
set_option maxRecDepth 16384 in
theorem tf_s_4 : tables_1_4.all tf_same = true := by decide +kernel
theorem tf_w_4 : ∀ c ∈ tables_1_4, c.before start1.args0 tf_about = true := fun c h => su_words tf_o_4 (tf_codes start1.words_4 tf_s_4) c h
