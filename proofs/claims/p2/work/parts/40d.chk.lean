/-! the contracts hold: checked by the kernel -/
set_option maxRecDepth 100000 in
theorem tv_180 : cn_ck (tb_P none) tb_G (tb_ct 180) th_180 tk_180 4000 = true := by decide +kernel
set_option maxRecDepth 100000 in
theorem tv_181 : cn_ck (tb_P none) tb_G (tb_ct 181) th_181 tk_181 4000 = true := by decide +kernel
set_option maxRecDepth 100000 in
theorem tv_182 : cn_ck (tb_P none) tb_G (tb_ct 182) th_182 tk_182 4000 = true := by decide +kernel
set_option maxRecDepth 100000 in
theorem tv_183 : cn_ck (tb_P none) tb_G (tb_ct 183) th_183 tk_183 4000 = true := by decide +kernel
set_option maxRecDepth 100000 in
theorem tv_184 : cn_ck (tb_P none) tb_G (tb_ct 184) th_184 tk_184 4000 = true := by decide +kernel
set_option maxRecDepth 100000 in
theorem tv_185 : cn_ck (tb_P none) tb_G (tb_ct 185) th_185 tk_185 4000 = true := by decide +kernel
set_option maxRecDepth 100000 in
theorem tv_186 : cn_ck (tb_P none) tb_G (tb_ct 186) th_186 tk_186 4000 = true := by decide +kernel
set_option maxRecDepth 100000 in
theorem tv_187 : cn_ck (tb_P none) tb_G (tb_ct 187) th_187 tk_187 4000 = true := by decide +kernel
set_option maxRecDepth 100000 in
theorem tv_188 : cn_ck (tb_P none) tb_G (tb_ct 188) th_188 tk_188 4000 = true := by decide +kernel
set_option maxRecDepth 100000 in
theorem tv_189 : cn_ck (tb_P none) tb_G (tb_ct 189) th_189 tk_189 4000 = true := by decide +kernel
set_option maxRecDepth 100000 in
theorem tv_190 : cn_ck (tb_P none) tb_G (tb_ct 190) th_190 tk_190 4000 = true := by decide +kernel
set_option maxRecDepth 100000 in
theorem tv_191 : cn_ck (tb_P none) tb_G (tb_ct 191) th_191 tk_191 4000 = true := by decide +kernel
set_option maxRecDepth 100000 in
theorem tv_192 : cn_ck (tb_P none) tb_G (tb_ct 192) th_192 tk_192 4000 = true := by decide +kernel
set_option maxRecDepth 100000 in
theorem tv_193 : cn_ck (tb_P none) tb_G (tb_ct 193) th_193 tk_193 4000 = true := by decide +kernel
set_option maxRecDepth 100000 in
theorem tv_194 : cn_ck (tb_P none) tb_G (tb_ct 194) th_194 tk_194 4000 = true := by decide +kernel
set_option maxRecDepth 100000 in
theorem tv_195 : cn_ck (tb_P none) tb_G (tb_ct 195) th_195 tk_195 4000 = true := by decide +kernel
set_option maxRecDepth 100000 in
theorem tv_196 : cn_ck (tb_P none) tb_G (tb_ct 196) th_196 tk_196 4000 = true := by decide +kernel
set_option maxRecDepth 100000 in
theorem tv_197 : cn_ck (tb_P none) tb_G (tb_ct 197) th_197 tk_197 4000 = true := by decide +kernel
set_option maxRecDepth 100000 in
theorem tv_198 : cn_ck (tb_P none) tb_G (tb_ct 198) th_198 tk_198 4000 = true := by decide +kernel
