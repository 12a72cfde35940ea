/-! the contracts hold: checked by the kernel -/
set_option maxRecDepth 100000 in
theorem tv_120 : cn_ck (tb_P none) tb_G (tb_ct 120) th_120 tk_120 4000 = true := by decide +kernel
set_option maxRecDepth 100000 in
theorem tv_121 : cn_ck (tb_P none) tb_G (tb_ct 121) th_121 tk_121 4000 = true := by decide +kernel
set_option maxRecDepth 100000 in
theorem tv_122 : cn_ck (tb_P none) tb_G (tb_ct 122) th_122 tk_122 4000 = true := by decide +kernel
set_option maxRecDepth 100000 in
theorem tv_123 : cn_ck (tb_P none) tb_G (tb_ct 123) th_123 tk_123 4000 = true := by decide +kernel
set_option maxRecDepth 100000 in
theorem tv_124 : cn_ck (tb_P none) tb_G (tb_ct 124) th_124 tk_124 4000 = true := by decide +kernel
set_option maxRecDepth 100000 in
theorem tv_125 : cn_ck (tb_P none) tb_G (tb_ct 125) th_125 tk_125 4000 = true := by decide +kernel
set_option maxRecDepth 100000 in
theorem tv_126 : cn_ck (tb_P none) tb_G (tb_ct 126) th_126 tk_126 4000 = true := by decide +kernel
set_option maxRecDepth 100000 in
theorem tv_127 : cn_ck (tb_P none) tb_G (tb_ct 127) th_127 tk_127 4000 = true := by decide +kernel
set_option maxRecDepth 100000 in
theorem tv_128 : cn_ck (tb_P none) tb_G (tb_ct 128) th_128 tk_128 4000 = true := by decide +kernel
set_option maxRecDepth 100000 in
theorem tv_129 : cn_ck (tb_P none) tb_G (tb_ct 129) th_129 tk_129 4000 = true := by decide +kernel
set_option maxRecDepth 100000 in
theorem tv_130 : cn_ck (tb_P none) tb_G (tb_ct 130) th_130 tk_130 4000 = true := by decide +kernel
set_option maxRecDepth 100000 in
theorem tv_131 : cn_ck (tb_P none) tb_G (tb_ct 131) th_131 tk_131 4000 = true := by decide +kernel
set_option maxRecDepth 100000 in
theorem tv_132 : cn_ck (tb_P none) tb_G (tb_ct 132) th_132 tk_132 4000 = true := by decide +kernel
set_option maxRecDepth 100000 in
theorem tv_133 : cn_ck (tb_P none) tb_G (tb_ct 133) th_133 tk_133 4000 = true := by decide +kernel
set_option maxRecDepth 100000 in
theorem tv_134 : cn_ck (tb_P none) tb_G (tb_ct 134) th_134 tk_134 4000 = true := by decide +kernel
set_option maxRecDepth 100000 in
theorem tv_135 : cn_ck (tb_P none) tb_G (tb_ct 135) th_135 tk_135 4000 = true := by decide +kernel
set_option maxRecDepth 100000 in
theorem tv_136 : cn_ck (tb_P none) tb_G (tb_ct 136) th_136 tk_136 4000 = true := by decide +kernel
set_option maxRecDepth 100000 in
theorem tv_137 : cn_ck (tb_P none) tb_G (tb_ct 137) th_137 tk_137 4000 = true := by decide +kernel
set_option maxRecDepth 100000 in
theorem tv_138 : cn_ck (tb_P none) tb_G (tb_ct 138) th_138 tk_138 4000 = true := by decide +kernel
set_option maxRecDepth 100000 in
theorem tv_139 : cn_ck (tb_P none) tb_G (tb_ct 139) th_139 tk_139 4000 = true := by decide +kernel
set_option maxRecDepth 100000 in
theorem tv_140 : cn_ck (tb_P none) tb_G (tb_ct 140) th_140 tk_140 4000 = true := by decide +kernel
set_option maxRecDepth 100000 in
theorem tv_141 : cn_ck (tb_P none) tb_G (tb_ct 141) th_141 tk_141 4000 = true := by decide +kernel
set_option maxRecDepth 100000 in
theorem tv_142 : cn_ck (tb_P none) tb_G (tb_ct 142) th_142 tk_142 4000 = true := by decide +kernel
set_option maxRecDepth 100000 in
theorem tv_143 : cn_ck (tb_P none) tb_G (tb_ct 143) th_143 tk_143 4000 = true := by decide +kernel
set_option maxRecDepth 100000 in
theorem tv_144 : cn_ck (tb_P none) tb_G (tb_ct 144) th_144 tk_144 4000 = true := by decide +kernel
set_option maxRecDepth 100000 in
theorem tv_145 : cn_ck (tb_P none) tb_G (tb_ct 145) th_145 tk_145 4000 = true := by decide +kernel
set_option maxRecDepth 100000 in
theorem tv_146 : cn_ck (tb_P none) tb_G (tb_ct 146) th_146 tk_146 4000 = true := by decide +kernel
set_option maxRecDepth 100000 in
theorem tv_147 : cn_ck (tb_P none) tb_G (tb_ct 147) th_147 tk_147 4000 = true := by decide +kernel
set_option maxRecDepth 100000 in
theorem tv_148 : cn_ck (tb_P none) tb_G (tb_ct 148) th_148 tk_148 4000 = true := by decide +kernel
set_option maxRecDepth 100000 in
theorem tv_149 : cn_ck (tb_P none) tb_G (tb_ct 149) th_149 tk_149 4000 = true := by decide +kernel
set_option maxRecDepth 100000 in
theorem tv_150 : cn_ck (tb_P none) tb_G (tb_ct 150) th_150 tk_150 4000 = true := by decide +kernel
set_option maxRecDepth 100000 in
theorem tv_151 : cn_ck (tb_P none) tb_G (tb_ct 151) th_151 tk_151 4000 = true := by decide +kernel
set_option maxRecDepth 100000 in
theorem tv_152 : cn_ck (tb_P none) tb_G (tb_ct 152) th_152 tk_152 4000 = true := by decide +kernel
set_option maxRecDepth 100000 in
theorem tv_153 : cn_ck (tb_P none) tb_G (tb_ct 153) th_153 tk_153 4000 = true := by decide +kernel
set_option maxRecDepth 100000 in
theorem tv_154 : cn_ck (tb_P none) tb_G (tb_ct 154) th_154 tk_154 4000 = true := by decide +kernel
set_option maxRecDepth 100000 in
theorem tv_155 : cn_ck (tb_P none) tb_G (tb_ct 155) th_155 tk_155 4000 = true := by decide +kernel
set_option maxRecDepth 100000 in
theorem tv_156 : cn_ck (tb_P none) tb_G (tb_ct 156) th_156 tk_156 4000 = true := by decide +kernel
set_option maxRecDepth 100000 in
theorem tv_157 : cn_ck (tb_P none) tb_G (tb_ct 157) th_157 tk_157 4000 = true := by decide +kernel
set_option maxRecDepth 100000 in
theorem tv_158 : cn_ck (tb_P none) tb_G (tb_ct 158) th_158 tk_158 4000 = true := by decide +kernel
set_option maxRecDepth 100000 in
theorem tv_159 : cn_ck (tb_P none) tb_G (tb_ct 159) th_159 tk_159 4000 = true := by decide +kernel
set_option maxRecDepth 100000 in
theorem tv_160 : cn_ck (tb_P none) tb_G (tb_ct 160) th_160 tk_160 4000 = true := by decide +kernel
set_option maxRecDepth 100000 in
theorem tv_161 : cn_ck (tb_P none) tb_G (tb_ct 161) th_161 tk_161 4000 = true := by decide +kernel
set_option maxRecDepth 100000 in
theorem tv_162 : cn_ck (tb_P none) tb_G (tb_ct 162) th_162 tk_162 4000 = true := by decide +kernel
set_option maxRecDepth 100000 in
theorem tv_163 : cn_ck (tb_P none) tb_G (tb_ct 163) th_163 tk_163 4000 = true := by decide +kernel
set_option maxRecDepth 100000 in
theorem tv_164 : cn_ck (tb_P none) tb_G (tb_ct 164) th_164 tk_164 4000 = true := by decide +kernel
set_option maxRecDepth 100000 in
theorem tv_165 : cn_ck (tb_P none) tb_G (tb_ct 165) th_165 tk_165 4000 = true := by decide +kernel
set_option maxRecDepth 100000 in
theorem tv_166 : cn_ck (tb_P none) tb_G (tb_ct 166) th_166 tk_166 4000 = true := by decide +kernel
set_option maxRecDepth 100000 in
theorem tv_167 : cn_ck (tb_P none) tb_G (tb_ct 167) th_167 tk_167 4000 = true := by decide +kernel
set_option maxRecDepth 100000 in
theorem tv_168 : cn_ck (tb_P none) tb_G (tb_ct 168) th_168 tk_168 4000 = true := by decide +kernel
set_option maxRecDepth 100000 in
theorem tv_169 : cn_ck (tb_P none) tb_G (tb_ct 169) th_169 tk_169 4000 = true := by decide +kernel
set_option maxRecDepth 100000 in
theorem tv_170 : cn_ck (tb_P none) tb_G (tb_ct 170) th_170 tk_170 4000 = true := by decide +kernel
set_option maxRecDepth 100000 in
theorem tv_171 : cn_ck (tb_P none) tb_G (tb_ct 171) th_171 tk_171 4000 = true := by decide +kernel
set_option maxRecDepth 100000 in
theorem tv_172 : cn_ck (tb_P none) tb_G (tb_ct 172) th_172 tk_172 4000 = true := by decide +kernel
set_option maxRecDepth 100000 in
theorem tv_173 : cn_ck (tb_P none) tb_G (tb_ct 173) th_173 tk_173 4000 = true := by decide +kernel
set_option maxRecDepth 100000 in
theorem tv_174 : cn_ck (tb_P none) tb_G (tb_ct 174) th_174 tk_174 4000 = true := by decide +kernel
set_option maxRecDepth 100000 in
theorem tv_175 : cn_ck (tb_P none) tb_G (tb_ct 175) th_175 tk_175 4000 = true := by decide +kernel
set_option maxRecDepth 100000 in
theorem tv_176 : cn_ck (tb_P none) tb_G (tb_ct 176) th_176 tk_176 4000 = true := by decide +kernel
set_option maxRecDepth 100000 in
theorem tv_177 : cn_ck (tb_P none) tb_G (tb_ct 177) th_177 tk_177 4000 = true := by decide +kernel
set_option maxRecDepth 100000 in
theorem tv_178 : cn_ck (tb_P none) tb_G (tb_ct 178) th_178 tk_178 4000 = true := by decide +kernel
set_option maxRecDepth 100000 in
theorem tv_179 : cn_ck (tb_P none) tb_G (tb_ct 179) th_179 tk_179 4000 = true := by decide +kernel
