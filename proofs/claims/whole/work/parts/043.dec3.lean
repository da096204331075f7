/-! ===== the facts of the methods 122 .. 183, decided ===== -/
set_option maxRecDepth 100000 in
theorem mv_ok_122 : (mv_okm 122 && mv_okc 122) = true := by decide +kernel
set_option maxRecDepth 100000 in
theorem mv_ok_123 : (mv_okm 123 && mv_okc 123) = true := by decide +kernel
set_option maxRecDepth 100000 in
theorem mv_ok_124 : (mv_okm 124 && mv_okc 124) = true := by decide +kernel
set_option maxRecDepth 100000 in
theorem mv_ok_125 : (mv_okm 125 && mv_okc 125) = true := by decide +kernel
set_option maxRecDepth 100000 in
theorem mv_ok_126 : (mv_okm 126 && mv_okc 126) = true := by decide +kernel
set_option maxRecDepth 100000 in
theorem mv_ok_127 : (mv_okm 127 && mv_okc 127) = true := by decide +kernel
set_option maxRecDepth 100000 in
theorem mv_ok_128 : (mv_okm 128 && mv_okc 128) = true := by decide +kernel
set_option maxRecDepth 100000 in
theorem mv_ok_129 : (mv_okm 129 && mv_okc 129) = true := by decide +kernel
set_option maxRecDepth 100000 in
theorem mv_ok_130 : (mv_okm 130 && mv_okc 130) = true := by decide +kernel
set_option maxRecDepth 100000 in
theorem mv_ok_131 : (mv_okm 131 && mv_okc 131) = true := by decide +kernel
set_option maxRecDepth 100000 in
theorem mv_ok_132 : (mv_okm 132 && mv_okc 132) = true := by decide +kernel
set_option maxRecDepth 100000 in
theorem mv_ok_133 : (mv_okm 133 && mv_okc 133) = true := by decide +kernel
set_option maxRecDepth 100000 in
theorem mv_ok_134 : (mv_okm 134 && mv_okc 134) = true := by decide +kernel
set_option maxRecDepth 100000 in
theorem mv_ok_135 : (mv_okm 135 && mv_okc 135) = true := by decide +kernel
set_option maxRecDepth 100000 in
theorem mv_ok_136 : (mv_okm 136 && mv_okc 136) = true := by decide +kernel
set_option maxRecDepth 100000 in
theorem mv_ok_137 : (mv_okm 137 && mv_okc 137) = true := by decide +kernel
set_option maxRecDepth 100000 in
theorem mv_ok_138 : (mv_okm 138 && mv_okc 138) = true := by decide +kernel
set_option maxRecDepth 100000 in
theorem mv_ok_139 : (mv_okm 139 && mv_okc 139) = true := by decide +kernel
set_option maxRecDepth 100000 in
theorem mv_ok_140 : (mv_okm 140 && mv_okc 140) = true := by decide +kernel
set_option maxRecDepth 100000 in
theorem mv_ok_141 : (mv_okm 141 && mv_okc 141) = true := by decide +kernel
set_option maxRecDepth 100000 in
theorem mv_ok_142 : (mv_okm 142 && mv_okc 142) = true := by decide +kernel
set_option maxRecDepth 100000 in
theorem mv_ok_143 : (mv_okm 143 && mv_okc 143) = true := by decide +kernel
set_option maxRecDepth 100000 in
theorem mv_ok_144 : (mv_okm 144 && mv_okc 144) = true := by decide +kernel
set_option maxRecDepth 100000 in
theorem mv_ok_145 : (mv_okm 145 && mv_okc 145) = true := by decide +kernel
set_option maxRecDepth 100000 in
theorem mv_ok_146 : (mv_okm 146 && mv_okc 146) = true := by decide +kernel
set_option maxRecDepth 100000 in
theorem mv_ok_147 : (mv_okm 147 && mv_okc 147) = true := by decide +kernel
set_option maxRecDepth 100000 in
theorem mv_ok_148 : (mv_okm 148 && mv_okc 148) = true := by decide +kernel
set_option maxRecDepth 100000 in
theorem mv_ok_149 : (mv_okm 149 && mv_okc 149) = true := by decide +kernel
set_option maxRecDepth 100000 in
theorem mv_ok_150 : (mv_okm 150 && mv_okc 150) = true := by decide +kernel
set_option maxRecDepth 100000 in
theorem mv_ok_151 : (mv_okm 151 && mv_okc 151) = true := by decide +kernel
set_option maxRecDepth 100000 in
theorem mv_ok_152 : (mv_okm 152 && mv_okc 152) = true := by decide +kernel
set_option maxRecDepth 100000 in
theorem mv_ok_153 : (mv_okm 153 && mv_okc 153) = true := by decide +kernel
set_option maxRecDepth 100000 in
theorem mv_ok_154 : (mv_okm 154 && mv_okc 154) = true := by decide +kernel
set_option maxRecDepth 100000 in
theorem mv_ok_155 : (mv_okm 155 && mv_okc 155) = true := by decide +kernel
set_option maxRecDepth 100000 in
theorem mv_ok_156 : (mv_okm 156 && mv_okc 156) = true := by decide +kernel
set_option maxRecDepth 100000 in
theorem mv_ok_157 : (mv_okm 157 && mv_okc 157) = true := by decide +kernel
set_option maxRecDepth 100000 in
theorem mv_ok_158 : (mv_okm 158 && mv_okc 158) = true := by decide +kernel
set_option maxRecDepth 100000 in
theorem mv_ok_159 : (mv_okm 159 && mv_okc 159) = true := by decide +kernel
set_option maxRecDepth 100000 in
theorem mv_ok_160 : (mv_okm 160 && mv_okc 160) = true := by decide +kernel
set_option maxRecDepth 100000 in
theorem mv_ok_161 : (mv_okm 161 && mv_okc 161) = true := by decide +kernel
set_option maxRecDepth 100000 in
theorem mv_ok_162 : (mv_okm 162 && mv_okc 162) = true := by decide +kernel
set_option maxRecDepth 100000 in
theorem mv_ok_163 : (mv_okm 163 && mv_okc 163) = true := by decide +kernel
set_option maxRecDepth 100000 in
theorem mv_ok_164 : (mv_okm 164 && mv_okc 164) = true := by decide +kernel
set_option maxRecDepth 100000 in
theorem mv_ok_165 : (mv_okm 165 && mv_okc 165) = true := by decide +kernel
set_option maxRecDepth 100000 in
theorem mv_ok_166 : (mv_okm 166 && mv_okc 166) = true := by decide +kernel
set_option maxRecDepth 100000 in
theorem mv_ok_167 : (mv_okm 167 && mv_okc 167) = true := by decide +kernel
set_option maxRecDepth 100000 in
theorem mv_ok_168 : (mv_okm 168 && mv_okc 168) = true := by decide +kernel
set_option maxRecDepth 100000 in
theorem mv_ok_169 : (mv_okm 169 && mv_okc 169) = true := by decide +kernel
set_option maxRecDepth 100000 in
theorem mv_ok_170 : (mv_okm 170 && mv_okc 170) = true := by decide +kernel
set_option maxRecDepth 100000 in
theorem mv_ok_171 : (mv_okm 171 && mv_okc 171) = true := by decide +kernel
set_option maxRecDepth 100000 in
theorem mv_ok_172 : (mv_okm 172 && mv_okc 172) = true := by decide +kernel
set_option maxRecDepth 100000 in
theorem mv_ok_173 : (mv_okm 173 && mv_okc 173) = true := by decide +kernel
set_option maxRecDepth 100000 in
theorem mv_ok_174 : (mv_okm 174 && mv_okc 174) = true := by decide +kernel
set_option maxRecDepth 100000 in
theorem mv_ok_175 : (mv_okm 175 && mv_okc 175) = true := by decide +kernel
set_option maxRecDepth 100000 in
theorem mv_ok_176 : (mv_okm 176 && mv_okc 176) = true := by decide +kernel
set_option maxRecDepth 100000 in
theorem mv_ok_177 : (mv_okm 177 && mv_okc 177) = true := by decide +kernel
set_option maxRecDepth 100000 in
theorem mv_ok_178 : (mv_okm 178 && mv_okc 178) = true := by decide +kernel
set_option maxRecDepth 100000 in
theorem mv_ok_179 : (mv_okm 179 && mv_okc 179) = true := by decide +kernel
set_option maxRecDepth 100000 in
theorem mv_ok_180 : (mv_okm 180 && mv_okc 180) = true := by decide +kernel
set_option maxRecDepth 100000 in
theorem mv_ok_181 : (mv_okm 181 && mv_okc 181) = true := by decide +kernel
set_option maxRecDepth 100000 in
theorem mv_ok_182 : (mv_okm 182 && mv_okc 182) = true := by decide +kernel
set_option maxRecDepth 100000 in
theorem mv_ok_183 : (mv_okm 183 && mv_okc 183) = true := by decide +kernel
