/-! all methods, one by one, further -/
set_option maxRecDepth 100000 in
theorem om_100 : okM 100 = true := by decide +kernel
set_option maxRecDepth 100000 in
theorem om_101 : okM 101 = true := by decide +kernel
set_option maxRecDepth 100000 in
theorem om_102 : okM 102 = true := by decide +kernel
set_option maxRecDepth 100000 in
theorem om_103 : okM 103 = true := by decide +kernel
set_option maxRecDepth 100000 in
theorem om_104 : okM 104 = true := by decide +kernel
set_option maxRecDepth 100000 in
theorem om_105 : okM 105 = true := by decide +kernel
set_option maxRecDepth 100000 in
theorem om_106 : okM 106 = true := by decide +kernel
set_option maxRecDepth 100000 in
theorem om_107 : okM 107 = true := by decide +kernel
set_option maxRecDepth 100000 in
theorem om_108 : okM 108 = true := by decide +kernel
set_option maxRecDepth 100000 in
theorem om_109 : okM 109 = true := by decide +kernel
set_option maxRecDepth 100000 in
theorem om_110 : okM 110 = true := by decide +kernel
set_option maxRecDepth 100000 in
theorem om_111 : okM 111 = true := by decide +kernel
set_option maxRecDepth 100000 in
theorem om_112 : okM 112 = true := by decide +kernel
set_option maxRecDepth 100000 in
theorem om_113 : okM 113 = true := by decide +kernel
set_option maxRecDepth 100000 in
theorem om_114 : okM 114 = true := by decide +kernel
set_option maxRecDepth 100000 in
theorem om_115 : okM 115 = true := by decide +kernel
set_option maxRecDepth 100000 in
theorem om_116 : okM 116 = true := by decide +kernel
set_option maxRecDepth 100000 in
theorem om_117 : okM 117 = true := by decide +kernel
set_option maxRecDepth 100000 in
theorem om_118 : okM 118 = true := by decide +kernel
set_option maxRecDepth 100000 in
theorem om_119 : okM 119 = true := by decide +kernel
set_option maxRecDepth 100000 in
theorem om_120 : okM 120 = true := by decide +kernel
set_option maxRecDepth 100000 in
theorem om_121 : okM 121 = true := by decide +kernel
set_option maxRecDepth 100000 in
theorem om_122 : okM 122 = true := by decide +kernel
set_option maxRecDepth 100000 in
theorem om_123 : okM 123 = true := by decide +kernel
set_option maxRecDepth 100000 in
theorem om_124 : okM 124 = true := by decide +kernel
set_option maxRecDepth 100000 in
theorem om_125 : okM 125 = true := by decide +kernel
set_option maxRecDepth 100000 in
theorem om_126 : okM 126 = true := by decide +kernel
set_option maxRecDepth 100000 in
theorem om_127 : okM 127 = true := by decide +kernel
set_option maxRecDepth 100000 in
theorem om_128 : okM 128 = true := by decide +kernel
set_option maxRecDepth 100000 in
theorem om_129 : okM 129 = true := by decide +kernel
set_option maxRecDepth 100000 in
theorem om_130 : okM 130 = true := by decide +kernel
set_option maxRecDepth 100000 in
theorem om_131 : okM 131 = true := by decide +kernel
set_option maxRecDepth 100000 in
theorem om_132 : okM 132 = true := by decide +kernel
set_option maxRecDepth 100000 in
theorem om_133 : okM 133 = true := by decide +kernel
set_option maxRecDepth 100000 in
theorem om_134 : okM 134 = true := by decide +kernel
set_option maxRecDepth 100000 in
theorem om_135 : okM 135 = true := by decide +kernel
set_option maxRecDepth 100000 in
theorem om_136 : okM 136 = true := by decide +kernel
set_option maxRecDepth 100000 in
theorem om_137 : okM 137 = true := by decide +kernel
set_option maxRecDepth 100000 in
theorem om_138 : okM 138 = true := by decide +kernel
set_option maxRecDepth 100000 in
theorem om_139 : okM 139 = true := by decide +kernel
set_option maxRecDepth 100000 in
theorem om_140 : okM 140 = true := by decide +kernel
set_option maxRecDepth 100000 in
theorem om_141 : okM 141 = true := by decide +kernel
set_option maxRecDepth 100000 in
theorem om_142 : okM 142 = true := by decide +kernel
set_option maxRecDepth 100000 in
theorem om_143 : okM 143 = true := by decide +kernel
set_option maxRecDepth 100000 in
theorem om_144 : okM 144 = true := by decide +kernel
set_option maxRecDepth 100000 in
theorem om_145 : okM 145 = true := by decide +kernel
set_option maxRecDepth 100000 in
theorem om_146 : okM 146 = true := by decide +kernel
set_option maxRecDepth 100000 in
theorem om_147 : okM 147 = true := by decide +kernel
set_option maxRecDepth 100000 in
theorem om_148 : okM 148 = true := by decide +kernel
set_option maxRecDepth 100000 in
theorem om_149 : okM 149 = true := by decide +kernel
set_option maxRecDepth 100000 in
theorem om_150 : okM 150 = true := by decide +kernel
set_option maxRecDepth 100000 in
theorem om_151 : okM 151 = true := by decide +kernel
set_option maxRecDepth 100000 in
theorem om_152 : okM 152 = true := by decide +kernel
set_option maxRecDepth 100000 in
theorem om_153 : okM 153 = true := by decide +kernel
set_option maxRecDepth 100000 in
theorem om_154 : okM 154 = true := by decide +kernel
set_option maxRecDepth 100000 in
theorem om_155 : okM 155 = true := by decide +kernel
set_option maxRecDepth 100000 in
theorem om_156 : okM 156 = true := by decide +kernel
set_option maxRecDepth 100000 in
theorem om_157 : okM 157 = true := by decide +kernel
set_option maxRecDepth 100000 in
theorem om_158 : okM 158 = true := by decide +kernel
set_option maxRecDepth 100000 in
theorem om_159 : okM 159 = true := by decide +kernel
set_option maxRecDepth 100000 in
theorem om_160 : okM 160 = true := by decide +kernel
set_option maxRecDepth 100000 in
theorem om_161 : okM 161 = true := by decide +kernel
set_option maxRecDepth 100000 in
theorem om_162 : okM 162 = true := by decide +kernel
set_option maxRecDepth 100000 in
theorem om_163 : okM 163 = true := by decide +kernel
set_option maxRecDepth 100000 in
theorem om_164 : okM 164 = true := by decide +kernel
set_option maxRecDepth 100000 in
theorem om_165 : okM 165 = true := by decide +kernel
set_option maxRecDepth 100000 in
theorem om_166 : okM 166 = true := by decide +kernel
set_option maxRecDepth 100000 in
theorem om_167 : okM 167 = true := by decide +kernel
set_option maxRecDepth 100000 in
theorem om_168 : okM 168 = true := by decide +kernel
set_option maxRecDepth 100000 in
theorem om_169 : okM 169 = true := by decide +kernel
set_option maxRecDepth 100000 in
theorem om_170 : okM 170 = true := by decide +kernel
set_option maxRecDepth 100000 in
theorem om_171 : okM 171 = true := by decide +kernel
set_option maxRecDepth 100000 in
theorem om_172 : okM 172 = true := by decide +kernel
set_option maxRecDepth 100000 in
theorem om_173 : okM 173 = true := by decide +kernel
set_option maxRecDepth 100000 in
theorem om_174 : okM 174 = true := by decide +kernel
set_option maxRecDepth 100000 in
theorem om_175 : okM 175 = true := by decide +kernel
set_option maxRecDepth 100000 in
theorem om_176 : okM 176 = true := by decide +kernel
set_option maxRecDepth 100000 in
theorem om_177 : okM 177 = true := by decide +kernel
set_option maxRecDepth 100000 in
theorem om_178 : okM 178 = true := by decide +kernel
set_option maxRecDepth 100000 in
theorem om_179 : okM 179 = true := by decide +kernel
set_option maxRecDepth 100000 in
theorem om_180 : okM 180 = true := by decide +kernel
set_option maxRecDepth 100000 in
theorem om_181 : okM 181 = true := by decide +kernel
set_option maxRecDepth 100000 in
theorem om_182 : okM 182 = true := by decide +kernel
set_option maxRecDepth 100000 in
theorem om_183 : okM 183 = true := by decide +kernel
set_option maxRecDepth 100000 in
theorem om_184 : okM 184 = true := by decide +kernel
set_option maxRecDepth 100000 in
theorem om_185 : okM 185 = true := by decide +kernel
set_option maxRecDepth 100000 in
theorem om_186 : okM 186 = true := by decide +kernel
set_option maxRecDepth 100000 in
theorem om_187 : okM 187 = true := by decide +kernel
set_option maxRecDepth 100000 in
theorem om_188 : okM 188 = true := by decide +kernel
set_option maxRecDepth 100000 in
theorem om_189 : okM 189 = true := by decide +kernel
set_option maxRecDepth 100000 in
theorem om_190 : okM 190 = true := by decide +kernel
set_option maxRecDepth 100000 in
theorem om_191 : okM 191 = true := by decide +kernel
set_option maxRecDepth 100000 in
theorem om_192 : okM 192 = true := by decide +kernel
set_option maxRecDepth 100000 in
theorem om_193 : okM 193 = true := by decide +kernel
set_option maxRecDepth 100000 in
theorem om_194 : okM 194 = true := by decide +kernel
set_option maxRecDepth 100000 in
theorem om_195 : okM 195 = true := by decide +kernel
set_option maxRecDepth 100000 in
theorem om_196 : okM 196 = true := by decide +kernel
set_option maxRecDepth 100000 in
theorem om_197 : okM 197 = true := by decide +kernel
set_option maxRecDepth 100000 in
theorem om_198 : okM 198 = true := by decide +kernel
set_option maxRecDepth 100000 in
theorem om_199 : okM 199 = true := by decide +kernel
