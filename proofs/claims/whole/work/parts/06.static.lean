/-! STATIC: the world behind both constructors: what lies at which offset, out of the constructors by program; its numbers in one function -/
abbrev Mu : Type := Nat → Nat → Int32
abbrev NW : Nat := 473
abbrev ix (x : Int32) : Nat := x.toNatClampNeg
/-- all slots of the world -/
abbrev NS : Nat := 17501
def shG0 (o : Nat) : Nat ⊕ Nat × Nat := (bif Nat.blt o 20 then (bif Nat.blt o 10 then (bif Nat.blt o 5 then (bif Nat.blt o 2 then (bif Nat.blt o 1 then .inl 11 else .inl 3) else (bif Nat.blt o 3 then .inr (0, 100) else (bif Nat.blt o 4 then .inr (0, 10) else .inr (0, 6)))) else (bif Nat.blt o 7 then (bif Nat.blt o 6 then .inr (0, 24) else .inr (0, 6)) else (bif Nat.blt o 8 then .inr (0, 6) else (bif Nat.blt o 9 then .inr (0, 8) else .inr (0, 8))))) else (bif Nat.blt o 15 then (bif Nat.blt o 12 then (bif Nat.blt o 11 then .inr (0, 8) else .inr (0, 8)) else (bif Nat.blt o 13 then .inr (0, 2) else (bif Nat.blt o 14 then .inr (0, 12) else .inl 3))) else (bif Nat.blt o 17 then (bif Nat.blt o 16 then .inr (0, 100) else .inr (0, 10)) else (bif Nat.blt o 18 then .inr (0, 6) else (bif Nat.blt o 19 then .inr (0, 24) else .inr (0, 6)))))) else (bif Nat.blt o 30 then (bif Nat.blt o 25 then (bif Nat.blt o 22 then (bif Nat.blt o 21 then .inr (0, 6) else .inr (0, 8)) else (bif Nat.blt o 23 then .inr (0, 8) else (bif Nat.blt o 24 then .inr (0, 8) else .inr (0, 8)))) else (bif Nat.blt o 27 then (bif Nat.blt o 26 then .inr (0, 2) else .inr (0, 12)) else (bif Nat.blt o 28 then .inl 6 else (bif Nat.blt o 29 then .inr (0, 5) else .inr (0, 20))))) else (bif Nat.blt o 35 then (bif Nat.blt o 32 then (bif Nat.blt o 31 then .inr (0, 20) else .inl 9) else (bif Nat.blt o 33 then .inr (0, 300) else (bif Nat.blt o 34 then .inr (0, 50) else .inr (0, 250)))) else (bif Nat.blt o 37 then (bif Nat.blt o 36 then .inr (4, 2) else .inr (5, 2)) else (bif Nat.blt o 38 then .inl 3 else (bif Nat.blt o 39 then .inr (0, 100) else .inr (0, 10)))))))
def shG40 (o : Nat) : Nat ⊕ Nat × Nat := (bif Nat.blt o 60 then (bif Nat.blt o 50 then (bif Nat.blt o 45 then (bif Nat.blt o 42 then (bif Nat.blt o 41 then .inr (0, 6) else .inr (0, 24)) else (bif Nat.blt o 43 then .inr (0, 6) else (bif Nat.blt o 44 then .inr (0, 6) else .inr (0, 8)))) else (bif Nat.blt o 47 then (bif Nat.blt o 46 then .inr (0, 8) else .inr (0, 8)) else (bif Nat.blt o 48 then .inr (0, 8) else (bif Nat.blt o 49 then .inr (0, 2) else .inr (0, 12))))) else (bif Nat.blt o 55 then (bif Nat.blt o 52 then (bif Nat.blt o 51 then .inl 6 else .inr (0, 5)) else (bif Nat.blt o 53 then .inr (0, 20) else (bif Nat.blt o 54 then .inr (0, 20) else .inl 3))) else (bif Nat.blt o 57 then (bif Nat.blt o 56 then .inr (0, 100) else .inr (0, 10)) else (bif Nat.blt o 58 then .inr (0, 6) else (bif Nat.blt o 59 then .inr (0, 24) else .inr (0, 6)))))) else (bif Nat.blt o 70 then (bif Nat.blt o 65 then (bif Nat.blt o 62 then (bif Nat.blt o 61 then .inr (0, 6) else .inr (0, 8)) else (bif Nat.blt o 63 then .inr (0, 8) else (bif Nat.blt o 64 then .inr (0, 8) else .inr (0, 8)))) else (bif Nat.blt o 67 then (bif Nat.blt o 66 then .inr (0, 2) else .inr (0, 12)) else (bif Nat.blt o 68 then .inl 6 else (bif Nat.blt o 69 then .inr (0, 5) else .inr (0, 20))))) else (bif Nat.blt o 75 then (bif Nat.blt o 72 then (bif Nat.blt o 71 then .inr (0, 20) else .inr (1, 2)) else (bif Nat.blt o 73 then .inr (0, 3) else (bif Nat.blt o 74 then .inl 10 else .inr (0, 100)))) else (bif Nat.blt o 77 then (bif Nat.blt o 76 then .inr (0, 100) else .inr (0, 800)) else (bif Nat.blt o 78 then .inr (0, 800) else (bif Nat.blt o 79 then .inl 4 else .inr (0, 6)))))))
def shG80 (o : Nat) : Nat ⊕ Nat × Nat := (bif Nat.blt o 100 then (bif Nat.blt o 90 then (bif Nat.blt o 85 then (bif Nat.blt o 82 then (bif Nat.blt o 81 then .inr (0, 6) else .inr (0, 6)) else (bif Nat.blt o 83 then .inr (0, 6) else (bif Nat.blt o 84 then .inr (0, 6) else .inr (0, 6)))) else (bif Nat.blt o 87 then (bif Nat.blt o 86 then .inl 4 else .inr (0, 6)) else (bif Nat.blt o 88 then .inr (0, 6) else (bif Nat.blt o 89 then .inr (0, 6) else .inr (0, 6))))) else (bif Nat.blt o 95 then (bif Nat.blt o 92 then (bif Nat.blt o 91 then .inr (0, 6) else .inr (0, 6)) else (bif Nat.blt o 93 then .inl 5 else (bif Nat.blt o 94 then .inl 0 else .inr (0, 24)))) else (bif Nat.blt o 97 then (bif Nat.blt o 96 then .inl 0 else .inr (0, 24)) else (bif Nat.blt o 98 then .inl 0 else (bif Nat.blt o 99 then .inr (0, 24) else .inl 0))))) else (bif Nat.blt o 110 then (bif Nat.blt o 105 then (bif Nat.blt o 102 then (bif Nat.blt o 101 then .inr (0, 24) else .inl 0) else (bif Nat.blt o 103 then .inr (0, 24) else (bif Nat.blt o 104 then .inl 0 else .inr (0, 24)))) else (bif Nat.blt o 107 then (bif Nat.blt o 106 then .inl 8 else .inr (3, 37)) else (bif Nat.blt o 108 then .inr (3, 37) else (bif Nat.blt o 109 then .inr (3, 7) else .inl 0)))) else (bif Nat.blt o 115 then (bif Nat.blt o 112 then (bif Nat.blt o 111 then .inr (0, 24) else .inl 0) else (bif Nat.blt o 113 then .inr (0, 24) else (bif Nat.blt o 114 then .inl 0 else .inr (0, 24)))) else (bif Nat.blt o 117 then (bif Nat.blt o 116 then .inl 0 else .inr (0, 24)) else (bif Nat.blt o 118 then .inl 0 else (bif Nat.blt o 119 then .inr (0, 24) else .inl 0))))))
def shG120 (o : Nat) : Nat ⊕ Nat × Nat := (bif Nat.blt o 140 then (bif Nat.blt o 130 then (bif Nat.blt o 125 then (bif Nat.blt o 122 then (bif Nat.blt o 121 then .inr (0, 24) else .inl 0) else (bif Nat.blt o 123 then .inr (0, 24) else (bif Nat.blt o 124 then .inl 0 else .inr (0, 24)))) else (bif Nat.blt o 127 then (bif Nat.blt o 126 then .inl 0 else .inr (0, 24)) else (bif Nat.blt o 128 then .inl 0 else (bif Nat.blt o 129 then .inr (0, 24) else .inl 0)))) else (bif Nat.blt o 135 then (bif Nat.blt o 132 then (bif Nat.blt o 131 then .inr (0, 24) else .inl 0) else (bif Nat.blt o 133 then .inr (0, 24) else (bif Nat.blt o 134 then .inl 0 else .inr (0, 24)))) else (bif Nat.blt o 137 then (bif Nat.blt o 136 then .inl 0 else .inr (0, 24)) else (bif Nat.blt o 138 then .inl 0 else (bif Nat.blt o 139 then .inr (0, 24) else .inl 0))))) else (bif Nat.blt o 150 then (bif Nat.blt o 145 then (bif Nat.blt o 142 then (bif Nat.blt o 141 then .inr (0, 24) else .inl 0) else (bif Nat.blt o 143 then .inr (0, 24) else (bif Nat.blt o 144 then .inl 0 else .inr (0, 24)))) else (bif Nat.blt o 147 then (bif Nat.blt o 146 then .inl 0 else .inr (0, 24)) else (bif Nat.blt o 148 then .inl 0 else (bif Nat.blt o 149 then .inr (0, 24) else .inl 0)))) else (bif Nat.blt o 155 then (bif Nat.blt o 152 then (bif Nat.blt o 151 then .inr (0, 24) else .inl 0) else (bif Nat.blt o 153 then .inr (0, 24) else (bif Nat.blt o 154 then .inl 0 else .inr (0, 24)))) else (bif Nat.blt o 157 then (bif Nat.blt o 156 then .inl 0 else .inr (0, 24)) else (bif Nat.blt o 158 then .inl 0 else (bif Nat.blt o 159 then .inr (0, 24) else .inl 0))))))
def shG160 (o : Nat) : Nat ⊕ Nat × Nat := (bif Nat.blt o 180 then (bif Nat.blt o 170 then (bif Nat.blt o 165 then (bif Nat.blt o 162 then (bif Nat.blt o 161 then .inr (0, 24) else .inl 0) else (bif Nat.blt o 163 then .inr (0, 24) else (bif Nat.blt o 164 then .inl 0 else .inr (0, 24)))) else (bif Nat.blt o 167 then (bif Nat.blt o 166 then .inl 0 else .inr (0, 24)) else (bif Nat.blt o 168 then .inl 0 else (bif Nat.blt o 169 then .inr (0, 24) else .inl 0)))) else (bif Nat.blt o 175 then (bif Nat.blt o 172 then (bif Nat.blt o 171 then .inr (0, 24) else .inl 0) else (bif Nat.blt o 173 then .inr (0, 24) else (bif Nat.blt o 174 then .inl 0 else .inr (0, 24)))) else (bif Nat.blt o 177 then (bif Nat.blt o 176 then .inl 0 else .inr (0, 24)) else (bif Nat.blt o 178 then .inl 0 else (bif Nat.blt o 179 then .inr (0, 24) else .inl 0))))) else (bif Nat.blt o 190 then (bif Nat.blt o 185 then (bif Nat.blt o 182 then (bif Nat.blt o 181 then .inr (0, 24) else .inl 0) else (bif Nat.blt o 183 then .inr (0, 24) else (bif Nat.blt o 184 then .inl 0 else .inr (0, 24)))) else (bif Nat.blt o 187 then (bif Nat.blt o 186 then .inl 0 else .inr (0, 24)) else (bif Nat.blt o 188 then .inl 0 else (bif Nat.blt o 189 then .inr (0, 24) else .inl 0)))) else (bif Nat.blt o 195 then (bif Nat.blt o 192 then (bif Nat.blt o 191 then .inr (0, 24) else .inl 0) else (bif Nat.blt o 193 then .inr (0, 24) else (bif Nat.blt o 194 then .inl 0 else .inr (0, 24)))) else (bif Nat.blt o 197 then (bif Nat.blt o 196 then .inl 0 else .inr (0, 24)) else (bif Nat.blt o 198 then .inl 0 else (bif Nat.blt o 199 then .inr (0, 24) else .inl 0))))))
def shG200 (o : Nat) : Nat ⊕ Nat × Nat := (bif Nat.blt o 220 then (bif Nat.blt o 210 then (bif Nat.blt o 205 then (bif Nat.blt o 202 then (bif Nat.blt o 201 then .inr (0, 24) else .inl 0) else (bif Nat.blt o 203 then .inr (0, 24) else (bif Nat.blt o 204 then .inl 0 else .inr (0, 24)))) else (bif Nat.blt o 207 then (bif Nat.blt o 206 then .inl 0 else .inr (0, 24)) else (bif Nat.blt o 208 then .inl 0 else (bif Nat.blt o 209 then .inr (0, 24) else .inl 0)))) else (bif Nat.blt o 215 then (bif Nat.blt o 212 then (bif Nat.blt o 211 then .inr (0, 24) else .inl 0) else (bif Nat.blt o 213 then .inr (0, 24) else (bif Nat.blt o 214 then .inl 0 else .inr (0, 24)))) else (bif Nat.blt o 217 then (bif Nat.blt o 216 then .inl 0 else .inr (0, 24)) else (bif Nat.blt o 218 then .inl 0 else (bif Nat.blt o 219 then .inr (0, 24) else .inl 0))))) else (bif Nat.blt o 230 then (bif Nat.blt o 225 then (bif Nat.blt o 222 then (bif Nat.blt o 221 then .inr (0, 24) else .inl 0) else (bif Nat.blt o 223 then .inr (0, 24) else (bif Nat.blt o 224 then .inl 0 else .inr (0, 24)))) else (bif Nat.blt o 227 then (bif Nat.blt o 226 then .inl 0 else .inr (0, 24)) else (bif Nat.blt o 228 then .inl 0 else (bif Nat.blt o 229 then .inr (0, 24) else .inl 0)))) else (bif Nat.blt o 235 then (bif Nat.blt o 232 then (bif Nat.blt o 231 then .inr (0, 24) else .inl 0) else (bif Nat.blt o 233 then .inr (0, 24) else (bif Nat.blt o 234 then .inl 0 else .inr (0, 24)))) else (bif Nat.blt o 237 then (bif Nat.blt o 236 then .inl 0 else .inr (0, 24)) else (bif Nat.blt o 238 then .inl 0 else (bif Nat.blt o 239 then .inr (0, 24) else .inl 0))))))
def shG240 (o : Nat) : Nat ⊕ Nat × Nat := (bif Nat.blt o 260 then (bif Nat.blt o 250 then (bif Nat.blt o 245 then (bif Nat.blt o 242 then (bif Nat.blt o 241 then .inr (0, 24) else .inl 0) else (bif Nat.blt o 243 then .inr (0, 24) else (bif Nat.blt o 244 then .inl 0 else .inr (0, 24)))) else (bif Nat.blt o 247 then (bif Nat.blt o 246 then .inl 0 else .inr (0, 24)) else (bif Nat.blt o 248 then .inl 0 else (bif Nat.blt o 249 then .inr (0, 24) else .inl 0)))) else (bif Nat.blt o 255 then (bif Nat.blt o 252 then (bif Nat.blt o 251 then .inr (0, 24) else .inl 0) else (bif Nat.blt o 253 then .inr (0, 24) else (bif Nat.blt o 254 then .inl 0 else .inr (0, 24)))) else (bif Nat.blt o 257 then (bif Nat.blt o 256 then .inl 0 else .inr (0, 24)) else (bif Nat.blt o 258 then .inl 0 else (bif Nat.blt o 259 then .inr (0, 24) else .inl 0))))) else (bif Nat.blt o 270 then (bif Nat.blt o 265 then (bif Nat.blt o 262 then (bif Nat.blt o 261 then .inr (0, 24) else .inl 0) else (bif Nat.blt o 263 then .inr (0, 24) else (bif Nat.blt o 264 then .inl 0 else .inr (0, 24)))) else (bif Nat.blt o 267 then (bif Nat.blt o 266 then .inl 0 else .inr (0, 24)) else (bif Nat.blt o 268 then .inl 0 else (bif Nat.blt o 269 then .inr (0, 24) else .inl 0)))) else (bif Nat.blt o 275 then (bif Nat.blt o 272 then (bif Nat.blt o 271 then .inr (0, 24) else .inl 0) else (bif Nat.blt o 273 then .inr (0, 24) else (bif Nat.blt o 274 then .inl 7 else .inr (0, 6)))) else (bif Nat.blt o 277 then (bif Nat.blt o 276 then .inl 0 else .inr (0, 24)) else (bif Nat.blt o 278 then .inl 0 else (bif Nat.blt o 279 then .inr (0, 24) else .inl 0))))))
def shG280 (o : Nat) : Nat ⊕ Nat × Nat := (bif Nat.blt o 300 then (bif Nat.blt o 290 then (bif Nat.blt o 285 then (bif Nat.blt o 282 then (bif Nat.blt o 281 then .inr (0, 24) else .inl 0) else (bif Nat.blt o 283 then .inr (0, 24) else (bif Nat.blt o 284 then .inl 0 else .inr (0, 24)))) else (bif Nat.blt o 287 then (bif Nat.blt o 286 then .inl 1 else .inr (0, 6)) else (bif Nat.blt o 288 then .inl 0 else (bif Nat.blt o 289 then .inr (0, 24) else .inl 0)))) else (bif Nat.blt o 295 then (bif Nat.blt o 292 then (bif Nat.blt o 291 then .inr (0, 24) else .inl 0) else (bif Nat.blt o 293 then .inr (0, 24) else (bif Nat.blt o 294 then .inr (0, 6) else .inr (3, 24)))) else (bif Nat.blt o 297 then (bif Nat.blt o 296 then .inr (0, 144) else .inr (3, 7)) else (bif Nat.blt o 298 then .inr (3, 42) else (bif Nat.blt o 299 then .inl 0 else .inr (0, 24)))))) else (bif Nat.blt o 310 then (bif Nat.blt o 305 then (bif Nat.blt o 302 then (bif Nat.blt o 301 then .inl 0 else .inr (0, 24)) else (bif Nat.blt o 303 then .inl 0 else (bif Nat.blt o 304 then .inr (0, 24) else .inl 0))) else (bif Nat.blt o 307 then (bif Nat.blt o 306 then .inr (0, 24) else .inl 0) else (bif Nat.blt o 308 then .inr (0, 24) else (bif Nat.blt o 309 then .inl 0 else .inr (0, 24))))) else (bif Nat.blt o 315 then (bif Nat.blt o 312 then (bif Nat.blt o 311 then .inl 0 else .inr (0, 24)) else (bif Nat.blt o 313 then .inl 0 else (bif Nat.blt o 314 then .inr (0, 24) else .inl 0))) else (bif Nat.blt o 317 then (bif Nat.blt o 316 then .inr (0, 24) else .inl 0) else (bif Nat.blt o 318 then .inr (0, 24) else (bif Nat.blt o 319 then .inl 0 else .inr (0, 24)))))))
def shG320 (o : Nat) : Nat ⊕ Nat × Nat := (bif Nat.blt o 340 then (bif Nat.blt o 330 then (bif Nat.blt o 325 then (bif Nat.blt o 322 then (bif Nat.blt o 321 then .inl 0 else .inr (0, 24)) else (bif Nat.blt o 323 then .inl 0 else (bif Nat.blt o 324 then .inr (0, 24) else .inl 0))) else (bif Nat.blt o 327 then (bif Nat.blt o 326 then .inr (0, 24) else .inl 0) else (bif Nat.blt o 328 then .inr (0, 24) else (bif Nat.blt o 329 then .inl 0 else .inr (0, 24))))) else (bif Nat.blt o 335 then (bif Nat.blt o 332 then (bif Nat.blt o 331 then .inl 0 else .inr (0, 24)) else (bif Nat.blt o 333 then .inl 0 else (bif Nat.blt o 334 then .inr (0, 24) else .inl 0))) else (bif Nat.blt o 337 then (bif Nat.blt o 336 then .inr (0, 24) else .inl 0) else (bif Nat.blt o 338 then .inr (0, 24) else (bif Nat.blt o 339 then .inl 0 else .inr (0, 24)))))) else (bif Nat.blt o 350 then (bif Nat.blt o 345 then (bif Nat.blt o 342 then (bif Nat.blt o 341 then .inl 0 else .inr (0, 24)) else (bif Nat.blt o 343 then .inl 0 else (bif Nat.blt o 344 then .inr (0, 24) else .inl 0))) else (bif Nat.blt o 347 then (bif Nat.blt o 346 then .inr (0, 24) else .inl 0) else (bif Nat.blt o 348 then .inr (0, 24) else (bif Nat.blt o 349 then .inl 0 else .inr (0, 24))))) else (bif Nat.blt o 355 then (bif Nat.blt o 352 then (bif Nat.blt o 351 then .inl 0 else .inr (0, 24)) else (bif Nat.blt o 353 then .inl 0 else (bif Nat.blt o 354 then .inr (0, 24) else .inl 0))) else (bif Nat.blt o 357 then (bif Nat.blt o 356 then .inr (0, 24) else .inl 0) else (bif Nat.blt o 358 then .inr (0, 24) else (bif Nat.blt o 359 then .inl 0 else .inr (0, 24)))))))
def shG360 (o : Nat) : Nat ⊕ Nat × Nat := (bif Nat.blt o 380 then (bif Nat.blt o 370 then (bif Nat.blt o 365 then (bif Nat.blt o 362 then (bif Nat.blt o 361 then .inl 0 else .inr (0, 24)) else (bif Nat.blt o 363 then .inl 0 else (bif Nat.blt o 364 then .inr (0, 24) else .inl 0))) else (bif Nat.blt o 367 then (bif Nat.blt o 366 then .inr (0, 24) else .inl 0) else (bif Nat.blt o 368 then .inr (0, 24) else (bif Nat.blt o 369 then .inl 0 else .inr (0, 24))))) else (bif Nat.blt o 375 then (bif Nat.blt o 372 then (bif Nat.blt o 371 then .inl 0 else .inr (0, 24)) else (bif Nat.blt o 373 then .inl 0 else (bif Nat.blt o 374 then .inr (0, 24) else .inl 0))) else (bif Nat.blt o 377 then (bif Nat.blt o 376 then .inr (0, 24) else .inl 0) else (bif Nat.blt o 378 then .inr (0, 24) else (bif Nat.blt o 379 then .inl 0 else .inr (0, 24)))))) else (bif Nat.blt o 390 then (bif Nat.blt o 385 then (bif Nat.blt o 382 then (bif Nat.blt o 381 then .inl 0 else .inr (0, 24)) else (bif Nat.blt o 383 then .inl 0 else (bif Nat.blt o 384 then .inr (0, 24) else .inl 0))) else (bif Nat.blt o 387 then (bif Nat.blt o 386 then .inr (0, 24) else .inl 0) else (bif Nat.blt o 388 then .inr (0, 24) else (bif Nat.blt o 389 then .inl 0 else .inr (0, 24))))) else (bif Nat.blt o 395 then (bif Nat.blt o 392 then (bif Nat.blt o 391 then .inl 0 else .inr (0, 24)) else (bif Nat.blt o 393 then .inl 0 else (bif Nat.blt o 394 then .inr (0, 24) else .inl 0))) else (bif Nat.blt o 397 then (bif Nat.blt o 396 then .inr (0, 24) else .inl 0) else (bif Nat.blt o 398 then .inr (0, 24) else (bif Nat.blt o 399 then .inl 0 else .inr (0, 24)))))))
def shG400 (o : Nat) : Nat ⊕ Nat × Nat := (bif Nat.blt o 420 then (bif Nat.blt o 410 then (bif Nat.blt o 405 then (bif Nat.blt o 402 then (bif Nat.blt o 401 then .inl 0 else .inr (0, 24)) else (bif Nat.blt o 403 then .inl 0 else (bif Nat.blt o 404 then .inr (0, 24) else .inl 0))) else (bif Nat.blt o 407 then (bif Nat.blt o 406 then .inr (0, 24) else .inl 0) else (bif Nat.blt o 408 then .inr (0, 24) else (bif Nat.blt o 409 then .inl 0 else .inr (0, 24))))) else (bif Nat.blt o 415 then (bif Nat.blt o 412 then (bif Nat.blt o 411 then .inl 0 else .inr (0, 24)) else (bif Nat.blt o 413 then .inl 0 else (bif Nat.blt o 414 then .inr (0, 24) else .inl 0))) else (bif Nat.blt o 417 then (bif Nat.blt o 416 then .inr (0, 24) else .inl 0) else (bif Nat.blt o 418 then .inr (0, 24) else (bif Nat.blt o 419 then .inl 0 else .inr (0, 24)))))) else (bif Nat.blt o 430 then (bif Nat.blt o 425 then (bif Nat.blt o 422 then (bif Nat.blt o 421 then .inl 0 else .inr (0, 24)) else (bif Nat.blt o 423 then .inl 0 else (bif Nat.blt o 424 then .inr (0, 24) else .inl 0))) else (bif Nat.blt o 427 then (bif Nat.blt o 426 then .inr (0, 24) else .inl 0) else (bif Nat.blt o 428 then .inr (0, 24) else (bif Nat.blt o 429 then .inl 0 else .inr (0, 24))))) else (bif Nat.blt o 435 then (bif Nat.blt o 432 then (bif Nat.blt o 431 then .inl 0 else .inr (0, 24)) else (bif Nat.blt o 433 then .inl 0 else (bif Nat.blt o 434 then .inr (0, 24) else .inl 0))) else (bif Nat.blt o 437 then (bif Nat.blt o 436 then .inr (0, 24) else .inl 0) else (bif Nat.blt o 438 then .inr (0, 24) else (bif Nat.blt o 439 then .inl 0 else .inr (0, 24)))))))
def shG440 (o : Nat) : Nat ⊕ Nat × Nat := (bif Nat.blt o 456 then (bif Nat.blt o 448 then (bif Nat.blt o 444 then (bif Nat.blt o 442 then (bif Nat.blt o 441 then .inl 0 else .inr (0, 24)) else (bif Nat.blt o 443 then .inl 0 else .inr (0, 24))) else (bif Nat.blt o 446 then (bif Nat.blt o 445 then .inl 0 else .inr (0, 24)) else (bif Nat.blt o 447 then .inl 2 else .inl 0))) else (bif Nat.blt o 452 then (bif Nat.blt o 450 then (bif Nat.blt o 449 then .inr (0, 24) else .inl 0) else (bif Nat.blt o 451 then .inr (0, 24) else .inl 0)) else (bif Nat.blt o 454 then (bif Nat.blt o 453 then .inr (0, 24) else .inl 0) else (bif Nat.blt o 455 then .inr (0, 24) else .inl 12)))) else (bif Nat.blt o 464 then (bif Nat.blt o 460 then (bif Nat.blt o 458 then (bif Nat.blt o 457 then .inr (0, 988) else .inr (1, 2)) else (bif Nat.blt o 459 then .inr (0, 3) else .inr (2, 300))) else (bif Nat.blt o 462 then (bif Nat.blt o 461 then .inr (0, 5) else .inr (0, 100)) else (bif Nat.blt o 463 then .inr (0, 6) else .inr (0, 6)))) else (bif Nat.blt o 468 then (bif Nat.blt o 466 then (bif Nat.blt o 465 then .inr (0, 6) else .inr (0, 7587)) else (bif Nat.blt o 467 then .inr (0, 6) else .inr (0, 6))) else (bif Nat.blt o 470 then (bif Nat.blt o 469 then .inr (0, 12) else .inr (0, 12)) else (bif Nat.blt o 471 then .inr (0, 12) else (bif Nat.blt o 472 then .inr (0, 2) else .inr (0, 8)))))))
def SH (o : Nat) : Nat ⊕ Nat × Nat := bif Nat.blt o 473 then (bif Nat.blt o 240 then (bif Nat.blt o 120 then (bif Nat.blt o 40 then shG0 o else (bif Nat.blt o 80 then shG40 o else shG80 o)) else (bif Nat.blt o 160 then shG120 o else (bif Nat.blt o 200 then shG160 o else shG200 o))) else (bif Nat.blt o 360 then (bif Nat.blt o 280 then shG240 o else (bif Nat.blt o 320 then shG280 o else shG320 o)) else (bif Nat.blt o 400 then shG360 o else (bif Nat.blt o 440 then shG400 o else shG440 o)))) else .inr (9, 0)
theorem SH_lt {o : Nat} {s : Nat ⊕ Nat × Nat} (h : SH o = s) (hs : s ≠ .inr (9, 0)) : o < NW := by
  rcases Nat.lt_or_ge o NW with h1 | h1
  · exact h1
  · refine absurd h.symm ?_
    have h2 : Nat.blt o NW = false := by
      cases h3 : Nat.blt o NW with
      | false => rfl
      | true => exact absurd (Nat.le_of_ble_eq_true h3) (by omega)
    unfold SH
    rw [show Nat.blt o 473 = false from h2]
    exact hs
theorem SH_lto {o c : Nat} (h : SH o = .inl c) : o < NW := SH_lt h (by intro e; cases e)
theorem SH_lta {o t n : Nat} (h : SH o = .inr (t, n)) (ht : t ≠ 9) : o < NW := SH_lt h (by intro e; cases e; exact ht rfl)
theorem SH_all {P : Nat → Prop} (d : ∀ o, o < NW → P o) {o c : Nat} (h : SH o = .inl c) : P o := d o (SH_lto h)
theorem sh0 : SH 0 = .inl 11 := rfl
theorem sh1 : SH 1 = .inl 3 := rfl
theorem sh2 : SH 2 = .inr (0, 100) := rfl
theorem sh3 : SH 3 = .inr (0, 10) := rfl
theorem sh4 : SH 4 = .inr (0, 6) := rfl
theorem sh5 : SH 5 = .inr (0, 24) := rfl
theorem sh6 : SH 6 = .inr (0, 6) := rfl
theorem sh7 : SH 7 = .inr (0, 6) := rfl
theorem sh8 : SH 8 = .inr (0, 8) := rfl
theorem sh9 : SH 9 = .inr (0, 8) := rfl
theorem sh10 : SH 10 = .inr (0, 8) := rfl
theorem sh11 : SH 11 = .inr (0, 8) := rfl
theorem sh12 : SH 12 = .inr (0, 2) := rfl
theorem sh13 : SH 13 = .inr (0, 12) := rfl
theorem sh14 : SH 14 = .inl 3 := rfl
theorem sh15 : SH 15 = .inr (0, 100) := rfl
theorem sh16 : SH 16 = .inr (0, 10) := rfl
theorem sh17 : SH 17 = .inr (0, 6) := rfl
theorem sh18 : SH 18 = .inr (0, 24) := rfl
theorem sh19 : SH 19 = .inr (0, 6) := rfl
theorem sh20 : SH 20 = .inr (0, 6) := rfl
theorem sh21 : SH 21 = .inr (0, 8) := rfl
theorem sh22 : SH 22 = .inr (0, 8) := rfl
theorem sh23 : SH 23 = .inr (0, 8) := rfl
theorem sh24 : SH 24 = .inr (0, 8) := rfl
theorem sh25 : SH 25 = .inr (0, 2) := rfl
theorem sh26 : SH 26 = .inr (0, 12) := rfl
theorem sh27 : SH 27 = .inl 6 := rfl
theorem sh28 : SH 28 = .inr (0, 5) := rfl
theorem sh29 : SH 29 = .inr (0, 20) := rfl
theorem sh30 : SH 30 = .inr (0, 20) := rfl
theorem sh31 : SH 31 = .inl 9 := rfl
theorem sh32 : SH 32 = .inr (0, 300) := rfl
theorem sh33 : SH 33 = .inr (0, 50) := rfl
theorem sh34 : SH 34 = .inr (0, 250) := rfl
theorem sh35 : SH 35 = .inr (4, 2) := rfl
theorem sh36 : SH 36 = .inr (5, 2) := rfl
theorem sh37 : SH 37 = .inl 3 := rfl
theorem sh38 : SH 38 = .inr (0, 100) := rfl
theorem sh39 : SH 39 = .inr (0, 10) := rfl
theorem sh40 : SH 40 = .inr (0, 6) := rfl
theorem sh41 : SH 41 = .inr (0, 24) := rfl
theorem sh42 : SH 42 = .inr (0, 6) := rfl
theorem sh43 : SH 43 = .inr (0, 6) := rfl
theorem sh44 : SH 44 = .inr (0, 8) := rfl
theorem sh45 : SH 45 = .inr (0, 8) := rfl
theorem sh46 : SH 46 = .inr (0, 8) := rfl
theorem sh47 : SH 47 = .inr (0, 8) := rfl
theorem sh48 : SH 48 = .inr (0, 2) := rfl
theorem sh49 : SH 49 = .inr (0, 12) := rfl
theorem sh50 : SH 50 = .inl 6 := rfl
theorem sh51 : SH 51 = .inr (0, 5) := rfl
theorem sh52 : SH 52 = .inr (0, 20) := rfl
theorem sh53 : SH 53 = .inr (0, 20) := rfl
theorem sh54 : SH 54 = .inl 3 := rfl
theorem sh55 : SH 55 = .inr (0, 100) := rfl
theorem sh56 : SH 56 = .inr (0, 10) := rfl
theorem sh57 : SH 57 = .inr (0, 6) := rfl
theorem sh58 : SH 58 = .inr (0, 24) := rfl
theorem sh59 : SH 59 = .inr (0, 6) := rfl
theorem sh60 : SH 60 = .inr (0, 6) := rfl
theorem sh61 : SH 61 = .inr (0, 8) := rfl
theorem sh62 : SH 62 = .inr (0, 8) := rfl
theorem sh63 : SH 63 = .inr (0, 8) := rfl
theorem sh64 : SH 64 = .inr (0, 8) := rfl
theorem sh65 : SH 65 = .inr (0, 2) := rfl
theorem sh66 : SH 66 = .inr (0, 12) := rfl
theorem sh67 : SH 67 = .inl 6 := rfl
theorem sh68 : SH 68 = .inr (0, 5) := rfl
theorem sh69 : SH 69 = .inr (0, 20) := rfl
theorem sh70 : SH 70 = .inr (0, 20) := rfl
theorem sh71 : SH 71 = .inr (1, 2) := rfl
theorem sh72 : SH 72 = .inr (0, 3) := rfl
theorem sh73 : SH 73 = .inl 10 := rfl
theorem sh74 : SH 74 = .inr (0, 100) := rfl
theorem sh75 : SH 75 = .inr (0, 100) := rfl
theorem sh76 : SH 76 = .inr (0, 800) := rfl
theorem sh77 : SH 77 = .inr (0, 800) := rfl
theorem sh78 : SH 78 = .inl 4 := rfl
theorem sh79 : SH 79 = .inr (0, 6) := rfl
theorem sh80 : SH 80 = .inr (0, 6) := rfl
theorem sh81 : SH 81 = .inr (0, 6) := rfl
theorem sh82 : SH 82 = .inr (0, 6) := rfl
theorem sh83 : SH 83 = .inr (0, 6) := rfl
theorem sh84 : SH 84 = .inr (0, 6) := rfl
theorem sh85 : SH 85 = .inl 4 := rfl
theorem sh86 : SH 86 = .inr (0, 6) := rfl
theorem sh87 : SH 87 = .inr (0, 6) := rfl
theorem sh88 : SH 88 = .inr (0, 6) := rfl
theorem sh89 : SH 89 = .inr (0, 6) := rfl
theorem sh90 : SH 90 = .inr (0, 6) := rfl
theorem sh91 : SH 91 = .inr (0, 6) := rfl
theorem sh92 : SH 92 = .inl 5 := rfl
theorem sh93 : SH 93 = .inl 0 := rfl
theorem sh94 : SH 94 = .inr (0, 24) := rfl
theorem sh95 : SH 95 = .inl 0 := rfl
theorem sh96 : SH 96 = .inr (0, 24) := rfl
theorem sh97 : SH 97 = .inl 0 := rfl
theorem sh98 : SH 98 = .inr (0, 24) := rfl
theorem sh99 : SH 99 = .inl 0 := rfl
theorem sh100 : SH 100 = .inr (0, 24) := rfl
theorem sh101 : SH 101 = .inl 0 := rfl
theorem sh102 : SH 102 = .inr (0, 24) := rfl
theorem sh103 : SH 103 = .inl 0 := rfl
theorem sh104 : SH 104 = .inr (0, 24) := rfl
theorem sh105 : SH 105 = .inl 8 := rfl
theorem sh106 : SH 106 = .inr (3, 37) := rfl
theorem sh107 : SH 107 = .inr (3, 37) := rfl
theorem sh108 : SH 108 = .inr (3, 7) := rfl
theorem sh109 : SH 109 = .inl 0 := rfl
theorem sh110 : SH 110 = .inr (0, 24) := rfl
theorem sh111 : SH 111 = .inl 0 := rfl
theorem sh112 : SH 112 = .inr (0, 24) := rfl
theorem sh113 : SH 113 = .inl 0 := rfl
theorem sh114 : SH 114 = .inr (0, 24) := rfl
theorem sh115 : SH 115 = .inl 0 := rfl
theorem sh116 : SH 116 = .inr (0, 24) := rfl
theorem sh117 : SH 117 = .inl 0 := rfl
theorem sh118 : SH 118 = .inr (0, 24) := rfl
theorem sh119 : SH 119 = .inl 0 := rfl
theorem sh120 : SH 120 = .inr (0, 24) := rfl
theorem sh121 : SH 121 = .inl 0 := rfl
theorem sh122 : SH 122 = .inr (0, 24) := rfl
theorem sh123 : SH 123 = .inl 0 := rfl
theorem sh124 : SH 124 = .inr (0, 24) := rfl
theorem sh125 : SH 125 = .inl 0 := rfl
theorem sh126 : SH 126 = .inr (0, 24) := rfl
theorem sh127 : SH 127 = .inl 0 := rfl
theorem sh128 : SH 128 = .inr (0, 24) := rfl
theorem sh129 : SH 129 = .inl 0 := rfl
theorem sh130 : SH 130 = .inr (0, 24) := rfl
theorem sh131 : SH 131 = .inl 0 := rfl
theorem sh132 : SH 132 = .inr (0, 24) := rfl
theorem sh133 : SH 133 = .inl 0 := rfl
theorem sh134 : SH 134 = .inr (0, 24) := rfl
theorem sh135 : SH 135 = .inl 0 := rfl
theorem sh136 : SH 136 = .inr (0, 24) := rfl
theorem sh137 : SH 137 = .inl 0 := rfl
theorem sh138 : SH 138 = .inr (0, 24) := rfl
theorem sh139 : SH 139 = .inl 0 := rfl
theorem sh140 : SH 140 = .inr (0, 24) := rfl
theorem sh141 : SH 141 = .inl 0 := rfl
theorem sh142 : SH 142 = .inr (0, 24) := rfl
theorem sh143 : SH 143 = .inl 0 := rfl
theorem sh144 : SH 144 = .inr (0, 24) := rfl
theorem sh145 : SH 145 = .inl 0 := rfl
theorem sh146 : SH 146 = .inr (0, 24) := rfl
theorem sh147 : SH 147 = .inl 0 := rfl
theorem sh148 : SH 148 = .inr (0, 24) := rfl
theorem sh149 : SH 149 = .inl 0 := rfl
theorem sh150 : SH 150 = .inr (0, 24) := rfl
theorem sh151 : SH 151 = .inl 0 := rfl
theorem sh152 : SH 152 = .inr (0, 24) := rfl
theorem sh153 : SH 153 = .inl 0 := rfl
theorem sh154 : SH 154 = .inr (0, 24) := rfl
theorem sh155 : SH 155 = .inl 0 := rfl
theorem sh156 : SH 156 = .inr (0, 24) := rfl
theorem sh157 : SH 157 = .inl 0 := rfl
theorem sh158 : SH 158 = .inr (0, 24) := rfl
theorem sh159 : SH 159 = .inl 0 := rfl
theorem sh160 : SH 160 = .inr (0, 24) := rfl
theorem sh161 : SH 161 = .inl 0 := rfl
theorem sh162 : SH 162 = .inr (0, 24) := rfl
theorem sh163 : SH 163 = .inl 0 := rfl
theorem sh164 : SH 164 = .inr (0, 24) := rfl
theorem sh165 : SH 165 = .inl 0 := rfl
theorem sh166 : SH 166 = .inr (0, 24) := rfl
theorem sh167 : SH 167 = .inl 0 := rfl
theorem sh168 : SH 168 = .inr (0, 24) := rfl
theorem sh169 : SH 169 = .inl 0 := rfl
theorem sh170 : SH 170 = .inr (0, 24) := rfl
theorem sh171 : SH 171 = .inl 0 := rfl
theorem sh172 : SH 172 = .inr (0, 24) := rfl
theorem sh173 : SH 173 = .inl 0 := rfl
theorem sh174 : SH 174 = .inr (0, 24) := rfl
theorem sh175 : SH 175 = .inl 0 := rfl
theorem sh176 : SH 176 = .inr (0, 24) := rfl
theorem sh177 : SH 177 = .inl 0 := rfl
theorem sh178 : SH 178 = .inr (0, 24) := rfl
theorem sh179 : SH 179 = .inl 0 := rfl
theorem sh180 : SH 180 = .inr (0, 24) := rfl
theorem sh181 : SH 181 = .inl 0 := rfl
theorem sh182 : SH 182 = .inr (0, 24) := rfl
theorem sh183 : SH 183 = .inl 0 := rfl
theorem sh184 : SH 184 = .inr (0, 24) := rfl
theorem sh185 : SH 185 = .inl 0 := rfl
theorem sh186 : SH 186 = .inr (0, 24) := rfl
theorem sh187 : SH 187 = .inl 0 := rfl
theorem sh188 : SH 188 = .inr (0, 24) := rfl
theorem sh189 : SH 189 = .inl 0 := rfl
theorem sh190 : SH 190 = .inr (0, 24) := rfl
theorem sh191 : SH 191 = .inl 0 := rfl
theorem sh192 : SH 192 = .inr (0, 24) := rfl
theorem sh193 : SH 193 = .inl 0 := rfl
theorem sh194 : SH 194 = .inr (0, 24) := rfl
theorem sh195 : SH 195 = .inl 0 := rfl
theorem sh196 : SH 196 = .inr (0, 24) := rfl
theorem sh197 : SH 197 = .inl 0 := rfl
theorem sh198 : SH 198 = .inr (0, 24) := rfl
theorem sh199 : SH 199 = .inl 0 := rfl
theorem sh200 : SH 200 = .inr (0, 24) := rfl
theorem sh201 : SH 201 = .inl 0 := rfl
theorem sh202 : SH 202 = .inr (0, 24) := rfl
theorem sh203 : SH 203 = .inl 0 := rfl
theorem sh204 : SH 204 = .inr (0, 24) := rfl
theorem sh205 : SH 205 = .inl 0 := rfl
theorem sh206 : SH 206 = .inr (0, 24) := rfl
theorem sh207 : SH 207 = .inl 0 := rfl
theorem sh208 : SH 208 = .inr (0, 24) := rfl
theorem sh209 : SH 209 = .inl 0 := rfl
theorem sh210 : SH 210 = .inr (0, 24) := rfl
theorem sh211 : SH 211 = .inl 0 := rfl
theorem sh212 : SH 212 = .inr (0, 24) := rfl
theorem sh213 : SH 213 = .inl 0 := rfl
theorem sh214 : SH 214 = .inr (0, 24) := rfl
theorem sh215 : SH 215 = .inl 0 := rfl
theorem sh216 : SH 216 = .inr (0, 24) := rfl
theorem sh217 : SH 217 = .inl 0 := rfl
theorem sh218 : SH 218 = .inr (0, 24) := rfl
theorem sh219 : SH 219 = .inl 0 := rfl
theorem sh220 : SH 220 = .inr (0, 24) := rfl
theorem sh221 : SH 221 = .inl 0 := rfl
theorem sh222 : SH 222 = .inr (0, 24) := rfl
theorem sh223 : SH 223 = .inl 0 := rfl
theorem sh224 : SH 224 = .inr (0, 24) := rfl
theorem sh225 : SH 225 = .inl 0 := rfl
theorem sh226 : SH 226 = .inr (0, 24) := rfl
theorem sh227 : SH 227 = .inl 0 := rfl
theorem sh228 : SH 228 = .inr (0, 24) := rfl
theorem sh229 : SH 229 = .inl 0 := rfl
theorem sh230 : SH 230 = .inr (0, 24) := rfl
theorem sh231 : SH 231 = .inl 0 := rfl
theorem sh232 : SH 232 = .inr (0, 24) := rfl
theorem sh233 : SH 233 = .inl 0 := rfl
theorem sh234 : SH 234 = .inr (0, 24) := rfl
theorem sh235 : SH 235 = .inl 0 := rfl
theorem sh236 : SH 236 = .inr (0, 24) := rfl
theorem sh237 : SH 237 = .inl 0 := rfl
theorem sh238 : SH 238 = .inr (0, 24) := rfl
theorem sh239 : SH 239 = .inl 0 := rfl
theorem sh240 : SH 240 = .inr (0, 24) := rfl
theorem sh241 : SH 241 = .inl 0 := rfl
theorem sh242 : SH 242 = .inr (0, 24) := rfl
theorem sh243 : SH 243 = .inl 0 := rfl
theorem sh244 : SH 244 = .inr (0, 24) := rfl
theorem sh245 : SH 245 = .inl 0 := rfl
theorem sh246 : SH 246 = .inr (0, 24) := rfl
theorem sh247 : SH 247 = .inl 0 := rfl
theorem sh248 : SH 248 = .inr (0, 24) := rfl
theorem sh249 : SH 249 = .inl 0 := rfl
theorem sh250 : SH 250 = .inr (0, 24) := rfl
theorem sh251 : SH 251 = .inl 0 := rfl
theorem sh252 : SH 252 = .inr (0, 24) := rfl
theorem sh253 : SH 253 = .inl 0 := rfl
theorem sh254 : SH 254 = .inr (0, 24) := rfl
theorem sh255 : SH 255 = .inl 0 := rfl
theorem sh256 : SH 256 = .inr (0, 24) := rfl
theorem sh257 : SH 257 = .inl 0 := rfl
theorem sh258 : SH 258 = .inr (0, 24) := rfl
theorem sh259 : SH 259 = .inl 0 := rfl
theorem sh260 : SH 260 = .inr (0, 24) := rfl
theorem sh261 : SH 261 = .inl 0 := rfl
theorem sh262 : SH 262 = .inr (0, 24) := rfl
theorem sh263 : SH 263 = .inl 0 := rfl
theorem sh264 : SH 264 = .inr (0, 24) := rfl
theorem sh265 : SH 265 = .inl 0 := rfl
theorem sh266 : SH 266 = .inr (0, 24) := rfl
theorem sh267 : SH 267 = .inl 0 := rfl
theorem sh268 : SH 268 = .inr (0, 24) := rfl
theorem sh269 : SH 269 = .inl 0 := rfl
theorem sh270 : SH 270 = .inr (0, 24) := rfl
theorem sh271 : SH 271 = .inl 0 := rfl
theorem sh272 : SH 272 = .inr (0, 24) := rfl
theorem sh273 : SH 273 = .inl 7 := rfl
theorem sh274 : SH 274 = .inr (0, 6) := rfl
theorem sh275 : SH 275 = .inl 0 := rfl
theorem sh276 : SH 276 = .inr (0, 24) := rfl
theorem sh277 : SH 277 = .inl 0 := rfl
theorem sh278 : SH 278 = .inr (0, 24) := rfl
theorem sh279 : SH 279 = .inl 0 := rfl
theorem sh280 : SH 280 = .inr (0, 24) := rfl
theorem sh281 : SH 281 = .inl 0 := rfl
theorem sh282 : SH 282 = .inr (0, 24) := rfl
theorem sh283 : SH 283 = .inl 0 := rfl
theorem sh284 : SH 284 = .inr (0, 24) := rfl
theorem sh285 : SH 285 = .inl 1 := rfl
theorem sh286 : SH 286 = .inr (0, 6) := rfl
theorem sh287 : SH 287 = .inl 0 := rfl
theorem sh288 : SH 288 = .inr (0, 24) := rfl
theorem sh289 : SH 289 = .inl 0 := rfl
theorem sh290 : SH 290 = .inr (0, 24) := rfl
theorem sh291 : SH 291 = .inl 0 := rfl
theorem sh292 : SH 292 = .inr (0, 24) := rfl
theorem sh293 : SH 293 = .inr (0, 6) := rfl
theorem sh294 : SH 294 = .inr (3, 24) := rfl
theorem sh295 : SH 295 = .inr (0, 144) := rfl
theorem sh296 : SH 296 = .inr (3, 7) := rfl
theorem sh297 : SH 297 = .inr (3, 42) := rfl
theorem sh298 : SH 298 = .inl 0 := rfl
theorem sh299 : SH 299 = .inr (0, 24) := rfl
theorem sh300 : SH 300 = .inl 0 := rfl
theorem sh301 : SH 301 = .inr (0, 24) := rfl
theorem sh302 : SH 302 = .inl 0 := rfl
theorem sh303 : SH 303 = .inr (0, 24) := rfl
theorem sh304 : SH 304 = .inl 0 := rfl
theorem sh305 : SH 305 = .inr (0, 24) := rfl
theorem sh306 : SH 306 = .inl 0 := rfl
theorem sh307 : SH 307 = .inr (0, 24) := rfl
theorem sh308 : SH 308 = .inl 0 := rfl
theorem sh309 : SH 309 = .inr (0, 24) := rfl
theorem sh310 : SH 310 = .inl 0 := rfl
theorem sh311 : SH 311 = .inr (0, 24) := rfl
theorem sh312 : SH 312 = .inl 0 := rfl
theorem sh313 : SH 313 = .inr (0, 24) := rfl
theorem sh314 : SH 314 = .inl 0 := rfl
theorem sh315 : SH 315 = .inr (0, 24) := rfl
theorem sh316 : SH 316 = .inl 0 := rfl
theorem sh317 : SH 317 = .inr (0, 24) := rfl
theorem sh318 : SH 318 = .inl 0 := rfl
theorem sh319 : SH 319 = .inr (0, 24) := rfl
theorem sh320 : SH 320 = .inl 0 := rfl
theorem sh321 : SH 321 = .inr (0, 24) := rfl
theorem sh322 : SH 322 = .inl 0 := rfl
theorem sh323 : SH 323 = .inr (0, 24) := rfl
theorem sh324 : SH 324 = .inl 0 := rfl
theorem sh325 : SH 325 = .inr (0, 24) := rfl
theorem sh326 : SH 326 = .inl 0 := rfl
theorem sh327 : SH 327 = .inr (0, 24) := rfl
theorem sh328 : SH 328 = .inl 0 := rfl
theorem sh329 : SH 329 = .inr (0, 24) := rfl
theorem sh330 : SH 330 = .inl 0 := rfl
theorem sh331 : SH 331 = .inr (0, 24) := rfl
theorem sh332 : SH 332 = .inl 0 := rfl
theorem sh333 : SH 333 = .inr (0, 24) := rfl
theorem sh334 : SH 334 = .inl 0 := rfl
theorem sh335 : SH 335 = .inr (0, 24) := rfl
theorem sh336 : SH 336 = .inl 0 := rfl
theorem sh337 : SH 337 = .inr (0, 24) := rfl
theorem sh338 : SH 338 = .inl 0 := rfl
theorem sh339 : SH 339 = .inr (0, 24) := rfl
theorem sh340 : SH 340 = .inl 0 := rfl
theorem sh341 : SH 341 = .inr (0, 24) := rfl
theorem sh342 : SH 342 = .inl 0 := rfl
theorem sh343 : SH 343 = .inr (0, 24) := rfl
theorem sh344 : SH 344 = .inl 0 := rfl
theorem sh345 : SH 345 = .inr (0, 24) := rfl
theorem sh346 : SH 346 = .inl 0 := rfl
theorem sh347 : SH 347 = .inr (0, 24) := rfl
theorem sh348 : SH 348 = .inl 0 := rfl
theorem sh349 : SH 349 = .inr (0, 24) := rfl
theorem sh350 : SH 350 = .inl 0 := rfl
theorem sh351 : SH 351 = .inr (0, 24) := rfl
theorem sh352 : SH 352 = .inl 0 := rfl
theorem sh353 : SH 353 = .inr (0, 24) := rfl
theorem sh354 : SH 354 = .inl 0 := rfl
theorem sh355 : SH 355 = .inr (0, 24) := rfl
theorem sh356 : SH 356 = .inl 0 := rfl
theorem sh357 : SH 357 = .inr (0, 24) := rfl
theorem sh358 : SH 358 = .inl 0 := rfl
theorem sh359 : SH 359 = .inr (0, 24) := rfl
theorem sh360 : SH 360 = .inl 0 := rfl
theorem sh361 : SH 361 = .inr (0, 24) := rfl
theorem sh362 : SH 362 = .inl 0 := rfl
theorem sh363 : SH 363 = .inr (0, 24) := rfl
theorem sh364 : SH 364 = .inl 0 := rfl
theorem sh365 : SH 365 = .inr (0, 24) := rfl
theorem sh366 : SH 366 = .inl 0 := rfl
theorem sh367 : SH 367 = .inr (0, 24) := rfl
theorem sh368 : SH 368 = .inl 0 := rfl
theorem sh369 : SH 369 = .inr (0, 24) := rfl
theorem sh370 : SH 370 = .inl 0 := rfl
theorem sh371 : SH 371 = .inr (0, 24) := rfl
theorem sh372 : SH 372 = .inl 0 := rfl
theorem sh373 : SH 373 = .inr (0, 24) := rfl
theorem sh374 : SH 374 = .inl 0 := rfl
theorem sh375 : SH 375 = .inr (0, 24) := rfl
theorem sh376 : SH 376 = .inl 0 := rfl
theorem sh377 : SH 377 = .inr (0, 24) := rfl
theorem sh378 : SH 378 = .inl 0 := rfl
theorem sh379 : SH 379 = .inr (0, 24) := rfl
theorem sh380 : SH 380 = .inl 0 := rfl
theorem sh381 : SH 381 = .inr (0, 24) := rfl
theorem sh382 : SH 382 = .inl 0 := rfl
theorem sh383 : SH 383 = .inr (0, 24) := rfl
theorem sh384 : SH 384 = .inl 0 := rfl
theorem sh385 : SH 385 = .inr (0, 24) := rfl
theorem sh386 : SH 386 = .inl 0 := rfl
theorem sh387 : SH 387 = .inr (0, 24) := rfl
theorem sh388 : SH 388 = .inl 0 := rfl
theorem sh389 : SH 389 = .inr (0, 24) := rfl
theorem sh390 : SH 390 = .inl 0 := rfl
theorem sh391 : SH 391 = .inr (0, 24) := rfl
theorem sh392 : SH 392 = .inl 0 := rfl
theorem sh393 : SH 393 = .inr (0, 24) := rfl
theorem sh394 : SH 394 = .inl 0 := rfl
theorem sh395 : SH 395 = .inr (0, 24) := rfl
theorem sh396 : SH 396 = .inl 0 := rfl
theorem sh397 : SH 397 = .inr (0, 24) := rfl
theorem sh398 : SH 398 = .inl 0 := rfl
theorem sh399 : SH 399 = .inr (0, 24) := rfl
theorem sh400 : SH 400 = .inl 0 := rfl
theorem sh401 : SH 401 = .inr (0, 24) := rfl
theorem sh402 : SH 402 = .inl 0 := rfl
theorem sh403 : SH 403 = .inr (0, 24) := rfl
theorem sh404 : SH 404 = .inl 0 := rfl
theorem sh405 : SH 405 = .inr (0, 24) := rfl
theorem sh406 : SH 406 = .inl 0 := rfl
theorem sh407 : SH 407 = .inr (0, 24) := rfl
theorem sh408 : SH 408 = .inl 0 := rfl
theorem sh409 : SH 409 = .inr (0, 24) := rfl
theorem sh410 : SH 410 = .inl 0 := rfl
theorem sh411 : SH 411 = .inr (0, 24) := rfl
theorem sh412 : SH 412 = .inl 0 := rfl
theorem sh413 : SH 413 = .inr (0, 24) := rfl
theorem sh414 : SH 414 = .inl 0 := rfl
theorem sh415 : SH 415 = .inr (0, 24) := rfl
theorem sh416 : SH 416 = .inl 0 := rfl
theorem sh417 : SH 417 = .inr (0, 24) := rfl
theorem sh418 : SH 418 = .inl 0 := rfl
theorem sh419 : SH 419 = .inr (0, 24) := rfl
theorem sh420 : SH 420 = .inl 0 := rfl
theorem sh421 : SH 421 = .inr (0, 24) := rfl
theorem sh422 : SH 422 = .inl 0 := rfl
theorem sh423 : SH 423 = .inr (0, 24) := rfl
theorem sh424 : SH 424 = .inl 0 := rfl
theorem sh425 : SH 425 = .inr (0, 24) := rfl
theorem sh426 : SH 426 = .inl 0 := rfl
theorem sh427 : SH 427 = .inr (0, 24) := rfl
theorem sh428 : SH 428 = .inl 0 := rfl
theorem sh429 : SH 429 = .inr (0, 24) := rfl
theorem sh430 : SH 430 = .inl 0 := rfl
theorem sh431 : SH 431 = .inr (0, 24) := rfl
theorem sh432 : SH 432 = .inl 0 := rfl
theorem sh433 : SH 433 = .inr (0, 24) := rfl
theorem sh434 : SH 434 = .inl 0 := rfl
theorem sh435 : SH 435 = .inr (0, 24) := rfl
theorem sh436 : SH 436 = .inl 0 := rfl
theorem sh437 : SH 437 = .inr (0, 24) := rfl
theorem sh438 : SH 438 = .inl 0 := rfl
theorem sh439 : SH 439 = .inr (0, 24) := rfl
theorem sh440 : SH 440 = .inl 0 := rfl
theorem sh441 : SH 441 = .inr (0, 24) := rfl
theorem sh442 : SH 442 = .inl 0 := rfl
theorem sh443 : SH 443 = .inr (0, 24) := rfl
theorem sh444 : SH 444 = .inl 0 := rfl
theorem sh445 : SH 445 = .inr (0, 24) := rfl
theorem sh446 : SH 446 = .inl 2 := rfl
theorem sh447 : SH 447 = .inl 0 := rfl
theorem sh448 : SH 448 = .inr (0, 24) := rfl
theorem sh449 : SH 449 = .inl 0 := rfl
theorem sh450 : SH 450 = .inr (0, 24) := rfl
theorem sh451 : SH 451 = .inl 0 := rfl
theorem sh452 : SH 452 = .inr (0, 24) := rfl
theorem sh453 : SH 453 = .inl 0 := rfl
theorem sh454 : SH 454 = .inr (0, 24) := rfl
theorem sh455 : SH 455 = .inl 12 := rfl
theorem sh456 : SH 456 = .inr (0, 988) := rfl
theorem sh457 : SH 457 = .inr (1, 2) := rfl
theorem sh458 : SH 458 = .inr (0, 3) := rfl
theorem sh459 : SH 459 = .inr (2, 300) := rfl
theorem sh460 : SH 460 = .inr (0, 5) := rfl
theorem sh461 : SH 461 = .inr (0, 100) := rfl
theorem sh462 : SH 462 = .inr (0, 6) := rfl
theorem sh463 : SH 463 = .inr (0, 6) := rfl
theorem sh464 : SH 464 = .inr (0, 6) := rfl
theorem sh465 : SH 465 = .inr (0, 7587) := rfl
theorem sh466 : SH 466 = .inr (0, 6) := rfl
theorem sh467 : SH 467 = .inr (0, 6) := rfl
theorem sh468 : SH 468 = .inr (0, 12) := rfl
theorem sh469 : SH 469 = .inr (0, 12) := rfl
theorem sh470 : SH 470 = .inr (0, 12) := rfl
theorem sh471 : SH 471 = .inr (0, 2) := rfl
theorem sh472 : SH 472 = .inr (0, 8) := rfl
theorem shr_X3_1 {o : Nat} (h : SH o = .inl 3) : SH (o + 1) = .inr (0, 100) := SH_all (P := fun o => SH o = .inl 3 → SH (o + 1) = .inr (0, 100)) (by decide +kernel) h h
theorem shr_X3_2 {o : Nat} (h : SH o = .inl 3) : SH (o + 2) = .inr (0, 10) := SH_all (P := fun o => SH o = .inl 3 → SH (o + 2) = .inr (0, 10)) (by decide +kernel) h h
theorem shr_X3_4 {o : Nat} (h : SH o = .inl 3) : SH (o + 3) = .inr (0, 6) := SH_all (P := fun o => SH o = .inl 3 → SH (o + 3) = .inr (0, 6)) (by decide +kernel) h h
theorem shr_X3_5 {o : Nat} (h : SH o = .inl 3) : SH (o + 4) = .inr (0, 24) := SH_all (P := fun o => SH o = .inl 3 → SH (o + 4) = .inr (0, 24)) (by decide +kernel) h h
theorem shr_X3_6 {o : Nat} (h : SH o = .inl 3) : SH (o + 5) = .inr (0, 6) := SH_all (P := fun o => SH o = .inl 3 → SH (o + 5) = .inr (0, 6)) (by decide +kernel) h h
theorem shr_X3_7 {o : Nat} (h : SH o = .inl 3) : SH (o + 6) = .inr (0, 6) := SH_all (P := fun o => SH o = .inl 3 → SH (o + 6) = .inr (0, 6)) (by decide +kernel) h h
theorem shr_X3_9 {o : Nat} (h : SH o = .inl 3) : SH (o + 7) = .inr (0, 8) := SH_all (P := fun o => SH o = .inl 3 → SH (o + 7) = .inr (0, 8)) (by decide +kernel) h h
theorem shr_X3_10 {o : Nat} (h : SH o = .inl 3) : SH (o + 8) = .inr (0, 8) := SH_all (P := fun o => SH o = .inl 3 → SH (o + 8) = .inr (0, 8)) (by decide +kernel) h h
theorem shr_X3_11 {o : Nat} (h : SH o = .inl 3) : SH (o + 9) = .inr (0, 8) := SH_all (P := fun o => SH o = .inl 3 → SH (o + 9) = .inr (0, 8)) (by decide +kernel) h h
theorem shr_X3_12 {o : Nat} (h : SH o = .inl 3) : SH (o + 10) = .inr (0, 8) := SH_all (P := fun o => SH o = .inl 3 → SH (o + 10) = .inr (0, 8)) (by decide +kernel) h h
theorem shr_X3_13 {o : Nat} (h : SH o = .inl 3) : SH (o + 11) = .inr (0, 2) := SH_all (P := fun o => SH o = .inl 3 → SH (o + 11) = .inr (0, 2)) (by decide +kernel) h h
theorem shr_X3_14 {o : Nat} (h : SH o = .inl 3) : SH (o + 12) = .inr (0, 12) := SH_all (P := fun o => SH o = .inl 3 → SH (o + 12) = .inr (0, 12)) (by decide +kernel) h h
theorem shr_X6_0 {o : Nat} (h : SH o = .inl 6) : SH (o + 1) = .inr (0, 5) := SH_all (P := fun o => SH o = .inl 6 → SH (o + 1) = .inr (0, 5)) (by decide +kernel) h h
theorem shr_X6_2 {o : Nat} (h : SH o = .inl 6) : SH (o + 2) = .inr (0, 20) := SH_all (P := fun o => SH o = .inl 6 → SH (o + 2) = .inr (0, 20)) (by decide +kernel) h h
theorem shr_X6_3 {o : Nat} (h : SH o = .inl 6) : SH (o + 3) = .inr (0, 20) := SH_all (P := fun o => SH o = .inl 6 → SH (o + 3) = .inr (0, 20)) (by decide +kernel) h h
theorem shr_X4_5 {o : Nat} (h : SH o = .inl 4) : SH (o + 1) = .inr (0, 6) := SH_all (P := fun o => SH o = .inl 4 → SH (o + 1) = .inr (0, 6)) (by decide +kernel) h h
theorem shr_X4_6 {o : Nat} (h : SH o = .inl 4) : SH (o + 2) = .inr (0, 6) := SH_all (P := fun o => SH o = .inl 4 → SH (o + 2) = .inr (0, 6)) (by decide +kernel) h h
theorem shr_X4_7 {o : Nat} (h : SH o = .inl 4) : SH (o + 3) = .inr (0, 6) := SH_all (P := fun o => SH o = .inl 4 → SH (o + 3) = .inr (0, 6)) (by decide +kernel) h h
theorem shr_X4_8 {o : Nat} (h : SH o = .inl 4) : SH (o + 4) = .inr (0, 6) := SH_all (P := fun o => SH o = .inl 4 → SH (o + 4) = .inr (0, 6)) (by decide +kernel) h h
theorem shr_X4_9 {o : Nat} (h : SH o = .inl 4) : SH (o + 5) = .inr (0, 6) := SH_all (P := fun o => SH o = .inl 4 → SH (o + 5) = .inr (0, 6)) (by decide +kernel) h h
theorem shr_X4_10 {o : Nat} (h : SH o = .inl 4) : SH (o + 6) = .inr (0, 6) := SH_all (P := fun o => SH o = .inl 4 → SH (o + 6) = .inr (0, 6)) (by decide +kernel) h h
theorem shr_X0_0 {o : Nat} (h : SH o = .inl 0) : SH (o + 1) = .inr (0, 24) := SH_all (P := fun o => SH o = .inl 0 → SH (o + 1) = .inr (0, 24)) (by decide +kernel) h h
/-- the elements of the arrays of references -/
def el (o i : Nat) : Nat := match o with
  | 35 => 37 + 17 * i
  | 36 => 50 + 17 * i
  | 106 => 111 + 4 * i
  | 107 => 113 + 4 * i
  | 108 => 259 + 2 * i
  | 294 => 300 + 2 * i
  | 296 => 348 + 2 * i
  | 297 => 362 + 2 * i
  | _ => 0
theorem she35 {i : Nat} (h : i < 2) : SH (el 35 i) = .inl 3 := (show ∀ i, i < 2 → SH (el 35 i) = .inl 3 by decide +kernel) i h
theorem she36 {i : Nat} (h : i < 2) : SH (el 36 i) = .inl 6 := (show ∀ i, i < 2 → SH (el 36 i) = .inl 6 by decide +kernel) i h
theorem she106 {i : Nat} (h : i < 37) : SH (el 106 i) = .inl 0 := (show ∀ i, i < 37 → SH (el 106 i) = .inl 0 by decide +kernel) i h
theorem she107 {i : Nat} (h : i < 37) : SH (el 107 i) = .inl 0 := (show ∀ i, i < 37 → SH (el 107 i) = .inl 0 by decide +kernel) i h
theorem she108 {i : Nat} (h : i < 7) : SH (el 108 i) = .inl 0 := (show ∀ i, i < 7 → SH (el 108 i) = .inl 0 by decide +kernel) i h
theorem she294 {i : Nat} (h : i < 24) : SH (el 294 i) = .inl 0 := (show ∀ i, i < 24 → SH (el 294 i) = .inl 0 by decide +kernel) i h
theorem she296 {i : Nat} (h : i < 7) : SH (el 296 i) = .inl 0 := (show ∀ i, i < 7 → SH (el 296 i) = .inl 0 by decide +kernel) i h
theorem she297 {i : Nat} (h : i < 42) : SH (el 297 i) = .inl 0 := (show ∀ i, i < 42 → SH (el 297 i) = .inl 0 by decide +kernel) i h
theorem she_var {o i : Nat} (ho : o = 106 ∨ o = 107) (h : i < 37) : SH (el o i) = .inl 0 := by rcases ho with rfl | rfl; exact she106 h; exact she107 h
theorem sha_var {o : Nat} (ho : o = 106 ∨ o = 107) : SH o = .inr (3, 37) := by rcases ho with rfl | rfl; exact sh106; exact sh107
def mkL (a b : Int32) : Int64 := Int64.ofBitVec (a.toBitVec ++ b.toBitVec)
def hiL (x : Int64) : Int32 := Int32.ofBitVec (x.toBitVec.extractLsb' 32 32)
def loL (x : Int64) : Int32 := Int32.ofBitVec (x.toBitVec.extractLsb' 0 32)
theorem mkL_hl (x : Int64) : mkL (hiL x) (loL x) = x := by
  unfold mkL hiL loL
  apply Int64.toBitVec_inj.mp
  apply BitVec.eq_of_getLsbD_eq
  intro i hi
  simp only [Int64.toBitVec_ofBitVec, Int32.toBitVec_ofBitVec, BitVec.getLsbD_append, BitVec.getLsbD_extractLsb']
  by_cases h : i < 32
  · simp [h]
  · have : 32 + (i - 32) = i := by omega
    simp [h, this]
    omega
def fieldsOf (Z : ZT) (ci o : Nat) (r : Nat → Int32) : List Value := match ci with
  | 0 => [.ref (Z.2.2.1 + (o + 1)), .int (r 1)]
  | 1 => [.ref (Z.2.2.1 + 1), .ref (Z.2.2.1 + 92), .ref (Z.2.2.1 + 286), .ref (Z.2.2.1 + 287), .ref (Z.2.2.1 + 289), .ref (Z.2.2.1 + 291), .ref (Z.2.2.1 + 293), .ref (Z.2.2.1 + 294), .ref (Z.2.2.1 + 295), .ref (Z.2.2.1 + 296), .ref (Z.2.2.1 + 297), .ref (Z.2.2.1 + 298)]
  | 2 => [.ref (Z.2.2.1 + 447), .ref (Z.2.2.1 + 449)]
  | 3 => [.int (r 0), .ref (Z.2.2.1 + (o + 1)), .ref (Z.2.2.1 + (o + 2)), .int (r 3), .ref (Z.2.2.1 + (o + 3)), .ref (Z.2.2.1 + (o + 4)), .ref (Z.2.2.1 + (o + 5)), .ref (Z.2.2.1 + (o + 6)), .int (r 8), .ref (Z.2.2.1 + (o + 7)), .ref (Z.2.2.1 + (o + 8)), .ref (Z.2.2.1 + (o + 9)), .ref (Z.2.2.1 + (o + 10)), .ref (Z.2.2.1 + (o + 11)), .ref (Z.2.2.1 + (o + 12))]
  | 4 => [.ref (Z.2.2.1 + 1), .ref (Z.2.2.1 + 27), .ref (Z.2.2.1 + 73), .int (r 3), .int (r 4), .ref (Z.2.2.1 + (o + 1)), .ref (Z.2.2.1 + (o + 2)), .ref (Z.2.2.1 + (o + 3)), .ref (Z.2.2.1 + (o + 4)), .ref (Z.2.2.1 + (o + 5)), .ref (Z.2.2.1 + (o + 6)), .int (r 11), .int (r 12)]
  | 5 => [.ref (Z.2.2.1 + 1), .ref (Z.2.2.1 + 27), .int (r 2), .ref (Z.2.2.1 + 93), .ref (Z.2.2.1 + 95), .ref (Z.2.2.1 + 97), .ref (Z.2.2.1 + 99), .ref (Z.2.2.1 + 101), .ref (Z.2.2.1 + 103)]
  | 6 => [.ref (Z.2.2.1 + (o + 1)), .int (r 1), .ref (Z.2.2.1 + (o + 2)), .ref (Z.2.2.1 + (o + 3))]
  | 7 => [.ref (Z.2.2.1 + 92), .ref (Z.2.2.1 + 274), .int (r 2), .ref (Z.2.2.1 + 275), .ref (Z.2.2.1 + 277), .ref (Z.2.2.1 + 279), .ref (Z.2.2.1 + 281), .ref (Z.2.2.1 + 283)]
  | 8 => [.int (r 0), .int (r 1), .ref (Z.2.2.1 + ix (r 2)), .ref (Z.2.2.1 + ix (r 3)), .ref (Z.2.2.1 + 108), .ref (Z.2.2.1 + 109)]
  | 9 => [.ref (Z.2.2.1 + 32), .int (r 1), .int (r 2), .ref (Z.2.2.1 + 33), .ref (Z.2.2.1 + 34), .int (r 5)]
  | 10 => [.ref (Z.2.2.1 + 1), .ref (Z.2.2.1 + 74), .ref (Z.2.2.1 + 75), .ref (Z.2.2.1 + 76), .ref (Z.2.2.1 + 77)]
  | 11 => [.ref (Z.2.2.1 + 1), .ref (Z.2.2.1 + 14), .ref (Z.2.2.1 + 27), .ref (Z.2.2.1 + 31), .ref (Z.2.2.1 + 35), .ref (Z.2.2.1 + 36), .ref (Z.2.2.1 + 71), .ref (Z.2.2.1 + 72), .ref (Z.2.2.1 + 73), .ref (Z.2.2.1 + 78), .ref (Z.2.2.1 + 85), .ref (Z.2.2.1 + 92), .ref (Z.2.2.1 + 105), .ref (Z.2.2.1 + 273), .ref (Z.2.2.1 + 285), .ref (Z.2.2.1 + 446), .ref (Z.2.2.1 + 451), .ref (Z.2.2.1 + 453)]
  | 12 => [.ref (Z.2.2.1 + 456), .ref (Z.2.2.1 + 457), .ref (Z.2.2.1 + 458), .ref (Z.2.2.1 + 459), .int (r 4), .int (r 5), .int (r 6), .int (r 7), .int (r 8), .int (r 9), .ref (Z.2.2.1 + 460), .ref (Z.2.2.1 + 461), .int (r 12), .int (r 13), .ref (Z.2.2.1 + 462), .ref (Z.2.2.1 + 463), .ref (Z.2.2.1 + 464), .int (r 17), .ref (Z.2.2.1 + 465), .int (r 19), .ref (Z.2.2.1 + 466), .ref (Z.2.2.1 + 467), .ref (Z.2.2.1 + 468), .ref (Z.2.2.1 + 469), .ref (Z.2.2.1 + 470), .ref (Z.2.2.1 + 471), .ref (Z.2.2.1 + 472), .long (mkL (r 27) (r 127))]
  | _ => []
def WMr (Z : ZT) (o : Nat) (r : Nat → Int32) : va_E := match SH o with
  | .inl ci => .inr (ci, fieldsOf Z ci o r)
  | .inr (0, n) => .inl (Z.2.2.2.1 0, n, .inl r)
  | .inr (1, n) => .inl (Z.2.2.2.1 1, n, .inl r)
  | .inr (2, n) => .inl (Z.2.2.2.1 2, n, .inl r)
  | .inr (t, n) => .inl (Z.2.2.2.1 t, n, .inr (.inr (.inr (.inr (fun i => some (Z.2.2.1 + el o i))))))
def WM (Z : ZT) (μ : Mu) : Mem := fun o => WMr Z o (μ o)
def uR (μ : Mu) (o : Nat) (r : Nat → Int32) : Mu := fun a => if a = o then r else μ a
section ST
variable {Z : ZT} {μ : Mu} {o n t ci q : Nat}
theorem uR_s {r : Nat → Int32} : uR μ o r o = r := by simp [uR]
theorem uR_n {a : Nat} {r : Nat → Int32} (h : a ≠ o) : uR μ o r a = μ a := by simp [uR, h]
theorem WM_obj (h : SH o = .inl ci) : WM Z μ o = .inr (ci, fieldsOf Z ci o (μ o)) := by simp [WM, WMr, h]
theorem WM_int (h : SH o = .inr (0, n)) : WM Z μ o = .inl (Z.2.2.2.1 0, n, .inl (μ o)) := by simp [WM, WMr, h]
theorem WM_bool (h : SH o = .inr (1, n)) : WM Z μ o = .inl (Z.2.2.2.1 1, n, .inl (μ o)) := by simp [WM, WMr, h]
theorem WM_byte (h : SH o = .inr (2, n)) : WM Z μ o = .inl (Z.2.2.2.1 2, n, .inl (μ o)) := by simp [WM, WMr, h]
theorem WM_ref (h : SH o = .inr (t + 3, n)) : WM Z μ o = .inl (Z.2.2.2.1 (t + 3), n, .inr (.inr (.inr (.inr (fun i => some (Z.2.2.1 + el o i)))))) := by simp [WM, WMr, h]
theorem WM_up {e : va_E} {r : Nat → Int32} (h : WMr Z o r = e) : va_up (WM Z μ) o e = WM Z (uR μ o r) := by
  funext a
  unfold va_up WM uR
  by_cases h1 : a = o
  · subst h1; simp [h]
  · simp [h1]
theorem WM_puti {x : Int32} (h : SH o = .inl ci) (hs : fieldsOf Z ci o (upd (μ o) q x) = (fieldsOf Z ci o (μ o)).set q (.int x)) : va_up (WM Z μ) o (.inr (ci, (fieldsOf Z ci o (μ o)).set q (.int x))) = WM Z (uR μ o (upd (μ o) q x)) :=
  WM_up (by simp only [WMr, h, hs])
theorem WM_sti {x : Int32} {i : Nat} (h : SH o = .inr (0, n)) : va_up (WM Z μ) o (.inl (Z.2.2.2.1 0, n, .inl (upd (μ o) i x))) = WM Z (uR μ o (upd (μ o) i x)) := WM_up (by simp only [WMr, h])
theorem WM_stz {x : Int32} {i : Nat} (h : SH o = .inr (1, n)) : va_up (WM Z μ) o (.inl (Z.2.2.2.1 1, n, .inl (upd (μ o) i x))) = WM Z (uR μ o (upd (μ o) i x)) := WM_up (by simp only [WMr, h])
theorem WM_stb {x : Int32} {i : Nat} (h : SH o = .inr (2, n)) : va_up (WM Z μ) o (.inl (Z.2.2.2.1 2, n, .inl (upd (μ o) i x))) = WM Z (uR μ o (upd (μ o) i x)) := WM_up (by simp only [WMr, h])
theorem WM_row {r : Nat → Int32} (h : SH o = .inr (0, n)) : va_up (WM Z μ) o (.inl (Z.2.2.2.1 0, n, .inl r)) = WM Z (uR μ o r) := WM_up (by simp only [WMr, h])
end ST
abbrev JS (Z : ZT) (X : XT) (pc : Nat) (lv : List (Nat × Value)) (st : List Value) (μ : Mu) : Prop := J Z X NW 0 0 pc lv st (WM Z μ)
/-- a field's site: what the tables say of it -/
def FS (own : String) (i ci q : Nat) : Prop := ∃ (C : String) (T : u_T) (N : Nat), vwCl[ci]? = some (C, T, N) ∧ (∀ w ∈ u_ws C T N, w ∈ ALL) ∧ q < N ∧ Cond.fieldLink own i C (T q).2.1 (T q).2.2.1 ∈ ALL ∧ (T q).1 = C
/-- of a field that is written: its type, not final -/
def FP (ci q : Nat) (ty : FieldType) : Prop := ∀ (C : String) (T : u_T) (N : Nat), vwCl[ci]? = some (C, T, N) → (∃ ty0 : Nat → FieldType, ∀ k, k < N → parseFieldDescriptor (T k).2.2.1 = some (ty0 k)) ∧ (∀ a, a < N → ∀ b, b < N → a ≠ b → (T a).2.1 ≠ (T b).2.1) ∧ (T q).2.2.2 = false ∧ parseFieldDescriptor (T q).2.2.1 = some ty ∧ ∀ (Z : ZT) (o : Nat) (r : Nat → Int32), q < (fieldsOf Z ci o r).length
section SR
variable {Z : ZT} {X : XT} {mt : MT} {pc : Nat} {lv lv' : List (Nat × Value)} {st : List Value} {μ : Mu} {o n t ci q i : Nat}
theorem S_get (E : Ent Z X mt 0 0) {v : Value} (hd : decode mt.2.1 pc = .ok (.getfield i, 3)) (f : FS mt.1.cls i ci q) (hs : SH o = .inl ci) (hv : (fieldsOf Z ci o (μ o))[q]? = some v) (kk : JS Z X (pc + 3) lv (v :: st) μ) : JS Z X pc lv (.ref (Z.2.2.1 + o) :: st) μ := by
  obtain ⟨C, T, N, h1, h2, h3, h4, h5⟩ := f
  exact J_get E hd (SH_lto hs) (WM_obj hs) h1 h2 q h3 h4 h5 hv kk
theorem S_puti (E : Ent Z X mt 0 0) {x : Int32} (hd : decode mt.2.1 pc = .ok (.putfield i, 3)) (f : FS mt.1.cls i ci q) (g : FP ci q .int) (hs : SH o = .inl ci) (he : fieldsOf Z ci o (upd (μ o) q x) = (fieldsOf Z ci o (μ o)).set q (.int x)) (kk : JS Z X (pc + 3) lv st (uR μ o (upd (μ o) q x))) : JS Z X pc lv (.int x :: .ref (Z.2.2.1 + o) :: st) μ := by
  obtain ⟨C, T, N, h1, h2, h3, h4, h5⟩ := f
  obtain ⟨⟨ty0, g1⟩, g2, g3, g4, g5⟩ := g C T N h1
  refine J_put E hd (SH_lto hs) (WM_obj hs) h1 h2 ty0 g1 g2 q h3 h4 h5 g3 g4 rfl rfl (g5 Z o _) ?_
  rw [WM_puti hs he]
  exact kk
theorem S_iald (E : Ent Z X mt 0 0) {x : Int32} (hd : decode mt.2.1 pc = .ok (.iaload, 1)) (hs : SH o = .inr (0, n)) (hin : vp_in x n) (kk : JS Z X (pc + 1) lv (.int (μ o (ix x)) :: st) μ) : JS Z X pc lv (.int x :: .ref (Z.2.2.1 + o) :: st) μ :=
  J_iald E hd (SH_lta hs (by decide)) (WM_int hs) hin kk
theorem S_zald (E : Ent Z X mt 0 0) {x : Int32} (hd : decode mt.2.1 pc = .ok (.baload, 1)) (hs : SH o = .inr (1, n)) (hin : vp_in x n) (kk : JS Z X (pc + 1) lv (.int (μ o (ix x)) :: st) μ) : JS Z X pc lv (.int x :: .ref (Z.2.2.1 + o) :: st) μ :=
  J_zald E hd (SH_lta hs (by decide)) (WM_bool hs) hin kk
theorem S_bald (E : Ent Z X mt 0 0) {x : Int32} (hd : decode mt.2.1 pc = .ok (.baload, 1)) (hs : SH o = .inr (2, n)) (hin : vp_in x n) (kk : JS Z X (pc + 1) lv (.int (μ o (ix x)) :: st) μ) : JS Z X pc lv (.int x :: .ref (Z.2.2.1 + o) :: st) μ :=
  J_bald E hd (SH_lta hs (by decide)) (WM_byte hs) hin kk
theorem S_iast (E : Ent Z X mt 0 0) {x y : Int32} (hd : decode mt.2.1 pc = .ok (.iastore, 1)) (hs : SH o = .inr (0, n)) (hin : vp_in x n) (kk : JS Z X (pc + 1) lv st (uR μ o (upd (μ o) (ix x) y))) : JS Z X pc lv (.int y :: .int x :: .ref (Z.2.2.1 + o) :: st) μ := by
  refine J_iast E hd (SH_lta hs (by decide)) (WM_int hs) hin ?_
  rw [WM_sti hs]
  exact kk
theorem S_zast (E : Ent Z X mt 0 0) {x y : Int32} (hd : decode mt.2.1 pc = .ok (.bastore, 1)) (hs : SH o = .inr (1, n)) (hin : vp_in x n) (kk : JS Z X (pc + 1) lv st (uR μ o (upd (μ o) (ix x) (vp_nar .boolean y)))) : JS Z X pc lv (.int y :: .int x :: .ref (Z.2.2.1 + o) :: st) μ := by
  refine J_zast E hd (SH_lta hs (by decide)) (WM_bool hs) hin ?_
  rw [WM_stz hs]
  exact kk
theorem S_bast (E : Ent Z X mt 0 0) {x y : Int32} (hd : decode mt.2.1 pc = .ok (.bastore, 1)) (hs : SH o = .inr (2, n)) (hin : vp_in x n) (kk : JS Z X (pc + 1) lv st (uR μ o (upd (μ o) (ix x) (vp_nar .byte y)))) : JS Z X pc lv (.int y :: .int x :: .ref (Z.2.2.1 + o) :: st) μ := by
  refine J_bast E hd (SH_lta hs (by decide)) (WM_byte hs) hin ?_
  rw [WM_stb hs]
  exact kk
theorem S_aald (E : Ent Z X mt 0 0) {x : Int32} {C : String} (hd : decode mt.2.1 pc = .ok (.aaload, 1)) (hs : SH o = .inr (t + 3, n)) (ht : (tysZ Z.2.2.2.1)[t + 3]? = some (Z.2.2.2.1 (t + 3), .object C)) (hin : vp_in x n) (hlt : t < 3) (kk : JS Z X (pc + 1) lv (.ref (Z.2.2.1 + el o (ix x)) :: st) μ) : JS Z X pc lv (.int x :: .ref (Z.2.2.1 + o) :: st) μ :=
  J_aldq E hd (SH_lta hs (by omega)) (WM_ref hs) ht hin rfl kk
theorem S_alen (E : Ent Z X mt 0 0) {v : Int32} (hd : decode mt.2.1 pc = .ok (.arraylength, 1)) (hs : SH o = .inr (0, n)) (hv : Int32.ofNat n = v) (kk : JS Z X (pc + 1) lv (.int v :: st) μ) : JS Z X pc lv (.ref (Z.2.2.1 + o) :: st) μ :=
  J_alen (t := 0) E hd (SH_lta hs (by decide)) (WM_int hs) rfl hv kk
theorem S_copyi (E : Ent Z X mt 0 0) {o0 o1 n0 n1 : Nat} {sp dp len : Int32} (hd : decode mt.2.1 pc = .ok (.invokestatic i, 3)) (hw : Cond.methodLink mt.1.cls i arraycopyName ∈ ALL) (hna : Cond.native arraycopyName ∈ ALL) (hst : Cond.static arraycopyName ∈ ALL) (hi : Cond.initialized "java/lang/System" ∈ ALL) (hs0 : SH o0 = .inr (0, n0)) (hs1 : SH o1 = .inr (0, n1)) (g1 : ¬ sp < 0) (g2 : ¬ dp < 0) (g3 : ¬ len < 0) (g4 : ix sp + ix len ≤ n0) (g5 : ix dp + ix len ≤ n1) (hf : 1 ≤ mt.2.2.2.2.1) (hlo : (st.map fun v => v.category).sum + (nativeFrameWords "java/lang/System" "arraycopy" 5 + 11) ≤ mt.2.2.2.2.2) (kk : JS Z X (pc + 3) lv st (uR μ o1 (va_cpy (μ o0) (μ o1) (ix sp) (ix dp) (ix len)))) : JS Z X pc lv (.int len :: .int dp :: .ref (Z.2.2.1 + o1) :: .int sp :: .ref (Z.2.2.1 + o0) :: st) μ := by
  refine J_copyi E hd hw hna hst hi (SH_lta hs0 (by decide)) (SH_lta hs1 (by decide)) (WM_int hs0) (WM_int hs1) g1 g2 g3 g4 g5 hf hlo ?_
  rw [WM_row hs1]
  exact kk
/-- contracts over the static world -/
def CtrS (Z : ZT) (m : MT) (as : List Value) (μ : Mu) (P : Option Value → Mu → Prop) : Prop := Ctr Z m as NW NW 0 (WM Z μ) (fun r M' => ∃ μ' : Mu, M' = WM Z μ' ∧ P r μ')
def BodS (Z : ZT) (X : XT) (P : Option Value → Mu → Prop) : Prop := Bod Z X NW 0 0 (fun r M' => ∃ μ' : Mu, M' = WM Z μ' ∧ P r μ')
def rI (p : Int32 → Mu → Prop) : Option Value → Mu → Prop := fun r μ => ∃ v, r = some (.int v) ∧ p v μ
def rJ (p : Int64 → Mu → Prop) : Option Value → Mu → Prop := fun r μ => ∃ v, r = some (.long v) ∧ p v μ
def rV (p : Mu → Prop) : Option Value → Mu → Prop := fun r μ => r = none ∧ p μ
def rR (Z : ZT) (p : Nat → Mu → Prop) : Option Value → Mu → Prop := fun r μ => ∃ o, r = some (.ref (Z.2.2.1 + o)) ∧ p o μ
theorem CtrS.mono {m : MT} {as : List Value} {P P' : Option Value → Mu → Prop} (h : CtrS Z m as μ P) (hp : ∀ r μ', P r μ' → P' r μ') : CtrS Z m as μ P' := Ctr.mono h fun _ _ ⟨μ', e, q⟩ => ⟨μ', e, hp _ _ q⟩
theorem CtrS.moI {m : MT} {as : List Value} {p p' : Int32 → Mu → Prop} (h : CtrS Z m as μ (rI p)) (hp : ∀ v μ', p v μ' → p' v μ') : CtrS Z m as μ (rI p') := h.mono fun _ _ ⟨v, e, q⟩ => ⟨v, e, hp _ _ q⟩
theorem CtrS.moV {m : MT} {as : List Value} {p p' : Mu → Prop} (h : CtrS Z m as μ (rV p)) (hp : ∀ μ', p μ' → p' μ') : CtrS Z m as μ (rV p') := h.mono fun _ _ ⟨e, q⟩ => ⟨e, hp _ q⟩
theorem CtrS.intro {as : List Value} {P : Option Value → Mu → Prop} (hpl : plainName mt.1.cls = true) (hlen : (lg_sl as).length ≤ mt.2.2.1) (hlv : lv_args 0 as = lv)
    (body : ∀ X : XT, Ent Z X mt 0 0 → BodS Z X P → JS Z X 0 lv [] μ) : CtrS Z mt as μ P :=
  Ctr.intro hpl hlen fun X E hB => by rw [hlv]; exact body X E hB
theorem S_iret (E : Ent Z X mt 0 0) {P : Option Value → Mu → Prop} (hB : BodS Z X P) {v : Int32} (hd : decode mt.2.1 pc = .ok (.ireturn, 1)) (hr : mt.2.2.2.1 = some .int) (hp : P (some (.int v)) μ) : JS Z X pc lv [.int v] μ := J_iret E hB hd hr ⟨μ, rfl, hp⟩
theorem S_zret (E : Ent Z X mt 0 0) {P : Option Value → Mu → Prop} (hB : BodS Z X P) {v : Int32} (hd : decode mt.2.1 pc = .ok (.ireturn, 1)) (hr : mt.2.2.2.1 = some .boolean) (hz : narrow .boolean (.int v) = .int v) (hp : P (some (.int v)) μ) : JS Z X pc lv [.int v] μ := J_zret E hB hd hr hz ⟨μ, rfl, hp⟩
theorem S_lret (E : Ent Z X mt 0 0) {P : Option Value → Mu → Prop} (hB : BodS Z X P) {v : Int64} (hd : decode mt.2.1 pc = .ok (.lreturn, 1)) (hr : mt.2.2.2.1 = some .long) (hp : P (some (.long v)) μ) : JS Z X pc lv [.long v] μ := J_lret E hB hd hr ⟨μ, rfl, hp⟩
theorem S_vret (E : Ent Z X mt 0 0) {P : Option Value → Mu → Prop} (hB : BodS Z X P) (hd : decode mt.2.1 pc = .ok (.return_, 1)) (hr : mt.2.2.2.1 = none) (hp : P none μ) : JS Z X pc lv [] μ := J_vret E hB hd hr ⟨μ, rfl, hp⟩
theorem S_aret (E : Ent Z X mt 0 0) {P : Option Value → Mu → Prop} (hB : BodS Z X P) {v : Nat} {C : String} (hd : decode mt.2.1 pc = .ok (.areturn, 1)) (hr : mt.2.2.2.1 = some (.object C)) (hp : P (some (.ref v)) μ) : JS Z X pc lv [.ref v] μ := J_aret E hB hd hr ⟨μ, rfl, hp⟩
theorem S_callV (E : Ent Z X mt 0 0) {m2 : MT} {na : Nat} {As rest : List Value} {P : Option Value → Mu → Prop} (hd : decode mt.2.1 pc = .ok (.invokevirtual i, 3)) (hC : CtrS Z m2 (.ref (Z.2.2.1 + o) :: As) μ P) (ok : okM m2 na) (rm : okR mt m2) (hn : As.length = na) (hW : (rest.map fun v => v.category).sum ≤ 8) {C : String} {T : u_T} {N : Nat} (hs : SH o = .inl ci) (hcl : vwCl[ci]? = some (C, T, N)) (hCl : C = m2.1.cls) (hw : Cond.methodLink mt.1.cls i m2.1 ∈ ALL) (hi : Cond.instanceMethod m2.1 ∈ ALL) (hse : Cond.selects m2.1.cls m2.1 m2.1 ∈ ALL) (kk : ∀ (r : Option Value) (μ' : Mu), P r μ' → JS Z X (pc + 3) lv (r.toList ++ rest) μ') : JS Z X pc lv (As.reverse ++ .ref (Z.2.2.1 + o) :: rest) μ :=
  J_callV E hd hC ok rm hn hW (Nat.le_refl 0) (Nat.le_refl 0) (Nat.le_refl NW) (SH_lto hs) (WM_obj hs) (by rw [hcl, hCl]) hw hi hse fun r M' ⟨μ', e, hp⟩ => by subst e; exact kk r μ' hp
theorem S_callN (E : Ent Z X mt 0 0) {m2 : MT} {na : Nat} {As rest : List Value} {P : Option Value → Mu → Prop} (hd : decode mt.2.1 pc = .ok (.invokevirtual i, 3)) (hC : CtrS Z m2 (.ref (Z.2.2.1 + o) :: As) μ P) (ok : okM m2 na) (rm : okR mt m2) (hn : As.length = na) (hW : (rest.map fun v => v.category).sum ≤ 8) {C : String} {T : u_T} {N : Nat} (hs : SH o = .inl ci) (hcl : vwCl[ci]? = some (C, T, N)) (hCl : C = m2.1.cls) {host : String} (hw : (mt.1.cls, i, m2.1, host) ∈ NESTS) (hi : Cond.instanceMethod m2.1 ∈ ALL) (hse : Cond.selects m2.1.cls m2.1 m2.1 ∈ ALL) (kk : ∀ (r : Option Value) (μ' : Mu), P r μ' → JS Z X (pc + 3) lv (r.toList ++ rest) μ') : JS Z X pc lv (As.reverse ++ .ref (Z.2.2.1 + o) :: rest) μ :=
  J_callN E hd hC ok rm hn hW (Nat.le_refl 0) (Nat.le_refl 0) (Nat.le_refl NW) (SH_lto hs) (WM_obj hs) (by rw [hcl, hCl]) hw hi hse fun r M' ⟨μ', e, hp⟩ => by subst e; exact kk r μ' hp
theorem S_callS (E : Ent Z X mt 0 0) {m2 : MT} {na : Nat} {As rest : List Value} {P : Option Value → Mu → Prop} (hd : decode mt.2.1 pc = .ok (.invokestatic i, 3)) (hC : CtrS Z m2 As μ P) (ok : okM m2 na) (rm : okR mt m2) (hn : As.length = na) (hW : (rest.map fun v => v.category).sum ≤ 8) (hw : Cond.methodLink mt.1.cls i m2.1 ∈ ALL) (hi : Cond.static m2.1 ∈ ALL) (kk : ∀ (r : Option Value) (μ' : Mu), P r μ' → JS Z X (pc + 3) lv (r.toList ++ rest) μ') : JS Z X pc lv (As.reverse ++ rest) μ :=
  J_callS E hd hC ok rm hn hW (Nat.le_refl 0) (Nat.le_refl 0) (Nat.le_refl NW) hw hi fun r M' ⟨μ', e, hp⟩ => by subst e; exact kk r μ' hp
theorem S_callSN (E : Ent Z X mt 0 0) {m2 : MT} {na : Nat} {As rest : List Value} {P : Option Value → Mu → Prop} (hd : decode mt.2.1 pc = .ok (.invokestatic i, 3)) (hC : CtrS Z m2 As μ P) (ok : okM m2 na) (rm : okR mt m2) (hn : As.length = na) (hW : (rest.map fun v => v.category).sum ≤ 8) {host : String} (hw : (mt.1.cls, i, m2.1, host) ∈ NESTS) (hi : Cond.static m2.1 ∈ ALL) (kk : ∀ (r : Option Value) (μ' : Mu), P r μ' → JS Z X (pc + 3) lv (r.toList ++ rest) μ') : JS Z X pc lv (As.reverse ++ rest) μ :=
  J_callSN E hd hC ok rm hn hW (Nat.le_refl 0) (Nat.le_refl 0) (Nat.le_refl NW) hw hi fun r M' ⟨μ', e, hp⟩ => by subst e; exact kk r μ' hp
end SR
