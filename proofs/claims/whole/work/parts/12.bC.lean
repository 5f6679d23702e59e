theorem dX11_init_0 : decode cX11_init 0 = .ok (.aload_n 0, 1) := by decide +kernel
theorem dX11_init_1 : decode cX11_init 1 = .ok (.invokespecial 1, 3) := by decide +kernel
theorem dX11_init_4 : decode cX11_init 4 = .ok (.aload_n 0, 1) := by decide +kernel
theorem dX11_init_5 : decode cX11_init 5 = .ok (.new 7, 3) := by decide +kernel
theorem dX11_init_8 : decode cX11_init 8 = .ok (.dup, 1) := by decide +kernel
theorem dX11_init_9 : decode cX11_init 9 = .ok (.invokespecial 9, 3) := by decide +kernel
theorem dX11_init_12 : decode cX11_init 12 = .ok (.putfield 10, 3) := by decide +kernel
theorem dX11_init_15 : decode cX11_init 15 = .ok (.aload_n 0, 1) := by decide +kernel
theorem dX11_init_16 : decode cX11_init 16 = .ok (.new 7, 3) := by decide +kernel
theorem dX11_init_19 : decode cX11_init 19 = .ok (.dup, 1) := by decide +kernel
theorem dX11_init_20 : decode cX11_init 20 = .ok (.invokespecial 9, 3) := by decide +kernel
theorem dX11_init_23 : decode cX11_init 23 = .ok (.putfield 16, 3) := by decide +kernel
theorem dX11_init_26 : decode cX11_init 26 = .ok (.aload_n 0, 1) := by decide +kernel
theorem dX11_init_27 : decode cX11_init 27 = .ok (.new 19, 3) := by decide +kernel
theorem dX11_init_30 : decode cX11_init 30 = .ok (.dup, 1) := by decide +kernel
theorem dX11_init_31 : decode cX11_init 31 = .ok (.invokespecial 21, 3) := by decide +kernel
theorem dX11_init_34 : decode cX11_init 34 = .ok (.putfield 22, 3) := by decide +kernel
theorem dX11_init_37 : decode cX11_init 37 = .ok (.aload_n 0, 1) := by decide +kernel
theorem dX11_init_38 : decode cX11_init 38 = .ok (.new 26, 3) := by decide +kernel
theorem dX11_init_41 : decode cX11_init 41 = .ok (.dup, 1) := by decide +kernel
theorem dX11_init_42 : decode cX11_init 42 = .ok (.invokespecial 28, 3) := by decide +kernel
theorem dX11_init_45 : decode cX11_init 45 = .ok (.putfield 29, 3) := by decide +kernel
theorem dX11_init_48 : decode cX11_init 48 = .ok (.aload_n 0, 1) := by decide +kernel
theorem dX11_init_49 : decode cX11_init 49 = .ok (.iconst 2, 1) := by decide +kernel
theorem dX11_init_50 : decode cX11_init 50 = .ok (.anewarray 7, 3) := by decide +kernel
theorem dX11_init_53 : decode cX11_init 53 = .ok (.putfield 33, 3) := by decide +kernel
theorem dX11_init_56 : decode cX11_init 56 = .ok (.aload_n 0, 1) := by decide +kernel
theorem dX11_init_57 : decode cX11_init 57 = .ok (.iconst 2, 1) := by decide +kernel
theorem dX11_init_58 : decode cX11_init 58 = .ok (.anewarray 19, 3) := by decide +kernel
theorem dX11_init_61 : decode cX11_init 61 = .ok (.putfield 37, 3) := by decide +kernel
theorem dX11_init_64 : decode cX11_init 64 = .ok (.iconst 0, 1) := by decide +kernel
theorem dX11_init_65 : decode cX11_init 65 = .ok (.istore_n 1, 1) := by decide +kernel
theorem dX11_init_66 : decode cX11_init 66 = .ok (.iload_n 1, 1) := by decide +kernel
theorem dX11_init_67 : decode cX11_init 67 = .ok (.iconst 2, 1) := by decide +kernel
theorem dX11_init_68 : decode cX11_init 68 = .ok (.if_icmp .ge 35, 3) := by decide +kernel
theorem dX11_init_71 : decode cX11_init 71 = .ok (.aload_n 0, 1) := by decide +kernel
theorem dX11_init_72 : decode cX11_init 72 = .ok (.getfield 33, 3) := by decide +kernel
theorem dX11_init_75 : decode cX11_init 75 = .ok (.iload_n 1, 1) := by decide +kernel
theorem dX11_init_76 : decode cX11_init 76 = .ok (.new 7, 3) := by decide +kernel
theorem dX11_init_79 : decode cX11_init 79 = .ok (.dup, 1) := by decide +kernel
theorem dX11_init_80 : decode cX11_init 80 = .ok (.invokespecial 9, 3) := by decide +kernel
theorem dX11_init_83 : decode cX11_init 83 = .ok (.aastore, 1) := by decide +kernel
theorem dX11_init_84 : decode cX11_init 84 = .ok (.aload_n 0, 1) := by decide +kernel
theorem dX11_init_85 : decode cX11_init 85 = .ok (.getfield 37, 3) := by decide +kernel
theorem dX11_init_88 : decode cX11_init 88 = .ok (.iload_n 1, 1) := by decide +kernel
theorem dX11_init_89 : decode cX11_init 89 = .ok (.new 19, 3) := by decide +kernel
theorem dX11_init_92 : decode cX11_init 92 = .ok (.dup, 1) := by decide +kernel
theorem dX11_init_93 : decode cX11_init 93 = .ok (.invokespecial 21, 3) := by decide +kernel
theorem dX11_init_96 : decode cX11_init 96 = .ok (.aastore, 1) := by decide +kernel
theorem dX11_init_97 : decode cX11_init 97 = .ok (.iinc 1 1, 3) := by decide +kernel
theorem dX11_init_100 : decode cX11_init 100 = .ok (.goto (-34), 3) := by decide +kernel
theorem dX11_init_103 : decode cX11_init 103 = .ok (.aload_n 0, 1) := by decide +kernel
theorem dX11_init_104 : decode cX11_init 104 = .ok (.iconst 2, 1) := by decide +kernel
theorem dX11_init_105 : decode cX11_init 105 = .ok (.newarray .boolean, 2) := by decide +kernel
theorem dX11_init_107 : decode cX11_init 107 = .ok (.putfield 41, 3) := by decide +kernel
theorem dX11_init_110 : decode cX11_init 110 = .ok (.aload_n 0, 1) := by decide +kernel
theorem dX11_init_111 : decode cX11_init 111 = .ok (.iconst 3, 1) := by decide +kernel
theorem dX11_init_112 : decode cX11_init 112 = .ok (.newarray .int, 2) := by decide +kernel
theorem dX11_init_114 : decode cX11_init 114 = .ok (.putfield 45, 3) := by decide +kernel
theorem dX11_init_117 : decode cX11_init 117 = .ok (.aload_n 0, 1) := by decide +kernel
theorem dX11_init_118 : decode cX11_init 118 = .ok (.new 49, 3) := by decide +kernel
theorem dX11_init_121 : decode cX11_init 121 = .ok (.dup, 1) := by decide +kernel
theorem dX11_init_122 : decode cX11_init 122 = .ok (.aload_n 0, 1) := by decide +kernel
theorem dX11_init_123 : decode cX11_init 123 = .ok (.getfield 10, 3) := by decide +kernel
theorem dX11_init_126 : decode cX11_init 126 = .ok (.invokespecial 51, 3) := by decide +kernel
theorem dX11_init_129 : decode cX11_init 129 = .ok (.putfield 54, 3) := by decide +kernel
theorem dX11_init_132 : decode cX11_init 132 = .ok (.aload_n 0, 1) := by decide +kernel
theorem dX11_init_133 : decode cX11_init 133 = .ok (.new 58, 3) := by decide +kernel
theorem dX11_init_136 : decode cX11_init 136 = .ok (.dup, 1) := by decide +kernel
theorem dX11_init_137 : decode cX11_init 137 = .ok (.aload_n 0, 1) := by decide +kernel
theorem dX11_init_138 : decode cX11_init 138 = .ok (.getfield 10, 3) := by decide +kernel
theorem dX11_init_141 : decode cX11_init 141 = .ok (.aload_n 0, 1) := by decide +kernel
theorem dX11_init_142 : decode cX11_init 142 = .ok (.getfield 22, 3) := by decide +kernel
theorem dX11_init_145 : decode cX11_init 145 = .ok (.aload_n 0, 1) := by decide +kernel
theorem dX11_init_146 : decode cX11_init 146 = .ok (.getfield 54, 3) := by decide +kernel
theorem dX11_init_149 : decode cX11_init 149 = .ok (.invokespecial 60, 3) := by decide +kernel
theorem dX11_init_152 : decode cX11_init 152 = .ok (.putfield 63, 3) := by decide +kernel
theorem dX11_init_155 : decode cX11_init 155 = .ok (.aload_n 0, 1) := by decide +kernel
theorem dX11_init_156 : decode cX11_init 156 = .ok (.new 58, 3) := by decide +kernel
theorem dX11_init_159 : decode cX11_init 159 = .ok (.dup, 1) := by decide +kernel
theorem dX11_init_160 : decode cX11_init 160 = .ok (.aload_n 0, 1) := by decide +kernel
theorem dX11_init_161 : decode cX11_init 161 = .ok (.getfield 10, 3) := by decide +kernel
theorem dX11_init_164 : decode cX11_init 164 = .ok (.aload_n 0, 1) := by decide +kernel
theorem dX11_init_165 : decode cX11_init 165 = .ok (.getfield 22, 3) := by decide +kernel
theorem dX11_init_168 : decode cX11_init 168 = .ok (.aload_n 0, 1) := by decide +kernel
theorem dX11_init_169 : decode cX11_init 169 = .ok (.getfield 54, 3) := by decide +kernel
theorem dX11_init_172 : decode cX11_init 172 = .ok (.invokespecial 60, 3) := by decide +kernel
theorem dX11_init_175 : decode cX11_init 175 = .ok (.putfield 67, 3) := by decide +kernel
theorem dX11_init_178 : decode cX11_init 178 = .ok (.aload_n 0, 1) := by decide +kernel
theorem dX11_init_179 : decode cX11_init 179 = .ok (.new 70, 3) := by decide +kernel
theorem dX11_init_182 : decode cX11_init 182 = .ok (.dup, 1) := by decide +kernel
theorem dX11_init_183 : decode cX11_init 183 = .ok (.aload_n 0, 1) := by decide +kernel
theorem dX11_init_184 : decode cX11_init 184 = .ok (.getfield 10, 3) := by decide +kernel
theorem dX11_init_187 : decode cX11_init 187 = .ok (.aload_n 0, 1) := by decide +kernel
theorem dX11_init_188 : decode cX11_init 188 = .ok (.getfield 22, 3) := by decide +kernel
theorem dX11_init_191 : decode cX11_init 191 = .ok (.invokespecial 72, 3) := by decide +kernel
theorem dX11_init_194 : decode cX11_init 194 = .ok (.putfield 75, 3) := by decide +kernel
theorem dX11_init_197 : decode cX11_init 197 = .ok (.aload_n 0, 1) := by decide +kernel
theorem dX11_init_198 : decode cX11_init 198 = .ok (.new 79, 3) := by decide +kernel
theorem dX11_init_201 : decode cX11_init 201 = .ok (.dup, 1) := by decide +kernel
theorem dX11_init_202 : decode cX11_init 202 = .ok (.invokespecial 81, 3) := by decide +kernel
theorem dX11_init_205 : decode cX11_init 205 = .ok (.putfield 82, 3) := by decide +kernel
theorem dX11_init_208 : decode cX11_init 208 = .ok (.aload_n 0, 1) := by decide +kernel
theorem dX11_init_209 : decode cX11_init 209 = .ok (.new 86, 3) := by decide +kernel
theorem dX11_init_212 : decode cX11_init 212 = .ok (.dup, 1) := by decide +kernel
theorem dX11_init_213 : decode cX11_init 213 = .ok (.aload_n 0, 1) := by decide +kernel
theorem dX11_init_214 : decode cX11_init 214 = .ok (.getfield 75, 3) := by decide +kernel
theorem dX11_init_217 : decode cX11_init 217 = .ok (.invokespecial 88, 3) := by decide +kernel
theorem dX11_init_220 : decode cX11_init 220 = .ok (.putfield 91, 3) := by decide +kernel
theorem dX11_init_223 : decode cX11_init 223 = .ok (.aload_n 0, 1) := by decide +kernel
theorem dX11_init_224 : decode cX11_init 224 = .ok (.new 95, 3) := by decide +kernel
theorem dX11_init_227 : decode cX11_init 227 = .ok (.dup, 1) := by decide +kernel
theorem dX11_init_228 : decode cX11_init 228 = .ok (.aload_n 0, 1) := by decide +kernel
theorem dX11_init_229 : decode cX11_init 229 = .ok (.getfield 10, 3) := by decide +kernel
theorem dX11_init_232 : decode cX11_init 232 = .ok (.aload_n 0, 1) := by decide +kernel
theorem dX11_init_233 : decode cX11_init 233 = .ok (.getfield 75, 3) := by decide +kernel
theorem dX11_init_236 : decode cX11_init 236 = .ok (.invokespecial 97, 3) := by decide +kernel
theorem dX11_init_239 : decode cX11_init 239 = .ok (.putfield 100, 3) := by decide +kernel
theorem dX11_init_242 : decode cX11_init 242 = .ok (.aload_n 0, 1) := by decide +kernel
theorem dX11_init_243 : decode cX11_init 243 = .ok (.new 104, 3) := by decide +kernel
theorem dX11_init_246 : decode cX11_init 246 = .ok (.dup, 1) := by decide +kernel
theorem dX11_init_247 : decode cX11_init 247 = .ok (.invokespecial 106, 3) := by decide +kernel
theorem dX11_init_250 : decode cX11_init 250 = .ok (.putfield 107, 3) := by decide +kernel
theorem dX11_init_253 : decode cX11_init 253 = .ok (.aload_n 0, 1) := by decide +kernel
theorem dX11_init_254 : decode cX11_init 254 = .ok (.new 111, 3) := by decide +kernel
theorem dX11_init_257 : decode cX11_init 257 = .ok (.dup, 1) := by decide +kernel
theorem dX11_init_258 : decode cX11_init 258 = .ok (.invokespecial 113, 3) := by decide +kernel
theorem dX11_init_261 : decode cX11_init 261 = .ok (.putfield 114, 3) := by decide +kernel
theorem dX11_init_264 : decode cX11_init 264 = .ok (.aload_n 0, 1) := by decide +kernel
theorem dX11_init_265 : decode cX11_init 265 = .ok (.new 111, 3) := by decide +kernel
theorem dX11_init_268 : decode cX11_init 268 = .ok (.dup, 1) := by decide +kernel
theorem dX11_init_269 : decode cX11_init 269 = .ok (.invokespecial 113, 3) := by decide +kernel
theorem dX11_init_272 : decode cX11_init 272 = .ok (.putfield 118, 3) := by decide +kernel
theorem dX11_init_275 : decode cX11_init 275 = .ok (.return_, 1) := by decide +kernel
theorem dX11_place_0 : decode cX11_place 0 = .ok (.aload_n 0, 1) := by decide +kernel
theorem dX11_place_1 : decode cX11_place 1 = .ok (.aload_n 0, 1) := by decide +kernel
theorem dX11_place_2 : decode cX11_place 2 = .ok (.getfield 10, 3) := by decide +kernel
theorem dX11_place_5 : decode cX11_place 5 = .ok (.invokevirtual 121, 3) := by decide +kernel
theorem dX11_place_8 : decode cX11_place 8 = .ok (.invokevirtual 125, 3) := by decide +kernel
theorem dX11_place_11 : decode cX11_place 11 = .ok (.ireturn, 1) := by decide +kernel
theorem bX11_place_0 {Z : ZT} {X : XT} {μ : Mu} (E : Ent Z X mX11_place 0 0) {p : Int32 → Mu → Prop} 
    (c : CtrS Z mX3_addPlace [.ref (Z.2.2.1 + 1)] μ (rI p)) (k : ∀ v μ1, p v μ1 → JS Z X 8 [] [.int v, .ref (Z.2.2.1 + 0)] μ1) :
    JS Z X 0 [(0, .ref (Z.2.2.1 + 0))] [] μ := by
  refine J_aload_n E dX11_place_0 rfl ?_
  refine J_aload_n E dX11_place_1 rfl ?_
  refine S_get (ci := 11) (q := 0) (v := .ref (Z.2.2.1 + 1)) E dX11_place_2 fs_X11_10 sh0 rfl ?_
  refine S_callV (As := []) (rest := [.ref (Z.2.2.1 + 0)]) E dX11_place_5 c kX3_addPlace ⟨Nat.le_of_ble_eq_true rfl, Nat.le_of_ble_eq_true rfl⟩ rfl (Nat.le_of_ble_eq_true rfl) sh1 rfl rfl w3_21 w3_22 w3_23 (fun r_ μ1 hp_ => ?_)
  obtain ⟨v, rfl, hp_⟩ := hp_
  refine J.weak [] rfl ?_
  exact k v μ1 hp_
theorem bX11_place_8 {Z : ZT} {X : XT} {μ : Mu} {s1 : Int32} (E : Ent Z X mX11_place 0 0) {p : Int32 → Mu → Prop} 
    (c : CtrS Z mX11_counted [.ref (Z.2.2.1 + 0), .int s1] μ (rI p)) (k : ∀ v μ1, p v μ1 → JS Z X 11 [] [.int v] μ1) :
    JS Z X 8 [] [.int s1, .ref (Z.2.2.1 + 0)] μ := by
  refine S_callV (As := [.int s1]) (rest := []) E dX11_place_8 c kX11_counted ⟨Nat.le_of_ble_eq_true rfl, Nat.le_of_ble_eq_true rfl⟩ rfl (Nat.le_of_ble_eq_true rfl) sh0 rfl rfl w3_25 w3_27 wp_1 (fun r_ μ1 hp_ => ?_)
  obtain ⟨v, rfl, hp_⟩ := hp_
  exact k v μ1 hp_
theorem bX11_place_11 {Z : ZT} {X : XT} {μ : Mu} {s0 : Int32} (E : Ent Z X mX11_place 0 0) {P : Option Value → Mu → Prop} (hB : BodS Z X P) 
    (k : P (some (.int s0)) μ) :
    JS Z X 11 [] [.int s0] μ := by
  exact S_iret E hB dX11_place_11 rfl k
theorem dX11_way_0 : decode cX11_way 0 = .ok (.aload_n 0, 1) := by decide +kernel
theorem dX11_way_1 : decode cX11_way 1 = .ok (.aload_n 0, 1) := by decide +kernel
theorem dX11_way_2 : decode cX11_way 2 = .ok (.getfield 10, 3) := by decide +kernel
theorem dX11_way_5 : decode cX11_way 5 = .ok (.iload_n 1, 1) := by decide +kernel
theorem dX11_way_6 : decode cX11_way 6 = .ok (.iload_n 2, 1) := by decide +kernel
theorem dX11_way_7 : decode cX11_way 7 = .ok (.iload_n 3, 1) := by decide +kernel
theorem dX11_way_8 : decode cX11_way 8 = .ok (.invokevirtual 129, 3) := by decide +kernel
theorem dX11_way_11 : decode cX11_way 11 = .ok (.invokevirtual 125, 3) := by decide +kernel
theorem dX11_way_14 : decode cX11_way 14 = .ok (.ireturn, 1) := by decide +kernel
theorem bX11_way_0 {Z : ZT} {X : XT} {μ : Mu} {a1 : Int32} {a2 : Int32} {a3 : Int32} (E : Ent Z X mX11_way 0 0) {p : Int32 → Mu → Prop} 
    (c : CtrS Z mX3_setWay [.ref (Z.2.2.1 + 1), .int a1, .int a2, .int a3] μ (rI p)) (k : ∀ v μ1, p v μ1 → JS Z X 11 [] [.int v, .ref (Z.2.2.1 + 0)] μ1) :
    JS Z X 0 [(0, .ref (Z.2.2.1 + 0)), (1, .int a1), (2, .int a2), (3, .int a3)] [] μ := by
  refine J_aload_n E dX11_way_0 rfl ?_
  refine J_aload_n E dX11_way_1 rfl ?_
  refine S_get (ci := 11) (q := 0) (v := .ref (Z.2.2.1 + 1)) E dX11_way_2 fs_X11_10 sh0 rfl ?_
  refine J_iload_n E dX11_way_5 rfl ?_
  refine J_iload_n E dX11_way_6 rfl ?_
  refine J_iload_n E dX11_way_7 rfl ?_
  refine S_callV (As := [.int a1, .int a2, .int a3]) (rest := [.ref (Z.2.2.1 + 0)]) E dX11_way_8 c kX3_setWay ⟨Nat.le_of_ble_eq_true rfl, Nat.le_of_ble_eq_true rfl⟩ rfl (Nat.le_of_ble_eq_true rfl) sh1 rfl rfl w3_33 w3_34 w3_35 (fun r_ μ1 hp_ => ?_)
  obtain ⟨v, rfl, hp_⟩ := hp_
  refine J.weak [] rfl ?_
  exact k v μ1 hp_
theorem bX11_way_11 {Z : ZT} {X : XT} {μ : Mu} {s1 : Int32} (E : Ent Z X mX11_way 0 0) {p : Int32 → Mu → Prop} 
    (c : CtrS Z mX11_counted [.ref (Z.2.2.1 + 0), .int s1] μ (rI p)) (k : ∀ v μ1, p v μ1 → JS Z X 14 [] [.int v] μ1) :
    JS Z X 11 [] [.int s1, .ref (Z.2.2.1 + 0)] μ := by
  refine S_callV (As := [.int s1]) (rest := []) E dX11_way_11 c kX11_counted ⟨Nat.le_of_ble_eq_true rfl, Nat.le_of_ble_eq_true rfl⟩ rfl (Nat.le_of_ble_eq_true rfl) sh0 rfl rfl w3_25 w3_27 wp_1 (fun r_ μ1 hp_ => ?_)
  obtain ⟨v, rfl, hp_⟩ := hp_
  exact k v μ1 hp_
theorem bX11_way_14 {Z : ZT} {X : XT} {μ : Mu} {s0 : Int32} (E : Ent Z X mX11_way 0 0) {P : Option Value → Mu → Prop} (hB : BodS Z X P) 
    (k : P (some (.int s0)) μ) :
    JS Z X 14 [] [.int s0] μ := by
  exact S_iret E hB dX11_way_14 rfl k
theorem dX11_sees_0 : decode cX11_sees 0 = .ok (.aload_n 0, 1) := by decide +kernel
theorem dX11_sees_1 : decode cX11_sees 1 = .ok (.aload_n 0, 1) := by decide +kernel
theorem dX11_sees_2 : decode cX11_sees 2 = .ok (.getfield 10, 3) := by decide +kernel
theorem dX11_sees_5 : decode cX11_sees 5 = .ok (.iload_n 1, 1) := by decide +kernel
theorem dX11_sees_6 : decode cX11_sees 6 = .ok (.iload_n 2, 1) := by decide +kernel
theorem dX11_sees_7 : decode cX11_sees 7 = .ok (.invokevirtual 133, 3) := by decide +kernel
theorem dX11_sees_10 : decode cX11_sees 10 = .ok (.invokevirtual 125, 3) := by decide +kernel
theorem dX11_sees_13 : decode cX11_sees 13 = .ok (.ireturn, 1) := by decide +kernel
theorem bX11_sees_0 {Z : ZT} {X : XT} {μ : Mu} {a1 : Int32} {a2 : Int32} (E : Ent Z X mX11_sees 0 0) {p : Int32 → Mu → Prop} 
    (c : CtrS Z mX3_addSight [.ref (Z.2.2.1 + 1), .int a1, .int a2] μ (rI p)) (k : ∀ v μ1, p v μ1 → JS Z X 10 [] [.int v, .ref (Z.2.2.1 + 0)] μ1) :
    JS Z X 0 [(0, .ref (Z.2.2.1 + 0)), (1, .int a1), (2, .int a2)] [] μ := by
  refine J_aload_n E dX11_sees_0 rfl ?_
  refine J_aload_n E dX11_sees_1 rfl ?_
  refine S_get (ci := 11) (q := 0) (v := .ref (Z.2.2.1 + 1)) E dX11_sees_2 fs_X11_10 sh0 rfl ?_
  refine J_iload_n E dX11_sees_5 rfl ?_
  refine J_iload_n E dX11_sees_6 rfl ?_
  refine S_callV (As := [.int a1, .int a2]) (rest := [.ref (Z.2.2.1 + 0)]) E dX11_sees_7 c kX3_addSight ⟨Nat.le_of_ble_eq_true rfl, Nat.le_of_ble_eq_true rfl⟩ rfl (Nat.le_of_ble_eq_true rfl) sh1 rfl rfl w3_52 w3_53 w3_54 (fun r_ μ1 hp_ => ?_)
  obtain ⟨v, rfl, hp_⟩ := hp_
  refine J.weak [] rfl ?_
  exact k v μ1 hp_
theorem bX11_sees_10 {Z : ZT} {X : XT} {μ : Mu} {s1 : Int32} (E : Ent Z X mX11_sees 0 0) {p : Int32 → Mu → Prop} 
    (c : CtrS Z mX11_counted [.ref (Z.2.2.1 + 0), .int s1] μ (rI p)) (k : ∀ v μ1, p v μ1 → JS Z X 13 [] [.int v] μ1) :
    JS Z X 10 [] [.int s1, .ref (Z.2.2.1 + 0)] μ := by
  refine S_callV (As := [.int s1]) (rest := []) E dX11_sees_10 c kX11_counted ⟨Nat.le_of_ble_eq_true rfl, Nat.le_of_ble_eq_true rfl⟩ rfl (Nat.le_of_ble_eq_true rfl) sh0 rfl rfl w3_25 w3_27 wp_1 (fun r_ μ1 hp_ => ?_)
  obtain ⟨v, rfl, hp_⟩ := hp_
  exact k v μ1 hp_
theorem bX11_sees_13 {Z : ZT} {X : XT} {μ : Mu} {s0 : Int32} (E : Ent Z X mX11_sees 0 0) {P : Option Value → Mu → Prop} (hB : BodS Z X P) 
    (k : P (some (.int s0)) μ) :
    JS Z X 13 [] [.int s0] μ := by
  exact S_iret E hB dX11_sees_13 rfl k
theorem dX11_child_0 : decode cX11_child 0 = .ok (.aload_n 0, 1) := by decide +kernel
theorem dX11_child_1 : decode cX11_child 1 = .ok (.aload_n 0, 1) := by decide +kernel
theorem dX11_child_2 : decode cX11_child 2 = .ok (.getfield 10, 3) := by decide +kernel
theorem dX11_child_5 : decode cX11_child 5 = .ok (.iload_n 1, 1) := by decide +kernel
theorem dX11_child_6 : decode cX11_child 6 = .ok (.ifCond .eq 7, 3) := by decide +kernel
theorem dX11_child_9 : decode cX11_child 9 = .ok (.iconst 1, 1) := by decide +kernel
theorem dX11_child_10 : decode cX11_child 10 = .ok (.goto 4, 3) := by decide +kernel
theorem dX11_child_13 : decode cX11_child 13 = .ok (.iconst 0, 1) := by decide +kernel
theorem dX11_child_14 : decode cX11_child 14 = .ok (.iload_n 2, 1) := by decide +kernel
theorem dX11_child_15 : decode cX11_child 15 = .ok (.iload_n 3, 1) := by decide +kernel
theorem dX11_child_16 : decode cX11_child 16 = .ok (.iload 4, 2) := by decide +kernel
theorem dX11_child_18 : decode cX11_child 18 = .ok (.iload 5, 2) := by decide +kernel
theorem dX11_child_20 : decode cX11_child 20 = .ok (.invokevirtual 137, 3) := by decide +kernel
theorem dX11_child_23 : decode cX11_child 23 = .ok (.invokevirtual 125, 3) := by decide +kernel
theorem dX11_child_26 : decode cX11_child 26 = .ok (.ireturn, 1) := by decide +kernel
theorem bX11_child_0 {Z : ZT} {X : XT} {μ : Mu} {a1 : Int32} {a2 : Int32} {a3 : Int32} {a4 : Int32} {a5 : Int32} (E : Ent Z X mX11_child 0 0)  
    (kt : a1 = 0 → JS Z X 13 [(2, .int a2), (3, .int a3), (4, .int a4), (5, .int a5)] [.ref (Z.2.2.1 + 1), .ref (Z.2.2.1 + 0)] μ) (kf : ¬ (a1 = 0) → JS Z X 9 [(2, .int a2), (3, .int a3), (4, .int a4), (5, .int a5)] [.ref (Z.2.2.1 + 1), .ref (Z.2.2.1 + 0)] μ) :
    JS Z X 0 [(0, .ref (Z.2.2.1 + 0)), (1, .int a1), (2, .int a2), (3, .int a3), (4, .int a4), (5, .int a5)] [] μ := by
  refine J_aload_n E dX11_child_0 rfl ?_
  refine J_aload_n E dX11_child_1 rfl ?_
  refine S_get (ci := 11) (q := 0) (v := .ref (Z.2.2.1 + 1)) E dX11_child_2 fs_X11_10 sh0 rfl ?_
  refine J_iload_n E dX11_child_5 rfl ?_
  refine J_if_eq (tgt := 13) E dX11_child_6 (by decide) (fun c => ?_) (fun c => ?_)
  · refine J.weak [2, 3, 4, 5] rfl ?_
    exact kt c
  · refine J.weak [2, 3, 4, 5] rfl ?_
    exact kf c
theorem bX11_child_9 {Z : ZT} {X : XT} {μ : Mu} {a2 : Int32} {a3 : Int32} {a4 : Int32} {a5 : Int32} {s1 : Nat} (E : Ent Z X mX11_child 0 0) (hs1 : SH s1 = .inl 3) 
    (k : JS Z X 14 [(2, .int a2), (3, .int a3), (4, .int a4), (5, .int a5)] [.int (nI 1), .ref (Z.2.2.1 + s1), .ref (Z.2.2.1 + 0)] μ) :
    JS Z X 9 [(2, .int a2), (3, .int a3), (4, .int a4), (5, .int a5)] [.ref (Z.2.2.1 + s1), .ref (Z.2.2.1 + 0)] μ := by
  refine J_iconst (v := nI 1) E dX11_child_9 rfl ?_
  refine J_goto (tgt := 14) E dX11_child_10 (by decide) ?_
  exact k
theorem bX11_child_13 {Z : ZT} {X : XT} {μ : Mu} {a2 : Int32} {a3 : Int32} {a4 : Int32} {a5 : Int32} {s1 : Nat} (E : Ent Z X mX11_child 0 0) (hs1 : SH s1 = .inl 3) 
    (k : JS Z X 14 [(2, .int a2), (3, .int a3), (4, .int a4), (5, .int a5)] [.int (nI 0), .ref (Z.2.2.1 + s1), .ref (Z.2.2.1 + 0)] μ) :
    JS Z X 13 [(2, .int a2), (3, .int a3), (4, .int a4), (5, .int a5)] [.ref (Z.2.2.1 + s1), .ref (Z.2.2.1 + 0)] μ := by
  refine J_iconst (v := nI 0) E dX11_child_13 rfl ?_
  exact k
theorem bX11_child_14 {Z : ZT} {X : XT} {μ : Mu} {a2 : Int32} {a3 : Int32} {a4 : Int32} {a5 : Int32} {s1 : Nat} {s2 : Int32} (E : Ent Z X mX11_child 0 0) (hs1 : SH s1 = .inl 3) {p : Int32 → Mu → Prop} 
    (c : CtrS Z mX3_addChild [.ref (Z.2.2.1 + s1), .int s2, .int a2, .int a3, .int a4, .int a5] μ (rI p)) (k : ∀ v μ1, p v μ1 → JS Z X 23 [] [.int v, .ref (Z.2.2.1 + 0)] μ1) :
    JS Z X 14 [(2, .int a2), (3, .int a3), (4, .int a4), (5, .int a5)] [.int s2, .ref (Z.2.2.1 + s1), .ref (Z.2.2.1 + 0)] μ := by
  refine J_iload_n E dX11_child_14 rfl ?_
  refine J_iload_n E dX11_child_15 rfl ?_
  refine J_iload E dX11_child_16 rfl ?_
  refine J_iload E dX11_child_18 rfl ?_
  refine S_callV (As := [.int s2, .int a2, .int a3, .int a4, .int a5]) (rest := [.ref (Z.2.2.1 + 0)]) E dX11_child_20 c kX3_addChild ⟨Nat.le_of_ble_eq_true rfl, Nat.le_of_ble_eq_true rfl⟩ rfl (Nat.le_of_ble_eq_true rfl) hs1 rfl rfl w3_60 w3_61 w3_62 (fun r_ μ1 hp_ => ?_)
  obtain ⟨v, rfl, hp_⟩ := hp_
  refine J.weak [] rfl ?_
  exact k v μ1 hp_
theorem bX11_child_23 {Z : ZT} {X : XT} {μ : Mu} {s1 : Int32} (E : Ent Z X mX11_child 0 0) {p : Int32 → Mu → Prop} 
    (c : CtrS Z mX11_counted [.ref (Z.2.2.1 + 0), .int s1] μ (rI p)) (k : ∀ v μ1, p v μ1 → JS Z X 26 [] [.int v] μ1) :
    JS Z X 23 [] [.int s1, .ref (Z.2.2.1 + 0)] μ := by
  refine S_callV (As := [.int s1]) (rest := []) E dX11_child_23 c kX11_counted ⟨Nat.le_of_ble_eq_true rfl, Nat.le_of_ble_eq_true rfl⟩ rfl (Nat.le_of_ble_eq_true rfl) sh0 rfl rfl w3_25 w3_27 wp_1 (fun r_ μ1 hp_ => ?_)
  obtain ⟨v, rfl, hp_⟩ := hp_
  exact k v μ1 hp_
theorem bX11_child_26 {Z : ZT} {X : XT} {μ : Mu} {s0 : Int32} (E : Ent Z X mX11_child 0 0) {P : Option Value → Mu → Prop} (hB : BodS Z X P) 
    (k : P (some (.int s0)) μ) :
    JS Z X 26 [] [.int s0] μ := by
  exact S_iret E hB dX11_child_26 rfl k
theorem dX11_bar_0 : decode cX11_bar 0 = .ok (.aload_n 0, 1) := by decide +kernel
theorem dX11_bar_1 : decode cX11_bar 1 = .ok (.aload_n 0, 1) := by decide +kernel
theorem dX11_bar_2 : decode cX11_bar 2 = .ok (.getfield 10, 3) := by decide +kernel
theorem dX11_bar_5 : decode cX11_bar 5 = .ok (.iload_n 1, 1) := by decide +kernel
theorem dX11_bar_6 : decode cX11_bar 6 = .ok (.iload_n 2, 1) := by decide +kernel
theorem dX11_bar_7 : decode cX11_bar 7 = .ok (.invokevirtual 141, 3) := by decide +kernel
theorem dX11_bar_10 : decode cX11_bar 10 = .ok (.invokevirtual 125, 3) := by decide +kernel
theorem dX11_bar_13 : decode cX11_bar 13 = .ok (.ireturn, 1) := by decide +kernel
theorem bX11_bar_0 {Z : ZT} {X : XT} {μ : Mu} {a1 : Int32} {a2 : Int32} (E : Ent Z X mX11_bar 0 0) {p : Int32 → Mu → Prop} 
    (c : CtrS Z mX3_addBar [.ref (Z.2.2.1 + 1), .int a1, .int a2] μ (rI p)) (k : ∀ v μ1, p v μ1 → JS Z X 10 [] [.int v, .ref (Z.2.2.1 + 0)] μ1) :
    JS Z X 0 [(0, .ref (Z.2.2.1 + 0)), (1, .int a1), (2, .int a2)] [] μ := by
  refine J_aload_n E dX11_bar_0 rfl ?_
  refine J_aload_n E dX11_bar_1 rfl ?_
  refine S_get (ci := 11) (q := 0) (v := .ref (Z.2.2.1 + 1)) E dX11_bar_2 fs_X11_10 sh0 rfl ?_
  refine J_iload_n E dX11_bar_5 rfl ?_
  refine J_iload_n E dX11_bar_6 rfl ?_
  refine S_callV (As := [.int a1, .int a2]) (rest := [.ref (Z.2.2.1 + 0)]) E dX11_bar_7 c kX3_addBar ⟨Nat.le_of_ble_eq_true rfl, Nat.le_of_ble_eq_true rfl⟩ rfl (Nat.le_of_ble_eq_true rfl) sh1 rfl rfl w3_71 w3_72 w3_73 (fun r_ μ1 hp_ => ?_)
  obtain ⟨v, rfl, hp_⟩ := hp_
  refine J.weak [] rfl ?_
  exact k v μ1 hp_
theorem bX11_bar_10 {Z : ZT} {X : XT} {μ : Mu} {s1 : Int32} (E : Ent Z X mX11_bar 0 0) {p : Int32 → Mu → Prop} 
    (c : CtrS Z mX11_counted [.ref (Z.2.2.1 + 0), .int s1] μ (rI p)) (k : ∀ v μ1, p v μ1 → JS Z X 13 [] [.int v] μ1) :
    JS Z X 10 [] [.int s1, .ref (Z.2.2.1 + 0)] μ := by
  refine S_callV (As := [.int s1]) (rest := []) E dX11_bar_10 c kX11_counted ⟨Nat.le_of_ble_eq_true rfl, Nat.le_of_ble_eq_true rfl⟩ rfl (Nat.le_of_ble_eq_true rfl) sh0 rfl rfl w3_25 w3_27 wp_1 (fun r_ μ1 hp_ => ?_)
  obtain ⟨v, rfl, hp_⟩ := hp_
  exact k v μ1 hp_
theorem bX11_bar_13 {Z : ZT} {X : XT} {μ : Mu} {s0 : Int32} (E : Ent Z X mX11_bar 0 0) {P : Option Value → Mu → Prop} (hB : BodS Z X P) 
    (k : P (some (.int s0)) μ) :
    JS Z X 13 [] [.int s0] μ := by
  exact S_iret E hB dX11_bar_13 rfl k
theorem dX11_join_0 : decode cX11_join 0 = .ok (.aload_n 0, 1) := by decide +kernel
theorem dX11_join_1 : decode cX11_join 1 = .ok (.aload_n 0, 1) := by decide +kernel
theorem dX11_join_2 : decode cX11_join 2 = .ok (.getfield 10, 3) := by decide +kernel
theorem dX11_join_5 : decode cX11_join 5 = .ok (.iload_n 1, 1) := by decide +kernel
theorem dX11_join_6 : decode cX11_join 6 = .ok (.iload_n 2, 1) := by decide +kernel
theorem dX11_join_7 : decode cX11_join 7 = .ok (.invokevirtual 144, 3) := by decide +kernel
theorem dX11_join_10 : decode cX11_join 10 = .ok (.invokevirtual 125, 3) := by decide +kernel
theorem dX11_join_13 : decode cX11_join 13 = .ok (.istore_n 3, 1) := by decide +kernel
theorem dX11_join_14 : decode cX11_join 14 = .ok (.iload_n 3, 1) := by decide +kernel
theorem dX11_join_15 : decode cX11_join 15 = .ok (.bipush (-2), 2) := by decide +kernel
theorem dX11_join_17 : decode cX11_join 17 = .ok (.if_icmp .ne 8, 3) := by decide +kernel
theorem dX11_join_20 : decode cX11_join 20 = .ok (.bipush (-10), 2) := by decide +kernel
theorem dX11_join_22 : decode cX11_join 22 = .ok (.goto 4, 3) := by decide +kernel
theorem dX11_join_25 : decode cX11_join 25 = .ok (.iload_n 3, 1) := by decide +kernel
theorem dX11_join_26 : decode cX11_join 26 = .ok (.ireturn, 1) := by decide +kernel
theorem bX11_join_0 {Z : ZT} {X : XT} {μ : Mu} {a1 : Int32} {a2 : Int32} (E : Ent Z X mX11_join 0 0) {p : Int32 → Mu → Prop} 
    (c : CtrS Z mX3_setLot [.ref (Z.2.2.1 + 1), .int a1, .int a2] μ (rI p)) (k : ∀ v μ1, p v μ1 → JS Z X 10 [] [.int v, .ref (Z.2.2.1 + 0)] μ1) :
    JS Z X 0 [(0, .ref (Z.2.2.1 + 0)), (1, .int a1), (2, .int a2)] [] μ := by
  refine J_aload_n E dX11_join_0 rfl ?_
  refine J_aload_n E dX11_join_1 rfl ?_
  refine S_get (ci := 11) (q := 0) (v := .ref (Z.2.2.1 + 1)) E dX11_join_2 fs_X11_10 sh0 rfl ?_
  refine J_iload_n E dX11_join_5 rfl ?_
  refine J_iload_n E dX11_join_6 rfl ?_
  refine S_callV (As := [.int a1, .int a2]) (rest := [.ref (Z.2.2.1 + 0)]) E dX11_join_7 c kX3_setLot ⟨Nat.le_of_ble_eq_true rfl, Nat.le_of_ble_eq_true rfl⟩ rfl (Nat.le_of_ble_eq_true rfl) sh1 rfl rfl w3_79 w3_80 w3_81 (fun r_ μ1 hp_ => ?_)
  obtain ⟨v, rfl, hp_⟩ := hp_
  refine J.weak [] rfl ?_
  exact k v μ1 hp_
theorem bX11_join_10 {Z : ZT} {X : XT} {μ : Mu} {s1 : Int32} (E : Ent Z X mX11_join 0 0) {p : Int32 → Mu → Prop} 
    (c : CtrS Z mX11_counted [.ref (Z.2.2.1 + 0), .int s1] μ (rI p)) (k : ∀ v μ1, p v μ1 → JS Z X 13 [] [.int v] μ1) :
    JS Z X 10 [] [.int s1, .ref (Z.2.2.1 + 0)] μ := by
  refine S_callV (As := [.int s1]) (rest := []) E dX11_join_10 c kX11_counted ⟨Nat.le_of_ble_eq_true rfl, Nat.le_of_ble_eq_true rfl⟩ rfl (Nat.le_of_ble_eq_true rfl) sh0 rfl rfl w3_25 w3_27 wp_1 (fun r_ μ1 hp_ => ?_)
  obtain ⟨v, rfl, hp_⟩ := hp_
  exact k v μ1 hp_
theorem bX11_join_13 {Z : ZT} {X : XT} {μ : Mu} {s0 : Int32} (E : Ent Z X mX11_join 0 0)  
    (kt : ¬ s0 = (-2) → JS Z X 25 [(3, .int s0)] [] μ) (kf : s0 = (-2) → JS Z X 20 [] [] μ) :
    JS Z X 13 [] [.int s0] μ := by
  refine J_istore_n (lv' := [(3, .int s0)]) E dX11_join_13 (Nat.le_of_ble_eq_true rfl) rfl ?_
  refine J_iload_n E dX11_join_14 rfl ?_
  refine J_bipush (v := -2) E dX11_join_15 rfl ?_
  refine J_icmp_ne (tgt := 25) E dX11_join_17 (by decide) (fun c => ?_) (fun c => ?_)
  · exact kt c
  · refine J.weak [] rfl ?_
    exact kf c
theorem bX11_join_20 {Z : ZT} {X : XT} {μ : Mu} (E : Ent Z X mX11_join 0 0)  
    (k : JS Z X 26 [] [.int (-10)] μ) :
    JS Z X 20 [] [] μ := by
  refine J_bipush (v := -10) E dX11_join_20 rfl ?_
  refine J_goto (tgt := 26) E dX11_join_22 (by decide) ?_
  exact k
theorem bX11_join_25 {Z : ZT} {X : XT} {μ : Mu} {a3 : Int32} (E : Ent Z X mX11_join 0 0)  
    (k : JS Z X 26 [] [.int a3] μ) :
    JS Z X 25 [(3, .int a3)] [] μ := by
  refine J_iload_n E dX11_join_25 rfl ?_
  refine J.weak [] rfl ?_
  exact k
theorem bX11_join_26 {Z : ZT} {X : XT} {μ : Mu} {s0 : Int32} (E : Ent Z X mX11_join 0 0) {P : Option Value → Mu → Prop} (hB : BodS Z X P) 
    (k : P (some (.int s0)) μ) :
    JS Z X 26 [] [.int s0] μ := by
  exact S_iret E hB dX11_join_26 rfl k
theorem dX11_slip_0 : decode cX11_slip 0 = .ok (.aload_n 0, 1) := by decide +kernel
theorem dX11_slip_1 : decode cX11_slip 1 = .ok (.aload_n 0, 1) := by decide +kernel
theorem dX11_slip_2 : decode cX11_slip 2 = .ok (.getfield 10, 3) := by decide +kernel
theorem dX11_slip_5 : decode cX11_slip 5 = .ok (.iload_n 1, 1) := by decide +kernel
theorem dX11_slip_6 : decode cX11_slip 6 = .ok (.iload_n 2, 1) := by decide +kernel
theorem dX11_slip_7 : decode cX11_slip 7 = .ok (.invokevirtual 147, 3) := by decide +kernel
theorem dX11_slip_10 : decode cX11_slip 10 = .ok (.invokevirtual 125, 3) := by decide +kernel
theorem dX11_slip_13 : decode cX11_slip 13 = .ok (.ireturn, 1) := by decide +kernel
theorem bX11_slip_0 {Z : ZT} {X : XT} {μ : Mu} {a1 : Int32} {a2 : Int32} (E : Ent Z X mX11_slip 0 0) {p : Int32 → Mu → Prop} 
    (c : CtrS Z mX3_addSlip [.ref (Z.2.2.1 + 1), .int a1, .int a2] μ (rI p)) (k : ∀ v μ1, p v μ1 → JS Z X 10 [] [.int v, .ref (Z.2.2.1 + 0)] μ1) :
    JS Z X 0 [(0, .ref (Z.2.2.1 + 0)), (1, .int a1), (2, .int a2)] [] μ := by
  refine J_aload_n E dX11_slip_0 rfl ?_
  refine J_aload_n E dX11_slip_1 rfl ?_
  refine S_get (ci := 11) (q := 0) (v := .ref (Z.2.2.1 + 1)) E dX11_slip_2 fs_X11_10 sh0 rfl ?_
  refine J_iload_n E dX11_slip_5 rfl ?_
  refine J_iload_n E dX11_slip_6 rfl ?_
  refine S_callV (As := [.int a1, .int a2]) (rest := [.ref (Z.2.2.1 + 0)]) E dX11_slip_7 c kX3_addSlip ⟨Nat.le_of_ble_eq_true rfl, Nat.le_of_ble_eq_true rfl⟩ rfl (Nat.le_of_ble_eq_true rfl) sh1 rfl rfl w3_87 w3_88 w3_89 (fun r_ μ1 hp_ => ?_)
  obtain ⟨v, rfl, hp_⟩ := hp_
  refine J.weak [] rfl ?_
  exact k v μ1 hp_
theorem bX11_slip_10 {Z : ZT} {X : XT} {μ : Mu} {s1 : Int32} (E : Ent Z X mX11_slip 0 0) {p : Int32 → Mu → Prop} 
    (c : CtrS Z mX11_counted [.ref (Z.2.2.1 + 0), .int s1] μ (rI p)) (k : ∀ v μ1, p v μ1 → JS Z X 13 [] [.int v] μ1) :
    JS Z X 10 [] [.int s1, .ref (Z.2.2.1 + 0)] μ := by
  refine S_callV (As := [.int s1]) (rest := []) E dX11_slip_10 c kX11_counted ⟨Nat.le_of_ble_eq_true rfl, Nat.le_of_ble_eq_true rfl⟩ rfl (Nat.le_of_ble_eq_true rfl) sh0 rfl rfl w3_25 w3_27 wp_1 (fun r_ μ1 hp_ => ?_)
  obtain ⟨v, rfl, hp_⟩ := hp_
  exact k v μ1 hp_
theorem bX11_slip_13 {Z : ZT} {X : XT} {μ : Mu} {s0 : Int32} (E : Ent Z X mX11_slip 0 0) {P : Option Value → Mu → Prop} (hB : BodS Z X P) 
    (k : P (some (.int s0)) μ) :
    JS Z X 13 [] [.int s0] μ := by
  exact S_iret E hB dX11_slip_13 rfl k
theorem dX11_spare_0 : decode cX11_spare 0 = .ok (.aload_n 0, 1) := by decide +kernel
theorem dX11_spare_1 : decode cX11_spare 1 = .ok (.aload_n 0, 1) := by decide +kernel
theorem dX11_spare_2 : decode cX11_spare 2 = .ok (.getfield 10, 3) := by decide +kernel
theorem dX11_spare_5 : decode cX11_spare 5 = .ok (.iload_n 1, 1) := by decide +kernel
theorem dX11_spare_6 : decode cX11_spare 6 = .ok (.invokevirtual 150, 3) := by decide +kernel
theorem dX11_spare_9 : decode cX11_spare 9 = .ok (.invokevirtual 125, 3) := by decide +kernel
theorem dX11_spare_12 : decode cX11_spare 12 = .ok (.ireturn, 1) := by decide +kernel
theorem bX11_spare_0 {Z : ZT} {X : XT} {μ : Mu} {a1 : Int32} (E : Ent Z X mX11_spare 0 0) {p : Int32 → Mu → Prop} 
    (c : CtrS Z mX3_setSpare [.ref (Z.2.2.1 + 1), .int a1] μ (rI p)) (k : ∀ v μ1, p v μ1 → JS Z X 9 [] [.int v, .ref (Z.2.2.1 + 0)] μ1) :
    JS Z X 0 [(0, .ref (Z.2.2.1 + 0)), (1, .int a1)] [] μ := by
  refine J_aload_n E dX11_spare_0 rfl ?_
  refine J_aload_n E dX11_spare_1 rfl ?_
  refine S_get (ci := 11) (q := 0) (v := .ref (Z.2.2.1 + 1)) E dX11_spare_2 fs_X11_10 sh0 rfl ?_
  refine J_iload_n E dX11_spare_5 rfl ?_
  refine S_callV (As := [.int a1]) (rest := [.ref (Z.2.2.1 + 0)]) E dX11_spare_6 c kX3_setSpare ⟨Nat.le_of_ble_eq_true rfl, Nat.le_of_ble_eq_true rfl⟩ rfl (Nat.le_of_ble_eq_true rfl) sh1 rfl rfl w3_95 w3_96 w3_97 (fun r_ μ1 hp_ => ?_)
  obtain ⟨v, rfl, hp_⟩ := hp_
  refine J.weak [] rfl ?_
  exact k v μ1 hp_
theorem bX11_spare_9 {Z : ZT} {X : XT} {μ : Mu} {s1 : Int32} (E : Ent Z X mX11_spare 0 0) {p : Int32 → Mu → Prop} 
    (c : CtrS Z mX11_counted [.ref (Z.2.2.1 + 0), .int s1] μ (rI p)) (k : ∀ v μ1, p v μ1 → JS Z X 12 [] [.int v] μ1) :
    JS Z X 9 [] [.int s1, .ref (Z.2.2.1 + 0)] μ := by
  refine S_callV (As := [.int s1]) (rest := []) E dX11_spare_9 c kX11_counted ⟨Nat.le_of_ble_eq_true rfl, Nat.le_of_ble_eq_true rfl⟩ rfl (Nat.le_of_ble_eq_true rfl) sh0 rfl rfl w3_25 w3_27 wp_1 (fun r_ μ1 hp_ => ?_)
  obtain ⟨v, rfl, hp_⟩ := hp_
  exact k v μ1 hp_
theorem bX11_spare_12 {Z : ZT} {X : XT} {μ : Mu} {s0 : Int32} (E : Ent Z X mX11_spare 0 0) {P : Option Value → Mu → Prop} (hB : BodS Z X P) 
    (k : P (some (.int s0)) μ) :
    JS Z X 12 [] [.int s0] μ := by
  exact S_iret E hB dX11_spare_12 rfl k
theorem dX11_means_0 : decode cX11_means 0 = .ok (.aload_n 0, 1) := by decide +kernel
theorem dX11_means_1 : decode cX11_means 1 = .ok (.aload_n 0, 1) := by decide +kernel
theorem dX11_means_2 : decode cX11_means 2 = .ok (.getfield 10, 3) := by decide +kernel
theorem dX11_means_5 : decode cX11_means 5 = .ok (.iload_n 1, 1) := by decide +kernel
theorem dX11_means_6 : decode cX11_means 6 = .ok (.iload_n 2, 1) := by decide +kernel
theorem dX11_means_7 : decode cX11_means 7 = .ok (.invokevirtual 153, 3) := by decide +kernel
theorem dX11_means_10 : decode cX11_means 10 = .ok (.invokevirtual 125, 3) := by decide +kernel
theorem dX11_means_13 : decode cX11_means 13 = .ok (.ireturn, 1) := by decide +kernel
theorem bX11_means_0 {Z : ZT} {X : XT} {μ : Mu} {a1 : Int32} {a2 : Int32} (E : Ent Z X mX11_means 0 0) {p : Int32 → Mu → Prop} 
    (c : CtrS Z mX3_addMistaken [.ref (Z.2.2.1 + 1), .int a1, .int a2] μ (rI p)) (k : ∀ v μ1, p v μ1 → JS Z X 10 [] [.int v, .ref (Z.2.2.1 + 0)] μ1) :
    JS Z X 0 [(0, .ref (Z.2.2.1 + 0)), (1, .int a1), (2, .int a2)] [] μ := by
  refine J_aload_n E dX11_means_0 rfl ?_
  refine J_aload_n E dX11_means_1 rfl ?_
  refine S_get (ci := 11) (q := 0) (v := .ref (Z.2.2.1 + 1)) E dX11_means_2 fs_X11_10 sh0 rfl ?_
  refine J_iload_n E dX11_means_5 rfl ?_
  refine J_iload_n E dX11_means_6 rfl ?_
  refine S_callV (As := [.int a1, .int a2]) (rest := [.ref (Z.2.2.1 + 0)]) E dX11_means_7 c kX3_addMistaken ⟨Nat.le_of_ble_eq_true rfl, Nat.le_of_ble_eq_true rfl⟩ rfl (Nat.le_of_ble_eq_true rfl) sh1 rfl rfl w3_103 w3_104 w3_105 (fun r_ μ1 hp_ => ?_)
  obtain ⟨v, rfl, hp_⟩ := hp_
  refine J.weak [] rfl ?_
  exact k v μ1 hp_
theorem bX11_means_10 {Z : ZT} {X : XT} {μ : Mu} {s1 : Int32} (E : Ent Z X mX11_means 0 0) {p : Int32 → Mu → Prop} 
    (c : CtrS Z mX11_counted [.ref (Z.2.2.1 + 0), .int s1] μ (rI p)) (k : ∀ v μ1, p v μ1 → JS Z X 13 [] [.int v] μ1) :
    JS Z X 10 [] [.int s1, .ref (Z.2.2.1 + 0)] μ := by
  refine S_callV (As := [.int s1]) (rest := []) E dX11_means_10 c kX11_counted ⟨Nat.le_of_ble_eq_true rfl, Nat.le_of_ble_eq_true rfl⟩ rfl (Nat.le_of_ble_eq_true rfl) sh0 rfl rfl w3_25 w3_27 wp_1 (fun r_ μ1 hp_ => ?_)
  obtain ⟨v, rfl, hp_⟩ := hp_
  exact k v μ1 hp_
theorem bX11_means_13 {Z : ZT} {X : XT} {μ : Mu} {s0 : Int32} (E : Ent Z X mX11_means 0 0) {P : Option Value → Mu → Prop} (hB : BodS Z X P) 
    (k : P (some (.int s0)) μ) :
    JS Z X 13 [] [.int s0] μ := by
  exact S_iret E hB dX11_means_13 rfl k
theorem dX11_row_0 : decode cX11_row 0 = .ok (.aload_n 0, 1) := by decide +kernel
theorem dX11_row_1 : decode cX11_row 1 = .ok (.aload_n 0, 1) := by decide +kernel
theorem dX11_row_2 : decode cX11_row 2 = .ok (.getfield 10, 3) := by decide +kernel
theorem dX11_row_5 : decode cX11_row 5 = .ok (.iload_n 1, 1) := by decide +kernel
theorem dX11_row_6 : decode cX11_row 6 = .ok (.iload_n 2, 1) := by decide +kernel
theorem dX11_row_7 : decode cX11_row 7 = .ok (.invokevirtual 156, 3) := by decide +kernel
theorem dX11_row_10 : decode cX11_row 10 = .ok (.invokevirtual 125, 3) := by decide +kernel
theorem dX11_row_13 : decode cX11_row 13 = .ok (.ireturn, 1) := by decide +kernel
theorem bX11_row_0 {Z : ZT} {X : XT} {μ : Mu} {a1 : Int32} {a2 : Int32} (E : Ent Z X mX11_row 0 0) {p : Int32 → Mu → Prop} 
    (c : CtrS Z mX3_addToRow [.ref (Z.2.2.1 + 1), .int a1, .int a2] μ (rI p)) (k : ∀ v μ1, p v μ1 → JS Z X 10 [] [.int v, .ref (Z.2.2.1 + 0)] μ1) :
    JS Z X 0 [(0, .ref (Z.2.2.1 + 0)), (1, .int a1), (2, .int a2)] [] μ := by
  refine J_aload_n E dX11_row_0 rfl ?_
  refine J_aload_n E dX11_row_1 rfl ?_
  refine S_get (ci := 11) (q := 0) (v := .ref (Z.2.2.1 + 1)) E dX11_row_2 fs_X11_10 sh0 rfl ?_
  refine J_iload_n E dX11_row_5 rfl ?_
  refine J_iload_n E dX11_row_6 rfl ?_
  refine S_callV (As := [.int a1, .int a2]) (rest := [.ref (Z.2.2.1 + 0)]) E dX11_row_7 c kX3_addToRow ⟨Nat.le_of_ble_eq_true rfl, Nat.le_of_ble_eq_true rfl⟩ rfl (Nat.le_of_ble_eq_true rfl) sh1 rfl rfl w3_111 w3_112 w3_113 (fun r_ μ1 hp_ => ?_)
  obtain ⟨v, rfl, hp_⟩ := hp_
  refine J.weak [] rfl ?_
  exact k v μ1 hp_
theorem bX11_row_10 {Z : ZT} {X : XT} {μ : Mu} {s1 : Int32} (E : Ent Z X mX11_row 0 0) {p : Int32 → Mu → Prop} 
    (c : CtrS Z mX11_counted [.ref (Z.2.2.1 + 0), .int s1] μ (rI p)) (k : ∀ v μ1, p v μ1 → JS Z X 13 [] [.int v] μ1) :
    JS Z X 10 [] [.int s1, .ref (Z.2.2.1 + 0)] μ := by
  refine S_callV (As := [.int s1]) (rest := []) E dX11_row_10 c kX11_counted ⟨Nat.le_of_ble_eq_true rfl, Nat.le_of_ble_eq_true rfl⟩ rfl (Nat.le_of_ble_eq_true rfl) sh0 rfl rfl w3_25 w3_27 wp_1 (fun r_ μ1 hp_ => ?_)
  obtain ⟨v, rfl, hp_⟩ := hp_
  exact k v μ1 hp_
theorem bX11_row_13 {Z : ZT} {X : XT} {μ : Mu} {s0 : Int32} (E : Ent Z X mX11_row 0 0) {P : Option Value → Mu → Prop} (hB : BodS Z X P) 
    (k : P (some (.int s0)) μ) :
    JS Z X 13 [] [.int s0] μ := by
  exact S_iret E hB dX11_row_13 rfl k
theorem dX11_unrow_0 : decode cX11_unrow 0 = .ok (.aload_n 0, 1) := by decide +kernel
theorem dX11_unrow_1 : decode cX11_unrow 1 = .ok (.aload_n 0, 1) := by decide +kernel
theorem dX11_unrow_2 : decode cX11_unrow 2 = .ok (.getfield 10, 3) := by decide +kernel
theorem dX11_unrow_5 : decode cX11_unrow 5 = .ok (.iload_n 1, 1) := by decide +kernel
theorem dX11_unrow_6 : decode cX11_unrow 6 = .ok (.invokevirtual 159, 3) := by decide +kernel
theorem dX11_unrow_9 : decode cX11_unrow 9 = .ok (.invokevirtual 125, 3) := by decide +kernel
theorem dX11_unrow_12 : decode cX11_unrow 12 = .ok (.ireturn, 1) := by decide +kernel
theorem bX11_unrow_0 {Z : ZT} {X : XT} {μ : Mu} {a1 : Int32} (E : Ent Z X mX11_unrow 0 0) {p : Int32 → Mu → Prop} 
    (c : CtrS Z mX3_emptyRow [.ref (Z.2.2.1 + 1), .int a1] μ (rI p)) (k : ∀ v μ1, p v μ1 → JS Z X 9 [] [.int v, .ref (Z.2.2.1 + 0)] μ1) :
    JS Z X 0 [(0, .ref (Z.2.2.1 + 0)), (1, .int a1)] [] μ := by
  refine J_aload_n E dX11_unrow_0 rfl ?_
  refine J_aload_n E dX11_unrow_1 rfl ?_
  refine S_get (ci := 11) (q := 0) (v := .ref (Z.2.2.1 + 1)) E dX11_unrow_2 fs_X11_10 sh0 rfl ?_
  refine J_iload_n E dX11_unrow_5 rfl ?_
  refine S_callV (As := [.int a1]) (rest := [.ref (Z.2.2.1 + 0)]) E dX11_unrow_6 c kX3_emptyRow ⟨Nat.le_of_ble_eq_true rfl, Nat.le_of_ble_eq_true rfl⟩ rfl (Nat.le_of_ble_eq_true rfl) sh1 rfl rfl w3_119 w3_120 w3_121 (fun r_ μ1 hp_ => ?_)
  obtain ⟨v, rfl, hp_⟩ := hp_
  refine J.weak [] rfl ?_
  exact k v μ1 hp_
theorem bX11_unrow_9 {Z : ZT} {X : XT} {μ : Mu} {s1 : Int32} (E : Ent Z X mX11_unrow 0 0) {p : Int32 → Mu → Prop} 
    (c : CtrS Z mX11_counted [.ref (Z.2.2.1 + 0), .int s1] μ (rI p)) (k : ∀ v μ1, p v μ1 → JS Z X 12 [] [.int v] μ1) :
    JS Z X 9 [] [.int s1, .ref (Z.2.2.1 + 0)] μ := by
  refine S_callV (As := [.int s1]) (rest := []) E dX11_unrow_9 c kX11_counted ⟨Nat.le_of_ble_eq_true rfl, Nat.le_of_ble_eq_true rfl⟩ rfl (Nat.le_of_ble_eq_true rfl) sh0 rfl rfl w3_25 w3_27 wp_1 (fun r_ μ1 hp_ => ?_)
  obtain ⟨v, rfl, hp_⟩ := hp_
  exact k v μ1 hp_
theorem bX11_unrow_12 {Z : ZT} {X : XT} {μ : Mu} {s0 : Int32} (E : Ent Z X mX11_unrow 0 0) {P : Option Value → Mu → Prop} (hB : BodS Z X P) 
    (k : P (some (.int s0)) μ) :
    JS Z X 12 [] [.int s0] μ := by
  exact S_iret E hB dX11_unrow_12 rfl k
theorem dX11_put_0 : decode cX11_put 0 = .ok (.aload_n 0, 1) := by decide +kernel
theorem dX11_put_1 : decode cX11_put 1 = .ok (.aload_n 0, 1) := by decide +kernel
theorem dX11_put_2 : decode cX11_put 2 = .ok (.getfield 22, 3) := by decide +kernel
theorem dX11_put_5 : decode cX11_put 5 = .ok (.iload_n 1, 1) := by decide +kernel
theorem dX11_put_6 : decode cX11_put 6 = .ok (.iload_n 2, 1) := by decide +kernel
theorem dX11_put_7 : decode cX11_put 7 = .ok (.invokevirtual 162, 3) := by decide +kernel
theorem dX11_put_10 : decode cX11_put 10 = .ok (.invokevirtual 125, 3) := by decide +kernel
theorem dX11_put_13 : decode cX11_put 13 = .ok (.ireturn, 1) := by decide +kernel
theorem bX11_put_0 {Z : ZT} {X : XT} {μ : Mu} {a1 : Int32} {a2 : Int32} (E : Ent Z X mX11_put 0 0) {p : Int32 → Mu → Prop} 
    (c : CtrS Z mX6_setNumber [.ref (Z.2.2.1 + 27), .int a1, .int a2] μ (rI p)) (k : ∀ v μ1, p v μ1 → JS Z X 10 [] [.int v, .ref (Z.2.2.1 + 0)] μ1) :
    JS Z X 0 [(0, .ref (Z.2.2.1 + 0)), (1, .int a1), (2, .int a2)] [] μ := by
  refine J_aload_n E dX11_put_0 rfl ?_
  refine J_aload_n E dX11_put_1 rfl ?_
  refine S_get (ci := 11) (q := 2) (v := .ref (Z.2.2.1 + 27)) E dX11_put_2 fs_X11_22 sh0 rfl ?_
  refine J_iload_n E dX11_put_5 rfl ?_
  refine J_iload_n E dX11_put_6 rfl ?_
  refine S_callV (As := [.int a1, .int a2]) (rest := [.ref (Z.2.2.1 + 0)]) E dX11_put_7 c kX6_setNumber ⟨Nat.le_of_ble_eq_true rfl, Nat.le_of_ble_eq_true rfl⟩ rfl (Nat.le_of_ble_eq_true rfl) sh27 rfl rfl w3_127 w3_128 w3_129 (fun r_ μ1 hp_ => ?_)
  obtain ⟨v, rfl, hp_⟩ := hp_
  refine J.weak [] rfl ?_
  exact k v μ1 hp_
theorem bX11_put_10 {Z : ZT} {X : XT} {μ : Mu} {s1 : Int32} (E : Ent Z X mX11_put 0 0) {p : Int32 → Mu → Prop} 
    (c : CtrS Z mX11_counted [.ref (Z.2.2.1 + 0), .int s1] μ (rI p)) (k : ∀ v μ1, p v μ1 → JS Z X 13 [] [.int v] μ1) :
    JS Z X 10 [] [.int s1, .ref (Z.2.2.1 + 0)] μ := by
  refine S_callV (As := [.int s1]) (rest := []) E dX11_put_10 c kX11_counted ⟨Nat.le_of_ble_eq_true rfl, Nat.le_of_ble_eq_true rfl⟩ rfl (Nat.le_of_ble_eq_true rfl) sh0 rfl rfl w3_25 w3_27 wp_1 (fun r_ μ1 hp_ => ?_)
  obtain ⟨v, rfl, hp_⟩ := hp_
  exact k v μ1 hp_
theorem bX11_put_13 {Z : ZT} {X : XT} {μ : Mu} {s0 : Int32} (E : Ent Z X mX11_put 0 0) {P : Option Value → Mu → Prop} (hB : BodS Z X P) 
    (k : P (some (.int s0)) μ) :
    JS Z X 13 [] [.int s0] μ := by
  exact S_iret E hB dX11_put_13 rfl k
theorem dX11_type_0 : decode cX11_type 0 = .ok (.aload_n 0, 1) := by decide +kernel
theorem dX11_type_1 : decode cX11_type 1 = .ok (.aload_n 0, 1) := by decide +kernel
theorem dX11_type_2 : decode cX11_type 2 = .ok (.getfield 29, 3) := by decide +kernel
theorem dX11_type_5 : decode cX11_type 5 = .ok (.lload_n 1, 1) := by decide +kernel
theorem dX11_type_6 : decode cX11_type 6 = .ok (.iload_n 3, 1) := by decide +kernel
theorem dX11_type_7 : decode cX11_type 7 = .ok (.invokevirtual 165, 3) := by decide +kernel
theorem dX11_type_10 : decode cX11_type 10 = .ok (.invokevirtual 125, 3) := by decide +kernel
theorem dX11_type_13 : decode cX11_type 13 = .ok (.ireturn, 1) := by decide +kernel
theorem bX11_type_0 {Z : ZT} {X : XT} {μ : Mu} {a1 : Int64} {a3 : Int32} (E : Ent Z X mX11_type 0 0) {p : Int32 → Mu → Prop} 
    (c : CtrS Z mX9_addBytes [.ref (Z.2.2.1 + 31), .long a1, .int a3] μ (rI p)) (k : ∀ v μ1, p v μ1 → JS Z X 10 [] [.int v, .ref (Z.2.2.1 + 0)] μ1) :
    JS Z X 0 [(0, .ref (Z.2.2.1 + 0)), (1, .long a1), (3, .int a3)] [] μ := by
  refine J_aload_n E dX11_type_0 rfl ?_
  refine J_aload_n E dX11_type_1 rfl ?_
  refine S_get (ci := 11) (q := 3) (v := .ref (Z.2.2.1 + 31)) E dX11_type_2 fs_X11_29 sh0 rfl ?_
  refine J_lload_n E dX11_type_5 rfl ?_
  refine J_iload_n E dX11_type_6 rfl ?_
  refine S_callV (As := [.long a1, .int a3]) (rest := [.ref (Z.2.2.1 + 0)]) E dX11_type_7 c kX9_addBytes ⟨Nat.le_of_ble_eq_true rfl, Nat.le_of_ble_eq_true rfl⟩ rfl (Nat.le_of_ble_eq_true rfl) sh31 rfl rfl w3_140 w3_141 w3_142 (fun r_ μ1 hp_ => ?_)
  obtain ⟨v, rfl, hp_⟩ := hp_
  refine J.weak [] rfl ?_
  exact k v μ1 hp_
theorem bX11_type_10 {Z : ZT} {X : XT} {μ : Mu} {s1 : Int32} (E : Ent Z X mX11_type 0 0) {p : Int32 → Mu → Prop} 
    (c : CtrS Z mX11_counted [.ref (Z.2.2.1 + 0), .int s1] μ (rI p)) (k : ∀ v μ1, p v μ1 → JS Z X 13 [] [.int v] μ1) :
    JS Z X 10 [] [.int s1, .ref (Z.2.2.1 + 0)] μ := by
  refine S_callV (As := [.int s1]) (rest := []) E dX11_type_10 c kX11_counted ⟨Nat.le_of_ble_eq_true rfl, Nat.le_of_ble_eq_true rfl⟩ rfl (Nat.le_of_ble_eq_true rfl) sh0 rfl rfl w3_25 w3_27 wp_1 (fun r_ μ1 hp_ => ?_)
  obtain ⟨v, rfl, hp_⟩ := hp_
  exact k v μ1 hp_
theorem bX11_type_13 {Z : ZT} {X : XT} {μ : Mu} {s0 : Int32} (E : Ent Z X mX11_type 0 0) {P : Option Value → Mu → Prop} (hB : BodS Z X P) 
    (k : P (some (.int s0)) μ) :
    JS Z X 13 [] [.int s0] μ := by
  exact S_iret E hB dX11_type_13 rfl k
theorem dX11_clear_0 : decode cX11_clear 0 = .ok (.aload_n 0, 1) := by decide +kernel
theorem dX11_clear_1 : decode cX11_clear 1 = .ok (.getfield 29, 3) := by decide +kernel
theorem dX11_clear_4 : decode cX11_clear 4 = .ok (.invokevirtual 169, 3) := by decide +kernel
theorem dX11_clear_7 : decode cX11_clear 7 = .ok (.ireturn, 1) := by decide +kernel
theorem bX11_clear_0 {Z : ZT} {X : XT} {μ : Mu} (E : Ent Z X mX11_clear 0 0) {p : Int32 → Mu → Prop} 
    (c : CtrS Z mX9_empty [.ref (Z.2.2.1 + 31)] μ (rI p)) (k : ∀ v μ1, p v μ1 → JS Z X 7 [] [.int v] μ1) :
    JS Z X 0 [(0, .ref (Z.2.2.1 + 0))] [] μ := by
  refine J_aload_n E dX11_clear_0 rfl ?_
  refine S_get (ci := 11) (q := 3) (v := .ref (Z.2.2.1 + 31)) E dX11_clear_1 fs_X11_29 sh0 rfl ?_
  refine S_callV (As := []) (rest := []) E dX11_clear_4 c kX9_empty ⟨Nat.le_of_ble_eq_true rfl, Nat.le_of_ble_eq_true rfl⟩ rfl (Nat.le_of_ble_eq_true rfl) sh31 rfl rfl w3_149 w3_150 w3_151 (fun r_ μ1 hp_ => ?_)
  obtain ⟨v, rfl, hp_⟩ := hp_
  refine J.weak [] rfl ?_
  exact k v μ1 hp_
theorem bX11_clear_7 {Z : ZT} {X : XT} {μ : Mu} {s0 : Int32} (E : Ent Z X mX11_clear 0 0) {P : Option Value → Mu → Prop} (hB : BodS Z X P) 
    (k : P (some (.int s0)) μ) :
    JS Z X 7 [] [.int s0] μ := by
  exact S_iret E hB dX11_clear_7 rfl k
theorem dX11_house_0 : decode cX11_house 0 = .ok (.aload_n 0, 1) := by decide +kernel
theorem dX11_house_1 : decode cX11_house 1 = .ok (.getfield 29, 3) := by decide +kernel
theorem dX11_house_4 : decode cX11_house 4 = .ok (.invokevirtual 172, 3) := by decide +kernel
theorem dX11_house_7 : decode cX11_house 7 = .ok (.istore_n 1, 1) := by decide +kernel
theorem dX11_house_8 : decode cX11_house 8 = .ok (.iload_n 1, 1) := by decide +kernel
theorem dX11_house_9 : decode cX11_house 9 = .ok (.iconst (-1), 1) := by decide +kernel
theorem dX11_house_10 : decode cX11_house 10 = .ok (.if_icmp .eq 8, 3) := by decide +kernel
theorem dX11_house_13 : decode cX11_house 13 = .ok (.bipush (-10), 2) := by decide +kernel
theorem dX11_house_15 : decode cX11_house 15 = .ok (.iload_n 1, 1) := by decide +kernel
theorem dX11_house_16 : decode cX11_house 16 = .ok (.isub, 1) := by decide +kernel
theorem dX11_house_17 : decode cX11_house 17 = .ok (.ireturn, 1) := by decide +kernel
theorem dX11_house_18 : decode cX11_house 18 = .ok (.aload_n 0, 1) := by decide +kernel
theorem dX11_house_19 : decode cX11_house 19 = .ok (.getfield 16, 3) := by decide +kernel
theorem dX11_house_22 : decode cX11_house 22 = .ok (.invokevirtual 175, 3) := by decide +kernel
theorem dX11_house_25 : decode cX11_house 25 = .ok (.iconst 0, 1) := by decide +kernel
theorem dX11_house_26 : decode cX11_house 26 = .ok (.istore_n 2, 1) := by decide +kernel
theorem dX11_house_27 : decode cX11_house 27 = .ok (.iload_n 2, 1) := by decide +kernel
theorem dX11_house_28 : decode cX11_house 28 = .ok (.aload_n 0, 1) := by decide +kernel
theorem dX11_house_29 : decode cX11_house 29 = .ok (.getfield 29, 3) := by decide +kernel
theorem dX11_house_32 : decode cX11_house 32 = .ok (.getfield 177, 3) := by decide +kernel
theorem dX11_house_35 : decode cX11_house 35 = .ok (.if_icmp .ge 32, 3) := by decide +kernel
theorem dX11_house_38 : decode cX11_house 38 = .ok (.aload_n 0, 1) := by decide +kernel
theorem dX11_house_39 : decode cX11_house 39 = .ok (.getfield 29, 3) := by decide +kernel
theorem dX11_house_42 : decode cX11_house 42 = .ok (.aload_n 0, 1) := by decide +kernel
theorem dX11_house_43 : decode cX11_house 43 = .ok (.getfield 16, 3) := by decide +kernel
theorem dX11_house_46 : decode cX11_house 46 = .ok (.iload_n 2, 1) := by decide +kernel
theorem dX11_house_47 : decode cX11_house 47 = .ok (.invokevirtual 181, 3) := by decide +kernel
theorem dX11_house_50 : decode cX11_house 50 = .ok (.bipush (-2), 2) := by decide +kernel
theorem dX11_house_52 : decode cX11_house 52 = .ok (.if_icmp .gt 9, 3) := by decide +kernel
theorem dX11_house_55 : decode cX11_house 55 = .ok (.sipush (-1000), 3) := by decide +kernel
theorem dX11_house_58 : decode cX11_house 58 = .ok (.iload_n 2, 1) := by decide +kernel
theorem dX11_house_59 : decode cX11_house 59 = .ok (.isub, 1) := by decide +kernel
theorem dX11_house_60 : decode cX11_house 60 = .ok (.ireturn, 1) := by decide +kernel
theorem dX11_house_61 : decode cX11_house 61 = .ok (.iinc 2 1, 3) := by decide +kernel
theorem dX11_house_64 : decode cX11_house 64 = .ok (.goto (-37), 3) := by decide +kernel
theorem dX11_house_67 : decode cX11_house 67 = .ok (.aload_n 0, 1) := by decide +kernel
theorem dX11_house_68 : decode cX11_house 68 = .ok (.getfield 10, 3) := by decide +kernel
theorem dX11_house_71 : decode cX11_house 71 = .ok (.aload_n 0, 1) := by decide +kernel
theorem dX11_house_72 : decode cX11_house 72 = .ok (.getfield 16, 3) := by decide +kernel
theorem dX11_house_75 : decode cX11_house 75 = .ok (.invokevirtual 185, 3) := by decide +kernel
theorem dX11_house_78 : decode cX11_house 78 = .ok (.aload_n 0, 1) := by decide +kernel
theorem dX11_house_79 : decode cX11_house 79 = .ok (.getfield 29, 3) := by decide +kernel
theorem dX11_house_82 : decode cX11_house 82 = .ok (.getfield 177, 3) := by decide +kernel
theorem dX11_house_85 : decode cX11_house 85 = .ok (.ireturn, 1) := by decide +kernel
theorem bX11_house_0 {Z : ZT} {X : XT} {μ : Mu} (E : Ent Z X mX11_house 0 0) {p : Int32 → Mu → Prop} 
    (c : CtrS Z mX9_findFault [.ref (Z.2.2.1 + 31)] μ (rI p)) (k : ∀ v μ1, p v μ1 → JS Z X 7 [(0, .ref (Z.2.2.1 + 0))] [.int v] μ1) :
    JS Z X 0 [(0, .ref (Z.2.2.1 + 0))] [] μ := by
  refine J_aload_n E dX11_house_0 rfl ?_
  refine S_get (ci := 11) (q := 3) (v := .ref (Z.2.2.1 + 31)) E dX11_house_1 fs_X11_29 sh0 rfl ?_
  refine S_callV (As := []) (rest := []) E dX11_house_4 c kX9_findFault ⟨Nat.le_of_ble_eq_true rfl, Nat.le_of_ble_eq_true rfl⟩ rfl (Nat.le_of_ble_eq_true rfl) sh31 rfl rfl w3_157 w3_158 w3_159 (fun r_ μ1 hp_ => ?_)
  obtain ⟨v, rfl, hp_⟩ := hp_
  exact k v μ1 hp_
theorem bX11_house_7 {Z : ZT} {X : XT} {μ : Mu} {s0 : Int32} (E : Ent Z X mX11_house 0 0)  
    (kt : s0 = (-1) → JS Z X 18 [(0, .ref (Z.2.2.1 + 0))] [] μ) (kf : ¬ (s0 = (-1)) → JS Z X 13 [(1, .int s0)] [] μ) :
    JS Z X 7 [(0, .ref (Z.2.2.1 + 0))] [.int s0] μ := by
  refine J_istore_n (lv' := [(0, .ref (Z.2.2.1 + 0)), (1, .int s0)]) E dX11_house_7 (Nat.le_of_ble_eq_true rfl) rfl ?_
  refine J_iload_n E dX11_house_8 rfl ?_
  refine J_iconst (v := -1) E dX11_house_9 rfl ?_
  refine J_icmp_eq (tgt := 18) E dX11_house_10 (by decide) (fun c => ?_) (fun c => ?_)
  · refine J.weak [0] rfl ?_
    exact kt c
  · refine J.weak [1] rfl ?_
    exact kf c
theorem bX11_house_13 {Z : ZT} {X : XT} {μ : Mu} {a1 : Int32} (E : Ent Z X mX11_house 0 0) {P : Option Value → Mu → Prop} (hB : BodS Z X P) 
    (k : P (some (.int ((-10) - a1))) μ) :
    JS Z X 13 [(1, .int a1)] [] μ := by
  refine J_bipush (v := -10) E dX11_house_13 rfl ?_
  refine J_iload_n E dX11_house_15 rfl ?_
  refine J_isub E dX11_house_16 ?_
  exact S_iret E hB dX11_house_17 rfl k
theorem bX11_house_18 {Z : ZT} {X : XT} {μ : Mu} (E : Ent Z X mX11_house 0 0) {p : Mu → Prop} 
    (c : CtrS Z mX3_empty [.ref (Z.2.2.1 + 14)] μ (rV p)) (k : ∀ μ1, p μ1 → JS Z X 25 [(0, .ref (Z.2.2.1 + 0))] [] μ1) :
    JS Z X 18 [(0, .ref (Z.2.2.1 + 0))] [] μ := by
  refine J_aload_n E dX11_house_18 rfl ?_
  refine S_get (ci := 11) (q := 1) (v := .ref (Z.2.2.1 + 14)) E dX11_house_19 fs_X11_16 sh0 rfl ?_
  refine S_callV (As := []) (rest := []) E dX11_house_22 c kX3_empty ⟨Nat.le_of_ble_eq_true rfl, Nat.le_of_ble_eq_true rfl⟩ rfl (Nat.le_of_ble_eq_true rfl) sh14 rfl rfl w4_5 w4_6 w4_7 (fun r_ μ1 hp_ => ?_)
  obtain ⟨rfl, hp_⟩ := hp_
  exact k μ1 hp_
theorem bX11_house_25 {Z : ZT} {X : XT} {μ : Mu} (E : Ent Z X mX11_house 0 0)  
    (k : JS Z X 27 [(0, .ref (Z.2.2.1 + 0)), (2, .int (nI 0))] [] μ) :
    JS Z X 25 [(0, .ref (Z.2.2.1 + 0))] [] μ := by
  refine J_iconst (v := nI 0) E dX11_house_25 rfl ?_
  refine J_istore_n (lv' := [(0, .ref (Z.2.2.1 + 0)), (2, .int (nI 0))]) E dX11_house_26 (Nat.le_of_ble_eq_true rfl) rfl ?_
  exact k
theorem bX11_house_27 {Z : ZT} {X : XT} {μ : Mu} {a2 : Int32} (E : Ent Z X mX11_house 0 0)  
    (kt : (μ 31 2) ≤ a2 → JS Z X 67 [(0, .ref (Z.2.2.1 + 0))] [] μ) (kf : ¬ ((μ 31 2) ≤ a2) → JS Z X 38 [(0, .ref (Z.2.2.1 + 0)), (2, .int a2)] [] μ) :
    JS Z X 27 [(0, .ref (Z.2.2.1 + 0)), (2, .int a2)] [] μ := by
  refine J_iload_n E dX11_house_27 rfl ?_
  refine J_aload_n E dX11_house_28 rfl ?_
  refine S_get (ci := 11) (q := 3) (v := .ref (Z.2.2.1 + 31)) E dX11_house_29 fs_X11_29 sh0 rfl ?_
  refine S_get (ci := 9) (q := 2) (v := .int (μ 31 2)) E dX11_house_32 fs_X11_177 sh31 rfl ?_
  refine J_icmp_ge (tgt := 67) E dX11_house_35 (by decide) (fun c => ?_) (fun c => ?_)
  · refine J.weak [0] rfl ?_
    exact kt c
  · exact kf c
theorem bX11_house_38 {Z : ZT} {X : XT} {μ : Mu} {a2 : Int32} (E : Ent Z X mX11_house 0 0) {p : Int32 → Mu → Prop} 
    (c : CtrS Z mX9_tell [.ref (Z.2.2.1 + 31), .ref (Z.2.2.1 + 14), .int a2] μ (rI p)) (k : ∀ v μ1, p v μ1 → JS Z X 50 [(0, .ref (Z.2.2.1 + 0)), (2, .int a2)] [.int v] μ1) :
    JS Z X 38 [(0, .ref (Z.2.2.1 + 0)), (2, .int a2)] [] μ := by
  refine J_aload_n E dX11_house_38 rfl ?_
  refine S_get (ci := 11) (q := 3) (v := .ref (Z.2.2.1 + 31)) E dX11_house_39 fs_X11_29 sh0 rfl ?_
  refine J_aload_n E dX11_house_42 rfl ?_
  refine S_get (ci := 11) (q := 1) (v := .ref (Z.2.2.1 + 14)) E dX11_house_43 fs_X11_16 sh0 rfl ?_
  refine J_iload_n E dX11_house_46 rfl ?_
  refine S_callV (As := [.ref (Z.2.2.1 + 14), .int a2]) (rest := []) E dX11_house_47 c kX9_tell ⟨Nat.le_of_ble_eq_true rfl, Nat.le_of_ble_eq_true rfl⟩ rfl (Nat.le_of_ble_eq_true rfl) sh31 rfl rfl w4_12 w4_13 w4_14 (fun r_ μ1 hp_ => ?_)
  obtain ⟨v, rfl, hp_⟩ := hp_
  exact k v μ1 hp_
theorem bX11_house_50 {Z : ZT} {X : XT} {μ : Mu} {a2 : Int32} {s0 : Int32} (E : Ent Z X mX11_house 0 0)  
    (kt : (-2) < s0 → JS Z X 61 [(0, .ref (Z.2.2.1 + 0)), (2, .int a2)] [] μ) (kf : ¬ ((-2) < s0) → JS Z X 55 [(2, .int a2)] [] μ) :
    JS Z X 50 [(0, .ref (Z.2.2.1 + 0)), (2, .int a2)] [.int s0] μ := by
  refine J_bipush (v := -2) E dX11_house_50 rfl ?_
  refine J_icmp_gt (tgt := 61) E dX11_house_52 (by decide) (fun c => ?_) (fun c => ?_)
  · exact kt c
  · refine J.weak [1] rfl ?_
    exact kf c
theorem bX11_house_55 {Z : ZT} {X : XT} {μ : Mu} {a2 : Int32} (E : Ent Z X mX11_house 0 0) {P : Option Value → Mu → Prop} (hB : BodS Z X P) 
    (k : P (some (.int ((-1000) - a2))) μ) :
    JS Z X 55 [(2, .int a2)] [] μ := by
  refine J_sipush (v := -1000) E dX11_house_55 rfl ?_
  refine J_iload_n E dX11_house_58 rfl ?_
  refine J_isub E dX11_house_59 ?_
  exact S_iret E hB dX11_house_60 rfl k
theorem bX11_house_61 {Z : ZT} {X : XT} {μ : Mu} {a2 : Int32} (E : Ent Z X mX11_house 0 0)  
    (k : JS Z X 27 [(0, .ref (Z.2.2.1 + 0)), (2, .int (a2 + nI 1))] [] μ) :
    JS Z X 61 [(0, .ref (Z.2.2.1 + 0)), (2, .int a2)] [] μ := by
  refine J_iinc (v := a2 + nI 1) (lv' := [(0, .ref (Z.2.2.1 + 0)), (2, .int (a2 + nI 1))]) E dX11_house_61 rfl rfl (Nat.le_of_ble_eq_true rfl) rfl ?_
  refine J_goto (tgt := 27) E dX11_house_64 (by decide) ?_
  exact k
theorem bX11_house_67 {Z : ZT} {X : XT} {μ : Mu} (E : Ent Z X mX11_house 0 0) {p : Mu → Prop} 
    (c : CtrS Z mX3_copy [.ref (Z.2.2.1 + 1), .ref (Z.2.2.1 + 14)] μ (rV p)) (k : ∀ μ1, p μ1 → JS Z X 78 [(0, .ref (Z.2.2.1 + 0))] [] μ1) :
    JS Z X 67 [(0, .ref (Z.2.2.1 + 0))] [] μ := by
  refine J_aload_n E dX11_house_67 rfl ?_
  refine S_get (ci := 11) (q := 0) (v := .ref (Z.2.2.1 + 1)) E dX11_house_68 fs_X11_10 sh0 rfl ?_
  refine J_aload_n E dX11_house_71 rfl ?_
  refine S_get (ci := 11) (q := 1) (v := .ref (Z.2.2.1 + 14)) E dX11_house_72 fs_X11_16 sh0 rfl ?_
  refine S_callV (As := [.ref (Z.2.2.1 + 14)]) (rest := []) E dX11_house_75 c kX3_copy ⟨Nat.le_of_ble_eq_true rfl, Nat.le_of_ble_eq_true rfl⟩ rfl (Nat.le_of_ble_eq_true rfl) sh1 rfl rfl w4_27 w4_28 w4_29 (fun r_ μ1 hp_ => ?_)
  obtain ⟨rfl, hp_⟩ := hp_
  exact k μ1 hp_
theorem bX11_house_78 {Z : ZT} {X : XT} {μ : Mu} (E : Ent Z X mX11_house 0 0) {P : Option Value → Mu → Prop} (hB : BodS Z X P) 
    (k : P (some (.int (μ 31 2))) μ) :
    JS Z X 78 [(0, .ref (Z.2.2.1 + 0))] [] μ := by
  refine J_aload_n E dX11_house_78 rfl ?_
  refine S_get (ci := 11) (q := 3) (v := .ref (Z.2.2.1 + 31)) E dX11_house_79 fs_X11_29 sh0 rfl ?_
  refine S_get (ci := 9) (q := 2) (v := .int (μ 31 2)) E dX11_house_82 fs_X11_177 sh31 rfl ?_
  exact S_iret E hB dX11_house_85 rfl k
theorem dX11_walk_0 : decode cX11_walk 0 = .ok (.aload_n 0, 1) := by decide +kernel
theorem dX11_walk_1 : decode cX11_walk 1 = .ok (.getfield 10, 3) := by decide +kernel
theorem dX11_walk_4 : decode cX11_walk 4 = .ok (.iload_n 1, 1) := by decide +kernel
theorem dX11_walk_5 : decode cX11_walk 5 = .ok (.invokevirtual 188, 3) := by decide +kernel
theorem dX11_walk_8 : decode cX11_walk 8 = .ok (.ifCond .eq 14, 3) := by decide +kernel
theorem dX11_walk_11 : decode cX11_walk 11 = .ok (.aload_n 0, 1) := by decide +kernel
theorem dX11_walk_12 : decode cX11_walk 12 = .ok (.getfield 10, 3) := by decide +kernel
theorem dX11_walk_15 : decode cX11_walk 15 = .ok (.iload_n 2, 1) := by decide +kernel
theorem dX11_walk_16 : decode cX11_walk 16 = .ok (.invokevirtual 188, 3) := by decide +kernel
theorem dX11_walk_19 : decode cX11_walk 19 = .ok (.ifCond .ne 10, 3) := by decide +kernel
theorem dX11_walk_22 : decode cX11_walk 22 = .ok (.aload_n 0, 1) := by decide +kernel
theorem dX11_walk_23 : decode cX11_walk 23 = .ok (.bipush (-2), 2) := by decide +kernel
theorem dX11_walk_25 : decode cX11_walk 25 = .ok (.invokevirtual 125, 3) := by decide +kernel
theorem dX11_walk_28 : decode cX11_walk 28 = .ok (.ireturn, 1) := by decide +kernel
theorem dX11_walk_29 : decode cX11_walk 29 = .ok (.aload_n 0, 1) := by decide +kernel
theorem dX11_walk_30 : decode cX11_walk 30 = .ok (.getfield 54, 3) := by decide +kernel
theorem dX11_walk_33 : decode cX11_walk 33 = .ok (.invokevirtual 192, 3) := by decide +kernel
theorem dX11_walk_36 : decode cX11_walk 36 = .ok (.aload_n 0, 1) := by decide +kernel
theorem dX11_walk_37 : decode cX11_walk 37 = .ok (.getfield 54, 3) := by decide +kernel
theorem dX11_walk_40 : decode cX11_walk 40 = .ok (.iload_n 1, 1) := by decide +kernel
theorem dX11_walk_41 : decode cX11_walk 41 = .ok (.iload_n 2, 1) := by decide +kernel
theorem dX11_walk_42 : decode cX11_walk 42 = .ok (.invokevirtual 195, 3) := by decide +kernel
theorem dX11_walk_45 : decode cX11_walk 45 = .ok (.ireturn, 1) := by decide +kernel
theorem bX11_walk_0 {Z : ZT} {X : XT} {μ : Mu} {a1 : Int32} {a2 : Int32} (E : Ent Z X mX11_walk 0 0) {p : Int32 → Mu → Prop} 
    (c : CtrS Z mX3_hasPlace [.ref (Z.2.2.1 + 1), .int a1] μ (rI p)) (k : ∀ v μ1, p v μ1 → JS Z X 8 [(0, .ref (Z.2.2.1 + 0)), (1, .int a1), (2, .int a2)] [.int v] μ1) :
    JS Z X 0 [(0, .ref (Z.2.2.1 + 0)), (1, .int a1), (2, .int a2)] [] μ := by
  refine J_aload_n E dX11_walk_0 rfl ?_
  refine S_get (ci := 11) (q := 0) (v := .ref (Z.2.2.1 + 1)) E dX11_walk_1 fs_X11_10 sh0 rfl ?_
  refine J_iload_n E dX11_walk_4 rfl ?_
  refine S_callV (As := [.int a1]) (rest := []) E dX11_walk_5 c kX3_hasPlace ⟨Nat.le_of_ble_eq_true rfl, Nat.le_of_ble_eq_true rfl⟩ rfl (Nat.le_of_ble_eq_true rfl) sh1 rfl rfl w4_43 w3_42 w3_43 (fun r_ μ1 hp_ => ?_)
  obtain ⟨v, rfl, hp_⟩ := hp_
  exact k v μ1 hp_
theorem bX11_walk_8 {Z : ZT} {X : XT} {μ : Mu} {a1 : Int32} {a2 : Int32} {s0 : Int32} (E : Ent Z X mX11_walk 0 0)  
    (kt : s0 = 0 → JS Z X 22 [(0, .ref (Z.2.2.1 + 0))] [] μ) (kf : ¬ (s0 = 0) → JS Z X 11 [(0, .ref (Z.2.2.1 + 0)), (1, .int a1), (2, .int a2)] [] μ) :
    JS Z X 8 [(0, .ref (Z.2.2.1 + 0)), (1, .int a1), (2, .int a2)] [.int s0] μ := by
  refine J_if_eq (tgt := 22) E dX11_walk_8 (by decide) (fun c => ?_) (fun c => ?_)
  · refine J.weak [0] rfl ?_
    exact kt c
  · exact kf c
theorem bX11_walk_11 {Z : ZT} {X : XT} {μ : Mu} {a1 : Int32} {a2 : Int32} (E : Ent Z X mX11_walk 0 0) {p : Int32 → Mu → Prop} 
    (c : CtrS Z mX3_hasPlace [.ref (Z.2.2.1 + 1), .int a2] μ (rI p)) (k : ∀ v μ1, p v μ1 → JS Z X 19 [(0, .ref (Z.2.2.1 + 0)), (1, .int a1), (2, .int a2)] [.int v] μ1) :
    JS Z X 11 [(0, .ref (Z.2.2.1 + 0)), (1, .int a1), (2, .int a2)] [] μ := by
  refine J_aload_n E dX11_walk_11 rfl ?_
  refine S_get (ci := 11) (q := 0) (v := .ref (Z.2.2.1 + 1)) E dX11_walk_12 fs_X11_10 sh0 rfl ?_
  refine J_iload_n E dX11_walk_15 rfl ?_
  refine S_callV (As := [.int a2]) (rest := []) E dX11_walk_16 c kX3_hasPlace ⟨Nat.le_of_ble_eq_true rfl, Nat.le_of_ble_eq_true rfl⟩ rfl (Nat.le_of_ble_eq_true rfl) sh1 rfl rfl w4_43 w3_42 w3_43 (fun r_ μ1 hp_ => ?_)
  obtain ⟨v, rfl, hp_⟩ := hp_
  exact k v μ1 hp_
theorem bX11_walk_19 {Z : ZT} {X : XT} {μ : Mu} {a1 : Int32} {a2 : Int32} {s0 : Int32} (E : Ent Z X mX11_walk 0 0)  
    (kt : ¬ s0 = 0 → JS Z X 29 [(0, .ref (Z.2.2.1 + 0)), (1, .int a1), (2, .int a2)] [] μ) (kf : s0 = 0 → JS Z X 22 [(0, .ref (Z.2.2.1 + 0))] [] μ) :
    JS Z X 19 [(0, .ref (Z.2.2.1 + 0)), (1, .int a1), (2, .int a2)] [.int s0] μ := by
  refine J_if_ne (tgt := 29) E dX11_walk_19 (by decide) (fun c => ?_) (fun c => ?_)
  · exact kt c
  · refine J.weak [0] rfl ?_
    exact kf c
theorem bX11_walk_22 {Z : ZT} {X : XT} {μ : Mu} (E : Ent Z X mX11_walk 0 0) {p : Int32 → Mu → Prop} 
    (c : CtrS Z mX11_counted [.ref (Z.2.2.1 + 0), .int (-2)] μ (rI p)) (k : ∀ v μ1, p v μ1 → JS Z X 28 [] [.int v] μ1) :
    JS Z X 22 [(0, .ref (Z.2.2.1 + 0))] [] μ := by
  refine J_aload_n E dX11_walk_22 rfl ?_
  refine J_bipush (v := -2) E dX11_walk_23 rfl ?_
  refine S_callV (As := [.int (-2)]) (rest := []) E dX11_walk_25 c kX11_counted ⟨Nat.le_of_ble_eq_true rfl, Nat.le_of_ble_eq_true rfl⟩ rfl (Nat.le_of_ble_eq_true rfl) sh0 rfl rfl w3_25 w3_27 wp_1 (fun r_ μ1 hp_ => ?_)
  obtain ⟨v, rfl, hp_⟩ := hp_
  refine J.weak [] rfl ?_
  exact k v μ1 hp_
theorem bX11_walk_28 {Z : ZT} {X : XT} {μ : Mu} {s0 : Int32} (E : Ent Z X mX11_walk 0 0) {P : Option Value → Mu → Prop} (hB : BodS Z X P) 
    (k : P (some (.int s0)) μ) :
    JS Z X 28 [] [.int s0] μ := by
  exact S_iret E hB dX11_walk_28 rfl k
theorem bX11_walk_29 {Z : ZT} {X : XT} {μ : Mu} {a1 : Int32} {a2 : Int32} (E : Ent Z X mX11_walk 0 0) {p : Mu → Prop} 
    (c : CtrS Z mX10_measure [.ref (Z.2.2.1 + 73)] μ (rV p)) (k : ∀ μ1, p μ1 → JS Z X 36 [(0, .ref (Z.2.2.1 + 0)), (1, .int a1), (2, .int a2)] [] μ1) :
    JS Z X 29 [(0, .ref (Z.2.2.1 + 0)), (1, .int a1), (2, .int a2)] [] μ := by
  refine J_aload_n E dX11_walk_29 rfl ?_
  refine S_get (ci := 11) (q := 8) (v := .ref (Z.2.2.1 + 73)) E dX11_walk_30 fs_X11_54 sh0 rfl ?_
  refine S_callV (As := []) (rest := []) E dX11_walk_33 c kX10_measure ⟨Nat.le_of_ble_eq_true rfl, Nat.le_of_ble_eq_true rfl⟩ rfl (Nat.le_of_ble_eq_true rfl) sh73 rfl rfl w4_44 w4_45 w4_46 (fun r_ μ1 hp_ => ?_)
  obtain ⟨rfl, hp_⟩ := hp_
  exact k μ1 hp_
theorem bX11_walk_36 {Z : ZT} {X : XT} {μ : Mu} {a1 : Int32} {a2 : Int32} (E : Ent Z X mX11_walk 0 0) {p : Int32 → Mu → Prop} 
    (c : CtrS Z mX10_between [.ref (Z.2.2.1 + 73), .int a1, .int a2] μ (rI p)) (k : ∀ v μ1, p v μ1 → JS Z X 45 [] [.int v] μ1) :
    JS Z X 36 [(0, .ref (Z.2.2.1 + 0)), (1, .int a1), (2, .int a2)] [] μ := by
  refine J_aload_n E dX11_walk_36 rfl ?_
  refine S_get (ci := 11) (q := 8) (v := .ref (Z.2.2.1 + 73)) E dX11_walk_37 fs_X11_54 sh0 rfl ?_
  refine J_iload_n E dX11_walk_40 rfl ?_
  refine J_iload_n E dX11_walk_41 rfl ?_
  refine S_callV (As := [.int a1, .int a2]) (rest := []) E dX11_walk_42 c kX10_between ⟨Nat.le_of_ble_eq_true rfl, Nat.le_of_ble_eq_true rfl⟩ rfl (Nat.le_of_ble_eq_true rfl) sh73 rfl rfl w4_62 w4_63 w4_64 (fun r_ μ1 hp_ => ?_)
  obtain ⟨v, rfl, hp_⟩ := hp_
  refine J.weak [] rfl ?_
  exact k v μ1 hp_
theorem bX11_walk_45 {Z : ZT} {X : XT} {μ : Mu} {s0 : Int32} (E : Ent Z X mX11_walk 0 0) {P : Option Value → Mu → Prop} (hB : BodS Z X P) 
    (k : P (some (.int s0)) μ) :
    JS Z X 45 [] [.int s0] μ := by
  exact S_iret E hB dX11_walk_45 rfl k
theorem dX11_riddles_0 : decode cX11_riddles 0 = .ok (.iload_n 1, 1) := by decide +kernel
theorem dX11_riddles_1 : decode cX11_riddles 1 = .ok (.iconst 2, 1) := by decide +kernel
theorem dX11_riddles_2 : decode cX11_riddles 2 = .ok (.invokestatic 198, 3) := by decide +kernel
theorem dX11_riddles_5 : decode cX11_riddles 5 = .ok (.ifCond .eq 19, 3) := by decide +kernel
theorem dX11_riddles_8 : decode cX11_riddles 8 = .ok (.iload_n 2, 1) := by decide +kernel
theorem dX11_riddles_9 : decode cX11_riddles 9 = .ok (.aload_n 0, 1) := by decide +kernel
theorem dX11_riddles_10 : decode cX11_riddles 10 = .ok (.getfield 10, 3) := by decide +kernel
theorem dX11_riddles_13 : decode cX11_riddles 13 = .ok (.getfield 202, 3) := by decide +kernel
theorem dX11_riddles_16 : decode cX11_riddles 16 = .ok (.iload_n 1, 1) := by decide +kernel
theorem dX11_riddles_17 : decode cX11_riddles 17 = .ok (.iaload, 1) := by decide +kernel
theorem dX11_riddles_18 : decode cX11_riddles 18 = .ok (.invokestatic 198, 3) := by decide +kernel
theorem dX11_riddles_21 : decode cX11_riddles 21 = .ok (.ifCond .ne 10, 3) := by decide +kernel
theorem dX11_riddles_24 : decode cX11_riddles 24 = .ok (.aload_n 0, 1) := by decide +kernel
theorem dX11_riddles_25 : decode cX11_riddles 25 = .ok (.bipush (-2), 2) := by decide +kernel
theorem dX11_riddles_27 : decode cX11_riddles 27 = .ok (.invokevirtual 125, 3) := by decide +kernel
theorem dX11_riddles_30 : decode cX11_riddles 30 = .ok (.ireturn, 1) := by decide +kernel
theorem dX11_riddles_31 : decode cX11_riddles 31 = .ok (.aload_n 0, 1) := by decide +kernel
theorem dX11_riddles_32 : decode cX11_riddles 32 = .ok (.aload_n 0, 1) := by decide +kernel
theorem dX11_riddles_33 : decode cX11_riddles 33 = .ok (.getfield 63, 3) := by decide +kernel
theorem dX11_riddles_36 : decode cX11_riddles 36 = .ok (.iload_n 1, 1) := by decide +kernel
theorem dX11_riddles_37 : decode cX11_riddles 37 = .ok (.invokevirtual 205, 3) := by decide +kernel
theorem dX11_riddles_40 : decode cX11_riddles 40 = .ok (.ifCond .ne 10, 3) := by decide +kernel
theorem dX11_riddles_43 : decode cX11_riddles 43 = .ok (.aload_n 0, 1) := by decide +kernel
theorem dX11_riddles_44 : decode cX11_riddles 44 = .ok (.bipush (-3), 2) := by decide +kernel
theorem dX11_riddles_46 : decode cX11_riddles 46 = .ok (.invokevirtual 125, 3) := by decide +kernel
theorem dX11_riddles_49 : decode cX11_riddles 49 = .ok (.ireturn, 1) := by decide +kernel
theorem dX11_riddles_50 : decode cX11_riddles 50 = .ok (.aload_n 0, 1) := by decide +kernel
theorem dX11_riddles_51 : decode cX11_riddles 51 = .ok (.getfield 114, 3) := by decide +kernel
theorem dX11_riddles_54 : decode cX11_riddles 54 = .ok (.ldc 209, 2) := by decide +kernel
theorem dX11_riddles_56 : decode cX11_riddles 56 = .ok (.aload_n 0, 1) := by decide +kernel
theorem dX11_riddles_57 : decode cX11_riddles 57 = .ok (.getfield 63, 3) := by decide +kernel
theorem dX11_riddles_60 : decode cX11_riddles 60 = .ok (.getfield 210, 3) := by decide +kernel
theorem dX11_riddles_63 : decode cX11_riddles 63 = .ok (.iload_n 2, 1) := by decide +kernel
theorem dX11_riddles_64 : decode cX11_riddles 64 = .ok (.iaload, 1) := by decide +kernel
theorem dX11_riddles_65 : decode cX11_riddles 65 = .ok (.isub, 1) := by decide +kernel
theorem dX11_riddles_66 : decode cX11_riddles 66 = .ok (.invokevirtual 213, 3) := by decide +kernel
theorem dX11_riddles_69 : decode cX11_riddles 69 = .ok (.aload_n 0, 1) := by decide +kernel
theorem dX11_riddles_70 : decode cX11_riddles 70 = .ok (.getfield 107, 3) := by decide +kernel
theorem dX11_riddles_73 : decode cX11_riddles 73 = .ok (.aload_n 0, 1) := by decide +kernel
theorem dX11_riddles_74 : decode cX11_riddles 74 = .ok (.getfield 114, 3) := by decide +kernel
theorem dX11_riddles_77 : decode cX11_riddles 77 = .ok (.bipush 6, 2) := by decide +kernel
theorem dX11_riddles_79 : decode cX11_riddles 79 = .ok (.invokevirtual 217, 3) := by decide +kernel
theorem dX11_riddles_82 : decode cX11_riddles 82 = .ok (.iconst 1, 1) := by decide +kernel
theorem dX11_riddles_83 : decode cX11_riddles 83 = .ok (.ireturn, 1) := by decide +kernel
theorem bX11_riddles_0 {Z : ZT} {X : XT} {μ : Mu} {a1 : Int32} {a2 : Int32} (E : Ent Z X mX11_riddles 0 0) {p : Int32 → Mu → Prop} 
    (c : CtrS Z mX11_within [.int a1, .int (nI 2)] μ (rI p)) (k : ∀ v μ1, p v μ1 → JS Z X 5 [(0, .ref (Z.2.2.1 + 0)), (1, .int a1), (2, .int a2)] [.int v] μ1) :
    JS Z X 0 [(0, .ref (Z.2.2.1 + 0)), (1, .int a1), (2, .int a2)] [] μ := by
  refine J_iload_n E dX11_riddles_0 rfl ?_
  refine J_iconst (v := nI 2) E dX11_riddles_1 rfl ?_
  refine S_callS (As := [.int a1, .int (nI 2)]) (rest := []) E dX11_riddles_2 c kX11_within ⟨Nat.le_of_ble_eq_true rfl, Nat.le_of_ble_eq_true rfl⟩ rfl (Nat.le_of_ble_eq_true rfl) w4_71 w3_46 (fun r_ μ1 hp_ => ?_)
  obtain ⟨v, rfl, hp_⟩ := hp_
  exact k v μ1 hp_
theorem bX11_riddles_5 {Z : ZT} {X : XT} {μ : Mu} {a1 : Int32} {a2 : Int32} {s0 : Int32} (E : Ent Z X mX11_riddles 0 0)  
    (kt : s0 = 0 → JS Z X 24 [(0, .ref (Z.2.2.1 + 0))] [] μ) (kf : ¬ (s0 = 0) → JS Z X 8 [(0, .ref (Z.2.2.1 + 0)), (1, .int a1), (2, .int a2)] [] μ) :
    JS Z X 5 [(0, .ref (Z.2.2.1 + 0)), (1, .int a1), (2, .int a2)] [.int s0] μ := by
  refine J_if_eq (tgt := 24) E dX11_riddles_5 (by decide) (fun c => ?_) (fun c => ?_)
  · refine J.weak [0] rfl ?_
    exact kt c
  · exact kf c
theorem bX11_riddles_8 {Z : ZT} {X : XT} {μ : Mu} {a1 : Int32} {a2 : Int32} (E : Ent Z X mX11_riddles 0 0) {p : Int32 → Mu → Prop} (s1_ : vp_in a1 2)
    (c : CtrS Z mX11_within [.int a2, .int (μ (1 + 11) (ix a1))] μ (rI p)) (k : ∀ v μ1, p v μ1 → JS Z X 21 [(0, .ref (Z.2.2.1 + 0)), (1, .int a1), (2, .int a2)] [.int v] μ1) :
    JS Z X 8 [(0, .ref (Z.2.2.1 + 0)), (1, .int a1), (2, .int a2)] [] μ := by
  refine J_iload_n E dX11_riddles_8 rfl ?_
  refine J_aload_n E dX11_riddles_9 rfl ?_
  refine S_get (ci := 11) (q := 0) (v := .ref (Z.2.2.1 + 1)) E dX11_riddles_10 fs_X11_10 sh0 rfl ?_
  refine S_get (ci := 3) (q := 13) (v := .ref (Z.2.2.1 + (1 + 11))) E dX11_riddles_13 fs_X11_202 sh1 rfl ?_
  refine J_iload_n E dX11_riddles_16 rfl ?_
  refine S_iald E dX11_riddles_17 (shr_X3_13 sh1) s1_ ?_
  refine S_callS (As := [.int a2, .int (μ (1 + 11) (ix a1))]) (rest := []) E dX11_riddles_18 c kX11_within ⟨Nat.le_of_ble_eq_true rfl, Nat.le_of_ble_eq_true rfl⟩ rfl (Nat.le_of_ble_eq_true rfl) w4_71 w3_46 (fun r_ μ1 hp_ => ?_)
  obtain ⟨v, rfl, hp_⟩ := hp_
  exact k v μ1 hp_
theorem bX11_riddles_21 {Z : ZT} {X : XT} {μ : Mu} {a1 : Int32} {a2 : Int32} {s0 : Int32} (E : Ent Z X mX11_riddles 0 0)  
    (kt : ¬ s0 = 0 → JS Z X 31 [(0, .ref (Z.2.2.1 + 0)), (1, .int a1), (2, .int a2)] [] μ) (kf : s0 = 0 → JS Z X 24 [(0, .ref (Z.2.2.1 + 0))] [] μ) :
    JS Z X 21 [(0, .ref (Z.2.2.1 + 0)), (1, .int a1), (2, .int a2)] [.int s0] μ := by
  refine J_if_ne (tgt := 31) E dX11_riddles_21 (by decide) (fun c => ?_) (fun c => ?_)
  · exact kt c
  · refine J.weak [0] rfl ?_
    exact kf c
theorem bX11_riddles_24 {Z : ZT} {X : XT} {μ : Mu} (E : Ent Z X mX11_riddles 0 0) {p : Int32 → Mu → Prop} 
    (c : CtrS Z mX11_counted [.ref (Z.2.2.1 + 0), .int (-2)] μ (rI p)) (k : ∀ v μ1, p v μ1 → JS Z X 30 [] [.int v] μ1) :
    JS Z X 24 [(0, .ref (Z.2.2.1 + 0))] [] μ := by
  refine J_aload_n E dX11_riddles_24 rfl ?_
  refine J_bipush (v := -2) E dX11_riddles_25 rfl ?_
  refine S_callV (As := [.int (-2)]) (rest := []) E dX11_riddles_27 c kX11_counted ⟨Nat.le_of_ble_eq_true rfl, Nat.le_of_ble_eq_true rfl⟩ rfl (Nat.le_of_ble_eq_true rfl) sh0 rfl rfl w3_25 w3_27 wp_1 (fun r_ μ1 hp_ => ?_)
  obtain ⟨v, rfl, hp_⟩ := hp_
  refine J.weak [] rfl ?_
  exact k v μ1 hp_
theorem bX11_riddles_30 {Z : ZT} {X : XT} {μ : Mu} {s0 : Int32} (E : Ent Z X mX11_riddles 0 0) {P : Option Value → Mu → Prop} (hB : BodS Z X P) 
    (k : P (some (.int s0)) μ) :
    JS Z X 30 [] [.int s0] μ := by
  exact S_iret E hB dX11_riddles_30 rfl k
theorem bX11_riddles_31 {Z : ZT} {X : XT} {μ : Mu} {a1 : Int32} {a2 : Int32} (E : Ent Z X mX11_riddles 0 0) {p : Int32 → Mu → Prop} 
    (c : CtrS Z mX11_canHunt [.ref (Z.2.2.1 + 0), .ref (Z.2.2.1 + 78), .int a1] μ (rI p)) (k : ∀ v μ1, p v μ1 → JS Z X 40 [(0, .ref (Z.2.2.1 + 0)), (2, .int a2)] [.int v] μ1) :
    JS Z X 31 [(0, .ref (Z.2.2.1 + 0)), (1, .int a1), (2, .int a2)] [] μ := by
  refine J_aload_n E dX11_riddles_31 rfl ?_
  refine J_aload_n E dX11_riddles_32 rfl ?_
  refine S_get (ci := 11) (q := 9) (v := .ref (Z.2.2.1 + 78)) E dX11_riddles_33 fs_X11_63 sh0 rfl ?_
  refine J_iload_n E dX11_riddles_36 rfl ?_
  refine S_callV (As := [.ref (Z.2.2.1 + 78), .int a1]) (rest := []) E dX11_riddles_37 c kX11_canHunt ⟨Nat.le_of_ble_eq_true rfl, Nat.le_of_ble_eq_true rfl⟩ rfl (Nat.le_of_ble_eq_true rfl) sh0 rfl rfl w4_72 w4_74 wp_12 (fun r_ μ1 hp_ => ?_)
  obtain ⟨v, rfl, hp_⟩ := hp_
  refine J.weak [0, 2] rfl ?_
  exact k v μ1 hp_
theorem bX11_riddles_40 {Z : ZT} {X : XT} {μ : Mu} {a2 : Int32} {s0 : Int32} (E : Ent Z X mX11_riddles 0 0)  
    (kt : ¬ s0 = 0 → JS Z X 50 [(0, .ref (Z.2.2.1 + 0)), (2, .int a2)] [] μ) (kf : s0 = 0 → JS Z X 43 [(0, .ref (Z.2.2.1 + 0))] [] μ) :
    JS Z X 40 [(0, .ref (Z.2.2.1 + 0)), (2, .int a2)] [.int s0] μ := by
  refine J_if_ne (tgt := 50) E dX11_riddles_40 (by decide) (fun c => ?_) (fun c => ?_)
  · exact kt c
  · refine J.weak [0] rfl ?_
    exact kf c
theorem bX11_riddles_43 {Z : ZT} {X : XT} {μ : Mu} (E : Ent Z X mX11_riddles 0 0) {p : Int32 → Mu → Prop} 
    (c : CtrS Z mX11_counted [.ref (Z.2.2.1 + 0), .int (-3)] μ (rI p)) (k : ∀ v μ1, p v μ1 → JS Z X 49 [] [.int v] μ1) :
    JS Z X 43 [(0, .ref (Z.2.2.1 + 0))] [] μ := by
  refine J_aload_n E dX11_riddles_43 rfl ?_
  refine J_bipush (v := -3) E dX11_riddles_44 rfl ?_
  refine S_callV (As := [.int (-3)]) (rest := []) E dX11_riddles_46 c kX11_counted ⟨Nat.le_of_ble_eq_true rfl, Nat.le_of_ble_eq_true rfl⟩ rfl (Nat.le_of_ble_eq_true rfl) sh0 rfl rfl w3_25 w3_27 wp_1 (fun r_ μ1 hp_ => ?_)
  obtain ⟨v, rfl, hp_⟩ := hp_
  refine J.weak [] rfl ?_
  exact k v μ1 hp_
theorem bX11_riddles_49 {Z : ZT} {X : XT} {μ : Mu} {s0 : Int32} (E : Ent Z X mX11_riddles 0 0) {P : Option Value → Mu → Prop} (hB : BodS Z X P) 
    (k : P (some (.int s0)) μ) :
    JS Z X 49 [] [.int s0] μ := by
  exact S_iret E hB dX11_riddles_49 rfl k
theorem bX11_riddles_50 {Z : ZT} {X : XT} {μ : Mu} {a2 : Int32} (E : Ent Z X mX11_riddles 0 0) {p : Mu → Prop} (s1_ : vp_in a2 6)
    (c : CtrS Z mX0_set [.ref (Z.2.2.1 + 451), .int ((nI 1000000) - (μ (78 + 3) (ix a2)))] μ (rV p)) (k : ∀ μ1, p μ1 → JS Z X 69 [(0, .ref (Z.2.2.1 + 0))] [] μ1) :
    JS Z X 50 [(0, .ref (Z.2.2.1 + 0)), (2, .int a2)] [] μ := by
  refine J_aload_n E dX11_riddles_50 rfl ?_
  refine S_get (ci := 11) (q := 16) (v := .ref (Z.2.2.1 + 451)) E dX11_riddles_51 fs_X11_114 sh0 rfl ?_
  refine J_ldc (v := nI 1000000) E dX11_riddles_54 w4_120 ?_
  refine J_aload_n E dX11_riddles_56 rfl ?_
  refine S_get (ci := 11) (q := 9) (v := .ref (Z.2.2.1 + 78)) E dX11_riddles_57 fs_X11_63 sh0 rfl ?_
  refine S_get (ci := 4) (q := 7) (v := .ref (Z.2.2.1 + (78 + 3))) E dX11_riddles_60 fs_X11_210 sh78 rfl ?_
  refine J_iload_n E dX11_riddles_63 rfl ?_
  refine S_iald E dX11_riddles_64 (shr_X4_7 sh78) s1_ ?_
  refine J_isub E dX11_riddles_65 ?_
  refine S_callV (As := [.int ((nI 1000000) - (μ (78 + 3) (ix a2)))]) (rest := []) E dX11_riddles_66 c kX0_set ⟨Nat.le_of_ble_eq_true rfl, Nat.le_of_ble_eq_true rfl⟩ rfl (Nat.le_of_ble_eq_true rfl) sh451 rfl rfl w4_121 w2_180 w2_181 (fun r_ μ1 hp_ => ?_)
  obtain ⟨rfl, hp_⟩ := hp_
  refine J.weak [0] rfl ?_
  exact k μ1 hp_
theorem bX11_riddles_69 {Z : ZT} {X : XT} {μ : Mu} (E : Ent Z X mX11_riddles 0 0) {p : Mu → Prop} 
    (c : CtrS Z mX2_set [.ref (Z.2.2.1 + 446), .ref (Z.2.2.1 + 451), .int (nI 6)] μ (rV p)) (k : ∀ μ1, p μ1 → JS Z X 82 [] [] μ1) :
    JS Z X 69 [(0, .ref (Z.2.2.1 + 0))] [] μ := by
  refine J_aload_n E dX11_riddles_69 rfl ?_
  refine S_get (ci := 11) (q := 15) (v := .ref (Z.2.2.1 + 446)) E dX11_riddles_70 fs_X11_107 sh0 rfl ?_
  refine J_aload_n E dX11_riddles_73 rfl ?_
  refine S_get (ci := 11) (q := 16) (v := .ref (Z.2.2.1 + 451)) E dX11_riddles_74 fs_X11_114 sh0 rfl ?_
  refine J_bipush (v := nI 6) E dX11_riddles_77 rfl ?_
  refine S_callV (As := [.ref (Z.2.2.1 + 451), .int (nI 6)]) (rest := []) E dX11_riddles_79 c kX2_set ⟨Nat.le_of_ble_eq_true rfl, Nat.le_of_ble_eq_true rfl⟩ rfl (Nat.le_of_ble_eq_true rfl) sh446 rfl rfl w4_122 w4_123 w4_124 (fun r_ μ1 hp_ => ?_)
  obtain ⟨rfl, hp_⟩ := hp_
  refine J.weak [] rfl ?_
  exact k μ1 hp_
theorem bX11_riddles_82 {Z : ZT} {X : XT} {μ : Mu} (E : Ent Z X mX11_riddles 0 0) {P : Option Value → Mu → Prop} (hB : BodS Z X P) 
    (k : P (some (.int (nI 1))) μ) :
    JS Z X 82 [] [] μ := by
  refine J_iconst (v := nI 1) E dX11_riddles_82 rfl ?_
  exact S_iret E hB dX11_riddles_83 rfl k
theorem dX11_length_0 : decode cX11_length 0 = .ok (.iload_n 1, 1) := by decide +kernel
theorem dX11_length_1 : decode cX11_length 1 = .ok (.iconst 2, 1) := by decide +kernel
theorem dX11_length_2 : decode cX11_length 2 = .ok (.invokestatic 198, 3) := by decide +kernel
theorem dX11_length_5 : decode cX11_length 5 = .ok (.ifCond .eq 11, 3) := by decide +kernel
theorem dX11_length_8 : decode cX11_length 8 = .ok (.iload_n 2, 1) := by decide +kernel
theorem dX11_length_9 : decode cX11_length 9 = .ok (.iconst 3, 1) := by decide +kernel
theorem dX11_length_10 : decode cX11_length 10 = .ok (.invokestatic 198, 3) := by decide +kernel
theorem dX11_length_13 : decode cX11_length 13 = .ok (.ifCond .ne 10, 3) := by decide +kernel
theorem dX11_length_16 : decode cX11_length 16 = .ok (.aload_n 0, 1) := by decide +kernel
theorem dX11_length_17 : decode cX11_length 17 = .ok (.bipush (-2), 2) := by decide +kernel
theorem dX11_length_19 : decode cX11_length 19 = .ok (.invokevirtual 125, 3) := by decide +kernel
theorem dX11_length_22 : decode cX11_length 22 = .ok (.ireturn, 1) := by decide +kernel
theorem dX11_length_23 : decode cX11_length 23 = .ok (.aload_n 0, 1) := by decide +kernel
theorem dX11_length_24 : decode cX11_length 24 = .ok (.aload_n 0, 1) := by decide +kernel
theorem dX11_length_25 : decode cX11_length 25 = .ok (.getfield 63, 3) := by decide +kernel
theorem dX11_length_28 : decode cX11_length 28 = .ok (.iload_n 1, 1) := by decide +kernel
theorem dX11_length_29 : decode cX11_length 29 = .ok (.invokevirtual 205, 3) := by decide +kernel
theorem dX11_length_32 : decode cX11_length 32 = .ok (.ifCond .ne 10, 3) := by decide +kernel
theorem dX11_length_35 : decode cX11_length 35 = .ok (.aload_n 0, 1) := by decide +kernel
theorem dX11_length_36 : decode cX11_length 36 = .ok (.bipush (-3), 2) := by decide +kernel
theorem dX11_length_38 : decode cX11_length 38 = .ok (.invokevirtual 125, 3) := by decide +kernel
theorem dX11_length_41 : decode cX11_length 41 = .ok (.ireturn, 1) := by decide +kernel
theorem dX11_length_42 : decode cX11_length 42 = .ok (.iload_n 2, 1) := by decide +kernel
theorem dX11_length_43 : decode cX11_length 43 = .ok (.ifCond .ne 19, 3) := by decide +kernel
theorem dX11_length_46 : decode cX11_length 46 = .ok (.aload_n 0, 1) := by decide +kernel
theorem dX11_length_47 : decode cX11_length 47 = .ok (.getfield 63, 3) := by decide +kernel
theorem dX11_length_50 : decode cX11_length 50 = .ok (.getfield 220, 3) := by decide +kernel
theorem dX11_length_53 : decode cX11_length 53 = .ok (.aload_n 0, 1) := by decide +kernel
theorem dX11_length_54 : decode cX11_length 54 = .ok (.getfield 63, 3) := by decide +kernel
theorem dX11_length_57 : decode cX11_length 57 = .ok (.getfield 223, 3) := by decide +kernel
theorem dX11_length_60 : decode cX11_length 60 = .ok (.iadd, 1) := by decide +kernel
theorem dX11_length_61 : decode cX11_length 61 = .ok (.ireturn, 1) := by decide +kernel
theorem dX11_length_62 : decode cX11_length 62 = .ok (.iload_n 2, 1) := by decide +kernel
theorem dX11_length_63 : decode cX11_length 63 = .ok (.iconst 1, 1) := by decide +kernel
theorem dX11_length_64 : decode cX11_length 64 = .ok (.if_icmp .ne 29, 3) := by decide +kernel
theorem dX11_length_67 : decode cX11_length 67 = .ok (.aload_n 0, 1) := by decide +kernel
theorem dX11_length_68 : decode cX11_length 68 = .ok (.getfield 63, 3) := by decide +kernel
theorem dX11_length_71 : decode cX11_length 71 = .ok (.getfield 220, 3) := by decide +kernel
theorem dX11_length_74 : decode cX11_length 74 = .ok (.aload_n 0, 1) := by decide +kernel
theorem dX11_length_75 : decode cX11_length 75 = .ok (.getfield 63, 3) := by decide +kernel
theorem dX11_length_78 : decode cX11_length 78 = .ok (.getfield 226, 3) := by decide +kernel
theorem dX11_length_81 : decode cX11_length 81 = .ok (.aload_n 0, 1) := by decide +kernel
theorem dX11_length_82 : decode cX11_length 82 = .ok (.getfield 22, 3) := by decide +kernel
theorem dX11_length_85 : decode cX11_length 85 = .ok (.getfield 229, 3) := by decide +kernel
theorem dX11_length_88 : decode cX11_length 88 = .ok (.iconst 0, 1) := by decide +kernel
theorem dX11_length_89 : decode cX11_length 89 = .ok (.iaload, 1) := by decide +kernel
theorem dX11_length_90 : decode cX11_length 90 = .ok (.imul, 1) := by decide +kernel
theorem dX11_length_91 : decode cX11_length 91 = .ok (.iadd, 1) := by decide +kernel
theorem dX11_length_92 : decode cX11_length 92 = .ok (.ireturn, 1) := by decide +kernel
theorem dX11_length_93 : decode cX11_length 93 = .ok (.aload_n 0, 1) := by decide +kernel
theorem dX11_length_94 : decode cX11_length 94 = .ok (.getfield 75, 3) := by decide +kernel
theorem dX11_length_97 : decode cX11_length 97 = .ok (.invokevirtual 232, 3) := by decide +kernel
theorem dX11_length_100 : decode cX11_length 100 = .ok (.aload_n 0, 1) := by decide +kernel
theorem dX11_length_101 : decode cX11_length 101 = .ok (.getfield 75, 3) := by decide +kernel
theorem dX11_length_104 : decode cX11_length 104 = .ok (.aload_n 0, 1) := by decide +kernel
theorem dX11_length_105 : decode cX11_length 105 = .ok (.getfield 114, 3) := by decide +kernel
theorem dX11_length_108 : decode cX11_length 108 = .ok (.aload_n 0, 1) := by decide +kernel
theorem dX11_length_109 : decode cX11_length 109 = .ok (.getfield 63, 3) := by decide +kernel
theorem dX11_length_112 : decode cX11_length 112 = .ok (.invokevirtual 235, 3) := by decide +kernel
theorem dX11_length_115 : decode cX11_length 115 = .ok (.aload_n 0, 1) := by decide +kernel
theorem dX11_length_116 : decode cX11_length 116 = .ok (.getfield 107, 3) := by decide +kernel
theorem dX11_length_119 : decode cX11_length 119 = .ok (.aload_n 0, 1) := by decide +kernel
theorem dX11_length_120 : decode cX11_length 120 = .ok (.getfield 114, 3) := by decide +kernel
theorem dX11_length_123 : decode cX11_length 123 = .ok (.aload_n 0, 1) := by decide +kernel
theorem dX11_length_124 : decode cX11_length 124 = .ok (.getfield 75, 3) := by decide +kernel
theorem dX11_length_127 : decode cX11_length 127 = .ok (.getfield 239, 3) := by decide +kernel
theorem dX11_length_130 : decode cX11_length 130 = .ok (.invokevirtual 217, 3) := by decide +kernel
theorem dX11_length_133 : decode cX11_length 133 = .ok (.iconst 1, 1) := by decide +kernel
theorem dX11_length_134 : decode cX11_length 134 = .ok (.ireturn, 1) := by decide +kernel
theorem bX11_length_0 {Z : ZT} {X : XT} {μ : Mu} {a1 : Int32} {a2 : Int32} (E : Ent Z X mX11_length 0 0) {p : Int32 → Mu → Prop} 
    (c : CtrS Z mX11_within [.int a1, .int (nI 2)] μ (rI p)) (k : ∀ v μ1, p v μ1 → JS Z X 5 [(0, .ref (Z.2.2.1 + 0)), (1, .int a1), (2, .int a2)] [.int v] μ1) :
    JS Z X 0 [(0, .ref (Z.2.2.1 + 0)), (1, .int a1), (2, .int a2)] [] μ := by
  refine J_iload_n E dX11_length_0 rfl ?_
  refine J_iconst (v := nI 2) E dX11_length_1 rfl ?_
  refine S_callS (As := [.int a1, .int (nI 2)]) (rest := []) E dX11_length_2 c kX11_within ⟨Nat.le_of_ble_eq_true rfl, Nat.le_of_ble_eq_true rfl⟩ rfl (Nat.le_of_ble_eq_true rfl) w4_71 w3_46 (fun r_ μ1 hp_ => ?_)
  obtain ⟨v, rfl, hp_⟩ := hp_
  exact k v μ1 hp_
theorem bX11_length_5 {Z : ZT} {X : XT} {μ : Mu} {a1 : Int32} {a2 : Int32} {s0 : Int32} (E : Ent Z X mX11_length 0 0)  
    (kt : s0 = 0 → JS Z X 16 [(0, .ref (Z.2.2.1 + 0))] [] μ) (kf : ¬ (s0 = 0) → JS Z X 8 [(0, .ref (Z.2.2.1 + 0)), (1, .int a1), (2, .int a2)] [] μ) :
    JS Z X 5 [(0, .ref (Z.2.2.1 + 0)), (1, .int a1), (2, .int a2)] [.int s0] μ := by
  refine J_if_eq (tgt := 16) E dX11_length_5 (by decide) (fun c => ?_) (fun c => ?_)
  · refine J.weak [0] rfl ?_
    exact kt c
  · exact kf c
theorem bX11_length_8 {Z : ZT} {X : XT} {μ : Mu} {a1 : Int32} {a2 : Int32} (E : Ent Z X mX11_length 0 0) {p : Int32 → Mu → Prop} 
    (c : CtrS Z mX11_within [.int a2, .int (nI 3)] μ (rI p)) (k : ∀ v μ1, p v μ1 → JS Z X 13 [(0, .ref (Z.2.2.1 + 0)), (1, .int a1), (2, .int a2)] [.int v] μ1) :
    JS Z X 8 [(0, .ref (Z.2.2.1 + 0)), (1, .int a1), (2, .int a2)] [] μ := by
  refine J_iload_n E dX11_length_8 rfl ?_
  refine J_iconst (v := nI 3) E dX11_length_9 rfl ?_
  refine S_callS (As := [.int a2, .int (nI 3)]) (rest := []) E dX11_length_10 c kX11_within ⟨Nat.le_of_ble_eq_true rfl, Nat.le_of_ble_eq_true rfl⟩ rfl (Nat.le_of_ble_eq_true rfl) w4_71 w3_46 (fun r_ μ1 hp_ => ?_)
  obtain ⟨v, rfl, hp_⟩ := hp_
  exact k v μ1 hp_
theorem bX11_length_13 {Z : ZT} {X : XT} {μ : Mu} {a1 : Int32} {a2 : Int32} {s0 : Int32} (E : Ent Z X mX11_length 0 0)  
    (kt : ¬ s0 = 0 → JS Z X 23 [(0, .ref (Z.2.2.1 + 0)), (1, .int a1), (2, .int a2)] [] μ) (kf : s0 = 0 → JS Z X 16 [(0, .ref (Z.2.2.1 + 0))] [] μ) :
    JS Z X 13 [(0, .ref (Z.2.2.1 + 0)), (1, .int a1), (2, .int a2)] [.int s0] μ := by
  refine J_if_ne (tgt := 23) E dX11_length_13 (by decide) (fun c => ?_) (fun c => ?_)
  · exact kt c
  · refine J.weak [0] rfl ?_
    exact kf c
theorem bX11_length_16 {Z : ZT} {X : XT} {μ : Mu} (E : Ent Z X mX11_length 0 0) {p : Int32 → Mu → Prop} 
    (c : CtrS Z mX11_counted [.ref (Z.2.2.1 + 0), .int (-2)] μ (rI p)) (k : ∀ v μ1, p v μ1 → JS Z X 22 [] [.int v] μ1) :
    JS Z X 16 [(0, .ref (Z.2.2.1 + 0))] [] μ := by
  refine J_aload_n E dX11_length_16 rfl ?_
  refine J_bipush (v := -2) E dX11_length_17 rfl ?_
  refine S_callV (As := [.int (-2)]) (rest := []) E dX11_length_19 c kX11_counted ⟨Nat.le_of_ble_eq_true rfl, Nat.le_of_ble_eq_true rfl⟩ rfl (Nat.le_of_ble_eq_true rfl) sh0 rfl rfl w3_25 w3_27 wp_1 (fun r_ μ1 hp_ => ?_)
  obtain ⟨v, rfl, hp_⟩ := hp_
  refine J.weak [] rfl ?_
  exact k v μ1 hp_
theorem bX11_length_22 {Z : ZT} {X : XT} {μ : Mu} {s0 : Int32} (E : Ent Z X mX11_length 0 0) {P : Option Value → Mu → Prop} (hB : BodS Z X P) 
    (k : P (some (.int s0)) μ) :
    JS Z X 22 [] [.int s0] μ := by
  exact S_iret E hB dX11_length_22 rfl k
theorem bX11_length_23 {Z : ZT} {X : XT} {μ : Mu} {a1 : Int32} {a2 : Int32} (E : Ent Z X mX11_length 0 0) {p : Int32 → Mu → Prop} 
    (c : CtrS Z mX11_canHunt [.ref (Z.2.2.1 + 0), .ref (Z.2.2.1 + 78), .int a1] μ (rI p)) (k : ∀ v μ1, p v μ1 → JS Z X 32 [(0, .ref (Z.2.2.1 + 0)), (2, .int a2)] [.int v] μ1) :
    JS Z X 23 [(0, .ref (Z.2.2.1 + 0)), (1, .int a1), (2, .int a2)] [] μ := by
  refine J_aload_n E dX11_length_23 rfl ?_
  refine J_aload_n E dX11_length_24 rfl ?_
  refine S_get (ci := 11) (q := 9) (v := .ref (Z.2.2.1 + 78)) E dX11_length_25 fs_X11_63 sh0 rfl ?_
  refine J_iload_n E dX11_length_28 rfl ?_
  refine S_callV (As := [.ref (Z.2.2.1 + 78), .int a1]) (rest := []) E dX11_length_29 c kX11_canHunt ⟨Nat.le_of_ble_eq_true rfl, Nat.le_of_ble_eq_true rfl⟩ rfl (Nat.le_of_ble_eq_true rfl) sh0 rfl rfl w4_72 w4_74 wp_12 (fun r_ μ1 hp_ => ?_)
  obtain ⟨v, rfl, hp_⟩ := hp_
  refine J.weak [0, 2] rfl ?_
  exact k v μ1 hp_
theorem bX11_length_32 {Z : ZT} {X : XT} {μ : Mu} {a2 : Int32} {s0 : Int32} (E : Ent Z X mX11_length 0 0)  
    (kt : ¬ s0 = 0 → JS Z X 42 [(0, .ref (Z.2.2.1 + 0)), (2, .int a2)] [] μ) (kf : s0 = 0 → JS Z X 35 [(0, .ref (Z.2.2.1 + 0))] [] μ) :
    JS Z X 32 [(0, .ref (Z.2.2.1 + 0)), (2, .int a2)] [.int s0] μ := by
  refine J_if_ne (tgt := 42) E dX11_length_32 (by decide) (fun c => ?_) (fun c => ?_)
  · exact kt c
  · refine J.weak [0] rfl ?_
    exact kf c
theorem bX11_length_35 {Z : ZT} {X : XT} {μ : Mu} (E : Ent Z X mX11_length 0 0) {p : Int32 → Mu → Prop} 
    (c : CtrS Z mX11_counted [.ref (Z.2.2.1 + 0), .int (-3)] μ (rI p)) (k : ∀ v μ1, p v μ1 → JS Z X 41 [] [.int v] μ1) :
    JS Z X 35 [(0, .ref (Z.2.2.1 + 0))] [] μ := by
  refine J_aload_n E dX11_length_35 rfl ?_
  refine J_bipush (v := -3) E dX11_length_36 rfl ?_
  refine S_callV (As := [.int (-3)]) (rest := []) E dX11_length_38 c kX11_counted ⟨Nat.le_of_ble_eq_true rfl, Nat.le_of_ble_eq_true rfl⟩ rfl (Nat.le_of_ble_eq_true rfl) sh0 rfl rfl w3_25 w3_27 wp_1 (fun r_ μ1 hp_ => ?_)
  obtain ⟨v, rfl, hp_⟩ := hp_
  refine J.weak [] rfl ?_
  exact k v μ1 hp_
theorem bX11_length_41 {Z : ZT} {X : XT} {μ : Mu} {s0 : Int32} (E : Ent Z X mX11_length 0 0) {P : Option Value → Mu → Prop} (hB : BodS Z X P) 
    (k : P (some (.int s0)) μ) :
    JS Z X 41 [] [.int s0] μ := by
  exact S_iret E hB dX11_length_41 rfl k
theorem bX11_length_42 {Z : ZT} {X : XT} {μ : Mu} {a2 : Int32} (E : Ent Z X mX11_length 0 0)  
    (kt : ¬ a2 = 0 → JS Z X 62 [(0, .ref (Z.2.2.1 + 0)), (2, .int a2)] [] μ) (kf : a2 = 0 → JS Z X 46 [(0, .ref (Z.2.2.1 + 0))] [] μ) :
    JS Z X 42 [(0, .ref (Z.2.2.1 + 0)), (2, .int a2)] [] μ := by
  refine J_iload_n E dX11_length_42 rfl ?_
  refine J_if_ne (tgt := 62) E dX11_length_43 (by decide) (fun c => ?_) (fun c => ?_)
  · exact kt c
  · refine J.weak [0] rfl ?_
    exact kf c
theorem bX11_length_46 {Z : ZT} {X : XT} {μ : Mu} (E : Ent Z X mX11_length 0 0) {P : Option Value → Mu → Prop} (hB : BodS Z X P) 
    (k : P (some (.int ((μ 78 11) + (μ 78 12)))) μ) :
    JS Z X 46 [(0, .ref (Z.2.2.1 + 0))] [] μ := by
  refine J_aload_n E dX11_length_46 rfl ?_
  refine S_get (ci := 11) (q := 9) (v := .ref (Z.2.2.1 + 78)) E dX11_length_47 fs_X11_63 sh0 rfl ?_
  refine S_get (ci := 4) (q := 11) (v := .int (μ 78 11)) E dX11_length_50 fs_X11_220 sh78 rfl ?_
  refine J_aload_n E dX11_length_53 rfl ?_
  refine S_get (ci := 11) (q := 9) (v := .ref (Z.2.2.1 + 78)) E dX11_length_54 fs_X11_63 sh0 rfl ?_
  refine S_get (ci := 4) (q := 12) (v := .int (μ 78 12)) E dX11_length_57 fs_X11_223 sh78 rfl ?_
  refine J_iadd E dX11_length_60 ?_
  exact S_iret E hB dX11_length_61 rfl k
theorem bX11_length_62 {Z : ZT} {X : XT} {μ : Mu} {a2 : Int32} (E : Ent Z X mX11_length 0 0)  
    (kt : ¬ a2 = (nI 1) → JS Z X 93 [(0, .ref (Z.2.2.1 + 0))] [] μ) (kf : a2 = (nI 1) → JS Z X 67 [(0, .ref (Z.2.2.1 + 0))] [] μ) :
    JS Z X 62 [(0, .ref (Z.2.2.1 + 0)), (2, .int a2)] [] μ := by
  refine J_iload_n E dX11_length_62 rfl ?_
  refine J_iconst (v := nI 1) E dX11_length_63 rfl ?_
  refine J_icmp_ne (tgt := 93) E dX11_length_64 (by decide) (fun c => ?_) (fun c => ?_)
  · refine J.weak [0] rfl ?_
    exact kt c
  · refine J.weak [0] rfl ?_
    exact kf c
theorem bX11_length_67 {Z : ZT} {X : XT} {μ : Mu} (E : Ent Z X mX11_length 0 0) {P : Option Value → Mu → Prop} (hB : BodS Z X P) (s1_ : vp_in (nI 0) 5)
    (k : P (some (.int ((μ 78 11) + ((μ 78 4) * (μ (27 + 1) (ix (nI 0))))))) μ) :
    JS Z X 67 [(0, .ref (Z.2.2.1 + 0))] [] μ := by
  refine J_aload_n E dX11_length_67 rfl ?_
  refine S_get (ci := 11) (q := 9) (v := .ref (Z.2.2.1 + 78)) E dX11_length_68 fs_X11_63 sh0 rfl ?_
  refine S_get (ci := 4) (q := 11) (v := .int (μ 78 11)) E dX11_length_71 fs_X11_220 sh78 rfl ?_
  refine J_aload_n E dX11_length_74 rfl ?_
  refine S_get (ci := 11) (q := 9) (v := .ref (Z.2.2.1 + 78)) E dX11_length_75 fs_X11_63 sh0 rfl ?_
  refine S_get (ci := 4) (q := 4) (v := .int (μ 78 4)) E dX11_length_78 fs_X11_226 sh78 rfl ?_
  refine J_aload_n E dX11_length_81 rfl ?_
  refine S_get (ci := 11) (q := 2) (v := .ref (Z.2.2.1 + 27)) E dX11_length_82 fs_X11_22 sh0 rfl ?_
  refine S_get (ci := 6) (q := 0) (v := .ref (Z.2.2.1 + (27 + 1))) E dX11_length_85 fs_X11_229 sh27 rfl ?_
  refine J_iconst (v := nI 0) E dX11_length_88 rfl ?_
  refine S_iald E dX11_length_89 (shr_X6_0 sh27) s1_ ?_
  refine J_imul E dX11_length_90 ?_
  refine J_iadd E dX11_length_91 ?_
  exact S_iret E hB dX11_length_92 rfl k
theorem bX11_length_93 {Z : ZT} {X : XT} {μ : Mu} (E : Ent Z X mX11_length 0 0) {p : Mu → Prop} 
    (c : CtrS Z mX5_begin [.ref (Z.2.2.1 + 92)] μ (rV p)) (k : ∀ μ1, p μ1 → JS Z X 100 [(0, .ref (Z.2.2.1 + 0))] [] μ1) :
    JS Z X 93 [(0, .ref (Z.2.2.1 + 0))] [] μ := by
  refine J_aload_n E dX11_length_93 rfl ?_
  refine S_get (ci := 11) (q := 11) (v := .ref (Z.2.2.1 + 92)) E dX11_length_94 fs_X11_75 sh0 rfl ?_
  refine S_callV (As := []) (rest := []) E dX11_length_97 c kX5_begin ⟨Nat.le_of_ble_eq_true rfl, Nat.le_of_ble_eq_true rfl⟩ rfl (Nat.le_of_ble_eq_true rfl) sh92 rfl rfl w4_155 w4_156 w4_157 (fun r_ μ1 hp_ => ?_)
  obtain ⟨rfl, hp_⟩ := hp_
  exact k μ1 hp_
theorem bX11_length_100 {Z : ZT} {X : XT} {μ : Mu} (E : Ent Z X mX11_length 0 0) {p : Mu → Prop} 
    (c : CtrS Z mX5_ofLength [.ref (Z.2.2.1 + 92), .ref (Z.2.2.1 + 451), .ref (Z.2.2.1 + 78)] μ (rV p)) (k : ∀ μ1, p μ1 → JS Z X 115 [(0, .ref (Z.2.2.1 + 0))] [] μ1) :
    JS Z X 100 [(0, .ref (Z.2.2.1 + 0))] [] μ := by
  refine J_aload_n E dX11_length_100 rfl ?_
  refine S_get (ci := 11) (q := 11) (v := .ref (Z.2.2.1 + 92)) E dX11_length_101 fs_X11_75 sh0 rfl ?_
  refine J_aload_n E dX11_length_104 rfl ?_
  refine S_get (ci := 11) (q := 16) (v := .ref (Z.2.2.1 + 451)) E dX11_length_105 fs_X11_114 sh0 rfl ?_
  refine J_aload_n E dX11_length_108 rfl ?_
  refine S_get (ci := 11) (q := 9) (v := .ref (Z.2.2.1 + 78)) E dX11_length_109 fs_X11_63 sh0 rfl ?_
  refine S_callV (As := [.ref (Z.2.2.1 + 451), .ref (Z.2.2.1 + 78)]) (rest := []) E dX11_length_112 c kX5_ofLength ⟨Nat.le_of_ble_eq_true rfl, Nat.le_of_ble_eq_true rfl⟩ rfl (Nat.le_of_ble_eq_true rfl) sh92 rfl rfl w4_166 w4_167 w4_168 (fun r_ μ1 hp_ => ?_)
  obtain ⟨rfl, hp_⟩ := hp_
  exact k μ1 hp_
theorem bX11_length_115 {Z : ZT} {X : XT} {μ : Mu} (E : Ent Z X mX11_length 0 0) {p : Mu → Prop} 
    (c : CtrS Z mX2_set [.ref (Z.2.2.1 + 446), .ref (Z.2.2.1 + 451), .int (μ 92 2)] μ (rV p)) (k : ∀ μ1, p μ1 → JS Z X 133 [] [] μ1) :
    JS Z X 115 [(0, .ref (Z.2.2.1 + 0))] [] μ := by
  refine J_aload_n E dX11_length_115 rfl ?_
  refine S_get (ci := 11) (q := 15) (v := .ref (Z.2.2.1 + 446)) E dX11_length_116 fs_X11_107 sh0 rfl ?_
  refine J_aload_n E dX11_length_119 rfl ?_
  refine S_get (ci := 11) (q := 16) (v := .ref (Z.2.2.1 + 451)) E dX11_length_120 fs_X11_114 sh0 rfl ?_
  refine J_aload_n E dX11_length_123 rfl ?_
  refine S_get (ci := 11) (q := 11) (v := .ref (Z.2.2.1 + 92)) E dX11_length_124 fs_X11_75 sh0 rfl ?_
  refine S_get (ci := 5) (q := 2) (v := .int (μ 92 2)) E dX11_length_127 fs_X11_239 sh92 rfl ?_
  refine S_callV (As := [.ref (Z.2.2.1 + 451), .int (μ 92 2)]) (rest := []) E dX11_length_130 c kX2_set ⟨Nat.le_of_ble_eq_true rfl, Nat.le_of_ble_eq_true rfl⟩ rfl (Nat.le_of_ble_eq_true rfl) sh446 rfl rfl w4_122 w4_123 w4_124 (fun r_ μ1 hp_ => ?_)
  obtain ⟨rfl, hp_⟩ := hp_
  refine J.weak [] rfl ?_
  exact k μ1 hp_
theorem bX11_length_133 {Z : ZT} {X : XT} {μ : Mu} (E : Ent Z X mX11_length 0 0) {P : Option Value → Mu → Prop} (hB : BodS Z X P) 
    (k : P (some (.int (nI 1))) μ) :
    JS Z X 133 [] [] μ := by
  refine J_iconst (v := nI 1) E dX11_length_133 rfl ?_
  exact S_iret E hB dX11_length_134 rfl k
theorem dX11_ends_0 : decode cX11_ends 0 = .ok (.iload_n 1, 1) := by decide +kernel
theorem dX11_ends_1 : decode cX11_ends 1 = .ok (.iconst 2, 1) := by decide +kernel
theorem dX11_ends_2 : decode cX11_ends 2 = .ok (.invokestatic 198, 3) := by decide +kernel
theorem dX11_ends_5 : decode cX11_ends 5 = .ok (.ifCond .eq 19, 3) := by decide +kernel
theorem dX11_ends_8 : decode cX11_ends 8 = .ok (.iload_n 2, 1) := by decide +kernel
theorem dX11_ends_9 : decode cX11_ends 9 = .ok (.ifCond .lt 15, 3) := by decide +kernel
theorem dX11_ends_12 : decode cX11_ends 12 = .ok (.iload_n 3, 1) := by decide +kernel
theorem dX11_ends_13 : decode cX11_ends 13 = .ok (.iload_n 2, 1) := by decide +kernel
theorem dX11_ends_14 : decode cX11_ends 14 = .ok (.if_icmp .lt 10, 3) := by decide +kernel
theorem dX11_ends_17 : decode cX11_ends 17 = .ok (.iload_n 3, 1) := by decide +kernel
theorem dX11_ends_18 : decode cX11_ends 18 = .ok (.sipush 999, 3) := by decide +kernel
theorem dX11_ends_21 : decode cX11_ends 21 = .ok (.if_icmp .le 10, 3) := by decide +kernel
theorem dX11_ends_24 : decode cX11_ends 24 = .ok (.aload_n 0, 1) := by decide +kernel
theorem dX11_ends_25 : decode cX11_ends 25 = .ok (.bipush (-2), 2) := by decide +kernel
theorem dX11_ends_27 : decode cX11_ends 27 = .ok (.invokevirtual 125, 3) := by decide +kernel
theorem dX11_ends_30 : decode cX11_ends 30 = .ok (.ireturn, 1) := by decide +kernel
theorem dX11_ends_31 : decode cX11_ends 31 = .ok (.aload_n 0, 1) := by decide +kernel
theorem dX11_ends_32 : decode cX11_ends 32 = .ok (.aload_n 0, 1) := by decide +kernel
theorem dX11_ends_33 : decode cX11_ends 33 = .ok (.getfield 63, 3) := by decide +kernel
theorem dX11_ends_36 : decode cX11_ends 36 = .ok (.iload_n 1, 1) := by decide +kernel
theorem dX11_ends_37 : decode cX11_ends 37 = .ok (.invokevirtual 205, 3) := by decide +kernel
theorem dX11_ends_40 : decode cX11_ends 40 = .ok (.ifCond .ne 10, 3) := by decide +kernel
theorem dX11_ends_43 : decode cX11_ends 43 = .ok (.aload_n 0, 1) := by decide +kernel
theorem dX11_ends_44 : decode cX11_ends 44 = .ok (.bipush (-3), 2) := by decide +kernel
theorem dX11_ends_46 : decode cX11_ends 46 = .ok (.invokevirtual 125, 3) := by decide +kernel
theorem dX11_ends_49 : decode cX11_ends 49 = .ok (.ireturn, 1) := by decide +kernel
theorem dX11_ends_50 : decode cX11_ends 50 = .ok (.aload_n 0, 1) := by decide +kernel
theorem dX11_ends_51 : decode cX11_ends 51 = .ok (.getfield 82, 3) := by decide +kernel
theorem dX11_ends_54 : decode cX11_ends 54 = .ok (.aload_n 0, 1) := by decide +kernel
theorem dX11_ends_55 : decode cX11_ends 55 = .ok (.getfield 63, 3) := by decide +kernel
theorem dX11_ends_58 : decode cX11_ends 58 = .ok (.iconst (-1), 1) := by decide +kernel
theorem dX11_ends_59 : decode cX11_ends 59 = .ok (.aload_n 0, 1) := by decide +kernel
theorem dX11_ends_60 : decode cX11_ends 60 = .ok (.getfield 22, 3) := by decide +kernel
theorem dX11_ends_63 : decode cX11_ends 63 = .ok (.getfield 229, 3) := by decide +kernel
theorem dX11_ends_66 : decode cX11_ends 66 = .ok (.iconst 0, 1) := by decide +kernel
theorem dX11_ends_67 : decode cX11_ends 67 = .ok (.iaload, 1) := by decide +kernel
theorem dX11_ends_68 : decode cX11_ends 68 = .ok (.invokevirtual 242, 3) := by decide +kernel
theorem dX11_ends_71 : decode cX11_ends 71 = .ok (.aload_n 0, 1) := by decide +kernel
theorem dX11_ends_72 : decode cX11_ends 72 = .ok (.getfield 82, 3) := by decide +kernel
theorem dX11_ends_75 : decode cX11_ends 75 = .ok (.aload_n 0, 1) := by decide +kernel
theorem dX11_ends_76 : decode cX11_ends 76 = .ok (.getfield 114, 3) := by decide +kernel
theorem dX11_ends_79 : decode cX11_ends 79 = .ok (.iload_n 2, 1) := by decide +kernel
theorem dX11_ends_80 : decode cX11_ends 80 = .ok (.aload_n 0, 1) := by decide +kernel
theorem dX11_ends_81 : decode cX11_ends 81 = .ok (.getfield 63, 3) := by decide +kernel
theorem dX11_ends_84 : decode cX11_ends 84 = .ok (.getfield 220, 3) := by decide +kernel
theorem dX11_ends_87 : decode cX11_ends 87 = .ok (.isub, 1) := by decide +kernel
theorem dX11_ends_88 : decode cX11_ends 88 = .ok (.iload_n 3, 1) := by decide +kernel
theorem dX11_ends_89 : decode cX11_ends 89 = .ok (.aload_n 0, 1) := by decide +kernel
theorem dX11_ends_90 : decode cX11_ends 90 = .ok (.getfield 63, 3) := by decide +kernel
theorem dX11_ends_93 : decode cX11_ends 93 = .ok (.getfield 220, 3) := by decide +kernel
theorem dX11_ends_96 : decode cX11_ends 96 = .ok (.isub, 1) := by decide +kernel
theorem dX11_ends_97 : decode cX11_ends 97 = .ok (.invokevirtual 246, 3) := by decide +kernel
theorem dX11_ends_100 : decode cX11_ends 100 = .ok (.aload_n 0, 1) := by decide +kernel
theorem dX11_ends_101 : decode cX11_ends 101 = .ok (.getfield 107, 3) := by decide +kernel
theorem dX11_ends_104 : decode cX11_ends 104 = .ok (.aload_n 0, 1) := by decide +kernel
theorem dX11_ends_105 : decode cX11_ends 105 = .ok (.getfield 114, 3) := by decide +kernel
theorem dX11_ends_108 : decode cX11_ends 108 = .ok (.aload_n 0, 1) := by decide +kernel
theorem dX11_ends_109 : decode cX11_ends 109 = .ok (.getfield 82, 3) := by decide +kernel
theorem dX11_ends_112 : decode cX11_ends 112 = .ok (.getfield 250, 3) := by decide +kernel
theorem dX11_ends_115 : decode cX11_ends 115 = .ok (.invokevirtual 217, 3) := by decide +kernel
theorem dX11_ends_118 : decode cX11_ends 118 = .ok (.iconst 1, 1) := by decide +kernel
theorem dX11_ends_119 : decode cX11_ends 119 = .ok (.ireturn, 1) := by decide +kernel
theorem bX11_ends_0 {Z : ZT} {X : XT} {μ : Mu} {a1 : Int32} {a2 : Int32} {a3 : Int32} (E : Ent Z X mX11_ends 0 0) {p : Int32 → Mu → Prop} 
    (c : CtrS Z mX11_within [.int a1, .int (nI 2)] μ (rI p)) (k : ∀ v μ1, p v μ1 → JS Z X 5 [(0, .ref (Z.2.2.1 + 0)), (1, .int a1), (2, .int a2), (3, .int a3)] [.int v] μ1) :
    JS Z X 0 [(0, .ref (Z.2.2.1 + 0)), (1, .int a1), (2, .int a2), (3, .int a3)] [] μ := by
  refine J_iload_n E dX11_ends_0 rfl ?_
  refine J_iconst (v := nI 2) E dX11_ends_1 rfl ?_
  refine S_callS (As := [.int a1, .int (nI 2)]) (rest := []) E dX11_ends_2 c kX11_within ⟨Nat.le_of_ble_eq_true rfl, Nat.le_of_ble_eq_true rfl⟩ rfl (Nat.le_of_ble_eq_true rfl) w4_71 w3_46 (fun r_ μ1 hp_ => ?_)
  obtain ⟨v, rfl, hp_⟩ := hp_
  exact k v μ1 hp_
theorem bX11_ends_5 {Z : ZT} {X : XT} {μ : Mu} {a1 : Int32} {a2 : Int32} {a3 : Int32} {s0 : Int32} (E : Ent Z X mX11_ends 0 0)  
    (kt : s0 = 0 → JS Z X 24 [(0, .ref (Z.2.2.1 + 0))] [] μ) (kf : ¬ (s0 = 0) → JS Z X 8 [(0, .ref (Z.2.2.1 + 0)), (1, .int a1), (2, .int a2), (3, .int a3)] [] μ) :
    JS Z X 5 [(0, .ref (Z.2.2.1 + 0)), (1, .int a1), (2, .int a2), (3, .int a3)] [.int s0] μ := by
  refine J_if_eq (tgt := 24) E dX11_ends_5 (by decide) (fun c => ?_) (fun c => ?_)
  · refine J.weak [0] rfl ?_
    exact kt c
  · exact kf c
theorem bX11_ends_8 {Z : ZT} {X : XT} {μ : Mu} {a1 : Int32} {a2 : Int32} {a3 : Int32} (E : Ent Z X mX11_ends 0 0)  
    (kt : a2 < 0 → JS Z X 24 [(0, .ref (Z.2.2.1 + 0))] [] μ) (kf : ¬ (a2 < 0) → JS Z X 12 [(0, .ref (Z.2.2.1 + 0)), (1, .int a1), (2, .int a2), (3, .int a3)] [] μ) :
    JS Z X 8 [(0, .ref (Z.2.2.1 + 0)), (1, .int a1), (2, .int a2), (3, .int a3)] [] μ := by
  refine J_iload_n E dX11_ends_8 rfl ?_
  refine J_if_lt (tgt := 24) E dX11_ends_9 (by decide) (fun c => ?_) (fun c => ?_)
  · refine J.weak [0] rfl ?_
    exact kt c
  · exact kf c
theorem bX11_ends_12 {Z : ZT} {X : XT} {μ : Mu} {a1 : Int32} {a2 : Int32} {a3 : Int32} (E : Ent Z X mX11_ends 0 0)  
    (kt : a3 < a2 → JS Z X 24 [(0, .ref (Z.2.2.1 + 0))] [] μ) (kf : ¬ (a3 < a2) → JS Z X 17 [(0, .ref (Z.2.2.1 + 0)), (1, .int a1), (2, .int a2), (3, .int a3)] [] μ) :
    JS Z X 12 [(0, .ref (Z.2.2.1 + 0)), (1, .int a1), (2, .int a2), (3, .int a3)] [] μ := by
  refine J_iload_n E dX11_ends_12 rfl ?_
  refine J_iload_n E dX11_ends_13 rfl ?_
  refine J_icmp_lt (tgt := 24) E dX11_ends_14 (by decide) (fun c => ?_) (fun c => ?_)
  · refine J.weak [0] rfl ?_
    exact kt c
  · exact kf c
theorem bX11_ends_17 {Z : ZT} {X : XT} {μ : Mu} {a1 : Int32} {a2 : Int32} {a3 : Int32} (E : Ent Z X mX11_ends 0 0)  
    (kt : a3 ≤ (nI 999) → JS Z X 31 [(0, .ref (Z.2.2.1 + 0)), (1, .int a1), (2, .int a2), (3, .int a3)] [] μ) (kf : ¬ (a3 ≤ (nI 999)) → JS Z X 24 [(0, .ref (Z.2.2.1 + 0))] [] μ) :
    JS Z X 17 [(0, .ref (Z.2.2.1 + 0)), (1, .int a1), (2, .int a2), (3, .int a3)] [] μ := by
  refine J_iload_n E dX11_ends_17 rfl ?_
  refine J_sipush (v := nI 999) E dX11_ends_18 rfl ?_
  refine J_icmp_le (tgt := 31) E dX11_ends_21 (by decide) (fun c => ?_) (fun c => ?_)
  · exact kt c
  · refine J.weak [0] rfl ?_
    exact kf c
theorem bX11_ends_24 {Z : ZT} {X : XT} {μ : Mu} (E : Ent Z X mX11_ends 0 0) {p : Int32 → Mu → Prop} 
    (c : CtrS Z mX11_counted [.ref (Z.2.2.1 + 0), .int (-2)] μ (rI p)) (k : ∀ v μ1, p v μ1 → JS Z X 30 [] [.int v] μ1) :
    JS Z X 24 [(0, .ref (Z.2.2.1 + 0))] [] μ := by
  refine J_aload_n E dX11_ends_24 rfl ?_
  refine J_bipush (v := -2) E dX11_ends_25 rfl ?_
  refine S_callV (As := [.int (-2)]) (rest := []) E dX11_ends_27 c kX11_counted ⟨Nat.le_of_ble_eq_true rfl, Nat.le_of_ble_eq_true rfl⟩ rfl (Nat.le_of_ble_eq_true rfl) sh0 rfl rfl w3_25 w3_27 wp_1 (fun r_ μ1 hp_ => ?_)
  obtain ⟨v, rfl, hp_⟩ := hp_
  refine J.weak [] rfl ?_
  exact k v μ1 hp_
theorem bX11_ends_30 {Z : ZT} {X : XT} {μ : Mu} {s0 : Int32} (E : Ent Z X mX11_ends 0 0) {P : Option Value → Mu → Prop} (hB : BodS Z X P) 
    (k : P (some (.int s0)) μ) :
    JS Z X 30 [] [.int s0] μ := by
  exact S_iret E hB dX11_ends_30 rfl k
theorem bX11_ends_31 {Z : ZT} {X : XT} {μ : Mu} {a1 : Int32} {a2 : Int32} {a3 : Int32} (E : Ent Z X mX11_ends 0 0) {p : Int32 → Mu → Prop} 
    (c : CtrS Z mX11_canHunt [.ref (Z.2.2.1 + 0), .ref (Z.2.2.1 + 78), .int a1] μ (rI p)) (k : ∀ v μ1, p v μ1 → JS Z X 40 [(0, .ref (Z.2.2.1 + 0)), (2, .int a2), (3, .int a3)] [.int v] μ1) :
    JS Z X 31 [(0, .ref (Z.2.2.1 + 0)), (1, .int a1), (2, .int a2), (3, .int a3)] [] μ := by
  refine J_aload_n E dX11_ends_31 rfl ?_
  refine J_aload_n E dX11_ends_32 rfl ?_
  refine S_get (ci := 11) (q := 9) (v := .ref (Z.2.2.1 + 78)) E dX11_ends_33 fs_X11_63 sh0 rfl ?_
  refine J_iload_n E dX11_ends_36 rfl ?_
  refine S_callV (As := [.ref (Z.2.2.1 + 78), .int a1]) (rest := []) E dX11_ends_37 c kX11_canHunt ⟨Nat.le_of_ble_eq_true rfl, Nat.le_of_ble_eq_true rfl⟩ rfl (Nat.le_of_ble_eq_true rfl) sh0 rfl rfl w4_72 w4_74 wp_12 (fun r_ μ1 hp_ => ?_)
  obtain ⟨v, rfl, hp_⟩ := hp_
  refine J.weak [0, 2, 3] rfl ?_
  exact k v μ1 hp_
theorem bX11_ends_40 {Z : ZT} {X : XT} {μ : Mu} {a2 : Int32} {a3 : Int32} {s0 : Int32} (E : Ent Z X mX11_ends 0 0)  
    (kt : ¬ s0 = 0 → JS Z X 50 [(0, .ref (Z.2.2.1 + 0)), (2, .int a2), (3, .int a3)] [] μ) (kf : s0 = 0 → JS Z X 43 [(0, .ref (Z.2.2.1 + 0))] [] μ) :
    JS Z X 40 [(0, .ref (Z.2.2.1 + 0)), (2, .int a2), (3, .int a3)] [.int s0] μ := by
  refine J_if_ne (tgt := 50) E dX11_ends_40 (by decide) (fun c => ?_) (fun c => ?_)
  · exact kt c
  · refine J.weak [0] rfl ?_
    exact kf c
theorem bX11_ends_43 {Z : ZT} {X : XT} {μ : Mu} (E : Ent Z X mX11_ends 0 0) {p : Int32 → Mu → Prop} 
    (c : CtrS Z mX11_counted [.ref (Z.2.2.1 + 0), .int (-3)] μ (rI p)) (k : ∀ v μ1, p v μ1 → JS Z X 49 [] [.int v] μ1) :
    JS Z X 43 [(0, .ref (Z.2.2.1 + 0))] [] μ := by
  refine J_aload_n E dX11_ends_43 rfl ?_
  refine J_bipush (v := -3) E dX11_ends_44 rfl ?_
  refine S_callV (As := [.int (-3)]) (rest := []) E dX11_ends_46 c kX11_counted ⟨Nat.le_of_ble_eq_true rfl, Nat.le_of_ble_eq_true rfl⟩ rfl (Nat.le_of_ble_eq_true rfl) sh0 rfl rfl w3_25 w3_27 wp_1 (fun r_ μ1 hp_ => ?_)
  obtain ⟨v, rfl, hp_⟩ := hp_
  refine J.weak [] rfl ?_
  exact k v μ1 hp_
theorem bX11_ends_49 {Z : ZT} {X : XT} {μ : Mu} {s0 : Int32} (E : Ent Z X mX11_ends 0 0) {P : Option Value → Mu → Prop} (hB : BodS Z X P) 
    (k : P (some (.int s0)) μ) :
    JS Z X 49 [] [.int s0] μ := by
  exact S_iret E hB dX11_ends_49 rfl k
theorem bX11_ends_50 {Z : ZT} {X : XT} {μ : Mu} {a2 : Int32} {a3 : Int32} (E : Ent Z X mX11_ends 0 0) {p : Mu → Prop} (s1_ : vp_in (nI 0) 5)
    (c : CtrS Z mX8_ofHunt [.ref (Z.2.2.1 + 105), .ref (Z.2.2.1 + 78), .int (-1), .int (μ (27 + 1) (ix (nI 0)))] μ (rV p)) (k : ∀ μ1, p μ1 → JS Z X 71 [(0, .ref (Z.2.2.1 + 0)), (2, .int a2), (3, .int a3)] [] μ1) :
    JS Z X 50 [(0, .ref (Z.2.2.1 + 0)), (2, .int a2), (3, .int a3)] [] μ := by
  refine J_aload_n E dX11_ends_50 rfl ?_
  refine S_get (ci := 11) (q := 12) (v := .ref (Z.2.2.1 + 105)) E dX11_ends_51 fs_X11_82 sh0 rfl ?_
  refine J_aload_n E dX11_ends_54 rfl ?_
  refine S_get (ci := 11) (q := 9) (v := .ref (Z.2.2.1 + 78)) E dX11_ends_55 fs_X11_63 sh0 rfl ?_
  refine J_iconst (v := -1) E dX11_ends_58 rfl ?_
  refine J_aload_n E dX11_ends_59 rfl ?_
  refine S_get (ci := 11) (q := 2) (v := .ref (Z.2.2.1 + 27)) E dX11_ends_60 fs_X11_22 sh0 rfl ?_
  refine S_get (ci := 6) (q := 0) (v := .ref (Z.2.2.1 + (27 + 1))) E dX11_ends_63 fs_X11_229 sh27 rfl ?_
  refine J_iconst (v := nI 0) E dX11_ends_66 rfl ?_
  refine S_iald E dX11_ends_67 (shr_X6_0 sh27) s1_ ?_
  refine S_callV (As := [.ref (Z.2.2.1 + 78), .int (-1), .int (μ (27 + 1) (ix (nI 0)))]) (rest := []) E dX11_ends_68 c kX8_ofHunt ⟨Nat.le_of_ble_eq_true rfl, Nat.le_of_ble_eq_true rfl⟩ rfl (Nat.le_of_ble_eq_true rfl) sh105 rfl rfl w4_182 w4_183 w4_184 (fun r_ μ1 hp_ => ?_)
  obtain ⟨rfl, hp_⟩ := hp_
  exact k μ1 hp_
theorem bX11_ends_71 {Z : ZT} {X : XT} {μ : Mu} {a2 : Int32} {a3 : Int32} (E : Ent Z X mX11_ends 0 0) {p : Mu → Prop} 
    (c : CtrS Z mX8_gather [.ref (Z.2.2.1 + 105), .ref (Z.2.2.1 + 451), .int (a2 - (μ 78 11)), .int (a3 - (μ 78 11))] μ (rV p)) (k : ∀ μ1, p μ1 → JS Z X 100 [(0, .ref (Z.2.2.1 + 0))] [] μ1) :
    JS Z X 71 [(0, .ref (Z.2.2.1 + 0)), (2, .int a2), (3, .int a3)] [] μ := by
  refine J_aload_n E dX11_ends_71 rfl ?_
  refine S_get (ci := 11) (q := 12) (v := .ref (Z.2.2.1 + 105)) E dX11_ends_72 fs_X11_82 sh0 rfl ?_
  refine J_aload_n E dX11_ends_75 rfl ?_
  refine S_get (ci := 11) (q := 16) (v := .ref (Z.2.2.1 + 451)) E dX11_ends_76 fs_X11_114 sh0 rfl ?_
  refine J_iload_n E dX11_ends_79 rfl ?_
  refine J_aload_n E dX11_ends_80 rfl ?_
  refine S_get (ci := 11) (q := 9) (v := .ref (Z.2.2.1 + 78)) E dX11_ends_81 fs_X11_63 sh0 rfl ?_
  refine S_get (ci := 4) (q := 11) (v := .int (μ 78 11)) E dX11_ends_84 fs_X11_220 sh78 rfl ?_
  refine J_isub E dX11_ends_87 ?_
  refine J_iload_n E dX11_ends_88 rfl ?_
  refine J_aload_n E dX11_ends_89 rfl ?_
  refine S_get (ci := 11) (q := 9) (v := .ref (Z.2.2.1 + 78)) E dX11_ends_90 fs_X11_63 sh0 rfl ?_
  refine S_get (ci := 4) (q := 11) (v := .int (μ 78 11)) E dX11_ends_93 fs_X11_220 sh78 rfl ?_
  refine J_isub E dX11_ends_96 ?_
  refine S_callV (As := [.ref (Z.2.2.1 + 451), .int (a2 - (μ 78 11)), .int (a3 - (μ 78 11))]) (rest := []) E dX11_ends_97 c kX8_gather ⟨Nat.le_of_ble_eq_true rfl, Nat.le_of_ble_eq_true rfl⟩ rfl (Nat.le_of_ble_eq_true rfl) sh105 rfl rfl w4_202 w4_203 w4_204 (fun r_ μ1 hp_ => ?_)
  obtain ⟨rfl, hp_⟩ := hp_
  refine J.weak [0] rfl ?_
  exact k μ1 hp_
theorem bX11_ends_100 {Z : ZT} {X : XT} {μ : Mu} (E : Ent Z X mX11_ends 0 0) {p : Mu → Prop} 
    (c : CtrS Z mX2_set [.ref (Z.2.2.1 + 446), .ref (Z.2.2.1 + 451), .int (μ 105 0)] μ (rV p)) (k : ∀ μ1, p μ1 → JS Z X 118 [] [] μ1) :
    JS Z X 100 [(0, .ref (Z.2.2.1 + 0))] [] μ := by
  refine J_aload_n E dX11_ends_100 rfl ?_
  refine S_get (ci := 11) (q := 15) (v := .ref (Z.2.2.1 + 446)) E dX11_ends_101 fs_X11_107 sh0 rfl ?_
  refine J_aload_n E dX11_ends_104 rfl ?_
  refine S_get (ci := 11) (q := 16) (v := .ref (Z.2.2.1 + 451)) E dX11_ends_105 fs_X11_114 sh0 rfl ?_
  refine J_aload_n E dX11_ends_108 rfl ?_
  refine S_get (ci := 11) (q := 12) (v := .ref (Z.2.2.1 + 105)) E dX11_ends_109 fs_X11_82 sh0 rfl ?_
  refine S_get (ci := 8) (q := 0) (v := .int (μ 105 0)) E dX11_ends_112 fs_X11_250 sh105 rfl ?_
  refine S_callV (As := [.ref (Z.2.2.1 + 451), .int (μ 105 0)]) (rest := []) E dX11_ends_115 c kX2_set ⟨Nat.le_of_ble_eq_true rfl, Nat.le_of_ble_eq_true rfl⟩ rfl (Nat.le_of_ble_eq_true rfl) sh446 rfl rfl w4_122 w4_123 w4_124 (fun r_ μ1 hp_ => ?_)
  obtain ⟨rfl, hp_⟩ := hp_
  refine J.weak [] rfl ?_
  exact k μ1 hp_
theorem bX11_ends_118 {Z : ZT} {X : XT} {μ : Mu} (E : Ent Z X mX11_ends 0 0) {P : Option Value → Mu → Prop} (hB : BodS Z X P) 
    (k : P (some (.int (nI 1))) μ) :
    JS Z X 118 [] [] μ := by
  refine J_iconst (v := nI 1) E dX11_ends_118 rfl ?_
  exact S_iret E hB dX11_ends_119 rfl k
theorem dX11_guessed_0 : decode cX11_guessed 0 = .ok (.iload_n 1, 1) := by decide +kernel
theorem dX11_guessed_1 : decode cX11_guessed 1 = .ok (.aload_n 0, 1) := by decide +kernel
theorem dX11_guessed_2 : decode cX11_guessed 2 = .ok (.getfield 10, 3) := by decide +kernel
theorem dX11_guessed_5 : decode cX11_guessed 5 = .ok (.getfield 251, 3) := by decide +kernel
theorem dX11_guessed_8 : decode cX11_guessed 8 = .ok (.invokestatic 198, 3) := by decide +kernel
theorem dX11_guessed_11 : decode cX11_guessed 11 = .ok (.ifCond .ne 10, 3) := by decide +kernel
theorem dX11_guessed_14 : decode cX11_guessed 14 = .ok (.aload_n 0, 1) := by decide +kernel
theorem dX11_guessed_15 : decode cX11_guessed 15 = .ok (.bipush (-2), 2) := by decide +kernel
theorem dX11_guessed_17 : decode cX11_guessed 17 = .ok (.invokevirtual 125, 3) := by decide +kernel
theorem dX11_guessed_20 : decode cX11_guessed 20 = .ok (.ireturn, 1) := by decide +kernel
theorem dX11_guessed_21 : decode cX11_guessed 21 = .ok (.aload_n 0, 1) := by decide +kernel
theorem dX11_guessed_22 : decode cX11_guessed 22 = .ok (.getfield 10, 3) := by decide +kernel
theorem dX11_guessed_25 : decode cX11_guessed 25 = .ok (.getfield 254, 3) := by decide +kernel
theorem dX11_guessed_28 : decode cX11_guessed 28 = .ok (.iload_n 1, 1) := by decide +kernel
theorem dX11_guessed_29 : decode cX11_guessed 29 = .ok (.iaload, 1) := by decide +kernel
theorem dX11_guessed_30 : decode cX11_guessed 30 = .ok (.istore_n 2, 1) := by decide +kernel
theorem dX11_guessed_31 : decode cX11_guessed 31 = .ok (.iload_n 2, 1) := by decide +kernel
theorem dX11_guessed_32 : decode cX11_guessed 32 = .ok (.iconst (-1), 1) := by decide +kernel
theorem dX11_guessed_33 : decode cX11_guessed 33 = .ok (.if_icmp .eq 15, 3) := by decide +kernel
theorem dX11_guessed_36 : decode cX11_guessed 36 = .ok (.aload_n 0, 1) := by decide +kernel
theorem dX11_guessed_37 : decode cX11_guessed 37 = .ok (.aload_n 0, 1) := by decide +kernel
theorem dX11_guessed_38 : decode cX11_guessed 38 = .ok (.getfield 63, 3) := by decide +kernel
theorem dX11_guessed_41 : decode cX11_guessed 41 = .ok (.iload_n 2, 1) := by decide +kernel
theorem dX11_guessed_42 : decode cX11_guessed 42 = .ok (.invokevirtual 205, 3) := by decide +kernel
theorem dX11_guessed_45 : decode cX11_guessed 45 = .ok (.ifCond .ne 10, 3) := by decide +kernel
theorem dX11_guessed_48 : decode cX11_guessed 48 = .ok (.aload_n 0, 1) := by decide +kernel
theorem dX11_guessed_49 : decode cX11_guessed 49 = .ok (.bipush (-3), 2) := by decide +kernel
theorem dX11_guessed_51 : decode cX11_guessed 51 = .ok (.invokevirtual 125, 3) := by decide +kernel
theorem dX11_guessed_54 : decode cX11_guessed 54 = .ok (.ireturn, 1) := by decide +kernel
theorem dX11_guessed_55 : decode cX11_guessed 55 = .ok (.aload_n 0, 1) := by decide +kernel
theorem dX11_guessed_56 : decode cX11_guessed 56 = .ok (.getfield 75, 3) := by decide +kernel
theorem dX11_guessed_59 : decode cX11_guessed 59 = .ok (.invokevirtual 232, 3) := by decide +kernel
theorem dX11_guessed_62 : decode cX11_guessed 62 = .ok (.aload_n 0, 1) := by decide +kernel
theorem dX11_guessed_63 : decode cX11_guessed 63 = .ok (.getfield 75, 3) := by decide +kernel
theorem dX11_guessed_66 : decode cX11_guessed 66 = .ok (.aload_n 0, 1) := by decide +kernel
theorem dX11_guessed_67 : decode cX11_guessed 67 = .ok (.getfield 114, 3) := by decide +kernel
theorem dX11_guessed_70 : decode cX11_guessed 70 = .ok (.aload_n 0, 1) := by decide +kernel
theorem dX11_guessed_71 : decode cX11_guessed 71 = .ok (.getfield 63, 3) := by decide +kernel
theorem dX11_guessed_74 : decode cX11_guessed 74 = .ok (.iload_n 1, 1) := by decide +kernel
theorem dX11_guessed_75 : decode cX11_guessed 75 = .ok (.invokevirtual 257, 3) := by decide +kernel
theorem dX11_guessed_78 : decode cX11_guessed 78 = .ok (.aload_n 0, 1) := by decide +kernel
theorem dX11_guessed_79 : decode cX11_guessed 79 = .ok (.getfield 107, 3) := by decide +kernel
theorem dX11_guessed_82 : decode cX11_guessed 82 = .ok (.aload_n 0, 1) := by decide +kernel
theorem dX11_guessed_83 : decode cX11_guessed 83 = .ok (.getfield 114, 3) := by decide +kernel
theorem dX11_guessed_86 : decode cX11_guessed 86 = .ok (.aload_n 0, 1) := by decide +kernel
theorem dX11_guessed_87 : decode cX11_guessed 87 = .ok (.getfield 75, 3) := by decide +kernel
theorem dX11_guessed_90 : decode cX11_guessed 90 = .ok (.getfield 239, 3) := by decide +kernel
theorem dX11_guessed_93 : decode cX11_guessed 93 = .ok (.bipush 6, 2) := by decide +kernel
theorem dX11_guessed_95 : decode cX11_guessed 95 = .ok (.iadd, 1) := by decide +kernel
theorem dX11_guessed_96 : decode cX11_guessed 96 = .ok (.invokevirtual 217, 3) := by decide +kernel
theorem dX11_guessed_99 : decode cX11_guessed 99 = .ok (.iconst 1, 1) := by decide +kernel
theorem dX11_guessed_100 : decode cX11_guessed 100 = .ok (.ireturn, 1) := by decide +kernel
theorem bX11_guessed_0 {Z : ZT} {X : XT} {μ : Mu} {a1 : Int32} (E : Ent Z X mX11_guessed 0 0) {p : Int32 → Mu → Prop} 
    (c : CtrS Z mX11_within [.int a1, .int (μ 1 3)] μ (rI p)) (k : ∀ v μ1, p v μ1 → JS Z X 11 [(0, .ref (Z.2.2.1 + 0)), (1, .int a1)] [.int v] μ1) :
    JS Z X 0 [(0, .ref (Z.2.2.1 + 0)), (1, .int a1)] [] μ := by
  refine J_iload_n E dX11_guessed_0 rfl ?_
  refine J_aload_n E dX11_guessed_1 rfl ?_
  refine S_get (ci := 11) (q := 0) (v := .ref (Z.2.2.1 + 1)) E dX11_guessed_2 fs_X11_10 sh0 rfl ?_
  refine S_get (ci := 3) (q := 3) (v := .int (μ 1 3)) E dX11_guessed_5 fs_X11_251 sh1 rfl ?_
  refine S_callS (As := [.int a1, .int (μ 1 3)]) (rest := []) E dX11_guessed_8 c kX11_within ⟨Nat.le_of_ble_eq_true rfl, Nat.le_of_ble_eq_true rfl⟩ rfl (Nat.le_of_ble_eq_true rfl) w4_71 w3_46 (fun r_ μ1 hp_ => ?_)
  obtain ⟨v, rfl, hp_⟩ := hp_
  exact k v μ1 hp_
theorem bX11_guessed_11 {Z : ZT} {X : XT} {μ : Mu} {a1 : Int32} {s0 : Int32} (E : Ent Z X mX11_guessed 0 0)  
    (kt : ¬ s0 = 0 → JS Z X 21 [(0, .ref (Z.2.2.1 + 0)), (1, .int a1)] [] μ) (kf : s0 = 0 → JS Z X 14 [(0, .ref (Z.2.2.1 + 0))] [] μ) :
    JS Z X 11 [(0, .ref (Z.2.2.1 + 0)), (1, .int a1)] [.int s0] μ := by
  refine J_if_ne (tgt := 21) E dX11_guessed_11 (by decide) (fun c => ?_) (fun c => ?_)
  · exact kt c
  · refine J.weak [0] rfl ?_
    exact kf c
theorem bX11_guessed_14 {Z : ZT} {X : XT} {μ : Mu} (E : Ent Z X mX11_guessed 0 0) {p : Int32 → Mu → Prop} 
    (c : CtrS Z mX11_counted [.ref (Z.2.2.1 + 0), .int (-2)] μ (rI p)) (k : ∀ v μ1, p v μ1 → JS Z X 20 [] [.int v] μ1) :
    JS Z X 14 [(0, .ref (Z.2.2.1 + 0))] [] μ := by
  refine J_aload_n E dX11_guessed_14 rfl ?_
  refine J_bipush (v := -2) E dX11_guessed_15 rfl ?_
  refine S_callV (As := [.int (-2)]) (rest := []) E dX11_guessed_17 c kX11_counted ⟨Nat.le_of_ble_eq_true rfl, Nat.le_of_ble_eq_true rfl⟩ rfl (Nat.le_of_ble_eq_true rfl) sh0 rfl rfl w3_25 w3_27 wp_1 (fun r_ μ1 hp_ => ?_)
  obtain ⟨v, rfl, hp_⟩ := hp_
  refine J.weak [] rfl ?_
  exact k v μ1 hp_
theorem bX11_guessed_20 {Z : ZT} {X : XT} {μ : Mu} {s0 : Int32} (E : Ent Z X mX11_guessed 0 0) {P : Option Value → Mu → Prop} (hB : BodS Z X P) 
    (k : P (some (.int s0)) μ) :
    JS Z X 20 [] [.int s0] μ := by
  exact S_iret E hB dX11_guessed_20 rfl k
theorem bX11_guessed_21 {Z : ZT} {X : XT} {μ : Mu} {a1 : Int32} (E : Ent Z X mX11_guessed 0 0)  (s1_ : vp_in a1 6)
    (kt : (μ (1 + 6) (ix a1)) = (-1) → JS Z X 48 [(0, .ref (Z.2.2.1 + 0))] [] μ) (kf : ¬ ((μ (1 + 6) (ix a1)) = (-1)) → JS Z X 36 [(0, .ref (Z.2.2.1 + 0)), (1, .int a1), (2, .int (μ (1 + 6) (ix a1)))] [] μ) :
    JS Z X 21 [(0, .ref (Z.2.2.1 + 0)), (1, .int a1)] [] μ := by
  refine J_aload_n E dX11_guessed_21 rfl ?_
  refine S_get (ci := 11) (q := 0) (v := .ref (Z.2.2.1 + 1)) E dX11_guessed_22 fs_X11_10 sh0 rfl ?_
  refine S_get (ci := 3) (q := 7) (v := .ref (Z.2.2.1 + (1 + 6))) E dX11_guessed_25 fs_X11_254 sh1 rfl ?_
  refine J_iload_n E dX11_guessed_28 rfl ?_
  refine S_iald E dX11_guessed_29 (shr_X3_7 sh1) s1_ ?_
  refine J_istore_n (lv' := [(0, .ref (Z.2.2.1 + 0)), (1, .int a1), (2, .int (μ (1 + 6) (ix a1)))]) E dX11_guessed_30 (Nat.le_of_ble_eq_true rfl) rfl ?_
  refine J_iload_n E dX11_guessed_31 rfl ?_
  refine J_iconst (v := -1) E dX11_guessed_32 rfl ?_
  refine J_icmp_eq (tgt := 48) E dX11_guessed_33 (by decide) (fun c => ?_) (fun c => ?_)
  · refine J.weak [0] rfl ?_
    exact kt c
  · exact kf c
theorem bX11_guessed_36 {Z : ZT} {X : XT} {μ : Mu} {a1 : Int32} {a2 : Int32} (E : Ent Z X mX11_guessed 0 0) {p : Int32 → Mu → Prop} 
    (c : CtrS Z mX11_canHunt [.ref (Z.2.2.1 + 0), .ref (Z.2.2.1 + 78), .int a2] μ (rI p)) (k : ∀ v μ1, p v μ1 → JS Z X 45 [(0, .ref (Z.2.2.1 + 0)), (1, .int a1)] [.int v] μ1) :
    JS Z X 36 [(0, .ref (Z.2.2.1 + 0)), (1, .int a1), (2, .int a2)] [] μ := by
  refine J_aload_n E dX11_guessed_36 rfl ?_
  refine J_aload_n E dX11_guessed_37 rfl ?_
  refine S_get (ci := 11) (q := 9) (v := .ref (Z.2.2.1 + 78)) E dX11_guessed_38 fs_X11_63 sh0 rfl ?_
  refine J_iload_n E dX11_guessed_41 rfl ?_
  refine S_callV (As := [.ref (Z.2.2.1 + 78), .int a2]) (rest := []) E dX11_guessed_42 c kX11_canHunt ⟨Nat.le_of_ble_eq_true rfl, Nat.le_of_ble_eq_true rfl⟩ rfl (Nat.le_of_ble_eq_true rfl) sh0 rfl rfl w4_72 w4_74 wp_12 (fun r_ μ1 hp_ => ?_)
  obtain ⟨v, rfl, hp_⟩ := hp_
  refine J.weak [0, 1] rfl ?_
  exact k v μ1 hp_
theorem bX11_guessed_45 {Z : ZT} {X : XT} {μ : Mu} {a1 : Int32} {s0 : Int32} (E : Ent Z X mX11_guessed 0 0)  
    (kt : ¬ s0 = 0 → JS Z X 55 [(0, .ref (Z.2.2.1 + 0)), (1, .int a1)] [] μ) (kf : s0 = 0 → JS Z X 48 [(0, .ref (Z.2.2.1 + 0))] [] μ) :
    JS Z X 45 [(0, .ref (Z.2.2.1 + 0)), (1, .int a1)] [.int s0] μ := by
  refine J_if_ne (tgt := 55) E dX11_guessed_45 (by decide) (fun c => ?_) (fun c => ?_)
  · exact kt c
  · refine J.weak [0] rfl ?_
    exact kf c
theorem bX11_guessed_48 {Z : ZT} {X : XT} {μ : Mu} (E : Ent Z X mX11_guessed 0 0) {p : Int32 → Mu → Prop} 
    (c : CtrS Z mX11_counted [.ref (Z.2.2.1 + 0), .int (-3)] μ (rI p)) (k : ∀ v μ1, p v μ1 → JS Z X 54 [] [.int v] μ1) :
    JS Z X 48 [(0, .ref (Z.2.2.1 + 0))] [] μ := by
  refine J_aload_n E dX11_guessed_48 rfl ?_
  refine J_bipush (v := -3) E dX11_guessed_49 rfl ?_
  refine S_callV (As := [.int (-3)]) (rest := []) E dX11_guessed_51 c kX11_counted ⟨Nat.le_of_ble_eq_true rfl, Nat.le_of_ble_eq_true rfl⟩ rfl (Nat.le_of_ble_eq_true rfl) sh0 rfl rfl w3_25 w3_27 wp_1 (fun r_ μ1 hp_ => ?_)
  obtain ⟨v, rfl, hp_⟩ := hp_
  refine J.weak [] rfl ?_
  exact k v μ1 hp_
theorem bX11_guessed_54 {Z : ZT} {X : XT} {μ : Mu} {s0 : Int32} (E : Ent Z X mX11_guessed 0 0) {P : Option Value → Mu → Prop} (hB : BodS Z X P) 
    (k : P (some (.int s0)) μ) :
    JS Z X 54 [] [.int s0] μ := by
  exact S_iret E hB dX11_guessed_54 rfl k
theorem bX11_guessed_55 {Z : ZT} {X : XT} {μ : Mu} {a1 : Int32} (E : Ent Z X mX11_guessed 0 0) {p : Mu → Prop} 
    (c : CtrS Z mX5_begin [.ref (Z.2.2.1 + 92)] μ (rV p)) (k : ∀ μ1, p μ1 → JS Z X 62 [(0, .ref (Z.2.2.1 + 0)), (1, .int a1)] [] μ1) :
    JS Z X 55 [(0, .ref (Z.2.2.1 + 0)), (1, .int a1)] [] μ := by
  refine J_aload_n E dX11_guessed_55 rfl ?_
  refine S_get (ci := 11) (q := 11) (v := .ref (Z.2.2.1 + 92)) E dX11_guessed_56 fs_X11_75 sh0 rfl ?_
  refine S_callV (As := []) (rest := []) E dX11_guessed_59 c kX5_begin ⟨Nat.le_of_ble_eq_true rfl, Nat.le_of_ble_eq_true rfl⟩ rfl (Nat.le_of_ble_eq_true rfl) sh92 rfl rfl w4_155 w4_156 w4_157 (fun r_ μ1 hp_ => ?_)
  obtain ⟨rfl, hp_⟩ := hp_
  exact k μ1 hp_
theorem bX11_guessed_62 {Z : ZT} {X : XT} {μ : Mu} {a1 : Int32} (E : Ent Z X mX11_guessed 0 0) {p : Mu → Prop} 
    (c : CtrS Z mX5_ofGuessed [.ref (Z.2.2.1 + 92), .ref (Z.2.2.1 + 451), .ref (Z.2.2.1 + 78), .int a1] μ (rV p)) (k : ∀ μ1, p μ1 → JS Z X 78 [(0, .ref (Z.2.2.1 + 0))] [] μ1) :
    JS Z X 62 [(0, .ref (Z.2.2.1 + 0)), (1, .int a1)] [] μ := by
  refine J_aload_n E dX11_guessed_62 rfl ?_
  refine S_get (ci := 11) (q := 11) (v := .ref (Z.2.2.1 + 92)) E dX11_guessed_63 fs_X11_75 sh0 rfl ?_
  refine J_aload_n E dX11_guessed_66 rfl ?_
  refine S_get (ci := 11) (q := 16) (v := .ref (Z.2.2.1 + 451)) E dX11_guessed_67 fs_X11_114 sh0 rfl ?_
  refine J_aload_n E dX11_guessed_70 rfl ?_
  refine S_get (ci := 11) (q := 9) (v := .ref (Z.2.2.1 + 78)) E dX11_guessed_71 fs_X11_63 sh0 rfl ?_
  refine J_iload_n E dX11_guessed_74 rfl ?_
  refine S_callV (As := [.ref (Z.2.2.1 + 451), .ref (Z.2.2.1 + 78), .int a1]) (rest := []) E dX11_guessed_75 c kX5_ofGuessed ⟨Nat.le_of_ble_eq_true rfl, Nat.le_of_ble_eq_true rfl⟩ rfl (Nat.le_of_ble_eq_true rfl) sh92 rfl rfl w4_213 w4_214 w4_215 (fun r_ μ1 hp_ => ?_)
  obtain ⟨rfl, hp_⟩ := hp_
  refine J.weak [0] rfl ?_
  exact k μ1 hp_
theorem bX11_guessed_78 {Z : ZT} {X : XT} {μ : Mu} (E : Ent Z X mX11_guessed 0 0) {p : Mu → Prop} 
    (c : CtrS Z mX2_set [.ref (Z.2.2.1 + 446), .ref (Z.2.2.1 + 451), .int ((μ 92 2) + (nI 6))] μ (rV p)) (k : ∀ μ1, p μ1 → JS Z X 99 [] [] μ1) :
    JS Z X 78 [(0, .ref (Z.2.2.1 + 0))] [] μ := by
  refine J_aload_n E dX11_guessed_78 rfl ?_
  refine S_get (ci := 11) (q := 15) (v := .ref (Z.2.2.1 + 446)) E dX11_guessed_79 fs_X11_107 sh0 rfl ?_
  refine J_aload_n E dX11_guessed_82 rfl ?_
  refine S_get (ci := 11) (q := 16) (v := .ref (Z.2.2.1 + 451)) E dX11_guessed_83 fs_X11_114 sh0 rfl ?_
  refine J_aload_n E dX11_guessed_86 rfl ?_
  refine S_get (ci := 11) (q := 11) (v := .ref (Z.2.2.1 + 92)) E dX11_guessed_87 fs_X11_75 sh0 rfl ?_
  refine S_get (ci := 5) (q := 2) (v := .int (μ 92 2)) E dX11_guessed_90 fs_X11_239 sh92 rfl ?_
  refine J_bipush (v := nI 6) E dX11_guessed_93 rfl ?_
  refine J_iadd E dX11_guessed_95 ?_
  refine S_callV (As := [.ref (Z.2.2.1 + 451), .int ((μ 92 2) + (nI 6))]) (rest := []) E dX11_guessed_96 c kX2_set ⟨Nat.le_of_ble_eq_true rfl, Nat.le_of_ble_eq_true rfl⟩ rfl (Nat.le_of_ble_eq_true rfl) sh446 rfl rfl w4_122 w4_123 w4_124 (fun r_ μ1 hp_ => ?_)
  obtain ⟨rfl, hp_⟩ := hp_
  refine J.weak [] rfl ?_
  exact k μ1 hp_
theorem bX11_guessed_99 {Z : ZT} {X : XT} {μ : Mu} (E : Ent Z X mX11_guessed 0 0) {P : Option Value → Mu → Prop} (hB : BodS Z X P) 
    (k : P (some (.int (nI 1))) μ) :
    JS Z X 99 [] [] μ := by
  refine J_iconst (v := nI 1) E dX11_guessed_99 rfl ?_
  exact S_iret E hB dX11_guessed_100 rfl k
theorem dX11_fair_0 : decode cX11_fair 0 = .ok (.iload_n 1, 1) := by decide +kernel
theorem dX11_fair_1 : decode cX11_fair 1 = .ok (.iconst 2, 1) := by decide +kernel
theorem dX11_fair_2 : decode cX11_fair 2 = .ok (.invokestatic 198, 3) := by decide +kernel
theorem dX11_fair_5 : decode cX11_fair 5 = .ok (.ifCond .ne 10, 3) := by decide +kernel
theorem dX11_fair_8 : decode cX11_fair 8 = .ok (.aload_n 0, 1) := by decide +kernel
theorem dX11_fair_9 : decode cX11_fair 9 = .ok (.bipush (-2), 2) := by decide +kernel
theorem dX11_fair_11 : decode cX11_fair 11 = .ok (.invokevirtual 125, 3) := by decide +kernel
theorem dX11_fair_14 : decode cX11_fair 14 = .ok (.ireturn, 1) := by decide +kernel
theorem dX11_fair_15 : decode cX11_fair 15 = .ok (.aload_n 0, 1) := by decide +kernel
theorem dX11_fair_16 : decode cX11_fair 16 = .ok (.aload_n 0, 1) := by decide +kernel
theorem dX11_fair_17 : decode cX11_fair 17 = .ok (.getfield 63, 3) := by decide +kernel
theorem dX11_fair_20 : decode cX11_fair 20 = .ok (.iload_n 1, 1) := by decide +kernel
theorem dX11_fair_21 : decode cX11_fair 21 = .ok (.invokevirtual 205, 3) := by decide +kernel
theorem dX11_fair_24 : decode cX11_fair 24 = .ok (.ifCond .ne 10, 3) := by decide +kernel
theorem dX11_fair_27 : decode cX11_fair 27 = .ok (.aload_n 0, 1) := by decide +kernel
theorem dX11_fair_28 : decode cX11_fair 28 = .ok (.bipush (-3), 2) := by decide +kernel
theorem dX11_fair_30 : decode cX11_fair 30 = .ok (.invokevirtual 125, 3) := by decide +kernel
theorem dX11_fair_33 : decode cX11_fair 33 = .ok (.ireturn, 1) := by decide +kernel
theorem dX11_fair_34 : decode cX11_fair 34 = .ok (.aload_n 0, 1) := by decide +kernel
theorem dX11_fair_35 : decode cX11_fair 35 = .ok (.getfield 75, 3) := by decide +kernel
theorem dX11_fair_38 : decode cX11_fair 38 = .ok (.invokevirtual 232, 3) := by decide +kernel
theorem dX11_fair_41 : decode cX11_fair 41 = .ok (.aload_n 0, 1) := by decide +kernel
theorem dX11_fair_42 : decode cX11_fair 42 = .ok (.getfield 75, 3) := by decide +kernel
theorem dX11_fair_45 : decode cX11_fair 45 = .ok (.aload_n 0, 1) := by decide +kernel
theorem dX11_fair_46 : decode cX11_fair 46 = .ok (.getfield 114, 3) := by decide +kernel
theorem dX11_fair_49 : decode cX11_fair 49 = .ok (.aload_n 0, 1) := by decide +kernel
theorem dX11_fair_50 : decode cX11_fair 50 = .ok (.getfield 63, 3) := by decide +kernel
theorem dX11_fair_53 : decode cX11_fair 53 = .ok (.invokevirtual 261, 3) := by decide +kernel
theorem dX11_fair_56 : decode cX11_fair 56 = .ok (.aload_n 0, 1) := by decide +kernel
theorem dX11_fair_57 : decode cX11_fair 57 = .ok (.getfield 107, 3) := by decide +kernel
theorem dX11_fair_60 : decode cX11_fair 60 = .ok (.aload_n 0, 1) := by decide +kernel
theorem dX11_fair_61 : decode cX11_fair 61 = .ok (.getfield 114, 3) := by decide +kernel
theorem dX11_fair_64 : decode cX11_fair 64 = .ok (.aload_n 0, 1) := by decide +kernel
theorem dX11_fair_65 : decode cX11_fair 65 = .ok (.getfield 75, 3) := by decide +kernel
theorem dX11_fair_68 : decode cX11_fair 68 = .ok (.getfield 239, 3) := by decide +kernel
theorem dX11_fair_71 : decode cX11_fair 71 = .ok (.bipush 6, 2) := by decide +kernel
theorem dX11_fair_73 : decode cX11_fair 73 = .ok (.iadd, 1) := by decide +kernel
theorem dX11_fair_74 : decode cX11_fair 74 = .ok (.invokevirtual 217, 3) := by decide +kernel
theorem dX11_fair_77 : decode cX11_fair 77 = .ok (.iconst 1, 1) := by decide +kernel
theorem dX11_fair_78 : decode cX11_fair 78 = .ok (.ireturn, 1) := by decide +kernel
theorem bX11_fair_0 {Z : ZT} {X : XT} {μ : Mu} {a1 : Int32} (E : Ent Z X mX11_fair 0 0) {p : Int32 → Mu → Prop} 
    (c : CtrS Z mX11_within [.int a1, .int (nI 2)] μ (rI p)) (k : ∀ v μ1, p v μ1 → JS Z X 5 [(0, .ref (Z.2.2.1 + 0)), (1, .int a1)] [.int v] μ1) :
    JS Z X 0 [(0, .ref (Z.2.2.1 + 0)), (1, .int a1)] [] μ := by
  refine J_iload_n E dX11_fair_0 rfl ?_
  refine J_iconst (v := nI 2) E dX11_fair_1 rfl ?_
  refine S_callS (As := [.int a1, .int (nI 2)]) (rest := []) E dX11_fair_2 c kX11_within ⟨Nat.le_of_ble_eq_true rfl, Nat.le_of_ble_eq_true rfl⟩ rfl (Nat.le_of_ble_eq_true rfl) w4_71 w3_46 (fun r_ μ1 hp_ => ?_)
  obtain ⟨v, rfl, hp_⟩ := hp_
  exact k v μ1 hp_
theorem bX11_fair_5 {Z : ZT} {X : XT} {μ : Mu} {a1 : Int32} {s0 : Int32} (E : Ent Z X mX11_fair 0 0)  
    (kt : ¬ s0 = 0 → JS Z X 15 [(0, .ref (Z.2.2.1 + 0)), (1, .int a1)] [] μ) (kf : s0 = 0 → JS Z X 8 [(0, .ref (Z.2.2.1 + 0))] [] μ) :
    JS Z X 5 [(0, .ref (Z.2.2.1 + 0)), (1, .int a1)] [.int s0] μ := by
  refine J_if_ne (tgt := 15) E dX11_fair_5 (by decide) (fun c => ?_) (fun c => ?_)
  · exact kt c
  · refine J.weak [0] rfl ?_
    exact kf c
theorem bX11_fair_8 {Z : ZT} {X : XT} {μ : Mu} (E : Ent Z X mX11_fair 0 0) {p : Int32 → Mu → Prop} 
    (c : CtrS Z mX11_counted [.ref (Z.2.2.1 + 0), .int (-2)] μ (rI p)) (k : ∀ v μ1, p v μ1 → JS Z X 14 [] [.int v] μ1) :
    JS Z X 8 [(0, .ref (Z.2.2.1 + 0))] [] μ := by
  refine J_aload_n E dX11_fair_8 rfl ?_
  refine J_bipush (v := -2) E dX11_fair_9 rfl ?_
  refine S_callV (As := [.int (-2)]) (rest := []) E dX11_fair_11 c kX11_counted ⟨Nat.le_of_ble_eq_true rfl, Nat.le_of_ble_eq_true rfl⟩ rfl (Nat.le_of_ble_eq_true rfl) sh0 rfl rfl w3_25 w3_27 wp_1 (fun r_ μ1 hp_ => ?_)
  obtain ⟨v, rfl, hp_⟩ := hp_
  refine J.weak [] rfl ?_
  exact k v μ1 hp_
theorem bX11_fair_14 {Z : ZT} {X : XT} {μ : Mu} {s0 : Int32} (E : Ent Z X mX11_fair 0 0) {P : Option Value → Mu → Prop} (hB : BodS Z X P) 
    (k : P (some (.int s0)) μ) :
    JS Z X 14 [] [.int s0] μ := by
  exact S_iret E hB dX11_fair_14 rfl k
theorem bX11_fair_15 {Z : ZT} {X : XT} {μ : Mu} {a1 : Int32} (E : Ent Z X mX11_fair 0 0) {p : Int32 → Mu → Prop} 
    (c : CtrS Z mX11_canHunt [.ref (Z.2.2.1 + 0), .ref (Z.2.2.1 + 78), .int a1] μ (rI p)) (k : ∀ v μ1, p v μ1 → JS Z X 24 [(0, .ref (Z.2.2.1 + 0))] [.int v] μ1) :
    JS Z X 15 [(0, .ref (Z.2.2.1 + 0)), (1, .int a1)] [] μ := by
  refine J_aload_n E dX11_fair_15 rfl ?_
  refine J_aload_n E dX11_fair_16 rfl ?_
  refine S_get (ci := 11) (q := 9) (v := .ref (Z.2.2.1 + 78)) E dX11_fair_17 fs_X11_63 sh0 rfl ?_
  refine J_iload_n E dX11_fair_20 rfl ?_
  refine S_callV (As := [.ref (Z.2.2.1 + 78), .int a1]) (rest := []) E dX11_fair_21 c kX11_canHunt ⟨Nat.le_of_ble_eq_true rfl, Nat.le_of_ble_eq_true rfl⟩ rfl (Nat.le_of_ble_eq_true rfl) sh0 rfl rfl w4_72 w4_74 wp_12 (fun r_ μ1 hp_ => ?_)
  obtain ⟨v, rfl, hp_⟩ := hp_
  refine J.weak [0] rfl ?_
  exact k v μ1 hp_
theorem bX11_fair_24 {Z : ZT} {X : XT} {μ : Mu} {s0 : Int32} (E : Ent Z X mX11_fair 0 0)  
    (kt : ¬ s0 = 0 → JS Z X 34 [(0, .ref (Z.2.2.1 + 0))] [] μ) (kf : s0 = 0 → JS Z X 27 [(0, .ref (Z.2.2.1 + 0))] [] μ) :
    JS Z X 24 [(0, .ref (Z.2.2.1 + 0))] [.int s0] μ := by
  refine J_if_ne (tgt := 34) E dX11_fair_24 (by decide) (fun c => ?_) (fun c => ?_)
  · exact kt c
  · exact kf c
theorem bX11_fair_27 {Z : ZT} {X : XT} {μ : Mu} (E : Ent Z X mX11_fair 0 0) {p : Int32 → Mu → Prop} 
    (c : CtrS Z mX11_counted [.ref (Z.2.2.1 + 0), .int (-3)] μ (rI p)) (k : ∀ v μ1, p v μ1 → JS Z X 33 [] [.int v] μ1) :
    JS Z X 27 [(0, .ref (Z.2.2.1 + 0))] [] μ := by
  refine J_aload_n E dX11_fair_27 rfl ?_
  refine J_bipush (v := -3) E dX11_fair_28 rfl ?_
  refine S_callV (As := [.int (-3)]) (rest := []) E dX11_fair_30 c kX11_counted ⟨Nat.le_of_ble_eq_true rfl, Nat.le_of_ble_eq_true rfl⟩ rfl (Nat.le_of_ble_eq_true rfl) sh0 rfl rfl w3_25 w3_27 wp_1 (fun r_ μ1 hp_ => ?_)
  obtain ⟨v, rfl, hp_⟩ := hp_
  refine J.weak [] rfl ?_
  exact k v μ1 hp_
theorem bX11_fair_33 {Z : ZT} {X : XT} {μ : Mu} {s0 : Int32} (E : Ent Z X mX11_fair 0 0) {P : Option Value → Mu → Prop} (hB : BodS Z X P) 
    (k : P (some (.int s0)) μ) :
    JS Z X 33 [] [.int s0] μ := by
  exact S_iret E hB dX11_fair_33 rfl k
theorem bX11_fair_34 {Z : ZT} {X : XT} {μ : Mu} (E : Ent Z X mX11_fair 0 0) {p : Mu → Prop} 
    (c : CtrS Z mX5_begin [.ref (Z.2.2.1 + 92)] μ (rV p)) (k : ∀ μ1, p μ1 → JS Z X 41 [(0, .ref (Z.2.2.1 + 0))] [] μ1) :
    JS Z X 34 [(0, .ref (Z.2.2.1 + 0))] [] μ := by
  refine J_aload_n E dX11_fair_34 rfl ?_
  refine S_get (ci := 11) (q := 11) (v := .ref (Z.2.2.1 + 92)) E dX11_fair_35 fs_X11_75 sh0 rfl ?_
  refine S_callV (As := []) (rest := []) E dX11_fair_38 c kX5_begin ⟨Nat.le_of_ble_eq_true rfl, Nat.le_of_ble_eq_true rfl⟩ rfl (Nat.le_of_ble_eq_true rfl) sh92 rfl rfl w4_155 w4_156 w4_157 (fun r_ μ1 hp_ => ?_)
  obtain ⟨rfl, hp_⟩ := hp_
  exact k μ1 hp_
theorem bX11_fair_41 {Z : ZT} {X : XT} {μ : Mu} (E : Ent Z X mX11_fair 0 0) {p : Mu → Prop} 
    (c : CtrS Z mX5_ofUnfairness [.ref (Z.2.2.1 + 92), .ref (Z.2.2.1 + 451), .ref (Z.2.2.1 + 78)] μ (rV p)) (k : ∀ μ1, p μ1 → JS Z X 56 [(0, .ref (Z.2.2.1 + 0))] [] μ1) :
    JS Z X 41 [(0, .ref (Z.2.2.1 + 0))] [] μ := by
  refine J_aload_n E dX11_fair_41 rfl ?_
  refine S_get (ci := 11) (q := 11) (v := .ref (Z.2.2.1 + 92)) E dX11_fair_42 fs_X11_75 sh0 rfl ?_
  refine J_aload_n E dX11_fair_45 rfl ?_
  refine S_get (ci := 11) (q := 16) (v := .ref (Z.2.2.1 + 451)) E dX11_fair_46 fs_X11_114 sh0 rfl ?_
  refine J_aload_n E dX11_fair_49 rfl ?_
  refine S_get (ci := 11) (q := 9) (v := .ref (Z.2.2.1 + 78)) E dX11_fair_50 fs_X11_63 sh0 rfl ?_
  refine S_callV (As := [.ref (Z.2.2.1 + 451), .ref (Z.2.2.1 + 78)]) (rest := []) E dX11_fair_53 c kX5_ofUnfairness ⟨Nat.le_of_ble_eq_true rfl, Nat.le_of_ble_eq_true rfl⟩ rfl (Nat.le_of_ble_eq_true rfl) sh92 rfl rfl w4_223 w4_224 w4_225 (fun r_ μ1 hp_ => ?_)
  obtain ⟨rfl, hp_⟩ := hp_
  exact k μ1 hp_
theorem bX11_fair_56 {Z : ZT} {X : XT} {μ : Mu} (E : Ent Z X mX11_fair 0 0) {p : Mu → Prop} 
    (c : CtrS Z mX2_set [.ref (Z.2.2.1 + 446), .ref (Z.2.2.1 + 451), .int ((μ 92 2) + (nI 6))] μ (rV p)) (k : ∀ μ1, p μ1 → JS Z X 77 [] [] μ1) :
    JS Z X 56 [(0, .ref (Z.2.2.1 + 0))] [] μ := by
  refine J_aload_n E dX11_fair_56 rfl ?_
  refine S_get (ci := 11) (q := 15) (v := .ref (Z.2.2.1 + 446)) E dX11_fair_57 fs_X11_107 sh0 rfl ?_
  refine J_aload_n E dX11_fair_60 rfl ?_
  refine S_get (ci := 11) (q := 16) (v := .ref (Z.2.2.1 + 451)) E dX11_fair_61 fs_X11_114 sh0 rfl ?_
  refine J_aload_n E dX11_fair_64 rfl ?_
  refine S_get (ci := 11) (q := 11) (v := .ref (Z.2.2.1 + 92)) E dX11_fair_65 fs_X11_75 sh0 rfl ?_
  refine S_get (ci := 5) (q := 2) (v := .int (μ 92 2)) E dX11_fair_68 fs_X11_239 sh92 rfl ?_
  refine J_bipush (v := nI 6) E dX11_fair_71 rfl ?_
  refine J_iadd E dX11_fair_73 ?_
  refine S_callV (As := [.ref (Z.2.2.1 + 451), .int ((μ 92 2) + (nI 6))]) (rest := []) E dX11_fair_74 c kX2_set ⟨Nat.le_of_ble_eq_true rfl, Nat.le_of_ble_eq_true rfl⟩ rfl (Nat.le_of_ble_eq_true rfl) sh446 rfl rfl w4_122 w4_123 w4_124 (fun r_ μ1 hp_ => ?_)
  obtain ⟨rfl, hp_⟩ := hp_
  refine J.weak [] rfl ?_
  exact k μ1 hp_
theorem bX11_fair_77 {Z : ZT} {X : XT} {μ : Mu} (E : Ent Z X mX11_fair 0 0) {P : Option Value → Mu → Prop} (hB : BodS Z X P) 
    (k : P (some (.int (nI 1))) μ) :
    JS Z X 77 [] [] μ := by
  refine J_iconst (v := nI 1) E dX11_fair_77 rfl ?_
  exact S_iret E hB dX11_fair_78 rfl k
theorem dX11_order_0 : decode cX11_order 0 = .ok (.iload_n 1, 1) := by decide +kernel
theorem dX11_order_1 : decode cX11_order 1 = .ok (.iconst 2, 1) := by decide +kernel
theorem dX11_order_2 : decode cX11_order 2 = .ok (.invokestatic 198, 3) := by decide +kernel
theorem dX11_order_5 : decode cX11_order 5 = .ok (.ifCond .eq 12, 3) := by decide +kernel
theorem dX11_order_8 : decode cX11_order 8 = .ok (.iload_n 2, 1) := by decide +kernel
theorem dX11_order_9 : decode cX11_order 9 = .ok (.bipush 6, 2) := by decide +kernel
theorem dX11_order_11 : decode cX11_order 11 = .ok (.invokestatic 198, 3) := by decide +kernel
theorem dX11_order_14 : decode cX11_order 14 = .ok (.ifCond .ne 10, 3) := by decide +kernel
theorem dX11_order_17 : decode cX11_order 17 = .ok (.aload_n 0, 1) := by decide +kernel
theorem dX11_order_18 : decode cX11_order 18 = .ok (.bipush (-2), 2) := by decide +kernel
theorem dX11_order_20 : decode cX11_order 20 = .ok (.invokevirtual 125, 3) := by decide +kernel
theorem dX11_order_23 : decode cX11_order 23 = .ok (.ireturn, 1) := by decide +kernel
theorem dX11_order_24 : decode cX11_order 24 = .ok (.aload_n 0, 1) := by decide +kernel
theorem dX11_order_25 : decode cX11_order 25 = .ok (.getfield 54, 3) := by decide +kernel
theorem dX11_order_28 : decode cX11_order 28 = .ok (.invokevirtual 192, 3) := by decide +kernel
theorem dX11_order_31 : decode cX11_order 31 = .ok (.aload_n 0, 1) := by decide +kernel
theorem dX11_order_32 : decode cX11_order 32 = .ok (.getfield 63, 3) := by decide +kernel
theorem dX11_order_35 : decode cX11_order 35 = .ok (.iload_n 1, 1) := by decide +kernel
theorem dX11_order_36 : decode cX11_order 36 = .ok (.invokevirtual 264, 3) := by decide +kernel
theorem dX11_order_39 : decode cX11_order 39 = .ok (.aload_n 0, 1) := by decide +kernel
theorem dX11_order_40 : decode cX11_order 40 = .ok (.getfield 75, 3) := by decide +kernel
theorem dX11_order_43 : decode cX11_order 43 = .ok (.invokevirtual 232, 3) := by decide +kernel
theorem dX11_order_46 : decode cX11_order 46 = .ok (.aload_n 0, 1) := by decide +kernel
theorem dX11_order_47 : decode cX11_order 47 = .ok (.getfield 91, 3) := by decide +kernel
theorem dX11_order_50 : decode cX11_order 50 = .ok (.aload_n 0, 1) := by decide +kernel
theorem dX11_order_51 : decode cX11_order 51 = .ok (.getfield 63, 3) := by decide +kernel
theorem dX11_order_54 : decode cX11_order 54 = .ok (.invokevirtual 267, 3) := by decide +kernel
theorem dX11_order_57 : decode cX11_order 57 = .ok (.ifCond .ne 10, 3) := by decide +kernel
theorem dX11_order_60 : decode cX11_order 60 = .ok (.aload_n 0, 1) := by decide +kernel
theorem dX11_order_61 : decode cX11_order 61 = .ok (.bipush (-3), 2) := by decide +kernel
theorem dX11_order_63 : decode cX11_order 63 = .ok (.invokevirtual 125, 3) := by decide +kernel
theorem dX11_order_66 : decode cX11_order 66 = .ok (.ireturn, 1) := by decide +kernel
theorem dX11_order_67 : decode cX11_order 67 = .ok (.aload_n 0, 1) := by decide +kernel
theorem dX11_order_68 : decode cX11_order 68 = .ok (.getfield 107, 3) := by decide +kernel
theorem dX11_order_71 : decode cX11_order 71 = .ok (.aload_n 0, 1) := by decide +kernel
theorem dX11_order_72 : decode cX11_order 72 = .ok (.getfield 91, 3) := by decide +kernel
theorem dX11_order_75 : decode cX11_order 75 = .ok (.getfield 271, 3) := by decide +kernel
theorem dX11_order_78 : decode cX11_order 78 = .ok (.aload_n 0, 1) := by decide +kernel
theorem dX11_order_79 : decode cX11_order 79 = .ok (.getfield 75, 3) := by decide +kernel
theorem dX11_order_82 : decode cX11_order 82 = .ok (.getfield 239, 3) := by decide +kernel
theorem dX11_order_85 : decode cX11_order 85 = .ok (.invokevirtual 217, 3) := by decide +kernel
theorem dX11_order_88 : decode cX11_order 88 = .ok (.iload_n 2, 1) := by decide +kernel
theorem dX11_order_89 : decode cX11_order 89 = .ok (.aload_n 0, 1) := by decide +kernel
theorem dX11_order_90 : decode cX11_order 90 = .ok (.getfield 63, 3) := by decide +kernel
theorem dX11_order_93 : decode cX11_order 93 = .ok (.getfield 226, 3) := by decide +kernel
theorem dX11_order_96 : decode cX11_order 96 = .ok (.if_icmp .ge 15, 3) := by decide +kernel
theorem dX11_order_99 : decode cX11_order 99 = .ok (.aload_n 0, 1) := by decide +kernel
theorem dX11_order_100 : decode cX11_order 100 = .ok (.getfield 91, 3) := by decide +kernel
theorem dX11_order_103 : decode cX11_order 103 = .ok (.getfield 274, 3) := by decide +kernel
theorem dX11_order_106 : decode cX11_order 106 = .ok (.iload_n 2, 1) := by decide +kernel
theorem dX11_order_107 : decode cX11_order 107 = .ok (.iaload, 1) := by decide +kernel
theorem dX11_order_108 : decode cX11_order 108 = .ok (.goto 5, 3) := by decide +kernel
theorem dX11_order_111 : decode cX11_order 111 = .ok (.bipush (-5), 2) := by decide +kernel
theorem dX11_order_113 : decode cX11_order 113 = .ok (.ireturn, 1) := by decide +kernel
theorem bX11_order_0 {Z : ZT} {X : XT} {μ : Mu} {a1 : Int32} {a2 : Int32} (E : Ent Z X mX11_order 0 0) {p : Int32 → Mu → Prop} 
    (c : CtrS Z mX11_within [.int a1, .int (nI 2)] μ (rI p)) (k : ∀ v μ1, p v μ1 → JS Z X 5 [(0, .ref (Z.2.2.1 + 0)), (1, .int a1), (2, .int a2)] [.int v] μ1) :
    JS Z X 0 [(0, .ref (Z.2.2.1 + 0)), (1, .int a1), (2, .int a2)] [] μ := by
  refine J_iload_n E dX11_order_0 rfl ?_
  refine J_iconst (v := nI 2) E dX11_order_1 rfl ?_
  refine S_callS (As := [.int a1, .int (nI 2)]) (rest := []) E dX11_order_2 c kX11_within ⟨Nat.le_of_ble_eq_true rfl, Nat.le_of_ble_eq_true rfl⟩ rfl (Nat.le_of_ble_eq_true rfl) w4_71 w3_46 (fun r_ μ1 hp_ => ?_)
  obtain ⟨v, rfl, hp_⟩ := hp_
  exact k v μ1 hp_
theorem bX11_order_5 {Z : ZT} {X : XT} {μ : Mu} {a1 : Int32} {a2 : Int32} {s0 : Int32} (E : Ent Z X mX11_order 0 0)  
    (kt : s0 = 0 → JS Z X 17 [(0, .ref (Z.2.2.1 + 0))] [] μ) (kf : ¬ (s0 = 0) → JS Z X 8 [(0, .ref (Z.2.2.1 + 0)), (1, .int a1), (2, .int a2)] [] μ) :
    JS Z X 5 [(0, .ref (Z.2.2.1 + 0)), (1, .int a1), (2, .int a2)] [.int s0] μ := by
  refine J_if_eq (tgt := 17) E dX11_order_5 (by decide) (fun c => ?_) (fun c => ?_)
  · refine J.weak [0] rfl ?_
    exact kt c
  · exact kf c
theorem bX11_order_8 {Z : ZT} {X : XT} {μ : Mu} {a1 : Int32} {a2 : Int32} (E : Ent Z X mX11_order 0 0) {p : Int32 → Mu → Prop} 
    (c : CtrS Z mX11_within [.int a2, .int (nI 6)] μ (rI p)) (k : ∀ v μ1, p v μ1 → JS Z X 14 [(0, .ref (Z.2.2.1 + 0)), (1, .int a1), (2, .int a2)] [.int v] μ1) :
    JS Z X 8 [(0, .ref (Z.2.2.1 + 0)), (1, .int a1), (2, .int a2)] [] μ := by
  refine J_iload_n E dX11_order_8 rfl ?_
  refine J_bipush (v := nI 6) E dX11_order_9 rfl ?_
  refine S_callS (As := [.int a2, .int (nI 6)]) (rest := []) E dX11_order_11 c kX11_within ⟨Nat.le_of_ble_eq_true rfl, Nat.le_of_ble_eq_true rfl⟩ rfl (Nat.le_of_ble_eq_true rfl) w4_71 w3_46 (fun r_ μ1 hp_ => ?_)
  obtain ⟨v, rfl, hp_⟩ := hp_
  exact k v μ1 hp_
theorem bX11_order_14 {Z : ZT} {X : XT} {μ : Mu} {a1 : Int32} {a2 : Int32} {s0 : Int32} (E : Ent Z X mX11_order 0 0)  
    (kt : ¬ s0 = 0 → JS Z X 24 [(0, .ref (Z.2.2.1 + 0)), (1, .int a1), (2, .int a2)] [] μ) (kf : s0 = 0 → JS Z X 17 [(0, .ref (Z.2.2.1 + 0))] [] μ) :
    JS Z X 14 [(0, .ref (Z.2.2.1 + 0)), (1, .int a1), (2, .int a2)] [.int s0] μ := by
  refine J_if_ne (tgt := 24) E dX11_order_14 (by decide) (fun c => ?_) (fun c => ?_)
  · exact kt c
  · refine J.weak [0] rfl ?_
    exact kf c
theorem bX11_order_17 {Z : ZT} {X : XT} {μ : Mu} (E : Ent Z X mX11_order 0 0) {p : Int32 → Mu → Prop} 
    (c : CtrS Z mX11_counted [.ref (Z.2.2.1 + 0), .int (-2)] μ (rI p)) (k : ∀ v μ1, p v μ1 → JS Z X 23 [] [.int v] μ1) :
    JS Z X 17 [(0, .ref (Z.2.2.1 + 0))] [] μ := by
  refine J_aload_n E dX11_order_17 rfl ?_
  refine J_bipush (v := -2) E dX11_order_18 rfl ?_
  refine S_callV (As := [.int (-2)]) (rest := []) E dX11_order_20 c kX11_counted ⟨Nat.le_of_ble_eq_true rfl, Nat.le_of_ble_eq_true rfl⟩ rfl (Nat.le_of_ble_eq_true rfl) sh0 rfl rfl w3_25 w3_27 wp_1 (fun r_ μ1 hp_ => ?_)
  obtain ⟨v, rfl, hp_⟩ := hp_
  refine J.weak [] rfl ?_
  exact k v μ1 hp_
theorem bX11_order_23 {Z : ZT} {X : XT} {μ : Mu} {s0 : Int32} (E : Ent Z X mX11_order 0 0) {P : Option Value → Mu → Prop} (hB : BodS Z X P) 
    (k : P (some (.int s0)) μ) :
    JS Z X 23 [] [.int s0] μ := by
  exact S_iret E hB dX11_order_23 rfl k
theorem bX11_order_24 {Z : ZT} {X : XT} {μ : Mu} {a1 : Int32} {a2 : Int32} (E : Ent Z X mX11_order 0 0) {p : Mu → Prop} 
    (c : CtrS Z mX10_measure [.ref (Z.2.2.1 + 73)] μ (rV p)) (k : ∀ μ1, p μ1 → JS Z X 31 [(0, .ref (Z.2.2.1 + 0)), (1, .int a1), (2, .int a2)] [] μ1) :
    JS Z X 24 [(0, .ref (Z.2.2.1 + 0)), (1, .int a1), (2, .int a2)] [] μ := by
  refine J_aload_n E dX11_order_24 rfl ?_
  refine S_get (ci := 11) (q := 8) (v := .ref (Z.2.2.1 + 73)) E dX11_order_25 fs_X11_54 sh0 rfl ?_
  refine S_callV (As := []) (rest := []) E dX11_order_28 c kX10_measure ⟨Nat.le_of_ble_eq_true rfl, Nat.le_of_ble_eq_true rfl⟩ rfl (Nat.le_of_ble_eq_true rfl) sh73 rfl rfl w4_44 w4_45 w4_46 (fun r_ μ1 hp_ => ?_)
  obtain ⟨rfl, hp_⟩ := hp_
  exact k μ1 hp_
theorem bX11_order_31 {Z : ZT} {X : XT} {μ : Mu} {a1 : Int32} {a2 : Int32} (E : Ent Z X mX11_order 0 0) {p : Mu → Prop} 
    (c : CtrS Z mX4_take [.ref (Z.2.2.1 + 78), .int a1] μ (rV p)) (k : ∀ μ1, p μ1 → JS Z X 39 [(0, .ref (Z.2.2.1 + 0)), (2, .int a2)] [] μ1) :
    JS Z X 31 [(0, .ref (Z.2.2.1 + 0)), (1, .int a1), (2, .int a2)] [] μ := by
  refine J_aload_n E dX11_order_31 rfl ?_
  refine S_get (ci := 11) (q := 9) (v := .ref (Z.2.2.1 + 78)) E dX11_order_32 fs_X11_63 sh0 rfl ?_
  refine J_iload_n E dX11_order_35 rfl ?_
  refine S_callV (As := [.int a1]) (rest := []) E dX11_order_36 c kX4_take ⟨Nat.le_of_ble_eq_true rfl, Nat.le_of_ble_eq_true rfl⟩ rfl (Nat.le_of_ble_eq_true rfl) sh78 rfl rfl w4_76 w4_77 w4_78 (fun r_ μ1 hp_ => ?_)
  obtain ⟨rfl, hp_⟩ := hp_
  refine J.weak [0, 2] rfl ?_
  exact k μ1 hp_
theorem bX11_order_39 {Z : ZT} {X : XT} {μ : Mu} {a2 : Int32} (E : Ent Z X mX11_order 0 0) {p : Mu → Prop} 
    (c : CtrS Z mX5_begin [.ref (Z.2.2.1 + 92)] μ (rV p)) (k : ∀ μ1, p μ1 → JS Z X 46 [(0, .ref (Z.2.2.1 + 0)), (2, .int a2)] [] μ1) :
    JS Z X 39 [(0, .ref (Z.2.2.1 + 0)), (2, .int a2)] [] μ := by
  refine J_aload_n E dX11_order_39 rfl ?_
  refine S_get (ci := 11) (q := 11) (v := .ref (Z.2.2.1 + 92)) E dX11_order_40 fs_X11_75 sh0 rfl ?_
  refine S_callV (As := []) (rest := []) E dX11_order_43 c kX5_begin ⟨Nat.le_of_ble_eq_true rfl, Nat.le_of_ble_eq_true rfl⟩ rfl (Nat.le_of_ble_eq_true rfl) sh92 rfl rfl w4_155 w4_156 w4_157 (fun r_ μ1 hp_ => ?_)
  obtain ⟨rfl, hp_⟩ := hp_
  exact k μ1 hp_
theorem bX11_order_46 {Z : ZT} {X : XT} {μ : Mu} {a2 : Int32} (E : Ent Z X mX11_order 0 0) {p : Int32 → Mu → Prop} 
    (c : CtrS Z mX7_findNearest [.ref (Z.2.2.1 + 273), .ref (Z.2.2.1 + 78)] μ (rI p)) (k : ∀ v μ1, p v μ1 → JS Z X 57 [(0, .ref (Z.2.2.1 + 0)), (2, .int a2)] [.int v] μ1) :
    JS Z X 46 [(0, .ref (Z.2.2.1 + 0)), (2, .int a2)] [] μ := by
  refine J_aload_n E dX11_order_46 rfl ?_
  refine S_get (ci := 11) (q := 13) (v := .ref (Z.2.2.1 + 273)) E dX11_order_47 fs_X11_91 sh0 rfl ?_
  refine J_aload_n E dX11_order_50 rfl ?_
  refine S_get (ci := 11) (q := 9) (v := .ref (Z.2.2.1 + 78)) E dX11_order_51 fs_X11_63 sh0 rfl ?_
  refine S_callV (As := [.ref (Z.2.2.1 + 78)]) (rest := []) E dX11_order_54 c kX7_findNearest ⟨Nat.le_of_ble_eq_true rfl, Nat.le_of_ble_eq_true rfl⟩ rfl (Nat.le_of_ble_eq_true rfl) sh273 rfl rfl w5_2 w5_3 w5_4 (fun r_ μ1 hp_ => ?_)
  obtain ⟨v, rfl, hp_⟩ := hp_
  exact k v μ1 hp_
theorem bX11_order_57 {Z : ZT} {X : XT} {μ : Mu} {a2 : Int32} {s0 : Int32} (E : Ent Z X mX11_order 0 0)  
    (kt : ¬ s0 = 0 → JS Z X 67 [(0, .ref (Z.2.2.1 + 0)), (2, .int a2)] [] μ) (kf : s0 = 0 → JS Z X 60 [(0, .ref (Z.2.2.1 + 0))] [] μ) :
    JS Z X 57 [(0, .ref (Z.2.2.1 + 0)), (2, .int a2)] [.int s0] μ := by
  refine J_if_ne (tgt := 67) E dX11_order_57 (by decide) (fun c => ?_) (fun c => ?_)
  · exact kt c
  · refine J.weak [0] rfl ?_
    exact kf c
theorem bX11_order_60 {Z : ZT} {X : XT} {μ : Mu} (E : Ent Z X mX11_order 0 0) {p : Int32 → Mu → Prop} 
    (c : CtrS Z mX11_counted [.ref (Z.2.2.1 + 0), .int (-3)] μ (rI p)) (k : ∀ v μ1, p v μ1 → JS Z X 66 [] [.int v] μ1) :
    JS Z X 60 [(0, .ref (Z.2.2.1 + 0))] [] μ := by
  refine J_aload_n E dX11_order_60 rfl ?_
  refine J_bipush (v := -3) E dX11_order_61 rfl ?_
  refine S_callV (As := [.int (-3)]) (rest := []) E dX11_order_63 c kX11_counted ⟨Nat.le_of_ble_eq_true rfl, Nat.le_of_ble_eq_true rfl⟩ rfl (Nat.le_of_ble_eq_true rfl) sh0 rfl rfl w3_25 w3_27 wp_1 (fun r_ μ1 hp_ => ?_)
  obtain ⟨v, rfl, hp_⟩ := hp_
  refine J.weak [] rfl ?_
  exact k v μ1 hp_
theorem bX11_order_66 {Z : ZT} {X : XT} {μ : Mu} {s0 : Int32} (E : Ent Z X mX11_order 0 0) {P : Option Value → Mu → Prop} (hB : BodS Z X P) 
    (k : P (some (.int s0)) μ) :
    JS Z X 66 [] [.int s0] μ := by
  exact S_iret E hB dX11_order_66 rfl k
theorem bX11_order_67 {Z : ZT} {X : XT} {μ : Mu} {a2 : Int32} (E : Ent Z X mX11_order 0 0) {p : Mu → Prop} 
    (c : CtrS Z mX2_set [.ref (Z.2.2.1 + 446), .ref (Z.2.2.1 + 275), .int (μ 92 2)] μ (rV p)) (k : ∀ μ1, p μ1 → JS Z X 88 [(0, .ref (Z.2.2.1 + 0)), (2, .int a2)] [] μ1) :
    JS Z X 67 [(0, .ref (Z.2.2.1 + 0)), (2, .int a2)] [] μ := by
  refine J_aload_n E dX11_order_67 rfl ?_
  refine S_get (ci := 11) (q := 15) (v := .ref (Z.2.2.1 + 446)) E dX11_order_68 fs_X11_107 sh0 rfl ?_
  refine J_aload_n E dX11_order_71 rfl ?_
  refine S_get (ci := 11) (q := 13) (v := .ref (Z.2.2.1 + 273)) E dX11_order_72 fs_X11_91 sh0 rfl ?_
  refine S_get (ci := 7) (q := 3) (v := .ref (Z.2.2.1 + 275)) E dX11_order_75 fs_X11_271 sh273 rfl ?_
  refine J_aload_n E dX11_order_78 rfl ?_
  refine S_get (ci := 11) (q := 11) (v := .ref (Z.2.2.1 + 92)) E dX11_order_79 fs_X11_75 sh0 rfl ?_
  refine S_get (ci := 5) (q := 2) (v := .int (μ 92 2)) E dX11_order_82 fs_X11_239 sh92 rfl ?_
  refine S_callV (As := [.ref (Z.2.2.1 + 275), .int (μ 92 2)]) (rest := []) E dX11_order_85 c kX2_set ⟨Nat.le_of_ble_eq_true rfl, Nat.le_of_ble_eq_true rfl⟩ rfl (Nat.le_of_ble_eq_true rfl) sh446 rfl rfl w4_122 w4_123 w4_124 (fun r_ μ1 hp_ => ?_)
  obtain ⟨rfl, hp_⟩ := hp_
  exact k μ1 hp_
theorem bX11_order_88 {Z : ZT} {X : XT} {μ : Mu} {a2 : Int32} (E : Ent Z X mX11_order 0 0)  
    (kt : (μ 78 4) ≤ a2 → JS Z X 111 [] [] μ) (kf : ¬ ((μ 78 4) ≤ a2) → JS Z X 99 [(0, .ref (Z.2.2.1 + 0)), (2, .int a2)] [] μ) :
    JS Z X 88 [(0, .ref (Z.2.2.1 + 0)), (2, .int a2)] [] μ := by
  refine J_iload_n E dX11_order_88 rfl ?_
  refine J_aload_n E dX11_order_89 rfl ?_
  refine S_get (ci := 11) (q := 9) (v := .ref (Z.2.2.1 + 78)) E dX11_order_90 fs_X11_63 sh0 rfl ?_
  refine S_get (ci := 4) (q := 4) (v := .int (μ 78 4)) E dX11_order_93 fs_X11_226 sh78 rfl ?_
  refine J_icmp_ge (tgt := 111) E dX11_order_96 (by decide) (fun c => ?_) (fun c => ?_)
  · refine J.weak [] rfl ?_
    exact kt c
  · exact kf c
theorem bX11_order_99 {Z : ZT} {X : XT} {μ : Mu} {a2 : Int32} (E : Ent Z X mX11_order 0 0)  (s1_ : vp_in a2 6)
    (k : JS Z X 113 [] [.int (μ 274 (ix a2))] μ) :
    JS Z X 99 [(0, .ref (Z.2.2.1 + 0)), (2, .int a2)] [] μ := by
  refine J_aload_n E dX11_order_99 rfl ?_
  refine S_get (ci := 11) (q := 13) (v := .ref (Z.2.2.1 + 273)) E dX11_order_100 fs_X11_91 sh0 rfl ?_
  refine S_get (ci := 7) (q := 1) (v := .ref (Z.2.2.1 + 274)) E dX11_order_103 fs_X11_274 sh273 rfl ?_
  refine J_iload_n E dX11_order_106 rfl ?_
  refine S_iald E dX11_order_107 sh274 s1_ ?_
  refine J_goto (tgt := 113) E dX11_order_108 (by decide) ?_
  refine J.weak [] rfl ?_
  exact k
theorem bX11_order_111 {Z : ZT} {X : XT} {μ : Mu} (E : Ent Z X mX11_order 0 0)  
    (k : JS Z X 113 [] [.int (-5)] μ) :
    JS Z X 111 [] [] μ := by
  refine J_bipush (v := -5) E dX11_order_111 rfl ?_
  exact k
theorem bX11_order_113 {Z : ZT} {X : XT} {μ : Mu} {s0 : Int32} (E : Ent Z X mX11_order 0 0) {P : Option Value → Mu → Prop} (hB : BodS Z X P) 
    (k : P (some (.int s0)) μ) :
    JS Z X 113 [] [.int s0] μ := by
  exact S_iret E hB dX11_order_113 rfl k
theorem dX11_kinds_0 : decode cX11_kinds 0 = .ok (.iload_n 1, 1) := by decide +kernel
theorem dX11_kinds_1 : decode cX11_kinds 1 = .ok (.iconst 2, 1) := by decide +kernel
theorem dX11_kinds_2 : decode cX11_kinds 2 = .ok (.invokestatic 198, 3) := by decide +kernel
theorem dX11_kinds_5 : decode cX11_kinds 5 = .ok (.ifCond .eq 12, 3) := by decide +kernel
theorem dX11_kinds_8 : decode cX11_kinds 8 = .ok (.iload_n 2, 1) := by decide +kernel
theorem dX11_kinds_9 : decode cX11_kinds 9 = .ok (.bipush 6, 2) := by decide +kernel
theorem dX11_kinds_11 : decode cX11_kinds 11 = .ok (.invokestatic 198, 3) := by decide +kernel
theorem dX11_kinds_14 : decode cX11_kinds 14 = .ok (.ifCond .ne 10, 3) := by decide +kernel
theorem dX11_kinds_17 : decode cX11_kinds 17 = .ok (.aload_n 0, 1) := by decide +kernel
theorem dX11_kinds_18 : decode cX11_kinds 18 = .ok (.bipush (-2), 2) := by decide +kernel
theorem dX11_kinds_20 : decode cX11_kinds 20 = .ok (.invokevirtual 125, 3) := by decide +kernel
theorem dX11_kinds_23 : decode cX11_kinds 23 = .ok (.ireturn, 1) := by decide +kernel
theorem dX11_kinds_24 : decode cX11_kinds 24 = .ok (.aload_n 0, 1) := by decide +kernel
theorem dX11_kinds_25 : decode cX11_kinds 25 = .ok (.aload_n 0, 1) := by decide +kernel
theorem dX11_kinds_26 : decode cX11_kinds 26 = .ok (.getfield 63, 3) := by decide +kernel
theorem dX11_kinds_29 : decode cX11_kinds 29 = .ok (.iload_n 1, 1) := by decide +kernel
theorem dX11_kinds_30 : decode cX11_kinds 30 = .ok (.invokevirtual 205, 3) := by decide +kernel
theorem dX11_kinds_33 : decode cX11_kinds 33 = .ok (.ifCond .ne 10, 3) := by decide +kernel
theorem dX11_kinds_36 : decode cX11_kinds 36 = .ok (.aload_n 0, 1) := by decide +kernel
theorem dX11_kinds_37 : decode cX11_kinds 37 = .ok (.bipush (-3), 2) := by decide +kernel
theorem dX11_kinds_39 : decode cX11_kinds 39 = .ok (.invokevirtual 125, 3) := by decide +kernel
theorem dX11_kinds_42 : decode cX11_kinds 42 = .ok (.ireturn, 1) := by decide +kernel
theorem dX11_kinds_43 : decode cX11_kinds 43 = .ok (.aload_n 0, 1) := by decide +kernel
theorem dX11_kinds_44 : decode cX11_kinds 44 = .ok (.getfield 75, 3) := by decide +kernel
theorem dX11_kinds_47 : decode cX11_kinds 47 = .ok (.invokevirtual 232, 3) := by decide +kernel
theorem dX11_kinds_50 : decode cX11_kinds 50 = .ok (.aload_n 0, 1) := by decide +kernel
theorem dX11_kinds_51 : decode cX11_kinds 51 = .ok (.getfield 100, 3) := by decide +kernel
theorem dX11_kinds_54 : decode cX11_kinds 54 = .ok (.aload_n 0, 1) := by decide +kernel
theorem dX11_kinds_55 : decode cX11_kinds 55 = .ok (.getfield 63, 3) := by decide +kernel
theorem dX11_kinds_58 : decode cX11_kinds 58 = .ok (.invokevirtual 277, 3) := by decide +kernel
theorem dX11_kinds_61 : decode cX11_kinds 61 = .ok (.aload_n 0, 1) := by decide +kernel
theorem dX11_kinds_62 : decode cX11_kinds 62 = .ok (.getfield 107, 3) := by decide +kernel
theorem dX11_kinds_65 : decode cX11_kinds 65 = .ok (.aload_n 0, 1) := by decide +kernel
theorem dX11_kinds_66 : decode cX11_kinds 66 = .ok (.getfield 100, 3) := by decide +kernel
theorem dX11_kinds_69 : decode cX11_kinds 69 = .ok (.getfield 281, 3) := by decide +kernel
theorem dX11_kinds_72 : decode cX11_kinds 72 = .ok (.aload_n 0, 1) := by decide +kernel
theorem dX11_kinds_73 : decode cX11_kinds 73 = .ok (.getfield 75, 3) := by decide +kernel
theorem dX11_kinds_76 : decode cX11_kinds 76 = .ok (.getfield 239, 3) := by decide +kernel
theorem dX11_kinds_79 : decode cX11_kinds 79 = .ok (.bipush 6, 2) := by decide +kernel
theorem dX11_kinds_81 : decode cX11_kinds 81 = .ok (.iadd, 1) := by decide +kernel
theorem dX11_kinds_82 : decode cX11_kinds 82 = .ok (.invokevirtual 217, 3) := by decide +kernel
theorem dX11_kinds_85 : decode cX11_kinds 85 = .ok (.iload_n 2, 1) := by decide +kernel
theorem dX11_kinds_86 : decode cX11_kinds 86 = .ok (.aload_n 0, 1) := by decide +kernel
theorem dX11_kinds_87 : decode cX11_kinds 87 = .ok (.getfield 63, 3) := by decide +kernel
theorem dX11_kinds_90 : decode cX11_kinds 90 = .ok (.getfield 226, 3) := by decide +kernel
theorem dX11_kinds_93 : decode cX11_kinds 93 = .ok (.if_icmp .ge 15, 3) := by decide +kernel
theorem dX11_kinds_96 : decode cX11_kinds 96 = .ok (.aload_n 0, 1) := by decide +kernel
theorem dX11_kinds_97 : decode cX11_kinds 97 = .ok (.getfield 100, 3) := by decide +kernel
theorem dX11_kinds_100 : decode cX11_kinds 100 = .ok (.getfield 284, 3) := by decide +kernel
theorem dX11_kinds_103 : decode cX11_kinds 103 = .ok (.iload_n 2, 1) := by decide +kernel
theorem dX11_kinds_104 : decode cX11_kinds 104 = .ok (.iaload, 1) := by decide +kernel
theorem dX11_kinds_105 : decode cX11_kinds 105 = .ok (.goto 5, 3) := by decide +kernel
theorem dX11_kinds_108 : decode cX11_kinds 108 = .ok (.bipush (-5), 2) := by decide +kernel
theorem dX11_kinds_110 : decode cX11_kinds 110 = .ok (.ireturn, 1) := by decide +kernel
theorem bX11_kinds_0 {Z : ZT} {X : XT} {μ : Mu} {a1 : Int32} {a2 : Int32} (E : Ent Z X mX11_kinds 0 0) {p : Int32 → Mu → Prop} 
    (c : CtrS Z mX11_within [.int a1, .int (nI 2)] μ (rI p)) (k : ∀ v μ1, p v μ1 → JS Z X 5 [(0, .ref (Z.2.2.1 + 0)), (1, .int a1), (2, .int a2)] [.int v] μ1) :
    JS Z X 0 [(0, .ref (Z.2.2.1 + 0)), (1, .int a1), (2, .int a2)] [] μ := by
  refine J_iload_n E dX11_kinds_0 rfl ?_
  refine J_iconst (v := nI 2) E dX11_kinds_1 rfl ?_
  refine S_callS (As := [.int a1, .int (nI 2)]) (rest := []) E dX11_kinds_2 c kX11_within ⟨Nat.le_of_ble_eq_true rfl, Nat.le_of_ble_eq_true rfl⟩ rfl (Nat.le_of_ble_eq_true rfl) w4_71 w3_46 (fun r_ μ1 hp_ => ?_)
  obtain ⟨v, rfl, hp_⟩ := hp_
  exact k v μ1 hp_
theorem bX11_kinds_5 {Z : ZT} {X : XT} {μ : Mu} {a1 : Int32} {a2 : Int32} {s0 : Int32} (E : Ent Z X mX11_kinds 0 0)  
    (kt : s0 = 0 → JS Z X 17 [(0, .ref (Z.2.2.1 + 0))] [] μ) (kf : ¬ (s0 = 0) → JS Z X 8 [(0, .ref (Z.2.2.1 + 0)), (1, .int a1), (2, .int a2)] [] μ) :
    JS Z X 5 [(0, .ref (Z.2.2.1 + 0)), (1, .int a1), (2, .int a2)] [.int s0] μ := by
  refine J_if_eq (tgt := 17) E dX11_kinds_5 (by decide) (fun c => ?_) (fun c => ?_)
  · refine J.weak [0] rfl ?_
    exact kt c
  · exact kf c
theorem bX11_kinds_8 {Z : ZT} {X : XT} {μ : Mu} {a1 : Int32} {a2 : Int32} (E : Ent Z X mX11_kinds 0 0) {p : Int32 → Mu → Prop} 
    (c : CtrS Z mX11_within [.int a2, .int (nI 6)] μ (rI p)) (k : ∀ v μ1, p v μ1 → JS Z X 14 [(0, .ref (Z.2.2.1 + 0)), (1, .int a1), (2, .int a2)] [.int v] μ1) :
    JS Z X 8 [(0, .ref (Z.2.2.1 + 0)), (1, .int a1), (2, .int a2)] [] μ := by
  refine J_iload_n E dX11_kinds_8 rfl ?_
  refine J_bipush (v := nI 6) E dX11_kinds_9 rfl ?_
  refine S_callS (As := [.int a2, .int (nI 6)]) (rest := []) E dX11_kinds_11 c kX11_within ⟨Nat.le_of_ble_eq_true rfl, Nat.le_of_ble_eq_true rfl⟩ rfl (Nat.le_of_ble_eq_true rfl) w4_71 w3_46 (fun r_ μ1 hp_ => ?_)
  obtain ⟨v, rfl, hp_⟩ := hp_
  exact k v μ1 hp_
theorem bX11_kinds_14 {Z : ZT} {X : XT} {μ : Mu} {a1 : Int32} {a2 : Int32} {s0 : Int32} (E : Ent Z X mX11_kinds 0 0)  
    (kt : ¬ s0 = 0 → JS Z X 24 [(0, .ref (Z.2.2.1 + 0)), (1, .int a1), (2, .int a2)] [] μ) (kf : s0 = 0 → JS Z X 17 [(0, .ref (Z.2.2.1 + 0))] [] μ) :
    JS Z X 14 [(0, .ref (Z.2.2.1 + 0)), (1, .int a1), (2, .int a2)] [.int s0] μ := by
  refine J_if_ne (tgt := 24) E dX11_kinds_14 (by decide) (fun c => ?_) (fun c => ?_)
  · exact kt c
  · refine J.weak [0] rfl ?_
    exact kf c
theorem bX11_kinds_17 {Z : ZT} {X : XT} {μ : Mu} (E : Ent Z X mX11_kinds 0 0) {p : Int32 → Mu → Prop} 
    (c : CtrS Z mX11_counted [.ref (Z.2.2.1 + 0), .int (-2)] μ (rI p)) (k : ∀ v μ1, p v μ1 → JS Z X 23 [] [.int v] μ1) :
    JS Z X 17 [(0, .ref (Z.2.2.1 + 0))] [] μ := by
  refine J_aload_n E dX11_kinds_17 rfl ?_
  refine J_bipush (v := -2) E dX11_kinds_18 rfl ?_
  refine S_callV (As := [.int (-2)]) (rest := []) E dX11_kinds_20 c kX11_counted ⟨Nat.le_of_ble_eq_true rfl, Nat.le_of_ble_eq_true rfl⟩ rfl (Nat.le_of_ble_eq_true rfl) sh0 rfl rfl w3_25 w3_27 wp_1 (fun r_ μ1 hp_ => ?_)
  obtain ⟨v, rfl, hp_⟩ := hp_
  refine J.weak [] rfl ?_
  exact k v μ1 hp_
theorem bX11_kinds_23 {Z : ZT} {X : XT} {μ : Mu} {s0 : Int32} (E : Ent Z X mX11_kinds 0 0) {P : Option Value → Mu → Prop} (hB : BodS Z X P) 
    (k : P (some (.int s0)) μ) :
    JS Z X 23 [] [.int s0] μ := by
  exact S_iret E hB dX11_kinds_23 rfl k
theorem bX11_kinds_24 {Z : ZT} {X : XT} {μ : Mu} {a1 : Int32} {a2 : Int32} (E : Ent Z X mX11_kinds 0 0) {p : Int32 → Mu → Prop} 
    (c : CtrS Z mX11_canHunt [.ref (Z.2.2.1 + 0), .ref (Z.2.2.1 + 78), .int a1] μ (rI p)) (k : ∀ v μ1, p v μ1 → JS Z X 33 [(0, .ref (Z.2.2.1 + 0)), (2, .int a2)] [.int v] μ1) :
    JS Z X 24 [(0, .ref (Z.2.2.1 + 0)), (1, .int a1), (2, .int a2)] [] μ := by
  refine J_aload_n E dX11_kinds_24 rfl ?_
  refine J_aload_n E dX11_kinds_25 rfl ?_
  refine S_get (ci := 11) (q := 9) (v := .ref (Z.2.2.1 + 78)) E dX11_kinds_26 fs_X11_63 sh0 rfl ?_
  refine J_iload_n E dX11_kinds_29 rfl ?_
  refine S_callV (As := [.ref (Z.2.2.1 + 78), .int a1]) (rest := []) E dX11_kinds_30 c kX11_canHunt ⟨Nat.le_of_ble_eq_true rfl, Nat.le_of_ble_eq_true rfl⟩ rfl (Nat.le_of_ble_eq_true rfl) sh0 rfl rfl w4_72 w4_74 wp_12 (fun r_ μ1 hp_ => ?_)
  obtain ⟨v, rfl, hp_⟩ := hp_
  refine J.weak [0, 2] rfl ?_
  exact k v μ1 hp_
theorem bX11_kinds_33 {Z : ZT} {X : XT} {μ : Mu} {a2 : Int32} {s0 : Int32} (E : Ent Z X mX11_kinds 0 0)  
    (kt : ¬ s0 = 0 → JS Z X 43 [(0, .ref (Z.2.2.1 + 0)), (2, .int a2)] [] μ) (kf : s0 = 0 → JS Z X 36 [(0, .ref (Z.2.2.1 + 0))] [] μ) :
    JS Z X 33 [(0, .ref (Z.2.2.1 + 0)), (2, .int a2)] [.int s0] μ := by
  refine J_if_ne (tgt := 43) E dX11_kinds_33 (by decide) (fun c => ?_) (fun c => ?_)
  · exact kt c
  · refine J.weak [0] rfl ?_
    exact kf c
theorem bX11_kinds_36 {Z : ZT} {X : XT} {μ : Mu} (E : Ent Z X mX11_kinds 0 0) {p : Int32 → Mu → Prop} 
    (c : CtrS Z mX11_counted [.ref (Z.2.2.1 + 0), .int (-3)] μ (rI p)) (k : ∀ v μ1, p v μ1 → JS Z X 42 [] [.int v] μ1) :
    JS Z X 36 [(0, .ref (Z.2.2.1 + 0))] [] μ := by
  refine J_aload_n E dX11_kinds_36 rfl ?_
  refine J_bipush (v := -3) E dX11_kinds_37 rfl ?_
  refine S_callV (As := [.int (-3)]) (rest := []) E dX11_kinds_39 c kX11_counted ⟨Nat.le_of_ble_eq_true rfl, Nat.le_of_ble_eq_true rfl⟩ rfl (Nat.le_of_ble_eq_true rfl) sh0 rfl rfl w3_25 w3_27 wp_1 (fun r_ μ1 hp_ => ?_)
  obtain ⟨v, rfl, hp_⟩ := hp_
  refine J.weak [] rfl ?_
  exact k v μ1 hp_
theorem bX11_kinds_42 {Z : ZT} {X : XT} {μ : Mu} {s0 : Int32} (E : Ent Z X mX11_kinds 0 0) {P : Option Value → Mu → Prop} (hB : BodS Z X P) 
    (k : P (some (.int s0)) μ) :
    JS Z X 42 [] [.int s0] μ := by
  exact S_iret E hB dX11_kinds_42 rfl k
theorem bX11_kinds_43 {Z : ZT} {X : XT} {μ : Mu} {a2 : Int32} (E : Ent Z X mX11_kinds 0 0) {p : Mu → Prop} 
    (c : CtrS Z mX5_begin [.ref (Z.2.2.1 + 92)] μ (rV p)) (k : ∀ μ1, p μ1 → JS Z X 50 [(0, .ref (Z.2.2.1 + 0)), (2, .int a2)] [] μ1) :
    JS Z X 43 [(0, .ref (Z.2.2.1 + 0)), (2, .int a2)] [] μ := by
  refine J_aload_n E dX11_kinds_43 rfl ?_
  refine S_get (ci := 11) (q := 11) (v := .ref (Z.2.2.1 + 92)) E dX11_kinds_44 fs_X11_75 sh0 rfl ?_
  refine S_callV (As := []) (rest := []) E dX11_kinds_47 c kX5_begin ⟨Nat.le_of_ble_eq_true rfl, Nat.le_of_ble_eq_true rfl⟩ rfl (Nat.le_of_ble_eq_true rfl) sh92 rfl rfl w4_155 w4_156 w4_157 (fun r_ μ1 hp_ => ?_)
  obtain ⟨rfl, hp_⟩ := hp_
  exact k μ1 hp_
theorem bX11_kinds_50 {Z : ZT} {X : XT} {μ : Mu} {a2 : Int32} (E : Ent Z X mX11_kinds 0 0) {p : Mu → Prop} 
    (c : CtrS Z mX1_find [.ref (Z.2.2.1 + 285), .ref (Z.2.2.1 + 78)] μ (rV p)) (k : ∀ μ1, p μ1 → JS Z X 61 [(0, .ref (Z.2.2.1 + 0)), (2, .int a2)] [] μ1) :
    JS Z X 50 [(0, .ref (Z.2.2.1 + 0)), (2, .int a2)] [] μ := by
  refine J_aload_n E dX11_kinds_50 rfl ?_
  refine S_get (ci := 11) (q := 14) (v := .ref (Z.2.2.1 + 285)) E dX11_kinds_51 fs_X11_100 sh0 rfl ?_
  refine J_aload_n E dX11_kinds_54 rfl ?_
  refine S_get (ci := 11) (q := 9) (v := .ref (Z.2.2.1 + 78)) E dX11_kinds_55 fs_X11_63 sh0 rfl ?_
  refine S_callV (As := [.ref (Z.2.2.1 + 78)]) (rest := []) E dX11_kinds_58 c kX1_find ⟨Nat.le_of_ble_eq_true rfl, Nat.le_of_ble_eq_true rfl⟩ rfl (Nat.le_of_ble_eq_true rfl) sh285 rfl rfl w5_32 w5_33 w5_34 (fun r_ μ1 hp_ => ?_)
  obtain ⟨rfl, hp_⟩ := hp_
  exact k μ1 hp_
theorem bX11_kinds_61 {Z : ZT} {X : XT} {μ : Mu} {a2 : Int32} (E : Ent Z X mX11_kinds 0 0) {p : Mu → Prop} 
    (c : CtrS Z mX2_set [.ref (Z.2.2.1 + 446), .ref (Z.2.2.1 + 287), .int ((μ 92 2) + (nI 6))] μ (rV p)) (k : ∀ μ1, p μ1 → JS Z X 85 [(0, .ref (Z.2.2.1 + 0)), (2, .int a2)] [] μ1) :
    JS Z X 61 [(0, .ref (Z.2.2.1 + 0)), (2, .int a2)] [] μ := by
  refine J_aload_n E dX11_kinds_61 rfl ?_
  refine S_get (ci := 11) (q := 15) (v := .ref (Z.2.2.1 + 446)) E dX11_kinds_62 fs_X11_107 sh0 rfl ?_
  refine J_aload_n E dX11_kinds_65 rfl ?_
  refine S_get (ci := 11) (q := 14) (v := .ref (Z.2.2.1 + 285)) E dX11_kinds_66 fs_X11_100 sh0 rfl ?_
  refine S_get (ci := 1) (q := 3) (v := .ref (Z.2.2.1 + 287)) E dX11_kinds_69 fs_X11_281 sh285 rfl ?_
  refine J_aload_n E dX11_kinds_72 rfl ?_
  refine S_get (ci := 11) (q := 11) (v := .ref (Z.2.2.1 + 92)) E dX11_kinds_73 fs_X11_75 sh0 rfl ?_
  refine S_get (ci := 5) (q := 2) (v := .int (μ 92 2)) E dX11_kinds_76 fs_X11_239 sh92 rfl ?_
  refine J_bipush (v := nI 6) E dX11_kinds_79 rfl ?_
  refine J_iadd E dX11_kinds_81 ?_
  refine S_callV (As := [.ref (Z.2.2.1 + 287), .int ((μ 92 2) + (nI 6))]) (rest := []) E dX11_kinds_82 c kX2_set ⟨Nat.le_of_ble_eq_true rfl, Nat.le_of_ble_eq_true rfl⟩ rfl (Nat.le_of_ble_eq_true rfl) sh446 rfl rfl w4_122 w4_123 w4_124 (fun r_ μ1 hp_ => ?_)
  obtain ⟨rfl, hp_⟩ := hp_
  exact k μ1 hp_
theorem bX11_kinds_85 {Z : ZT} {X : XT} {μ : Mu} {a2 : Int32} (E : Ent Z X mX11_kinds 0 0)  
    (kt : (μ 78 4) ≤ a2 → JS Z X 108 [] [] μ) (kf : ¬ ((μ 78 4) ≤ a2) → JS Z X 96 [(0, .ref (Z.2.2.1 + 0)), (2, .int a2)] [] μ) :
    JS Z X 85 [(0, .ref (Z.2.2.1 + 0)), (2, .int a2)] [] μ := by
  refine J_iload_n E dX11_kinds_85 rfl ?_
  refine J_aload_n E dX11_kinds_86 rfl ?_
  refine S_get (ci := 11) (q := 9) (v := .ref (Z.2.2.1 + 78)) E dX11_kinds_87 fs_X11_63 sh0 rfl ?_
  refine S_get (ci := 4) (q := 4) (v := .int (μ 78 4)) E dX11_kinds_90 fs_X11_226 sh78 rfl ?_
  refine J_icmp_ge (tgt := 108) E dX11_kinds_93 (by decide) (fun c => ?_) (fun c => ?_)
  · refine J.weak [] rfl ?_
    exact kt c
  · exact kf c
theorem bX11_kinds_96 {Z : ZT} {X : XT} {μ : Mu} {a2 : Int32} (E : Ent Z X mX11_kinds 0 0)  (s1_ : vp_in a2 6)
    (k : JS Z X 110 [] [.int (μ 286 (ix a2))] μ) :
    JS Z X 96 [(0, .ref (Z.2.2.1 + 0)), (2, .int a2)] [] μ := by
  refine J_aload_n E dX11_kinds_96 rfl ?_
  refine S_get (ci := 11) (q := 14) (v := .ref (Z.2.2.1 + 285)) E dX11_kinds_97 fs_X11_100 sh0 rfl ?_
  refine S_get (ci := 1) (q := 2) (v := .ref (Z.2.2.1 + 286)) E dX11_kinds_100 fs_X11_284 sh285 rfl ?_
  refine J_iload_n E dX11_kinds_103 rfl ?_
  refine S_iald E dX11_kinds_104 sh286 s1_ ?_
  refine J_goto (tgt := 110) E dX11_kinds_105 (by decide) ?_
  refine J.weak [] rfl ?_
  exact k
theorem bX11_kinds_108 {Z : ZT} {X : XT} {μ : Mu} (E : Ent Z X mX11_kinds 0 0)  
    (k : JS Z X 110 [] [.int (-5)] μ) :
    JS Z X 108 [] [] μ := by
  refine J_bipush (v := -5) E dX11_kinds_108 rfl ?_
  exact k
theorem bX11_kinds_110 {Z : ZT} {X : XT} {μ : Mu} {s0 : Int32} (E : Ent Z X mX11_kinds 0 0) {P : Option Value → Mu → Prop} (hB : BodS Z X P) 
    (k : P (some (.int s0)) μ) :
    JS Z X 110 [] [.int s0] μ := by
  exact S_iret E hB dX11_kinds_110 rfl k
theorem dX11_meet_0 : decode cX11_meet 0 = .ok (.aload_n 0, 1) := by decide +kernel
theorem dX11_meet_1 : decode cX11_meet 1 = .ok (.aload_n 0, 1) := by decide +kernel
theorem dX11_meet_2 : decode cX11_meet 2 = .ok (.getfield 63, 3) := by decide +kernel
theorem dX11_meet_5 : decode cX11_meet 5 = .ok (.iconst 0, 1) := by decide +kernel
theorem dX11_meet_6 : decode cX11_meet 6 = .ok (.invokevirtual 205, 3) := by decide +kernel
theorem dX11_meet_9 : decode cX11_meet 9 = .ok (.ifCond .eq 15, 3) := by decide +kernel
theorem dX11_meet_12 : decode cX11_meet 12 = .ok (.aload_n 0, 1) := by decide +kernel
theorem dX11_meet_13 : decode cX11_meet 13 = .ok (.aload_n 0, 1) := by decide +kernel
theorem dX11_meet_14 : decode cX11_meet 14 = .ok (.getfield 67, 3) := by decide +kernel
theorem dX11_meet_17 : decode cX11_meet 17 = .ok (.iconst 1, 1) := by decide +kernel
theorem dX11_meet_18 : decode cX11_meet 18 = .ok (.invokevirtual 205, 3) := by decide +kernel
theorem dX11_meet_21 : decode cX11_meet 21 = .ok (.ifCond .ne 10, 3) := by decide +kernel
theorem dX11_meet_24 : decode cX11_meet 24 = .ok (.aload_n 0, 1) := by decide +kernel
theorem dX11_meet_25 : decode cX11_meet 25 = .ok (.bipush (-3), 2) := by decide +kernel
theorem dX11_meet_27 : decode cX11_meet 27 = .ok (.invokevirtual 125, 3) := by decide +kernel
theorem dX11_meet_30 : decode cX11_meet 30 = .ok (.ireturn, 1) := by decide +kernel
theorem dX11_meet_31 : decode cX11_meet 31 = .ok (.aload_n 0, 1) := by decide +kernel
theorem dX11_meet_32 : decode cX11_meet 32 = .ok (.getfield 63, 3) := by decide +kernel
theorem dX11_meet_35 : decode cX11_meet 35 = .ok (.aload_n 0, 1) := by decide +kernel
theorem dX11_meet_36 : decode cX11_meet 36 = .ok (.getfield 67, 3) := by decide +kernel
theorem dX11_meet_39 : decode cX11_meet 39 = .ok (.invokevirtual 285, 3) := by decide +kernel
theorem dX11_meet_42 : decode cX11_meet 42 = .ok (.ireturn, 1) := by decide +kernel
theorem bX11_meet_0 {Z : ZT} {X : XT} {μ : Mu} (E : Ent Z X mX11_meet 0 0) {p : Int32 → Mu → Prop} 
    (c : CtrS Z mX11_canHunt [.ref (Z.2.2.1 + 0), .ref (Z.2.2.1 + 78), .int (nI 0)] μ (rI p)) (k : ∀ v μ1, p v μ1 → JS Z X 9 [(0, .ref (Z.2.2.1 + 0))] [.int v] μ1) :
    JS Z X 0 [(0, .ref (Z.2.2.1 + 0))] [] μ := by
  refine J_aload_n E dX11_meet_0 rfl ?_
  refine J_aload_n E dX11_meet_1 rfl ?_
  refine S_get (ci := 11) (q := 9) (v := .ref (Z.2.2.1 + 78)) E dX11_meet_2 fs_X11_63 sh0 rfl ?_
  refine J_iconst (v := nI 0) E dX11_meet_5 rfl ?_
  refine S_callV (As := [.ref (Z.2.2.1 + 78), .int (nI 0)]) (rest := []) E dX11_meet_6 c kX11_canHunt ⟨Nat.le_of_ble_eq_true rfl, Nat.le_of_ble_eq_true rfl⟩ rfl (Nat.le_of_ble_eq_true rfl) sh0 rfl rfl w4_72 w4_74 wp_12 (fun r_ μ1 hp_ => ?_)
  obtain ⟨v, rfl, hp_⟩ := hp_
  exact k v μ1 hp_
theorem bX11_meet_9 {Z : ZT} {X : XT} {μ : Mu} {s0 : Int32} (E : Ent Z X mX11_meet 0 0)  
    (kt : s0 = 0 → JS Z X 24 [(0, .ref (Z.2.2.1 + 0))] [] μ) (kf : ¬ (s0 = 0) → JS Z X 12 [(0, .ref (Z.2.2.1 + 0))] [] μ) :
    JS Z X 9 [(0, .ref (Z.2.2.1 + 0))] [.int s0] μ := by
  refine J_if_eq (tgt := 24) E dX11_meet_9 (by decide) (fun c => ?_) (fun c => ?_)
  · exact kt c
  · exact kf c
theorem bX11_meet_12 {Z : ZT} {X : XT} {μ : Mu} (E : Ent Z X mX11_meet 0 0) {p : Int32 → Mu → Prop} 
    (c : CtrS Z mX11_canHunt [.ref (Z.2.2.1 + 0), .ref (Z.2.2.1 + 85), .int (nI 1)] μ (rI p)) (k : ∀ v μ1, p v μ1 → JS Z X 21 [(0, .ref (Z.2.2.1 + 0))] [.int v] μ1) :
    JS Z X 12 [(0, .ref (Z.2.2.1 + 0))] [] μ := by
  refine J_aload_n E dX11_meet_12 rfl ?_
  refine J_aload_n E dX11_meet_13 rfl ?_
  refine S_get (ci := 11) (q := 10) (v := .ref (Z.2.2.1 + 85)) E dX11_meet_14 fs_X11_67 sh0 rfl ?_
  refine J_iconst (v := nI 1) E dX11_meet_17 rfl ?_
  refine S_callV (As := [.ref (Z.2.2.1 + 85), .int (nI 1)]) (rest := []) E dX11_meet_18 c kX11_canHunt ⟨Nat.le_of_ble_eq_true rfl, Nat.le_of_ble_eq_true rfl⟩ rfl (Nat.le_of_ble_eq_true rfl) sh0 rfl rfl w4_72 w4_74 wp_12 (fun r_ μ1 hp_ => ?_)
  obtain ⟨v, rfl, hp_⟩ := hp_
  exact k v μ1 hp_
theorem bX11_meet_21 {Z : ZT} {X : XT} {μ : Mu} {s0 : Int32} (E : Ent Z X mX11_meet 0 0)  
    (kt : ¬ s0 = 0 → JS Z X 31 [(0, .ref (Z.2.2.1 + 0))] [] μ) (kf : s0 = 0 → JS Z X 24 [(0, .ref (Z.2.2.1 + 0))] [] μ) :
    JS Z X 21 [(0, .ref (Z.2.2.1 + 0))] [.int s0] μ := by
  refine J_if_ne (tgt := 31) E dX11_meet_21 (by decide) (fun c => ?_) (fun c => ?_)
  · exact kt c
  · exact kf c
theorem bX11_meet_24 {Z : ZT} {X : XT} {μ : Mu} (E : Ent Z X mX11_meet 0 0) {p : Int32 → Mu → Prop} 
    (c : CtrS Z mX11_counted [.ref (Z.2.2.1 + 0), .int (-3)] μ (rI p)) (k : ∀ v μ1, p v μ1 → JS Z X 30 [] [.int v] μ1) :
    JS Z X 24 [(0, .ref (Z.2.2.1 + 0))] [] μ := by
  refine J_aload_n E dX11_meet_24 rfl ?_
  refine J_bipush (v := -3) E dX11_meet_25 rfl ?_
  refine S_callV (As := [.int (-3)]) (rest := []) E dX11_meet_27 c kX11_counted ⟨Nat.le_of_ble_eq_true rfl, Nat.le_of_ble_eq_true rfl⟩ rfl (Nat.le_of_ble_eq_true rfl) sh0 rfl rfl w3_25 w3_27 wp_1 (fun r_ μ1 hp_ => ?_)
  obtain ⟨v, rfl, hp_⟩ := hp_
  refine J.weak [] rfl ?_
  exact k v μ1 hp_
theorem bX11_meet_30 {Z : ZT} {X : XT} {μ : Mu} {s0 : Int32} (E : Ent Z X mX11_meet 0 0) {P : Option Value → Mu → Prop} (hB : BodS Z X P) 
    (k : P (some (.int s0)) μ) :
    JS Z X 30 [] [.int s0] μ := by
  exact S_iret E hB dX11_meet_30 rfl k
theorem bX11_meet_31 {Z : ZT} {X : XT} {μ : Mu} (E : Ent Z X mX11_meet 0 0) {p : Int32 → Mu → Prop} 
    (c : CtrS Z mX4_meetings [.ref (Z.2.2.1 + 78), .ref (Z.2.2.1 + 85)] μ (rI p)) (k : ∀ v μ1, p v μ1 → JS Z X 42 [] [.int v] μ1) :
    JS Z X 31 [(0, .ref (Z.2.2.1 + 0))] [] μ := by
  refine J_aload_n E dX11_meet_31 rfl ?_
  refine S_get (ci := 11) (q := 9) (v := .ref (Z.2.2.1 + 78)) E dX11_meet_32 fs_X11_63 sh0 rfl ?_
  refine J_aload_n E dX11_meet_35 rfl ?_
  refine S_get (ci := 11) (q := 10) (v := .ref (Z.2.2.1 + 85)) E dX11_meet_36 fs_X11_67 sh0 rfl ?_
  refine S_callV (As := [.ref (Z.2.2.1 + 85)]) (rest := []) E dX11_meet_39 c kX4_meetings ⟨Nat.le_of_ble_eq_true rfl, Nat.le_of_ble_eq_true rfl⟩ rfl (Nat.le_of_ble_eq_true rfl) sh78 rfl rfl w5_67 w5_68 w5_69 (fun r_ μ1 hp_ => ?_)
  obtain ⟨v, rfl, hp_⟩ := hp_
  refine J.weak [] rfl ?_
  exact k v μ1 hp_
theorem bX11_meet_42 {Z : ZT} {X : XT} {μ : Mu} {s0 : Int32} (E : Ent Z X mX11_meet 0 0) {P : Option Value → Mu → Prop} (hB : BodS Z X P) 
    (k : P (some (.int s0)) μ) :
    JS Z X 42 [] [.int s0] μ := by
  exact S_iret E hB dX11_meet_42 rfl k
theorem dX11_apart_0 : decode cX11_apart 0 = .ok (.iload_n 1, 1) := by decide +kernel
theorem dX11_apart_1 : decode cX11_apart 1 = .ok (.iconst (-1), 1) := by decide +kernel
theorem dX11_apart_2 : decode cX11_apart 2 = .ok (.if_icmp .eq 22, 3) := by decide +kernel
theorem dX11_apart_5 : decode cX11_apart 5 = .ok (.iload_n 1, 1) := by decide +kernel
theorem dX11_apart_6 : decode cX11_apart 6 = .ok (.bipush 6, 2) := by decide +kernel
theorem dX11_apart_8 : decode cX11_apart 8 = .ok (.invokestatic 198, 3) := by decide +kernel
theorem dX11_apart_11 : decode cX11_apart 11 = .ok (.ifCond .ne 13, 3) := by decide +kernel
theorem dX11_apart_14 : decode cX11_apart 14 = .ok (.aload_n 0, 1) := by decide +kernel
theorem dX11_apart_15 : decode cX11_apart 15 = .ok (.bipush (-2), 2) := by decide +kernel
theorem dX11_apart_17 : decode cX11_apart 17 = .ok (.invokevirtual 125, 3) := by decide +kernel
theorem dX11_apart_20 : decode cX11_apart 20 = .ok (.pop, 1) := by decide +kernel
theorem dX11_apart_21 : decode cX11_apart 21 = .ok (.bipush (-10), 2) := by decide +kernel
theorem dX11_apart_23 : decode cX11_apart 23 = .ok (.ireturn, 1) := by decide +kernel
theorem dX11_apart_24 : decode cX11_apart 24 = .ok (.aload_n 0, 1) := by decide +kernel
theorem dX11_apart_25 : decode cX11_apart 25 = .ok (.aload_n 0, 1) := by decide +kernel
theorem dX11_apart_26 : decode cX11_apart 26 = .ok (.getfield 63, 3) := by decide +kernel
theorem dX11_apart_29 : decode cX11_apart 29 = .ok (.iconst 0, 1) := by decide +kernel
theorem dX11_apart_30 : decode cX11_apart 30 = .ok (.invokevirtual 205, 3) := by decide +kernel
theorem dX11_apart_33 : decode cX11_apart 33 = .ok (.ifCond .eq 15, 3) := by decide +kernel
theorem dX11_apart_36 : decode cX11_apart 36 = .ok (.aload_n 0, 1) := by decide +kernel
theorem dX11_apart_37 : decode cX11_apart 37 = .ok (.aload_n 0, 1) := by decide +kernel
theorem dX11_apart_38 : decode cX11_apart 38 = .ok (.getfield 67, 3) := by decide +kernel
theorem dX11_apart_41 : decode cX11_apart 41 = .ok (.iconst 1, 1) := by decide +kernel
theorem dX11_apart_42 : decode cX11_apart 42 = .ok (.invokevirtual 205, 3) := by decide +kernel
theorem dX11_apart_45 : decode cX11_apart 45 = .ok (.ifCond .ne 13, 3) := by decide +kernel
theorem dX11_apart_48 : decode cX11_apart 48 = .ok (.aload_n 0, 1) := by decide +kernel
theorem dX11_apart_49 : decode cX11_apart 49 = .ok (.bipush (-3), 2) := by decide +kernel
theorem dX11_apart_51 : decode cX11_apart 51 = .ok (.invokevirtual 125, 3) := by decide +kernel
theorem dX11_apart_54 : decode cX11_apart 54 = .ok (.pop, 1) := by decide +kernel
theorem dX11_apart_55 : decode cX11_apart 55 = .ok (.bipush (-20), 2) := by decide +kernel
theorem dX11_apart_57 : decode cX11_apart 57 = .ok (.ireturn, 1) := by decide +kernel
theorem dX11_apart_58 : decode cX11_apart 58 = .ok (.aload_n 0, 1) := by decide +kernel
theorem dX11_apart_59 : decode cX11_apart 59 = .ok (.getfield 91, 3) := by decide +kernel
theorem dX11_apart_62 : decode cX11_apart 62 = .ok (.aload_n 0, 1) := by decide +kernel
theorem dX11_apart_63 : decode cX11_apart 63 = .ok (.getfield 67, 3) := by decide +kernel
theorem dX11_apart_66 : decode cX11_apart 66 = .ok (.aload_n 0, 1) := by decide +kernel
theorem dX11_apart_67 : decode cX11_apart 67 = .ok (.getfield 63, 3) := by decide +kernel
theorem dX11_apart_70 : decode cX11_apart 70 = .ok (.invokevirtual 289, 3) := by decide +kernel
theorem dX11_apart_73 : decode cX11_apart 73 = .ok (.iload_n 1, 1) := by decide +kernel
theorem dX11_apart_74 : decode cX11_apart 74 = .ok (.iconst (-1), 1) := by decide +kernel
theorem dX11_apart_75 : decode cX11_apart 75 = .ok (.if_icmp .ne 11, 3) := by decide +kernel
theorem dX11_apart_78 : decode cX11_apart 78 = .ok (.aload_n 0, 1) := by decide +kernel
theorem dX11_apart_79 : decode cX11_apart 79 = .ok (.getfield 91, 3) := by decide +kernel
theorem dX11_apart_82 : decode cX11_apart 82 = .ok (.getfield 293, 3) := by decide +kernel
theorem dX11_apart_85 : decode cX11_apart 85 = .ok (.ireturn, 1) := by decide +kernel
theorem dX11_apart_86 : decode cX11_apart 86 = .ok (.iload_n 1, 1) := by decide +kernel
theorem dX11_apart_87 : decode cX11_apart 87 = .ok (.aload_n 0, 1) := by decide +kernel
theorem dX11_apart_88 : decode cX11_apart 88 = .ok (.getfield 67, 3) := by decide +kernel
theorem dX11_apart_91 : decode cX11_apart 91 = .ok (.getfield 226, 3) := by decide +kernel
theorem dX11_apart_94 : decode cX11_apart 94 = .ok (.if_icmp .ge 15, 3) := by decide +kernel
theorem dX11_apart_97 : decode cX11_apart 97 = .ok (.aload_n 0, 1) := by decide +kernel
theorem dX11_apart_98 : decode cX11_apart 98 = .ok (.getfield 91, 3) := by decide +kernel
theorem dX11_apart_101 : decode cX11_apart 101 = .ok (.getfield 274, 3) := by decide +kernel
theorem dX11_apart_104 : decode cX11_apart 104 = .ok (.iload_n 1, 1) := by decide +kernel
theorem dX11_apart_105 : decode cX11_apart 105 = .ok (.iaload, 1) := by decide +kernel
theorem dX11_apart_106 : decode cX11_apart 106 = .ok (.goto 5, 3) := by decide +kernel
theorem dX11_apart_109 : decode cX11_apart 109 = .ok (.bipush (-5), 2) := by decide +kernel
theorem dX11_apart_111 : decode cX11_apart 111 = .ok (.ireturn, 1) := by decide +kernel
theorem bX11_apart_0 {Z : ZT} {X : XT} {μ : Mu} {a1 : Int32} (E : Ent Z X mX11_apart 0 0)  
    (kt : a1 = (-1) → JS Z X 24 [(0, .ref (Z.2.2.1 + 0)), (1, .int a1)] [] μ) (kf : ¬ (a1 = (-1)) → JS Z X 5 [(0, .ref (Z.2.2.1 + 0)), (1, .int a1)] [] μ) :
    JS Z X 0 [(0, .ref (Z.2.2.1 + 0)), (1, .int a1)] [] μ := by
  refine J_iload_n E dX11_apart_0 rfl ?_
  refine J_iconst (v := -1) E dX11_apart_1 rfl ?_
  refine J_icmp_eq (tgt := 24) E dX11_apart_2 (by decide) (fun c => ?_) (fun c => ?_)
  · exact kt c
  · exact kf c
theorem bX11_apart_5 {Z : ZT} {X : XT} {μ : Mu} {a1 : Int32} (E : Ent Z X mX11_apart 0 0) {p : Int32 → Mu → Prop} 
    (c : CtrS Z mX11_within [.int a1, .int (nI 6)] μ (rI p)) (k : ∀ v μ1, p v μ1 → JS Z X 11 [(0, .ref (Z.2.2.1 + 0)), (1, .int a1)] [.int v] μ1) :
    JS Z X 5 [(0, .ref (Z.2.2.1 + 0)), (1, .int a1)] [] μ := by
  refine J_iload_n E dX11_apart_5 rfl ?_
  refine J_bipush (v := nI 6) E dX11_apart_6 rfl ?_
  refine S_callS (As := [.int a1, .int (nI 6)]) (rest := []) E dX11_apart_8 c kX11_within ⟨Nat.le_of_ble_eq_true rfl, Nat.le_of_ble_eq_true rfl⟩ rfl (Nat.le_of_ble_eq_true rfl) w4_71 w3_46 (fun r_ μ1 hp_ => ?_)
  obtain ⟨v, rfl, hp_⟩ := hp_
  exact k v μ1 hp_
theorem bX11_apart_11 {Z : ZT} {X : XT} {μ : Mu} {a1 : Int32} {s0 : Int32} (E : Ent Z X mX11_apart 0 0)  
    (kt : ¬ s0 = 0 → JS Z X 24 [(0, .ref (Z.2.2.1 + 0)), (1, .int a1)] [] μ) (kf : s0 = 0 → JS Z X 14 [(0, .ref (Z.2.2.1 + 0))] [] μ) :
    JS Z X 11 [(0, .ref (Z.2.2.1 + 0)), (1, .int a1)] [.int s0] μ := by
  refine J_if_ne (tgt := 24) E dX11_apart_11 (by decide) (fun c => ?_) (fun c => ?_)
  · exact kt c
  · refine J.weak [0] rfl ?_
    exact kf c
theorem bX11_apart_14 {Z : ZT} {X : XT} {μ : Mu} (E : Ent Z X mX11_apart 0 0) {p : Int32 → Mu → Prop} 
    (c : CtrS Z mX11_counted [.ref (Z.2.2.1 + 0), .int (-2)] μ (rI p)) (k : ∀ v μ1, p v μ1 → JS Z X 20 [] [.int v] μ1) :
    JS Z X 14 [(0, .ref (Z.2.2.1 + 0))] [] μ := by
  refine J_aload_n E dX11_apart_14 rfl ?_
  refine J_bipush (v := -2) E dX11_apart_15 rfl ?_
  refine S_callV (As := [.int (-2)]) (rest := []) E dX11_apart_17 c kX11_counted ⟨Nat.le_of_ble_eq_true rfl, Nat.le_of_ble_eq_true rfl⟩ rfl (Nat.le_of_ble_eq_true rfl) sh0 rfl rfl w3_25 w3_27 wp_1 (fun r_ μ1 hp_ => ?_)
  obtain ⟨v, rfl, hp_⟩ := hp_
  refine J.weak [] rfl ?_
  exact k v μ1 hp_
theorem bX11_apart_20 {Z : ZT} {X : XT} {μ : Mu} {s0 : Int32} (E : Ent Z X mX11_apart 0 0) {P : Option Value → Mu → Prop} (hB : BodS Z X P) 
    (k : P (some (.int (-10))) μ) :
    JS Z X 20 [] [.int s0] μ := by
  refine J_pop E dX11_apart_20 rfl ?_
  refine J_bipush (v := -10) E dX11_apart_21 rfl ?_
  exact S_iret E hB dX11_apart_23 rfl k
theorem bX11_apart_24 {Z : ZT} {X : XT} {μ : Mu} {a1 : Int32} (E : Ent Z X mX11_apart 0 0) {p : Int32 → Mu → Prop} 
    (c : CtrS Z mX11_canHunt [.ref (Z.2.2.1 + 0), .ref (Z.2.2.1 + 78), .int (nI 0)] μ (rI p)) (k : ∀ v μ1, p v μ1 → JS Z X 33 [(0, .ref (Z.2.2.1 + 0)), (1, .int a1)] [.int v] μ1) :
    JS Z X 24 [(0, .ref (Z.2.2.1 + 0)), (1, .int a1)] [] μ := by
  refine J_aload_n E dX11_apart_24 rfl ?_
  refine J_aload_n E dX11_apart_25 rfl ?_
  refine S_get (ci := 11) (q := 9) (v := .ref (Z.2.2.1 + 78)) E dX11_apart_26 fs_X11_63 sh0 rfl ?_
  refine J_iconst (v := nI 0) E dX11_apart_29 rfl ?_
  refine S_callV (As := [.ref (Z.2.2.1 + 78), .int (nI 0)]) (rest := []) E dX11_apart_30 c kX11_canHunt ⟨Nat.le_of_ble_eq_true rfl, Nat.le_of_ble_eq_true rfl⟩ rfl (Nat.le_of_ble_eq_true rfl) sh0 rfl rfl w4_72 w4_74 wp_12 (fun r_ μ1 hp_ => ?_)
  obtain ⟨v, rfl, hp_⟩ := hp_
  exact k v μ1 hp_
theorem bX11_apart_33 {Z : ZT} {X : XT} {μ : Mu} {a1 : Int32} {s0 : Int32} (E : Ent Z X mX11_apart 0 0)  
    (kt : s0 = 0 → JS Z X 48 [(0, .ref (Z.2.2.1 + 0))] [] μ) (kf : ¬ (s0 = 0) → JS Z X 36 [(0, .ref (Z.2.2.1 + 0)), (1, .int a1)] [] μ) :
    JS Z X 33 [(0, .ref (Z.2.2.1 + 0)), (1, .int a1)] [.int s0] μ := by
  refine J_if_eq (tgt := 48) E dX11_apart_33 (by decide) (fun c => ?_) (fun c => ?_)
  · refine J.weak [0] rfl ?_
    exact kt c
  · exact kf c
theorem bX11_apart_36 {Z : ZT} {X : XT} {μ : Mu} {a1 : Int32} (E : Ent Z X mX11_apart 0 0) {p : Int32 → Mu → Prop} 
    (c : CtrS Z mX11_canHunt [.ref (Z.2.2.1 + 0), .ref (Z.2.2.1 + 85), .int (nI 1)] μ (rI p)) (k : ∀ v μ1, p v μ1 → JS Z X 45 [(0, .ref (Z.2.2.1 + 0)), (1, .int a1)] [.int v] μ1) :
    JS Z X 36 [(0, .ref (Z.2.2.1 + 0)), (1, .int a1)] [] μ := by
  refine J_aload_n E dX11_apart_36 rfl ?_
  refine J_aload_n E dX11_apart_37 rfl ?_
  refine S_get (ci := 11) (q := 10) (v := .ref (Z.2.2.1 + 85)) E dX11_apart_38 fs_X11_67 sh0 rfl ?_
  refine J_iconst (v := nI 1) E dX11_apart_41 rfl ?_
  refine S_callV (As := [.ref (Z.2.2.1 + 85), .int (nI 1)]) (rest := []) E dX11_apart_42 c kX11_canHunt ⟨Nat.le_of_ble_eq_true rfl, Nat.le_of_ble_eq_true rfl⟩ rfl (Nat.le_of_ble_eq_true rfl) sh0 rfl rfl w4_72 w4_74 wp_12 (fun r_ μ1 hp_ => ?_)
  obtain ⟨v, rfl, hp_⟩ := hp_
  exact k v μ1 hp_
theorem bX11_apart_45 {Z : ZT} {X : XT} {μ : Mu} {a1 : Int32} {s0 : Int32} (E : Ent Z X mX11_apart 0 0)  
    (kt : ¬ s0 = 0 → JS Z X 58 [(0, .ref (Z.2.2.1 + 0)), (1, .int a1)] [] μ) (kf : s0 = 0 → JS Z X 48 [(0, .ref (Z.2.2.1 + 0))] [] μ) :
    JS Z X 45 [(0, .ref (Z.2.2.1 + 0)), (1, .int a1)] [.int s0] μ := by
  refine J_if_ne (tgt := 58) E dX11_apart_45 (by decide) (fun c => ?_) (fun c => ?_)
  · exact kt c
  · refine J.weak [0] rfl ?_
    exact kf c
theorem bX11_apart_48 {Z : ZT} {X : XT} {μ : Mu} (E : Ent Z X mX11_apart 0 0) {p : Int32 → Mu → Prop} 
    (c : CtrS Z mX11_counted [.ref (Z.2.2.1 + 0), .int (-3)] μ (rI p)) (k : ∀ v μ1, p v μ1 → JS Z X 54 [] [.int v] μ1) :
    JS Z X 48 [(0, .ref (Z.2.2.1 + 0))] [] μ := by
  refine J_aload_n E dX11_apart_48 rfl ?_
  refine J_bipush (v := -3) E dX11_apart_49 rfl ?_
  refine S_callV (As := [.int (-3)]) (rest := []) E dX11_apart_51 c kX11_counted ⟨Nat.le_of_ble_eq_true rfl, Nat.le_of_ble_eq_true rfl⟩ rfl (Nat.le_of_ble_eq_true rfl) sh0 rfl rfl w3_25 w3_27 wp_1 (fun r_ μ1 hp_ => ?_)
  obtain ⟨v, rfl, hp_⟩ := hp_
  refine J.weak [] rfl ?_
  exact k v μ1 hp_
theorem bX11_apart_54 {Z : ZT} {X : XT} {μ : Mu} {s0 : Int32} (E : Ent Z X mX11_apart 0 0) {P : Option Value → Mu → Prop} (hB : BodS Z X P) 
    (k : P (some (.int (-20))) μ) :
    JS Z X 54 [] [.int s0] μ := by
  refine J_pop E dX11_apart_54 rfl ?_
  refine J_bipush (v := -20) E dX11_apart_55 rfl ?_
  exact S_iret E hB dX11_apart_57 rfl k
theorem bX11_apart_58 {Z : ZT} {X : XT} {μ : Mu} {a1 : Int32} (E : Ent Z X mX11_apart 0 0) {p : Mu → Prop} 
    (c : CtrS Z mX7_findApart [.ref (Z.2.2.1 + 273), .ref (Z.2.2.1 + 85), .ref (Z.2.2.1 + 78)] μ (rV p)) (k : ∀ μ1, p μ1 → JS Z X 73 [(0, .ref (Z.2.2.1 + 0)), (1, .int a1)] [] μ1) :
    JS Z X 58 [(0, .ref (Z.2.2.1 + 0)), (1, .int a1)] [] μ := by
  refine J_aload_n E dX11_apart_58 rfl ?_
  refine S_get (ci := 11) (q := 13) (v := .ref (Z.2.2.1 + 273)) E dX11_apart_59 fs_X11_91 sh0 rfl ?_
  refine J_aload_n E dX11_apart_62 rfl ?_
  refine S_get (ci := 11) (q := 10) (v := .ref (Z.2.2.1 + 85)) E dX11_apart_63 fs_X11_67 sh0 rfl ?_
  refine J_aload_n E dX11_apart_66 rfl ?_
  refine S_get (ci := 11) (q := 9) (v := .ref (Z.2.2.1 + 78)) E dX11_apart_67 fs_X11_63 sh0 rfl ?_
  refine S_callV (As := [.ref (Z.2.2.1 + 85), .ref (Z.2.2.1 + 78)]) (rest := []) E dX11_apart_70 c kX7_findApart ⟨Nat.le_of_ble_eq_true rfl, Nat.le_of_ble_eq_true rfl⟩ rfl (Nat.le_of_ble_eq_true rfl) sh273 rfl rfl w5_75 w5_76 w5_77 (fun r_ μ1 hp_ => ?_)
  obtain ⟨rfl, hp_⟩ := hp_
  exact k μ1 hp_
theorem bX11_apart_73 {Z : ZT} {X : XT} {μ : Mu} {a1 : Int32} (E : Ent Z X mX11_apart 0 0)  
    (kt : ¬ a1 = (-1) → JS Z X 86 [(0, .ref (Z.2.2.1 + 0)), (1, .int a1)] [] μ) (kf : a1 = (-1) → JS Z X 78 [(0, .ref (Z.2.2.1 + 0))] [] μ) :
    JS Z X 73 [(0, .ref (Z.2.2.1 + 0)), (1, .int a1)] [] μ := by
  refine J_iload_n E dX11_apart_73 rfl ?_
  refine J_iconst (v := -1) E dX11_apart_74 rfl ?_
  refine J_icmp_ne (tgt := 86) E dX11_apart_75 (by decide) (fun c => ?_) (fun c => ?_)
  · exact kt c
  · refine J.weak [0] rfl ?_
    exact kf c
theorem bX11_apart_78 {Z : ZT} {X : XT} {μ : Mu} (E : Ent Z X mX11_apart 0 0) {P : Option Value → Mu → Prop} (hB : BodS Z X P) 
    (k : P (some (.int (μ 273 2))) μ) :
    JS Z X 78 [(0, .ref (Z.2.2.1 + 0))] [] μ := by
  refine J_aload_n E dX11_apart_78 rfl ?_
  refine S_get (ci := 11) (q := 13) (v := .ref (Z.2.2.1 + 273)) E dX11_apart_79 fs_X11_91 sh0 rfl ?_
  refine S_get (ci := 7) (q := 2) (v := .int (μ 273 2)) E dX11_apart_82 fs_X11_293 sh273 rfl ?_
  exact S_iret E hB dX11_apart_85 rfl k
theorem bX11_apart_86 {Z : ZT} {X : XT} {μ : Mu} {a1 : Int32} (E : Ent Z X mX11_apart 0 0)  
    (kt : (μ 85 4) ≤ a1 → JS Z X 109 [] [] μ) (kf : ¬ ((μ 85 4) ≤ a1) → JS Z X 97 [(0, .ref (Z.2.2.1 + 0)), (1, .int a1)] [] μ) :
    JS Z X 86 [(0, .ref (Z.2.2.1 + 0)), (1, .int a1)] [] μ := by
  refine J_iload_n E dX11_apart_86 rfl ?_
  refine J_aload_n E dX11_apart_87 rfl ?_
  refine S_get (ci := 11) (q := 10) (v := .ref (Z.2.2.1 + 85)) E dX11_apart_88 fs_X11_67 sh0 rfl ?_
  refine S_get (ci := 4) (q := 4) (v := .int (μ 85 4)) E dX11_apart_91 fs_X11_226 sh85 rfl ?_
  refine J_icmp_ge (tgt := 109) E dX11_apart_94 (by decide) (fun c => ?_) (fun c => ?_)
  · refine J.weak [] rfl ?_
    exact kt c
  · exact kf c
theorem bX11_apart_97 {Z : ZT} {X : XT} {μ : Mu} {a1 : Int32} (E : Ent Z X mX11_apart 0 0)  (s1_ : vp_in a1 6)
    (k : JS Z X 111 [] [.int (μ 274 (ix a1))] μ) :
    JS Z X 97 [(0, .ref (Z.2.2.1 + 0)), (1, .int a1)] [] μ := by
  refine J_aload_n E dX11_apart_97 rfl ?_
  refine S_get (ci := 11) (q := 13) (v := .ref (Z.2.2.1 + 273)) E dX11_apart_98 fs_X11_91 sh0 rfl ?_
  refine S_get (ci := 7) (q := 1) (v := .ref (Z.2.2.1 + 274)) E dX11_apart_101 fs_X11_274 sh273 rfl ?_
  refine J_iload_n E dX11_apart_104 rfl ?_
  refine S_iald E dX11_apart_105 sh274 s1_ ?_
  refine J_goto (tgt := 111) E dX11_apart_106 (by decide) ?_
  refine J.weak [] rfl ?_
  exact k
theorem bX11_apart_109 {Z : ZT} {X : XT} {μ : Mu} (E : Ent Z X mX11_apart 0 0)  
    (k : JS Z X 111 [] [.int (-5)] μ) :
    JS Z X 109 [] [] μ := by
  refine J_bipush (v := -5) E dX11_apart_109 rfl ?_
  exact k
theorem bX11_apart_111 {Z : ZT} {X : XT} {μ : Mu} {s0 : Int32} (E : Ent Z X mX11_apart 0 0) {P : Option Value → Mu → Prop} (hB : BodS Z X P) 
    (k : P (some (.int s0)) μ) :
    JS Z X 111 [] [.int s0] μ := by
  exact S_iret E hB dX11_apart_111 rfl k
theorem dX11_sooner_0 : decode cX11_sooner 0 = .ok (.iload_n 1, 1) := by decide +kernel
theorem dX11_sooner_1 : decode cX11_sooner 1 = .ok (.iconst 2, 1) := by decide +kernel
theorem dX11_sooner_2 : decode cX11_sooner 2 = .ok (.invokestatic 198, 3) := by decide +kernel
theorem dX11_sooner_5 : decode cX11_sooner 5 = .ok (.ifCond .ne 10, 3) := by decide +kernel
theorem dX11_sooner_8 : decode cX11_sooner 8 = .ok (.aload_n 0, 1) := by decide +kernel
theorem dX11_sooner_9 : decode cX11_sooner 9 = .ok (.bipush (-2), 2) := by decide +kernel
theorem dX11_sooner_11 : decode cX11_sooner 11 = .ok (.invokevirtual 125, 3) := by decide +kernel
theorem dX11_sooner_14 : decode cX11_sooner 14 = .ok (.ireturn, 1) := by decide +kernel
theorem dX11_sooner_15 : decode cX11_sooner 15 = .ok (.aload_n 0, 1) := by decide +kernel
theorem dX11_sooner_16 : decode cX11_sooner 16 = .ok (.aload_n 0, 1) := by decide +kernel
theorem dX11_sooner_17 : decode cX11_sooner 17 = .ok (.getfield 63, 3) := by decide +kernel
theorem dX11_sooner_20 : decode cX11_sooner 20 = .ok (.iload_n 1, 1) := by decide +kernel
theorem dX11_sooner_21 : decode cX11_sooner 21 = .ok (.invokevirtual 205, 3) := by decide +kernel
theorem dX11_sooner_24 : decode cX11_sooner 24 = .ok (.ifCond .ne 10, 3) := by decide +kernel
theorem dX11_sooner_27 : decode cX11_sooner 27 = .ok (.aload_n 0, 1) := by decide +kernel
theorem dX11_sooner_28 : decode cX11_sooner 28 = .ok (.bipush (-3), 2) := by decide +kernel
theorem dX11_sooner_30 : decode cX11_sooner 30 = .ok (.invokevirtual 125, 3) := by decide +kernel
theorem dX11_sooner_33 : decode cX11_sooner 33 = .ok (.ireturn, 1) := by decide +kernel
theorem dX11_sooner_34 : decode cX11_sooner 34 = .ok (.iconst (-1), 1) := by decide +kernel
theorem dX11_sooner_35 : decode cX11_sooner 35 = .ok (.istore_n 2, 1) := by decide +kernel
theorem dX11_sooner_36 : decode cX11_sooner 36 = .ok (.iconst 0, 1) := by decide +kernel
theorem dX11_sooner_37 : decode cX11_sooner 37 = .ok (.istore_n 3, 1) := by decide +kernel
theorem dX11_sooner_38 : decode cX11_sooner 38 = .ok (.iload_n 3, 1) := by decide +kernel
theorem dX11_sooner_39 : decode cX11_sooner 39 = .ok (.aload_n 0, 1) := by decide +kernel
theorem dX11_sooner_40 : decode cX11_sooner 40 = .ok (.getfield 63, 3) := by decide +kernel
theorem dX11_sooner_43 : decode cX11_sooner 43 = .ok (.getfield 226, 3) := by decide +kernel
theorem dX11_sooner_46 : decode cX11_sooner 46 = .ok (.if_icmp .ge 92, 3) := by decide +kernel
theorem dX11_sooner_49 : decode cX11_sooner 49 = .ok (.aload_n 0, 1) := by decide +kernel
theorem dX11_sooner_50 : decode cX11_sooner 50 = .ok (.getfield 82, 3) := by decide +kernel
theorem dX11_sooner_53 : decode cX11_sooner 53 = .ok (.aload_n 0, 1) := by decide +kernel
theorem dX11_sooner_54 : decode cX11_sooner 54 = .ok (.getfield 63, 3) := by decide +kernel
theorem dX11_sooner_57 : decode cX11_sooner 57 = .ok (.iload_n 3, 1) := by decide +kernel
theorem dX11_sooner_58 : decode cX11_sooner 58 = .ok (.aload_n 0, 1) := by decide +kernel
theorem dX11_sooner_59 : decode cX11_sooner 59 = .ok (.getfield 22, 3) := by decide +kernel
theorem dX11_sooner_62 : decode cX11_sooner 62 = .ok (.getfield 229, 3) := by decide +kernel
theorem dX11_sooner_65 : decode cX11_sooner 65 = .ok (.iconst 0, 1) := by decide +kernel
theorem dX11_sooner_66 : decode cX11_sooner 66 = .ok (.iaload, 1) := by decide +kernel
theorem dX11_sooner_67 : decode cX11_sooner 67 = .ok (.invokevirtual 242, 3) := by decide +kernel
theorem dX11_sooner_70 : decode cX11_sooner 70 = .ok (.aload_n 0, 1) := by decide +kernel
theorem dX11_sooner_71 : decode cX11_sooner 71 = .ok (.getfield 82, 3) := by decide +kernel
theorem dX11_sooner_74 : decode cX11_sooner 74 = .ok (.aload_n 0, 1) := by decide +kernel
theorem dX11_sooner_75 : decode cX11_sooner 75 = .ok (.getfield 118, 3) := by decide +kernel
theorem dX11_sooner_78 : decode cX11_sooner 78 = .ok (.aload_n 0, 1) := by decide +kernel
theorem dX11_sooner_79 : decode cX11_sooner 79 = .ok (.getfield 22, 3) := by decide +kernel
theorem dX11_sooner_82 : decode cX11_sooner 82 = .ok (.getfield 229, 3) := by decide +kernel
theorem dX11_sooner_85 : decode cX11_sooner 85 = .ok (.iconst 1, 1) := by decide +kernel
theorem dX11_sooner_86 : decode cX11_sooner 86 = .ok (.iaload, 1) := by decide +kernel
theorem dX11_sooner_87 : decode cX11_sooner 87 = .ok (.aload_n 0, 1) := by decide +kernel
theorem dX11_sooner_88 : decode cX11_sooner 88 = .ok (.getfield 63, 3) := by decide +kernel
theorem dX11_sooner_91 : decode cX11_sooner 91 = .ok (.getfield 220, 3) := by decide +kernel
theorem dX11_sooner_94 : decode cX11_sooner 94 = .ok (.isub, 1) := by decide +kernel
theorem dX11_sooner_95 : decode cX11_sooner 95 = .ok (.bipush 36, 2) := by decide +kernel
theorem dX11_sooner_97 : decode cX11_sooner 97 = .ok (.invokevirtual 246, 3) := by decide +kernel
theorem dX11_sooner_100 : decode cX11_sooner 100 = .ok (.iload_n 2, 1) := by decide +kernel
theorem dX11_sooner_101 : decode cX11_sooner 101 = .ok (.iconst (-1), 1) := by decide +kernel
theorem dX11_sooner_102 : decode cX11_sooner 102 = .ok (.if_icmp .eq 17, 3) := by decide +kernel
theorem dX11_sooner_105 : decode cX11_sooner 105 = .ok (.aload_n 0, 1) := by decide +kernel
theorem dX11_sooner_106 : decode cX11_sooner 106 = .ok (.getfield 118, 3) := by decide +kernel
theorem dX11_sooner_109 : decode cX11_sooner 109 = .ok (.aload_n 0, 1) := by decide +kernel
theorem dX11_sooner_110 : decode cX11_sooner 110 = .ok (.getfield 114, 3) := by decide +kernel
theorem dX11_sooner_113 : decode cX11_sooner 113 = .ok (.invokevirtual 296, 3) := by decide +kernel
theorem dX11_sooner_116 : decode cX11_sooner 116 = .ok (.ifCond .ge 16, 3) := by decide +kernel
theorem dX11_sooner_119 : decode cX11_sooner 119 = .ok (.iload_n 3, 1) := by decide +kernel
theorem dX11_sooner_120 : decode cX11_sooner 120 = .ok (.istore_n 2, 1) := by decide +kernel
theorem dX11_sooner_121 : decode cX11_sooner 121 = .ok (.aload_n 0, 1) := by decide +kernel
theorem dX11_sooner_122 : decode cX11_sooner 122 = .ok (.getfield 114, 3) := by decide +kernel
theorem dX11_sooner_125 : decode cX11_sooner 125 = .ok (.aload_n 0, 1) := by decide +kernel
theorem dX11_sooner_126 : decode cX11_sooner 126 = .ok (.getfield 118, 3) := by decide +kernel
theorem dX11_sooner_129 : decode cX11_sooner 129 = .ok (.invokevirtual 300, 3) := by decide +kernel
theorem dX11_sooner_132 : decode cX11_sooner 132 = .ok (.iinc 3 1, 3) := by decide +kernel
theorem dX11_sooner_135 : decode cX11_sooner 135 = .ok (.goto (-97), 3) := by decide +kernel
theorem dX11_sooner_138 : decode cX11_sooner 138 = .ok (.aload_n 0, 1) := by decide +kernel
theorem dX11_sooner_139 : decode cX11_sooner 139 = .ok (.getfield 107, 3) := by decide +kernel
theorem dX11_sooner_142 : decode cX11_sooner 142 = .ok (.aload_n 0, 1) := by decide +kernel
theorem dX11_sooner_143 : decode cX11_sooner 143 = .ok (.getfield 114, 3) := by decide +kernel
theorem dX11_sooner_146 : decode cX11_sooner 146 = .ok (.aload_n 0, 1) := by decide +kernel
theorem dX11_sooner_147 : decode cX11_sooner 147 = .ok (.getfield 82, 3) := by decide +kernel
theorem dX11_sooner_150 : decode cX11_sooner 150 = .ok (.getfield 250, 3) := by decide +kernel
theorem dX11_sooner_153 : decode cX11_sooner 153 = .ok (.invokevirtual 217, 3) := by decide +kernel
theorem dX11_sooner_156 : decode cX11_sooner 156 = .ok (.iload_n 2, 1) := by decide +kernel
theorem dX11_sooner_157 : decode cX11_sooner 157 = .ok (.iconst (-1), 1) := by decide +kernel
theorem dX11_sooner_158 : decode cX11_sooner 158 = .ok (.if_icmp .ne 7, 3) := by decide +kernel
theorem dX11_sooner_161 : decode cX11_sooner 161 = .ok (.iconst (-1), 1) := by decide +kernel
theorem dX11_sooner_162 : decode cX11_sooner 162 = .ok (.goto 12, 3) := by decide +kernel
theorem dX11_sooner_165 : decode cX11_sooner 165 = .ok (.aload_n 0, 1) := by decide +kernel
theorem dX11_sooner_166 : decode cX11_sooner 166 = .ok (.getfield 63, 3) := by decide +kernel
theorem dX11_sooner_169 : decode cX11_sooner 169 = .ok (.getfield 303, 3) := by decide +kernel
theorem dX11_sooner_172 : decode cX11_sooner 172 = .ok (.iload_n 2, 1) := by decide +kernel
theorem dX11_sooner_173 : decode cX11_sooner 173 = .ok (.iaload, 1) := by decide +kernel
theorem dX11_sooner_174 : decode cX11_sooner 174 = .ok (.ireturn, 1) := by decide +kernel
theorem bX11_sooner_0 {Z : ZT} {X : XT} {μ : Mu} {a1 : Int32} (E : Ent Z X mX11_sooner 0 0) {p : Int32 → Mu → Prop} 
    (c : CtrS Z mX11_within [.int a1, .int (nI 2)] μ (rI p)) (k : ∀ v μ1, p v μ1 → JS Z X 5 [(0, .ref (Z.2.2.1 + 0)), (1, .int a1)] [.int v] μ1) :
    JS Z X 0 [(0, .ref (Z.2.2.1 + 0)), (1, .int a1)] [] μ := by
  refine J_iload_n E dX11_sooner_0 rfl ?_
  refine J_iconst (v := nI 2) E dX11_sooner_1 rfl ?_
  refine S_callS (As := [.int a1, .int (nI 2)]) (rest := []) E dX11_sooner_2 c kX11_within ⟨Nat.le_of_ble_eq_true rfl, Nat.le_of_ble_eq_true rfl⟩ rfl (Nat.le_of_ble_eq_true rfl) w4_71 w3_46 (fun r_ μ1 hp_ => ?_)
  obtain ⟨v, rfl, hp_⟩ := hp_
  exact k v μ1 hp_
theorem bX11_sooner_5 {Z : ZT} {X : XT} {μ : Mu} {a1 : Int32} {s0 : Int32} (E : Ent Z X mX11_sooner 0 0)  
    (kt : ¬ s0 = 0 → JS Z X 15 [(0, .ref (Z.2.2.1 + 0)), (1, .int a1)] [] μ) (kf : s0 = 0 → JS Z X 8 [(0, .ref (Z.2.2.1 + 0))] [] μ) :
    JS Z X 5 [(0, .ref (Z.2.2.1 + 0)), (1, .int a1)] [.int s0] μ := by
  refine J_if_ne (tgt := 15) E dX11_sooner_5 (by decide) (fun c => ?_) (fun c => ?_)
  · exact kt c
  · refine J.weak [0] rfl ?_
    exact kf c
theorem bX11_sooner_8 {Z : ZT} {X : XT} {μ : Mu} (E : Ent Z X mX11_sooner 0 0) {p : Int32 → Mu → Prop} 
    (c : CtrS Z mX11_counted [.ref (Z.2.2.1 + 0), .int (-2)] μ (rI p)) (k : ∀ v μ1, p v μ1 → JS Z X 14 [] [.int v] μ1) :
    JS Z X 8 [(0, .ref (Z.2.2.1 + 0))] [] μ := by
  refine J_aload_n E dX11_sooner_8 rfl ?_
  refine J_bipush (v := -2) E dX11_sooner_9 rfl ?_
  refine S_callV (As := [.int (-2)]) (rest := []) E dX11_sooner_11 c kX11_counted ⟨Nat.le_of_ble_eq_true rfl, Nat.le_of_ble_eq_true rfl⟩ rfl (Nat.le_of_ble_eq_true rfl) sh0 rfl rfl w3_25 w3_27 wp_1 (fun r_ μ1 hp_ => ?_)
  obtain ⟨v, rfl, hp_⟩ := hp_
  refine J.weak [] rfl ?_
  exact k v μ1 hp_
theorem bX11_sooner_14 {Z : ZT} {X : XT} {μ : Mu} {s0 : Int32} (E : Ent Z X mX11_sooner 0 0) {P : Option Value → Mu → Prop} (hB : BodS Z X P) 
    (k : P (some (.int s0)) μ) :
    JS Z X 14 [] [.int s0] μ := by
  exact S_iret E hB dX11_sooner_14 rfl k
theorem bX11_sooner_15 {Z : ZT} {X : XT} {μ : Mu} {a1 : Int32} (E : Ent Z X mX11_sooner 0 0) {p : Int32 → Mu → Prop} 
    (c : CtrS Z mX11_canHunt [.ref (Z.2.2.1 + 0), .ref (Z.2.2.1 + 78), .int a1] μ (rI p)) (k : ∀ v μ1, p v μ1 → JS Z X 24 [(0, .ref (Z.2.2.1 + 0))] [.int v] μ1) :
    JS Z X 15 [(0, .ref (Z.2.2.1 + 0)), (1, .int a1)] [] μ := by
  refine J_aload_n E dX11_sooner_15 rfl ?_
  refine J_aload_n E dX11_sooner_16 rfl ?_
  refine S_get (ci := 11) (q := 9) (v := .ref (Z.2.2.1 + 78)) E dX11_sooner_17 fs_X11_63 sh0 rfl ?_
  refine J_iload_n E dX11_sooner_20 rfl ?_
  refine S_callV (As := [.ref (Z.2.2.1 + 78), .int a1]) (rest := []) E dX11_sooner_21 c kX11_canHunt ⟨Nat.le_of_ble_eq_true rfl, Nat.le_of_ble_eq_true rfl⟩ rfl (Nat.le_of_ble_eq_true rfl) sh0 rfl rfl w4_72 w4_74 wp_12 (fun r_ μ1 hp_ => ?_)
  obtain ⟨v, rfl, hp_⟩ := hp_
  refine J.weak [0] rfl ?_
  exact k v μ1 hp_
theorem bX11_sooner_24 {Z : ZT} {X : XT} {μ : Mu} {s0 : Int32} (E : Ent Z X mX11_sooner 0 0)  
    (kt : ¬ s0 = 0 → JS Z X 34 [(0, .ref (Z.2.2.1 + 0))] [] μ) (kf : s0 = 0 → JS Z X 27 [(0, .ref (Z.2.2.1 + 0))] [] μ) :
    JS Z X 24 [(0, .ref (Z.2.2.1 + 0))] [.int s0] μ := by
  refine J_if_ne (tgt := 34) E dX11_sooner_24 (by decide) (fun c => ?_) (fun c => ?_)
  · exact kt c
  · exact kf c
theorem bX11_sooner_27 {Z : ZT} {X : XT} {μ : Mu} (E : Ent Z X mX11_sooner 0 0) {p : Int32 → Mu → Prop} 
    (c : CtrS Z mX11_counted [.ref (Z.2.2.1 + 0), .int (-3)] μ (rI p)) (k : ∀ v μ1, p v μ1 → JS Z X 33 [] [.int v] μ1) :
    JS Z X 27 [(0, .ref (Z.2.2.1 + 0))] [] μ := by
  refine J_aload_n E dX11_sooner_27 rfl ?_
  refine J_bipush (v := -3) E dX11_sooner_28 rfl ?_
  refine S_callV (As := [.int (-3)]) (rest := []) E dX11_sooner_30 c kX11_counted ⟨Nat.le_of_ble_eq_true rfl, Nat.le_of_ble_eq_true rfl⟩ rfl (Nat.le_of_ble_eq_true rfl) sh0 rfl rfl w3_25 w3_27 wp_1 (fun r_ μ1 hp_ => ?_)
  obtain ⟨v, rfl, hp_⟩ := hp_
  refine J.weak [] rfl ?_
  exact k v μ1 hp_
theorem bX11_sooner_33 {Z : ZT} {X : XT} {μ : Mu} {s0 : Int32} (E : Ent Z X mX11_sooner 0 0) {P : Option Value → Mu → Prop} (hB : BodS Z X P) 
    (k : P (some (.int s0)) μ) :
    JS Z X 33 [] [.int s0] μ := by
  exact S_iret E hB dX11_sooner_33 rfl k
theorem bX11_sooner_34 {Z : ZT} {X : XT} {μ : Mu} (E : Ent Z X mX11_sooner 0 0)  
    (k : JS Z X 38 [(0, .ref (Z.2.2.1 + 0)), (2, .int (-1)), (3, .int (nI 0))] [] μ) :
    JS Z X 34 [(0, .ref (Z.2.2.1 + 0))] [] μ := by
  refine J_iconst (v := -1) E dX11_sooner_34 rfl ?_
  refine J_istore_n (lv' := [(0, .ref (Z.2.2.1 + 0)), (2, .int (-1))]) E dX11_sooner_35 (Nat.le_of_ble_eq_true rfl) rfl ?_
  refine J_iconst (v := nI 0) E dX11_sooner_36 rfl ?_
  refine J_istore_n (lv' := [(0, .ref (Z.2.2.1 + 0)), (2, .int (-1)), (3, .int (nI 0))]) E dX11_sooner_37 (Nat.le_of_ble_eq_true rfl) rfl ?_
  exact k
theorem bX11_sooner_38 {Z : ZT} {X : XT} {μ : Mu} {a2 : Int32} {a3 : Int32} (E : Ent Z X mX11_sooner 0 0)  
    (kt : (μ 78 4) ≤ a3 → JS Z X 138 [(0, .ref (Z.2.2.1 + 0)), (2, .int a2)] [] μ) (kf : ¬ ((μ 78 4) ≤ a3) → JS Z X 49 [(0, .ref (Z.2.2.1 + 0)), (2, .int a2), (3, .int a3)] [] μ) :
    JS Z X 38 [(0, .ref (Z.2.2.1 + 0)), (2, .int a2), (3, .int a3)] [] μ := by
  refine J_iload_n E dX11_sooner_38 rfl ?_
  refine J_aload_n E dX11_sooner_39 rfl ?_
  refine S_get (ci := 11) (q := 9) (v := .ref (Z.2.2.1 + 78)) E dX11_sooner_40 fs_X11_63 sh0 rfl ?_
  refine S_get (ci := 4) (q := 4) (v := .int (μ 78 4)) E dX11_sooner_43 fs_X11_226 sh78 rfl ?_
  refine J_icmp_ge (tgt := 138) E dX11_sooner_46 (by decide) (fun c => ?_) (fun c => ?_)
  · refine J.weak [0, 1] rfl ?_
    exact kt c
  · exact kf c
theorem bX11_sooner_49 {Z : ZT} {X : XT} {μ : Mu} {a2 : Int32} {a3 : Int32} (E : Ent Z X mX11_sooner 0 0) {p : Mu → Prop} (s1_ : vp_in (nI 0) 5)
    (c : CtrS Z mX8_ofHunt [.ref (Z.2.2.1 + 105), .ref (Z.2.2.1 + 78), .int a3, .int (μ (27 + 1) (ix (nI 0)))] μ (rV p)) (k : ∀ μ1, p μ1 → JS Z X 70 [(0, .ref (Z.2.2.1 + 0)), (2, .int a2), (3, .int a3)] [] μ1) :
    JS Z X 49 [(0, .ref (Z.2.2.1 + 0)), (2, .int a2), (3, .int a3)] [] μ := by
  refine J_aload_n E dX11_sooner_49 rfl ?_
  refine S_get (ci := 11) (q := 12) (v := .ref (Z.2.2.1 + 105)) E dX11_sooner_50 fs_X11_82 sh0 rfl ?_
  refine J_aload_n E dX11_sooner_53 rfl ?_
  refine S_get (ci := 11) (q := 9) (v := .ref (Z.2.2.1 + 78)) E dX11_sooner_54 fs_X11_63 sh0 rfl ?_
  refine J_iload_n E dX11_sooner_57 rfl ?_
  refine J_aload_n E dX11_sooner_58 rfl ?_
  refine S_get (ci := 11) (q := 2) (v := .ref (Z.2.2.1 + 27)) E dX11_sooner_59 fs_X11_22 sh0 rfl ?_
  refine S_get (ci := 6) (q := 0) (v := .ref (Z.2.2.1 + (27 + 1))) E dX11_sooner_62 fs_X11_229 sh27 rfl ?_
  refine J_iconst (v := nI 0) E dX11_sooner_65 rfl ?_
  refine S_iald E dX11_sooner_66 (shr_X6_0 sh27) s1_ ?_
  refine S_callV (As := [.ref (Z.2.2.1 + 78), .int a3, .int (μ (27 + 1) (ix (nI 0)))]) (rest := []) E dX11_sooner_67 c kX8_ofHunt ⟨Nat.le_of_ble_eq_true rfl, Nat.le_of_ble_eq_true rfl⟩ rfl (Nat.le_of_ble_eq_true rfl) sh105 rfl rfl w4_182 w4_183 w4_184 (fun r_ μ1 hp_ => ?_)
  obtain ⟨rfl, hp_⟩ := hp_
  exact k μ1 hp_
theorem bX11_sooner_70 {Z : ZT} {X : XT} {μ : Mu} {a2 : Int32} {a3 : Int32} (E : Ent Z X mX11_sooner 0 0) {p : Mu → Prop} (s1_ : vp_in (nI 1) 5)
    (c : CtrS Z mX8_gather [.ref (Z.2.2.1 + 105), .ref (Z.2.2.1 + 453), .int ((μ (27 + 1) (ix (nI 1))) - (μ 78 11)), .int (nI 36)] μ (rV p)) (k : ∀ μ1, p μ1 → JS Z X 100 [(0, .ref (Z.2.2.1 + 0)), (2, .int a2), (3, .int a3)] [] μ1) :
    JS Z X 70 [(0, .ref (Z.2.2.1 + 0)), (2, .int a2), (3, .int a3)] [] μ := by
  refine J_aload_n E dX11_sooner_70 rfl ?_
  refine S_get (ci := 11) (q := 12) (v := .ref (Z.2.2.1 + 105)) E dX11_sooner_71 fs_X11_82 sh0 rfl ?_
  refine J_aload_n E dX11_sooner_74 rfl ?_
  refine S_get (ci := 11) (q := 17) (v := .ref (Z.2.2.1 + 453)) E dX11_sooner_75 fs_X11_118 sh0 rfl ?_
  refine J_aload_n E dX11_sooner_78 rfl ?_
  refine S_get (ci := 11) (q := 2) (v := .ref (Z.2.2.1 + 27)) E dX11_sooner_79 fs_X11_22 sh0 rfl ?_
  refine S_get (ci := 6) (q := 0) (v := .ref (Z.2.2.1 + (27 + 1))) E dX11_sooner_82 fs_X11_229 sh27 rfl ?_
  refine J_iconst (v := nI 1) E dX11_sooner_85 rfl ?_
  refine S_iald E dX11_sooner_86 (shr_X6_0 sh27) s1_ ?_
  refine J_aload_n E dX11_sooner_87 rfl ?_
  refine S_get (ci := 11) (q := 9) (v := .ref (Z.2.2.1 + 78)) E dX11_sooner_88 fs_X11_63 sh0 rfl ?_
  refine S_get (ci := 4) (q := 11) (v := .int (μ 78 11)) E dX11_sooner_91 fs_X11_220 sh78 rfl ?_
  refine J_isub E dX11_sooner_94 ?_
  refine J_bipush (v := nI 36) E dX11_sooner_95 rfl ?_
  refine S_callV (As := [.ref (Z.2.2.1 + 453), .int ((μ (27 + 1) (ix (nI 1))) - (μ 78 11)), .int (nI 36)]) (rest := []) E dX11_sooner_97 c kX8_gather ⟨Nat.le_of_ble_eq_true rfl, Nat.le_of_ble_eq_true rfl⟩ rfl (Nat.le_of_ble_eq_true rfl) sh105 rfl rfl w4_202 w4_203 w4_204 (fun r_ μ1 hp_ => ?_)
  obtain ⟨rfl, hp_⟩ := hp_
  exact k μ1 hp_
theorem bX11_sooner_100 {Z : ZT} {X : XT} {μ : Mu} {a2 : Int32} {a3 : Int32} (E : Ent Z X mX11_sooner 0 0)  
    (kt : a2 = (-1) → JS Z X 119 [(0, .ref (Z.2.2.1 + 0)), (3, .int a3)] [] μ) (kf : ¬ (a2 = (-1)) → JS Z X 105 [(0, .ref (Z.2.2.1 + 0)), (2, .int a2), (3, .int a3)] [] μ) :
    JS Z X 100 [(0, .ref (Z.2.2.1 + 0)), (2, .int a2), (3, .int a3)] [] μ := by
  refine J_iload_n E dX11_sooner_100 rfl ?_
  refine J_iconst (v := -1) E dX11_sooner_101 rfl ?_
  refine J_icmp_eq (tgt := 119) E dX11_sooner_102 (by decide) (fun c => ?_) (fun c => ?_)
  · refine J.weak [0, 2] rfl ?_
    exact kt c
  · exact kf c
theorem bX11_sooner_105 {Z : ZT} {X : XT} {μ : Mu} {a2 : Int32} {a3 : Int32} (E : Ent Z X mX11_sooner 0 0) {p : Int32 → Mu → Prop} 
    (c : CtrS Z mX0_compare [.ref (Z.2.2.1 + 453), .ref (Z.2.2.1 + 451)] μ (rI p)) (k : ∀ v μ1, p v μ1 → JS Z X 116 [(0, .ref (Z.2.2.1 + 0)), (2, .int a2), (3, .int a3)] [.int v] μ1) :
    JS Z X 105 [(0, .ref (Z.2.2.1 + 0)), (2, .int a2), (3, .int a3)] [] μ := by
  refine J_aload_n E dX11_sooner_105 rfl ?_
  refine S_get (ci := 11) (q := 17) (v := .ref (Z.2.2.1 + 453)) E dX11_sooner_106 fs_X11_118 sh0 rfl ?_
  refine J_aload_n E dX11_sooner_109 rfl ?_
  refine S_get (ci := 11) (q := 16) (v := .ref (Z.2.2.1 + 451)) E dX11_sooner_110 fs_X11_114 sh0 rfl ?_
  refine S_callV (As := [.ref (Z.2.2.1 + 451)]) (rest := []) E dX11_sooner_113 c kX0_compare ⟨Nat.le_of_ble_eq_true rfl, Nat.le_of_ble_eq_true rfl⟩ rfl (Nat.le_of_ble_eq_true rfl) sh453 rfl rfl w5_84 w4_229 w4_230 (fun r_ μ1 hp_ => ?_)
  obtain ⟨v, rfl, hp_⟩ := hp_
  exact k v μ1 hp_
theorem bX11_sooner_116 {Z : ZT} {X : XT} {μ : Mu} {a2 : Int32} {a3 : Int32} {s0 : Int32} (E : Ent Z X mX11_sooner 0 0)  
    (kt : 0 ≤ s0 → JS Z X 132 [(0, .ref (Z.2.2.1 + 0)), (2, .int a2), (3, .int a3)] [] μ) (kf : ¬ (0 ≤ s0) → JS Z X 119 [(0, .ref (Z.2.2.1 + 0)), (3, .int a3)] [] μ) :
    JS Z X 116 [(0, .ref (Z.2.2.1 + 0)), (2, .int a2), (3, .int a3)] [.int s0] μ := by
  refine J_if_ge (tgt := 132) E dX11_sooner_116 (by decide) (fun c => ?_) (fun c => ?_)
  · exact kt c
  · refine J.weak [0, 2] rfl ?_
    exact kf c
theorem bX11_sooner_119 {Z : ZT} {X : XT} {μ : Mu} {a3 : Int32} (E : Ent Z X mX11_sooner 0 0) {p : Mu → Prop} 
    (c : CtrS Z mX0_copy [.ref (Z.2.2.1 + 451), .ref (Z.2.2.1 + 453)] μ (rV p)) (k : ∀ μ1, p μ1 → JS Z X 132 [(0, .ref (Z.2.2.1 + 0)), (2, .int a3), (3, .int a3)] [] μ1) :
    JS Z X 119 [(0, .ref (Z.2.2.1 + 0)), (3, .int a3)] [] μ := by
  refine J_iload_n E dX11_sooner_119 rfl ?_
  refine J_istore_n (lv' := [(0, .ref (Z.2.2.1 + 0)), (2, .int a3), (3, .int a3)]) E dX11_sooner_120 (Nat.le_of_ble_eq_true rfl) rfl ?_
  refine J_aload_n E dX11_sooner_121 rfl ?_
  refine S_get (ci := 11) (q := 16) (v := .ref (Z.2.2.1 + 451)) E dX11_sooner_122 fs_X11_114 sh0 rfl ?_
  refine J_aload_n E dX11_sooner_125 rfl ?_
  refine S_get (ci := 11) (q := 17) (v := .ref (Z.2.2.1 + 453)) E dX11_sooner_126 fs_X11_118 sh0 rfl ?_
  refine S_callV (As := [.ref (Z.2.2.1 + 453)]) (rest := []) E dX11_sooner_129 c kX0_copy ⟨Nat.le_of_ble_eq_true rfl, Nat.le_of_ble_eq_true rfl⟩ rfl (Nat.le_of_ble_eq_true rfl) sh451 rfl rfl w5_85 w4_127 w4_128 (fun r_ μ1 hp_ => ?_)
  obtain ⟨rfl, hp_⟩ := hp_
  exact k μ1 hp_
theorem bX11_sooner_132 {Z : ZT} {X : XT} {μ : Mu} {a2 : Int32} {a3 : Int32} (E : Ent Z X mX11_sooner 0 0)  
    (k : JS Z X 38 [(0, .ref (Z.2.2.1 + 0)), (2, .int a2), (3, .int (a3 + nI 1))] [] μ) :
    JS Z X 132 [(0, .ref (Z.2.2.1 + 0)), (2, .int a2), (3, .int a3)] [] μ := by
  refine J_iinc (v := a3 + nI 1) (lv' := [(0, .ref (Z.2.2.1 + 0)), (2, .int a2), (3, .int (a3 + nI 1))]) E dX11_sooner_132 rfl rfl (Nat.le_of_ble_eq_true rfl) rfl ?_
  refine J_goto (tgt := 38) E dX11_sooner_135 (by decide) ?_
  exact k
theorem bX11_sooner_138 {Z : ZT} {X : XT} {μ : Mu} {a2 : Int32} (E : Ent Z X mX11_sooner 0 0) {p : Mu → Prop} 
    (c : CtrS Z mX2_set [.ref (Z.2.2.1 + 446), .ref (Z.2.2.1 + 451), .int (μ 105 0)] μ (rV p)) (k : ∀ μ1, p μ1 → JS Z X 156 [(0, .ref (Z.2.2.1 + 0)), (2, .int a2)] [] μ1) :
    JS Z X 138 [(0, .ref (Z.2.2.1 + 0)), (2, .int a2)] [] μ := by
  refine J_aload_n E dX11_sooner_138 rfl ?_
  refine S_get (ci := 11) (q := 15) (v := .ref (Z.2.2.1 + 446)) E dX11_sooner_139 fs_X11_107 sh0 rfl ?_
  refine J_aload_n E dX11_sooner_142 rfl ?_
  refine S_get (ci := 11) (q := 16) (v := .ref (Z.2.2.1 + 451)) E dX11_sooner_143 fs_X11_114 sh0 rfl ?_
  refine J_aload_n E dX11_sooner_146 rfl ?_
  refine S_get (ci := 11) (q := 12) (v := .ref (Z.2.2.1 + 105)) E dX11_sooner_147 fs_X11_82 sh0 rfl ?_
  refine S_get (ci := 8) (q := 0) (v := .int (μ 105 0)) E dX11_sooner_150 fs_X11_250 sh105 rfl ?_
  refine S_callV (As := [.ref (Z.2.2.1 + 451), .int (μ 105 0)]) (rest := []) E dX11_sooner_153 c kX2_set ⟨Nat.le_of_ble_eq_true rfl, Nat.le_of_ble_eq_true rfl⟩ rfl (Nat.le_of_ble_eq_true rfl) sh446 rfl rfl w4_122 w4_123 w4_124 (fun r_ μ1 hp_ => ?_)
  obtain ⟨rfl, hp_⟩ := hp_
  exact k μ1 hp_
theorem bX11_sooner_156 {Z : ZT} {X : XT} {μ : Mu} {a2 : Int32} (E : Ent Z X mX11_sooner 0 0)  
    (kt : ¬ a2 = (-1) → JS Z X 165 [(0, .ref (Z.2.2.1 + 0)), (2, .int a2)] [] μ) (kf : a2 = (-1) → JS Z X 161 [] [] μ) :
    JS Z X 156 [(0, .ref (Z.2.2.1 + 0)), (2, .int a2)] [] μ := by
  refine J_iload_n E dX11_sooner_156 rfl ?_
  refine J_iconst (v := -1) E dX11_sooner_157 rfl ?_
  refine J_icmp_ne (tgt := 165) E dX11_sooner_158 (by decide) (fun c => ?_) (fun c => ?_)
  · exact kt c
  · refine J.weak [] rfl ?_
    exact kf c
theorem bX11_sooner_161 {Z : ZT} {X : XT} {μ : Mu} (E : Ent Z X mX11_sooner 0 0)  
    (k : JS Z X 174 [] [.int (-1)] μ) :
    JS Z X 161 [] [] μ := by
  refine J_iconst (v := -1) E dX11_sooner_161 rfl ?_
  refine J_goto (tgt := 174) E dX11_sooner_162 (by decide) ?_
  exact k
theorem bX11_sooner_165 {Z : ZT} {X : XT} {μ : Mu} {a2 : Int32} (E : Ent Z X mX11_sooner 0 0)  (s1_ : vp_in a2 6)
    (k : JS Z X 174 [] [.int (μ (78 + 1) (ix a2))] μ) :
    JS Z X 165 [(0, .ref (Z.2.2.1 + 0)), (2, .int a2)] [] μ := by
  refine J_aload_n E dX11_sooner_165 rfl ?_
  refine S_get (ci := 11) (q := 9) (v := .ref (Z.2.2.1 + 78)) E dX11_sooner_166 fs_X11_63 sh0 rfl ?_
  refine S_get (ci := 4) (q := 5) (v := .ref (Z.2.2.1 + (78 + 1))) E dX11_sooner_169 fs_X11_303 sh78 rfl ?_
  refine J_iload_n E dX11_sooner_172 rfl ?_
  refine S_iald E dX11_sooner_173 (shr_X4_5 sh78) s1_ ?_
  refine J.weak [] rfl ?_
  exact k
theorem bX11_sooner_174 {Z : ZT} {X : XT} {μ : Mu} {s0 : Int32} (E : Ent Z X mX11_sooner 0 0) {P : Option Value → Mu → Prop} (hB : BodS Z X P) 
    (k : P (some (.int s0)) μ) :
    JS Z X 174 [] [.int s0] μ := by
  exact S_iret E hB dX11_sooner_174 rfl k
theorem dX11_hangs_0 : decode cX11_hangs 0 = .ok (.iload_n 1, 1) := by decide +kernel
theorem dX11_hangs_1 : decode cX11_hangs 1 = .ok (.iconst 2, 1) := by decide +kernel
theorem dX11_hangs_2 : decode cX11_hangs 2 = .ok (.invokestatic 198, 3) := by decide +kernel
theorem dX11_hangs_5 : decode cX11_hangs 5 = .ok (.ifCond .ne 10, 3) := by decide +kernel
theorem dX11_hangs_8 : decode cX11_hangs 8 = .ok (.aload_n 0, 1) := by decide +kernel
theorem dX11_hangs_9 : decode cX11_hangs 9 = .ok (.bipush (-2), 2) := by decide +kernel
theorem dX11_hangs_11 : decode cX11_hangs 11 = .ok (.invokevirtual 125, 3) := by decide +kernel
theorem dX11_hangs_14 : decode cX11_hangs 14 = .ok (.ireturn, 1) := by decide +kernel
theorem dX11_hangs_15 : decode cX11_hangs 15 = .ok (.aload_n 0, 1) := by decide +kernel
theorem dX11_hangs_16 : decode cX11_hangs 16 = .ok (.getfield 10, 3) := by decide +kernel
theorem dX11_hangs_19 : decode cX11_hangs 19 = .ok (.getfield 202, 3) := by decide +kernel
theorem dX11_hangs_22 : decode cX11_hangs 22 = .ok (.iload_n 1, 1) := by decide +kernel
theorem dX11_hangs_23 : decode cX11_hangs 23 = .ok (.iaload, 1) := by decide +kernel
theorem dX11_hangs_24 : decode cX11_hangs 24 = .ok (.ifCond .ne 10, 3) := by decide +kernel
theorem dX11_hangs_27 : decode cX11_hangs 27 = .ok (.aload_n 0, 1) := by decide +kernel
theorem dX11_hangs_28 : decode cX11_hangs 28 = .ok (.bipush (-3), 2) := by decide +kernel
theorem dX11_hangs_30 : decode cX11_hangs 30 = .ok (.invokevirtual 125, 3) := by decide +kernel
theorem dX11_hangs_33 : decode cX11_hangs 33 = .ok (.ireturn, 1) := by decide +kernel
theorem dX11_hangs_34 : decode cX11_hangs 34 = .ok (.iconst 0, 1) := by decide +kernel
theorem dX11_hangs_35 : decode cX11_hangs 35 = .ok (.istore_n 2, 1) := by decide +kernel
theorem dX11_hangs_36 : decode cX11_hangs 36 = .ok (.iconst 1, 1) := by decide +kernel
theorem dX11_hangs_37 : decode cX11_hangs 37 = .ok (.istore_n 3, 1) := by decide +kernel
theorem dX11_hangs_38 : decode cX11_hangs 38 = .ok (.iload_n 3, 1) := by decide +kernel
theorem dX11_hangs_39 : decode cX11_hangs 39 = .ok (.aload_n 0, 1) := by decide +kernel
theorem dX11_hangs_40 : decode cX11_hangs 40 = .ok (.getfield 10, 3) := by decide +kernel
theorem dX11_hangs_43 : decode cX11_hangs 43 = .ok (.getfield 202, 3) := by decide +kernel
theorem dX11_hangs_46 : decode cX11_hangs 46 = .ok (.iload_n 1, 1) := by decide +kernel
theorem dX11_hangs_47 : decode cX11_hangs 47 = .ok (.iaload, 1) := by decide +kernel
theorem dX11_hangs_48 : decode cX11_hangs 48 = .ok (.if_icmp .ge 29, 3) := by decide +kernel
theorem dX11_hangs_51 : decode cX11_hangs 51 = .ok (.aload_n 0, 1) := by decide +kernel
theorem dX11_hangs_52 : decode cX11_hangs 52 = .ok (.getfield 10, 3) := by decide +kernel
theorem dX11_hangs_55 : decode cX11_hangs 55 = .ok (.iload_n 1, 1) := by decide +kernel
theorem dX11_hangs_56 : decode cX11_hangs 56 = .ok (.iload_n 3, 1) := by decide +kernel
theorem dX11_hangs_57 : decode cX11_hangs 57 = .ok (.iconst 1, 1) := by decide +kernel
theorem dX11_hangs_58 : decode cX11_hangs 58 = .ok (.isub, 1) := by decide +kernel
theorem dX11_hangs_59 : decode cX11_hangs 59 = .ok (.invokevirtual 306, 3) := by decide +kernel
theorem dX11_hangs_62 : decode cX11_hangs 62 = .ok (.ifCond .ne 9, 3) := by decide +kernel
theorem dX11_hangs_65 : decode cX11_hangs 65 = .ok (.iload_n 2, 1) := by decide +kernel
theorem dX11_hangs_66 : decode cX11_hangs 66 = .ok (.iconst 1, 1) := by decide +kernel
theorem dX11_hangs_67 : decode cX11_hangs 67 = .ok (.iload_n 3, 1) := by decide +kernel
theorem dX11_hangs_68 : decode cX11_hangs 68 = .ok (.ishl, 1) := by decide +kernel
theorem dX11_hangs_69 : decode cX11_hangs 69 = .ok (.ior, 1) := by decide +kernel
theorem dX11_hangs_70 : decode cX11_hangs 70 = .ok (.istore_n 2, 1) := by decide +kernel
theorem dX11_hangs_71 : decode cX11_hangs 71 = .ok (.iinc 3 1, 3) := by decide +kernel
theorem dX11_hangs_74 : decode cX11_hangs 74 = .ok (.goto (-36), 3) := by decide +kernel
theorem dX11_hangs_77 : decode cX11_hangs 77 = .ok (.iload_n 2, 1) := by decide +kernel
theorem dX11_hangs_78 : decode cX11_hangs 78 = .ok (.ireturn, 1) := by decide +kernel
theorem bX11_hangs_0 {Z : ZT} {X : XT} {μ : Mu} {a1 : Int32} (E : Ent Z X mX11_hangs 0 0) {p : Int32 → Mu → Prop} 
    (c : CtrS Z mX11_within [.int a1, .int (nI 2)] μ (rI p)) (k : ∀ v μ1, p v μ1 → JS Z X 5 [(0, .ref (Z.2.2.1 + 0)), (1, .int a1)] [.int v] μ1) :
    JS Z X 0 [(0, .ref (Z.2.2.1 + 0)), (1, .int a1)] [] μ := by
  refine J_iload_n E dX11_hangs_0 rfl ?_
  refine J_iconst (v := nI 2) E dX11_hangs_1 rfl ?_
  refine S_callS (As := [.int a1, .int (nI 2)]) (rest := []) E dX11_hangs_2 c kX11_within ⟨Nat.le_of_ble_eq_true rfl, Nat.le_of_ble_eq_true rfl⟩ rfl (Nat.le_of_ble_eq_true rfl) w4_71 w3_46 (fun r_ μ1 hp_ => ?_)
  obtain ⟨v, rfl, hp_⟩ := hp_
  exact k v μ1 hp_
theorem bX11_hangs_5 {Z : ZT} {X : XT} {μ : Mu} {a1 : Int32} {s0 : Int32} (E : Ent Z X mX11_hangs 0 0)  
    (kt : ¬ s0 = 0 → JS Z X 15 [(0, .ref (Z.2.2.1 + 0)), (1, .int a1)] [] μ) (kf : s0 = 0 → JS Z X 8 [(0, .ref (Z.2.2.1 + 0))] [] μ) :
    JS Z X 5 [(0, .ref (Z.2.2.1 + 0)), (1, .int a1)] [.int s0] μ := by
  refine J_if_ne (tgt := 15) E dX11_hangs_5 (by decide) (fun c => ?_) (fun c => ?_)
  · exact kt c
  · refine J.weak [0] rfl ?_
    exact kf c
theorem bX11_hangs_8 {Z : ZT} {X : XT} {μ : Mu} (E : Ent Z X mX11_hangs 0 0) {p : Int32 → Mu → Prop} 
    (c : CtrS Z mX11_counted [.ref (Z.2.2.1 + 0), .int (-2)] μ (rI p)) (k : ∀ v μ1, p v μ1 → JS Z X 14 [] [.int v] μ1) :
    JS Z X 8 [(0, .ref (Z.2.2.1 + 0))] [] μ := by
  refine J_aload_n E dX11_hangs_8 rfl ?_
  refine J_bipush (v := -2) E dX11_hangs_9 rfl ?_
  refine S_callV (As := [.int (-2)]) (rest := []) E dX11_hangs_11 c kX11_counted ⟨Nat.le_of_ble_eq_true rfl, Nat.le_of_ble_eq_true rfl⟩ rfl (Nat.le_of_ble_eq_true rfl) sh0 rfl rfl w3_25 w3_27 wp_1 (fun r_ μ1 hp_ => ?_)
  obtain ⟨v, rfl, hp_⟩ := hp_
  refine J.weak [] rfl ?_
  exact k v μ1 hp_
theorem bX11_hangs_14 {Z : ZT} {X : XT} {μ : Mu} {s0 : Int32} (E : Ent Z X mX11_hangs 0 0) {P : Option Value → Mu → Prop} (hB : BodS Z X P) 
    (k : P (some (.int s0)) μ) :
    JS Z X 14 [] [.int s0] μ := by
  exact S_iret E hB dX11_hangs_14 rfl k
theorem bX11_hangs_15 {Z : ZT} {X : XT} {μ : Mu} {a1 : Int32} (E : Ent Z X mX11_hangs 0 0)  (s1_ : vp_in a1 2)
    (kt : ¬ (μ (1 + 11) (ix a1)) = 0 → JS Z X 34 [(0, .ref (Z.2.2.1 + 0)), (1, .int a1)] [] μ) (kf : (μ (1 + 11) (ix a1)) = 0 → JS Z X 27 [(0, .ref (Z.2.2.1 + 0))] [] μ) :
    JS Z X 15 [(0, .ref (Z.2.2.1 + 0)), (1, .int a1)] [] μ := by
  refine J_aload_n E dX11_hangs_15 rfl ?_
  refine S_get (ci := 11) (q := 0) (v := .ref (Z.2.2.1 + 1)) E dX11_hangs_16 fs_X11_10 sh0 rfl ?_
  refine S_get (ci := 3) (q := 13) (v := .ref (Z.2.2.1 + (1 + 11))) E dX11_hangs_19 fs_X11_202 sh1 rfl ?_
  refine J_iload_n E dX11_hangs_22 rfl ?_
  refine S_iald E dX11_hangs_23 (shr_X3_13 sh1) s1_ ?_
  refine J_if_ne (tgt := 34) E dX11_hangs_24 (by decide) (fun c => ?_) (fun c => ?_)
  · exact kt c
  · refine J.weak [0] rfl ?_
    exact kf c
theorem bX11_hangs_27 {Z : ZT} {X : XT} {μ : Mu} (E : Ent Z X mX11_hangs 0 0) {p : Int32 → Mu → Prop} 
    (c : CtrS Z mX11_counted [.ref (Z.2.2.1 + 0), .int (-3)] μ (rI p)) (k : ∀ v μ1, p v μ1 → JS Z X 33 [] [.int v] μ1) :
    JS Z X 27 [(0, .ref (Z.2.2.1 + 0))] [] μ := by
  refine J_aload_n E dX11_hangs_27 rfl ?_
  refine J_bipush (v := -3) E dX11_hangs_28 rfl ?_
  refine S_callV (As := [.int (-3)]) (rest := []) E dX11_hangs_30 c kX11_counted ⟨Nat.le_of_ble_eq_true rfl, Nat.le_of_ble_eq_true rfl⟩ rfl (Nat.le_of_ble_eq_true rfl) sh0 rfl rfl w3_25 w3_27 wp_1 (fun r_ μ1 hp_ => ?_)
  obtain ⟨v, rfl, hp_⟩ := hp_
  refine J.weak [] rfl ?_
  exact k v μ1 hp_
theorem bX11_hangs_33 {Z : ZT} {X : XT} {μ : Mu} {s0 : Int32} (E : Ent Z X mX11_hangs 0 0) {P : Option Value → Mu → Prop} (hB : BodS Z X P) 
    (k : P (some (.int s0)) μ) :
    JS Z X 33 [] [.int s0] μ := by
  exact S_iret E hB dX11_hangs_33 rfl k
theorem bX11_hangs_34 {Z : ZT} {X : XT} {μ : Mu} {a1 : Int32} (E : Ent Z X mX11_hangs 0 0)  
    (k : JS Z X 38 [(0, .ref (Z.2.2.1 + 0)), (1, .int a1), (2, .int (nI 0)), (3, .int (nI 1))] [] μ) :
    JS Z X 34 [(0, .ref (Z.2.2.1 + 0)), (1, .int a1)] [] μ := by
  refine J_iconst (v := nI 0) E dX11_hangs_34 rfl ?_
  refine J_istore_n (lv' := [(0, .ref (Z.2.2.1 + 0)), (1, .int a1), (2, .int (nI 0))]) E dX11_hangs_35 (Nat.le_of_ble_eq_true rfl) rfl ?_
  refine J_iconst (v := nI 1) E dX11_hangs_36 rfl ?_
  refine J_istore_n (lv' := [(0, .ref (Z.2.2.1 + 0)), (1, .int a1), (2, .int (nI 0)), (3, .int (nI 1))]) E dX11_hangs_37 (Nat.le_of_ble_eq_true rfl) rfl ?_
  exact k
theorem bX11_hangs_38 {Z : ZT} {X : XT} {μ : Mu} {a1 : Int32} {a2 : Int32} {a3 : Int32} (E : Ent Z X mX11_hangs 0 0)  (s1_ : vp_in a1 2)
    (kt : (μ (1 + 11) (ix a1)) ≤ a3 → JS Z X 77 [(2, .int a2)] [] μ) (kf : ¬ ((μ (1 + 11) (ix a1)) ≤ a3) → JS Z X 51 [(0, .ref (Z.2.2.1 + 0)), (1, .int a1), (2, .int a2), (3, .int a3)] [] μ) :
    JS Z X 38 [(0, .ref (Z.2.2.1 + 0)), (1, .int a1), (2, .int a2), (3, .int a3)] [] μ := by
  refine J_iload_n E dX11_hangs_38 rfl ?_
  refine J_aload_n E dX11_hangs_39 rfl ?_
  refine S_get (ci := 11) (q := 0) (v := .ref (Z.2.2.1 + 1)) E dX11_hangs_40 fs_X11_10 sh0 rfl ?_
  refine S_get (ci := 3) (q := 13) (v := .ref (Z.2.2.1 + (1 + 11))) E dX11_hangs_43 fs_X11_202 sh1 rfl ?_
  refine J_iload_n E dX11_hangs_46 rfl ?_
  refine S_iald E dX11_hangs_47 (shr_X3_13 sh1) s1_ ?_
  refine J_icmp_ge (tgt := 77) E dX11_hangs_48 (by decide) (fun c => ?_) (fun c => ?_)
  · refine J.weak [2] rfl ?_
    exact kt c
  · exact kf c
theorem bX11_hangs_51 {Z : ZT} {X : XT} {μ : Mu} {a1 : Int32} {a2 : Int32} {a3 : Int32} (E : Ent Z X mX11_hangs 0 0) {p : Int32 → Mu → Prop} 
    (c : CtrS Z mX3_isSpareAt [.ref (Z.2.2.1 + 1), .int a1, .int (a3 - (nI 1))] μ (rI p)) (k : ∀ v μ1, p v μ1 → JS Z X 62 [(0, .ref (Z.2.2.1 + 0)), (1, .int a1), (2, .int a2), (3, .int a3)] [.int v] μ1) :
    JS Z X 51 [(0, .ref (Z.2.2.1 + 0)), (1, .int a1), (2, .int a2), (3, .int a3)] [] μ := by
  refine J_aload_n E dX11_hangs_51 rfl ?_
  refine S_get (ci := 11) (q := 0) (v := .ref (Z.2.2.1 + 1)) E dX11_hangs_52 fs_X11_10 sh0 rfl ?_
  refine J_iload_n E dX11_hangs_55 rfl ?_
  refine J_iload_n E dX11_hangs_56 rfl ?_
  refine J_iconst (v := nI 1) E dX11_hangs_57 rfl ?_
  refine J_isub E dX11_hangs_58 ?_
  refine S_callV (As := [.int a1, .int (a3 - (nI 1))]) (rest := []) E dX11_hangs_59 c kX3_isSpareAt ⟨Nat.le_of_ble_eq_true rfl, Nat.le_of_ble_eq_true rfl⟩ rfl (Nat.le_of_ble_eq_true rfl) sh1 rfl rfl w5_90 w5_91 w5_92 (fun r_ μ1 hp_ => ?_)
  obtain ⟨v, rfl, hp_⟩ := hp_
  exact k v μ1 hp_
theorem bX11_hangs_62 {Z : ZT} {X : XT} {μ : Mu} {a1 : Int32} {a2 : Int32} {a3 : Int32} {s0 : Int32} (E : Ent Z X mX11_hangs 0 0)  
    (kt : ¬ s0 = 0 → JS Z X 71 [(0, .ref (Z.2.2.1 + 0)), (1, .int a1), (2, .int a2), (3, .int a3)] [] μ) (kf : s0 = 0 → JS Z X 65 [(0, .ref (Z.2.2.1 + 0)), (1, .int a1), (2, .int a2), (3, .int a3)] [] μ) :
    JS Z X 62 [(0, .ref (Z.2.2.1 + 0)), (1, .int a1), (2, .int a2), (3, .int a3)] [.int s0] μ := by
  refine J_if_ne (tgt := 71) E dX11_hangs_62 (by decide) (fun c => ?_) (fun c => ?_)
  · exact kt c
  · exact kf c
theorem bX11_hangs_65 {Z : ZT} {X : XT} {μ : Mu} {a1 : Int32} {a2 : Int32} {a3 : Int32} (E : Ent Z X mX11_hangs 0 0)  
    (k : JS Z X 71 [(0, .ref (Z.2.2.1 + 0)), (1, .int a1), (2, .int (a2 ||| ((nI 1) <<< (a3 &&& 31)))), (3, .int a3)] [] μ) :
    JS Z X 65 [(0, .ref (Z.2.2.1 + 0)), (1, .int a1), (2, .int a2), (3, .int a3)] [] μ := by
  refine J_iload_n E dX11_hangs_65 rfl ?_
  refine J_iconst (v := nI 1) E dX11_hangs_66 rfl ?_
  refine J_iload_n E dX11_hangs_67 rfl ?_
  refine J_ishl E dX11_hangs_68 ?_
  refine J_ior E dX11_hangs_69 ?_
  refine J_istore_n (lv' := [(0, .ref (Z.2.2.1 + 0)), (1, .int a1), (2, .int (a2 ||| ((nI 1) <<< (a3 &&& 31)))), (3, .int a3)]) E dX11_hangs_70 (Nat.le_of_ble_eq_true rfl) rfl ?_
  exact k
theorem bX11_hangs_71 {Z : ZT} {X : XT} {μ : Mu} {a1 : Int32} {a2 : Int32} {a3 : Int32} (E : Ent Z X mX11_hangs 0 0)  
    (k : JS Z X 38 [(0, .ref (Z.2.2.1 + 0)), (1, .int a1), (2, .int a2), (3, .int (a3 + nI 1))] [] μ) :
    JS Z X 71 [(0, .ref (Z.2.2.1 + 0)), (1, .int a1), (2, .int a2), (3, .int a3)] [] μ := by
  refine J_iinc (v := a3 + nI 1) (lv' := [(0, .ref (Z.2.2.1 + 0)), (1, .int a1), (2, .int a2), (3, .int (a3 + nI 1))]) E dX11_hangs_71 rfl rfl (Nat.le_of_ble_eq_true rfl) rfl ?_
  refine J_goto (tgt := 38) E dX11_hangs_74 (by decide) ?_
  exact k
theorem bX11_hangs_77 {Z : ZT} {X : XT} {μ : Mu} {a2 : Int32} (E : Ent Z X mX11_hangs 0 0) {P : Option Value → Mu → Prop} (hB : BodS Z X P) 
    (k : P (some (.int a2)) μ) :
    JS Z X 77 [(2, .int a2)] [] μ := by
  refine J_iload_n E dX11_hangs_77 rfl ?_
  exact S_iret E hB dX11_hangs_78 rfl k
theorem dX11_bears_0 : decode cX11_bears 0 = .ok (.iload_n 1, 1) := by decide +kernel
theorem dX11_bears_1 : decode cX11_bears 1 = .ok (.iconst 2, 1) := by decide +kernel
theorem dX11_bears_2 : decode cX11_bears 2 = .ok (.invokestatic 198, 3) := by decide +kernel
theorem dX11_bears_5 : decode cX11_bears 5 = .ok (.ifCond .ne 10, 3) := by decide +kernel
theorem dX11_bears_8 : decode cX11_bears 8 = .ok (.aload_n 0, 1) := by decide +kernel
theorem dX11_bears_9 : decode cX11_bears 9 = .ok (.bipush (-2), 2) := by decide +kernel
theorem dX11_bears_11 : decode cX11_bears 11 = .ok (.invokevirtual 125, 3) := by decide +kernel
theorem dX11_bears_14 : decode cX11_bears 14 = .ok (.ireturn, 1) := by decide +kernel
theorem dX11_bears_15 : decode cX11_bears 15 = .ok (.aload_n 0, 1) := by decide +kernel
theorem dX11_bears_16 : decode cX11_bears 16 = .ok (.getfield 10, 3) := by decide +kernel
theorem dX11_bears_19 : decode cX11_bears 19 = .ok (.getfield 202, 3) := by decide +kernel
theorem dX11_bears_22 : decode cX11_bears 22 = .ok (.iload_n 1, 1) := by decide +kernel
theorem dX11_bears_23 : decode cX11_bears 23 = .ok (.iaload, 1) := by decide +kernel
theorem dX11_bears_24 : decode cX11_bears 24 = .ok (.istore_n 2, 1) := by decide +kernel
theorem dX11_bears_25 : decode cX11_bears 25 = .ok (.iload_n 2, 1) := by decide +kernel
theorem dX11_bears_26 : decode cX11_bears 26 = .ok (.ifCond .ne 10, 3) := by decide +kernel
theorem dX11_bears_29 : decode cX11_bears 29 = .ok (.aload_n 0, 1) := by decide +kernel
theorem dX11_bears_30 : decode cX11_bears 30 = .ok (.bipush (-3), 2) := by decide +kernel
theorem dX11_bears_32 : decode cX11_bears 32 = .ok (.invokevirtual 125, 3) := by decide +kernel
theorem dX11_bears_35 : decode cX11_bears 35 = .ok (.ireturn, 1) := by decide +kernel
theorem dX11_bears_36 : decode cX11_bears 36 = .ok (.aload_n 0, 1) := by decide +kernel
theorem dX11_bears_37 : decode cX11_bears 37 = .ok (.getfield 22, 3) := by decide +kernel
theorem dX11_bears_40 : decode cX11_bears 40 = .ok (.getfield 229, 3) := by decide +kernel
theorem dX11_bears_43 : decode cX11_bears 43 = .ok (.iconst 2, 1) := by decide +kernel
theorem dX11_bears_44 : decode cX11_bears 44 = .ok (.iaload, 1) := by decide +kernel
theorem dX11_bears_45 : decode cX11_bears 45 = .ok (.istore_n 3, 1) := by decide +kernel
theorem dX11_bears_46 : decode cX11_bears 46 = .ok (.iconst 1, 1) := by decide +kernel
theorem dX11_bears_47 : decode cX11_bears 47 = .ok (.istore 4, 2) := by decide +kernel
theorem dX11_bears_49 : decode cX11_bears 49 = .ok (.iconst 1, 1) := by decide +kernel
theorem dX11_bears_50 : decode cX11_bears 50 = .ok (.istore 5, 2) := by decide +kernel
theorem dX11_bears_52 : decode cX11_bears 52 = .ok (.iconst 1, 1) := by decide +kernel
theorem dX11_bears_53 : decode cX11_bears 53 = .ok (.istore 6, 2) := by decide +kernel
theorem dX11_bears_55 : decode cX11_bears 55 = .ok (.iload 6, 2) := by decide +kernel
theorem dX11_bears_57 : decode cX11_bears 57 = .ok (.iload_n 2, 1) := by decide +kernel
theorem dX11_bears_58 : decode cX11_bears 58 = .ok (.if_icmp .ge 50, 3) := by decide +kernel
theorem dX11_bears_61 : decode cX11_bears 61 = .ok (.aload_n 0, 1) := by decide +kernel
theorem dX11_bears_62 : decode cX11_bears 62 = .ok (.getfield 10, 3) := by decide +kernel
theorem dX11_bears_65 : decode cX11_bears 65 = .ok (.iload_n 1, 1) := by decide +kernel
theorem dX11_bears_66 : decode cX11_bears 66 = .ok (.iload 6, 2) := by decide +kernel
theorem dX11_bears_68 : decode cX11_bears 68 = .ok (.iconst 1, 1) := by decide +kernel
theorem dX11_bears_69 : decode cX11_bears 69 = .ok (.isub, 1) := by decide +kernel
theorem dX11_bears_70 : decode cX11_bears 70 = .ok (.invokevirtual 306, 3) := by decide +kernel
theorem dX11_bears_73 : decode cX11_bears 73 = .ok (.ifCond .eq 10, 3) := by decide +kernel
theorem dX11_bears_76 : decode cX11_bears 76 = .ok (.iload_n 3, 1) := by decide +kernel
theorem dX11_bears_77 : decode cX11_bears 77 = .ok (.iload 4, 2) := by decide +kernel
theorem dX11_bears_79 : decode cX11_bears 79 = .ok (.imul, 1) := by decide +kernel
theorem dX11_bears_80 : decode cX11_bears 80 = .ok (.goto 4, 3) := by decide +kernel
theorem dX11_bears_83 : decode cX11_bears 83 = .ok (.iconst 0, 1) := by decide +kernel
theorem dX11_bears_84 : decode cX11_bears 84 = .ok (.istore 7, 2) := by decide +kernel
theorem dX11_bears_86 : decode cX11_bears 86 = .ok (.iload 5, 2) := by decide +kernel
theorem dX11_bears_88 : decode cX11_bears 88 = .ok (.bipush 10, 2) := by decide +kernel
theorem dX11_bears_90 : decode cX11_bears 90 = .ok (.iload_n 3, 1) := by decide +kernel
theorem dX11_bears_91 : decode cX11_bears 91 = .ok (.isub, 1) := by decide +kernel
theorem dX11_bears_92 : decode cX11_bears 92 = .ok (.imul, 1) := by decide +kernel
theorem dX11_bears_93 : decode cX11_bears 93 = .ok (.istore 4, 2) := by decide +kernel
theorem dX11_bears_95 : decode cX11_bears 95 = .ok (.iload 4, 2) := by decide +kernel
theorem dX11_bears_97 : decode cX11_bears 97 = .ok (.iload 7, 2) := by decide +kernel
theorem dX11_bears_99 : decode cX11_bears 99 = .ok (.iadd, 1) := by decide +kernel
theorem dX11_bears_100 : decode cX11_bears 100 = .ok (.istore 5, 2) := by decide +kernel
theorem dX11_bears_102 : decode cX11_bears 102 = .ok (.iinc 6 1, 3) := by decide +kernel
theorem dX11_bears_105 : decode cX11_bears 105 = .ok (.goto (-50), 3) := by decide +kernel
theorem dX11_bears_108 : decode cX11_bears 108 = .ok (.aload_n 0, 1) := by decide +kernel
theorem dX11_bears_109 : decode cX11_bears 109 = .ok (.getfield 114, 3) := by decide +kernel
theorem dX11_bears_112 : decode cX11_bears 112 = .ok (.iload 5, 2) := by decide +kernel
theorem dX11_bears_114 : decode cX11_bears 114 = .ok (.invokevirtual 213, 3) := by decide +kernel
theorem dX11_bears_117 : decode cX11_bears 117 = .ok (.aload_n 0, 1) := by decide +kernel
theorem dX11_bears_118 : decode cX11_bears 118 = .ok (.getfield 107, 3) := by decide +kernel
theorem dX11_bears_121 : decode cX11_bears 121 = .ok (.aload_n 0, 1) := by decide +kernel
theorem dX11_bears_122 : decode cX11_bears 122 = .ok (.getfield 114, 3) := by decide +kernel
theorem dX11_bears_125 : decode cX11_bears 125 = .ok (.iload_n 2, 1) := by decide +kernel
theorem dX11_bears_126 : decode cX11_bears 126 = .ok (.iconst 1, 1) := by decide +kernel
theorem dX11_bears_127 : decode cX11_bears 127 = .ok (.isub, 1) := by decide +kernel
theorem dX11_bears_128 : decode cX11_bears 128 = .ok (.invokevirtual 217, 3) := by decide +kernel
theorem dX11_bears_131 : decode cX11_bears 131 = .ok (.iconst 1, 1) := by decide +kernel
theorem dX11_bears_132 : decode cX11_bears 132 = .ok (.ireturn, 1) := by decide +kernel
theorem bX11_bears_0 {Z : ZT} {X : XT} {μ : Mu} {a1 : Int32} (E : Ent Z X mX11_bears 0 0) {p : Int32 → Mu → Prop} 
    (c : CtrS Z mX11_within [.int a1, .int (nI 2)] μ (rI p)) (k : ∀ v μ1, p v μ1 → JS Z X 5 [(0, .ref (Z.2.2.1 + 0)), (1, .int a1)] [.int v] μ1) :
    JS Z X 0 [(0, .ref (Z.2.2.1 + 0)), (1, .int a1)] [] μ := by
  refine J_iload_n E dX11_bears_0 rfl ?_
  refine J_iconst (v := nI 2) E dX11_bears_1 rfl ?_
  refine S_callS (As := [.int a1, .int (nI 2)]) (rest := []) E dX11_bears_2 c kX11_within ⟨Nat.le_of_ble_eq_true rfl, Nat.le_of_ble_eq_true rfl⟩ rfl (Nat.le_of_ble_eq_true rfl) w4_71 w3_46 (fun r_ μ1 hp_ => ?_)
  obtain ⟨v, rfl, hp_⟩ := hp_
  exact k v μ1 hp_
theorem bX11_bears_5 {Z : ZT} {X : XT} {μ : Mu} {a1 : Int32} {s0 : Int32} (E : Ent Z X mX11_bears 0 0)  
    (kt : ¬ s0 = 0 → JS Z X 15 [(0, .ref (Z.2.2.1 + 0)), (1, .int a1)] [] μ) (kf : s0 = 0 → JS Z X 8 [(0, .ref (Z.2.2.1 + 0))] [] μ) :
    JS Z X 5 [(0, .ref (Z.2.2.1 + 0)), (1, .int a1)] [.int s0] μ := by
  refine J_if_ne (tgt := 15) E dX11_bears_5 (by decide) (fun c => ?_) (fun c => ?_)
  · exact kt c
  · refine J.weak [0] rfl ?_
    exact kf c
theorem bX11_bears_8 {Z : ZT} {X : XT} {μ : Mu} (E : Ent Z X mX11_bears 0 0) {p : Int32 → Mu → Prop} 
    (c : CtrS Z mX11_counted [.ref (Z.2.2.1 + 0), .int (-2)] μ (rI p)) (k : ∀ v μ1, p v μ1 → JS Z X 14 [] [.int v] μ1) :
    JS Z X 8 [(0, .ref (Z.2.2.1 + 0))] [] μ := by
  refine J_aload_n E dX11_bears_8 rfl ?_
  refine J_bipush (v := -2) E dX11_bears_9 rfl ?_
  refine S_callV (As := [.int (-2)]) (rest := []) E dX11_bears_11 c kX11_counted ⟨Nat.le_of_ble_eq_true rfl, Nat.le_of_ble_eq_true rfl⟩ rfl (Nat.le_of_ble_eq_true rfl) sh0 rfl rfl w3_25 w3_27 wp_1 (fun r_ μ1 hp_ => ?_)
  obtain ⟨v, rfl, hp_⟩ := hp_
  refine J.weak [] rfl ?_
  exact k v μ1 hp_
theorem bX11_bears_14 {Z : ZT} {X : XT} {μ : Mu} {s0 : Int32} (E : Ent Z X mX11_bears 0 0) {P : Option Value → Mu → Prop} (hB : BodS Z X P) 
    (k : P (some (.int s0)) μ) :
    JS Z X 14 [] [.int s0] μ := by
  exact S_iret E hB dX11_bears_14 rfl k
theorem bX11_bears_15 {Z : ZT} {X : XT} {μ : Mu} {a1 : Int32} (E : Ent Z X mX11_bears 0 0)  (s1_ : vp_in a1 2)
    (kt : ¬ (μ (1 + 11) (ix a1)) = 0 → JS Z X 36 [(0, .ref (Z.2.2.1 + 0)), (1, .int a1), (2, .int (μ (1 + 11) (ix a1)))] [] μ) (kf : (μ (1 + 11) (ix a1)) = 0 → JS Z X 29 [(0, .ref (Z.2.2.1 + 0))] [] μ) :
    JS Z X 15 [(0, .ref (Z.2.2.1 + 0)), (1, .int a1)] [] μ := by
  refine J_aload_n E dX11_bears_15 rfl ?_
  refine S_get (ci := 11) (q := 0) (v := .ref (Z.2.2.1 + 1)) E dX11_bears_16 fs_X11_10 sh0 rfl ?_
  refine S_get (ci := 3) (q := 13) (v := .ref (Z.2.2.1 + (1 + 11))) E dX11_bears_19 fs_X11_202 sh1 rfl ?_
  refine J_iload_n E dX11_bears_22 rfl ?_
  refine S_iald E dX11_bears_23 (shr_X3_13 sh1) s1_ ?_
  refine J_istore_n (lv' := [(0, .ref (Z.2.2.1 + 0)), (1, .int a1), (2, .int (μ (1 + 11) (ix a1)))]) E dX11_bears_24 (Nat.le_of_ble_eq_true rfl) rfl ?_
  refine J_iload_n E dX11_bears_25 rfl ?_
  refine J_if_ne (tgt := 36) E dX11_bears_26 (by decide) (fun c => ?_) (fun c => ?_)
  · exact kt c
  · refine J.weak [0] rfl ?_
    exact kf c
theorem bX11_bears_29 {Z : ZT} {X : XT} {μ : Mu} (E : Ent Z X mX11_bears 0 0) {p : Int32 → Mu → Prop} 
    (c : CtrS Z mX11_counted [.ref (Z.2.2.1 + 0), .int (-3)] μ (rI p)) (k : ∀ v μ1, p v μ1 → JS Z X 35 [] [.int v] μ1) :
    JS Z X 29 [(0, .ref (Z.2.2.1 + 0))] [] μ := by
  refine J_aload_n E dX11_bears_29 rfl ?_
  refine J_bipush (v := -3) E dX11_bears_30 rfl ?_
  refine S_callV (As := [.int (-3)]) (rest := []) E dX11_bears_32 c kX11_counted ⟨Nat.le_of_ble_eq_true rfl, Nat.le_of_ble_eq_true rfl⟩ rfl (Nat.le_of_ble_eq_true rfl) sh0 rfl rfl w3_25 w3_27 wp_1 (fun r_ μ1 hp_ => ?_)
  obtain ⟨v, rfl, hp_⟩ := hp_
  refine J.weak [] rfl ?_
  exact k v μ1 hp_
theorem bX11_bears_35 {Z : ZT} {X : XT} {μ : Mu} {s0 : Int32} (E : Ent Z X mX11_bears 0 0) {P : Option Value → Mu → Prop} (hB : BodS Z X P) 
    (k : P (some (.int s0)) μ) :
    JS Z X 35 [] [.int s0] μ := by
  exact S_iret E hB dX11_bears_35 rfl k
theorem bX11_bears_36 {Z : ZT} {X : XT} {μ : Mu} {a1 : Int32} {a2 : Int32} (E : Ent Z X mX11_bears 0 0)  (s1_ : vp_in (nI 2) 5)
    (k : JS Z X 55 [(0, .ref (Z.2.2.1 + 0)), (1, .int a1), (2, .int a2), (3, .int (μ (27 + 1) (ix (nI 2)))), (4, .int (nI 1)), (5, .int (nI 1)), (6, .int (nI 1))] [] μ) :
    JS Z X 36 [(0, .ref (Z.2.2.1 + 0)), (1, .int a1), (2, .int a2)] [] μ := by
  refine J_aload_n E dX11_bears_36 rfl ?_
  refine S_get (ci := 11) (q := 2) (v := .ref (Z.2.2.1 + 27)) E dX11_bears_37 fs_X11_22 sh0 rfl ?_
  refine S_get (ci := 6) (q := 0) (v := .ref (Z.2.2.1 + (27 + 1))) E dX11_bears_40 fs_X11_229 sh27 rfl ?_
  refine J_iconst (v := nI 2) E dX11_bears_43 rfl ?_
  refine S_iald E dX11_bears_44 (shr_X6_0 sh27) s1_ ?_
  refine J_istore_n (lv' := [(0, .ref (Z.2.2.1 + 0)), (1, .int a1), (2, .int a2), (3, .int (μ (27 + 1) (ix (nI 2))))]) E dX11_bears_45 (Nat.le_of_ble_eq_true rfl) rfl ?_
  refine J_iconst (v := nI 1) E dX11_bears_46 rfl ?_
  refine J_istore (lv' := [(0, .ref (Z.2.2.1 + 0)), (1, .int a1), (2, .int a2), (3, .int (μ (27 + 1) (ix (nI 2)))), (4, .int (nI 1))]) E dX11_bears_47 (Nat.le_of_ble_eq_true rfl) rfl ?_
  refine J_iconst (v := nI 1) E dX11_bears_49 rfl ?_
  refine J_istore (lv' := [(0, .ref (Z.2.2.1 + 0)), (1, .int a1), (2, .int a2), (3, .int (μ (27 + 1) (ix (nI 2)))), (4, .int (nI 1)), (5, .int (nI 1))]) E dX11_bears_50 (Nat.le_of_ble_eq_true rfl) rfl ?_
  refine J_iconst (v := nI 1) E dX11_bears_52 rfl ?_
  refine J_istore (lv' := [(0, .ref (Z.2.2.1 + 0)), (1, .int a1), (2, .int a2), (3, .int (μ (27 + 1) (ix (nI 2)))), (4, .int (nI 1)), (5, .int (nI 1)), (6, .int (nI 1))]) E dX11_bears_53 (Nat.le_of_ble_eq_true rfl) rfl ?_
  exact k
theorem bX11_bears_55 {Z : ZT} {X : XT} {μ : Mu} {a1 : Int32} {a2 : Int32} {a3 : Int32} {a4 : Int32} {a5 : Int32} {a6 : Int32} (E : Ent Z X mX11_bears 0 0)  
    (kt : a2 ≤ a6 → JS Z X 108 [(0, .ref (Z.2.2.1 + 0)), (2, .int a2), (5, .int a5)] [] μ) (kf : ¬ (a2 ≤ a6) → JS Z X 61 [(0, .ref (Z.2.2.1 + 0)), (1, .int a1), (2, .int a2), (3, .int a3), (4, .int a4), (5, .int a5), (6, .int a6)] [] μ) :
    JS Z X 55 [(0, .ref (Z.2.2.1 + 0)), (1, .int a1), (2, .int a2), (3, .int a3), (4, .int a4), (5, .int a5), (6, .int a6)] [] μ := by
  refine J_iload E dX11_bears_55 rfl ?_
  refine J_iload_n E dX11_bears_57 rfl ?_
  refine J_icmp_ge (tgt := 108) E dX11_bears_58 (by decide) (fun c => ?_) (fun c => ?_)
  · refine J.weak [0, 2, 5] rfl ?_
    exact kt c
  · exact kf c
theorem bX11_bears_61 {Z : ZT} {X : XT} {μ : Mu} {a1 : Int32} {a2 : Int32} {a3 : Int32} {a4 : Int32} {a5 : Int32} {a6 : Int32} (E : Ent Z X mX11_bears 0 0) {p : Int32 → Mu → Prop} 
    (c : CtrS Z mX3_isSpareAt [.ref (Z.2.2.1 + 1), .int a1, .int (a6 - (nI 1))] μ (rI p)) (k : ∀ v μ1, p v μ1 → JS Z X 73 [(0, .ref (Z.2.2.1 + 0)), (1, .int a1), (2, .int a2), (3, .int a3), (4, .int a4), (5, .int a5), (6, .int a6)] [.int v] μ1) :
    JS Z X 61 [(0, .ref (Z.2.2.1 + 0)), (1, .int a1), (2, .int a2), (3, .int a3), (4, .int a4), (5, .int a5), (6, .int a6)] [] μ := by
  refine J_aload_n E dX11_bears_61 rfl ?_
  refine S_get (ci := 11) (q := 0) (v := .ref (Z.2.2.1 + 1)) E dX11_bears_62 fs_X11_10 sh0 rfl ?_
  refine J_iload_n E dX11_bears_65 rfl ?_
  refine J_iload E dX11_bears_66 rfl ?_
  refine J_iconst (v := nI 1) E dX11_bears_68 rfl ?_
  refine J_isub E dX11_bears_69 ?_
  refine S_callV (As := [.int a1, .int (a6 - (nI 1))]) (rest := []) E dX11_bears_70 c kX3_isSpareAt ⟨Nat.le_of_ble_eq_true rfl, Nat.le_of_ble_eq_true rfl⟩ rfl (Nat.le_of_ble_eq_true rfl) sh1 rfl rfl w5_90 w5_91 w5_92 (fun r_ μ1 hp_ => ?_)
  obtain ⟨v, rfl, hp_⟩ := hp_
  exact k v μ1 hp_
theorem bX11_bears_73 {Z : ZT} {X : XT} {μ : Mu} {a1 : Int32} {a2 : Int32} {a3 : Int32} {a4 : Int32} {a5 : Int32} {a6 : Int32} {s0 : Int32} (E : Ent Z X mX11_bears 0 0)  
    (kt : s0 = 0 → JS Z X 83 [(0, .ref (Z.2.2.1 + 0)), (1, .int a1), (2, .int a2), (3, .int a3), (5, .int a5), (6, .int a6)] [] μ) (kf : ¬ (s0 = 0) → JS Z X 76 [(0, .ref (Z.2.2.1 + 0)), (1, .int a1), (2, .int a2), (3, .int a3), (4, .int a4), (5, .int a5), (6, .int a6)] [] μ) :
    JS Z X 73 [(0, .ref (Z.2.2.1 + 0)), (1, .int a1), (2, .int a2), (3, .int a3), (4, .int a4), (5, .int a5), (6, .int a6)] [.int s0] μ := by
  refine J_if_eq (tgt := 83) E dX11_bears_73 (by decide) (fun c => ?_) (fun c => ?_)
  · refine J.weak [0, 1, 2, 3, 5, 6] rfl ?_
    exact kt c
  · exact kf c
theorem bX11_bears_76 {Z : ZT} {X : XT} {μ : Mu} {a1 : Int32} {a2 : Int32} {a3 : Int32} {a4 : Int32} {a5 : Int32} {a6 : Int32} (E : Ent Z X mX11_bears 0 0)  
    (k : JS Z X 84 [(0, .ref (Z.2.2.1 + 0)), (1, .int a1), (2, .int a2), (3, .int a3), (5, .int a5), (6, .int a6)] [.int (a3 * a4)] μ) :
    JS Z X 76 [(0, .ref (Z.2.2.1 + 0)), (1, .int a1), (2, .int a2), (3, .int a3), (4, .int a4), (5, .int a5), (6, .int a6)] [] μ := by
  refine J_iload_n E dX11_bears_76 rfl ?_
  refine J_iload E dX11_bears_77 rfl ?_
  refine J_imul E dX11_bears_79 ?_
  refine J_goto (tgt := 84) E dX11_bears_80 (by decide) ?_
  refine J.weak [0, 1, 2, 3, 5, 6] rfl ?_
  exact k
theorem bX11_bears_83 {Z : ZT} {X : XT} {μ : Mu} {a1 : Int32} {a2 : Int32} {a3 : Int32} {a5 : Int32} {a6 : Int32} (E : Ent Z X mX11_bears 0 0)  
    (k : JS Z X 84 [(0, .ref (Z.2.2.1 + 0)), (1, .int a1), (2, .int a2), (3, .int a3), (5, .int a5), (6, .int a6)] [.int (nI 0)] μ) :
    JS Z X 83 [(0, .ref (Z.2.2.1 + 0)), (1, .int a1), (2, .int a2), (3, .int a3), (5, .int a5), (6, .int a6)] [] μ := by
  refine J_iconst (v := nI 0) E dX11_bears_83 rfl ?_
  exact k
theorem bX11_bears_84 {Z : ZT} {X : XT} {μ : Mu} {a1 : Int32} {a2 : Int32} {a3 : Int32} {a5 : Int32} {a6 : Int32} {s0 : Int32} (E : Ent Z X mX11_bears 0 0)  
    (k : JS Z X 55 [(0, .ref (Z.2.2.1 + 0)), (1, .int a1), (2, .int a2), (3, .int a3), (4, .int (a5 * ((nI 10) - a3))), (5, .int ((a5 * ((nI 10) - a3)) + s0)), (6, .int (a6 + nI 1))] [] μ) :
    JS Z X 84 [(0, .ref (Z.2.2.1 + 0)), (1, .int a1), (2, .int a2), (3, .int a3), (5, .int a5), (6, .int a6)] [.int s0] μ := by
  refine J_istore (lv' := [(0, .ref (Z.2.2.1 + 0)), (1, .int a1), (2, .int a2), (3, .int a3), (5, .int a5), (6, .int a6), (7, .int s0)]) E dX11_bears_84 (Nat.le_of_ble_eq_true rfl) rfl ?_
  refine J_iload E dX11_bears_86 rfl ?_
  refine J_bipush (v := nI 10) E dX11_bears_88 rfl ?_
  refine J_iload_n E dX11_bears_90 rfl ?_
  refine J_isub E dX11_bears_91 ?_
  refine J_imul E dX11_bears_92 ?_
  refine J_istore (lv' := [(0, .ref (Z.2.2.1 + 0)), (1, .int a1), (2, .int a2), (3, .int a3), (4, .int (a5 * ((nI 10) - a3))), (5, .int a5), (6, .int a6), (7, .int s0)]) E dX11_bears_93 (Nat.le_of_ble_eq_true rfl) rfl ?_
  refine J_iload E dX11_bears_95 rfl ?_
  refine J_iload E dX11_bears_97 rfl ?_
  refine J_iadd E dX11_bears_99 ?_
  refine J_istore (lv' := [(0, .ref (Z.2.2.1 + 0)), (1, .int a1), (2, .int a2), (3, .int a3), (4, .int (a5 * ((nI 10) - a3))), (5, .int ((a5 * ((nI 10) - a3)) + s0)), (6, .int a6), (7, .int s0)]) E dX11_bears_100 (Nat.le_of_ble_eq_true rfl) rfl ?_
  refine J_iinc (v := a6 + nI 1) (lv' := [(0, .ref (Z.2.2.1 + 0)), (1, .int a1), (2, .int a2), (3, .int a3), (4, .int (a5 * ((nI 10) - a3))), (5, .int ((a5 * ((nI 10) - a3)) + s0)), (6, .int (a6 + nI 1)), (7, .int s0)]) E dX11_bears_102 rfl rfl (Nat.le_of_ble_eq_true rfl) rfl ?_
  refine J_goto (tgt := 55) E dX11_bears_105 (by decide) ?_
  refine J.weak [0, 1, 2, 3, 4, 5, 6] rfl ?_
  exact k
theorem bX11_bears_108 {Z : ZT} {X : XT} {μ : Mu} {a2 : Int32} {a5 : Int32} (E : Ent Z X mX11_bears 0 0) {p : Mu → Prop} 
    (c : CtrS Z mX0_set [.ref (Z.2.2.1 + 451), .int a5] μ (rV p)) (k : ∀ μ1, p μ1 → JS Z X 117 [(0, .ref (Z.2.2.1 + 0)), (2, .int a2)] [] μ1) :
    JS Z X 108 [(0, .ref (Z.2.2.1 + 0)), (2, .int a2), (5, .int a5)] [] μ := by
  refine J_aload_n E dX11_bears_108 rfl ?_
  refine S_get (ci := 11) (q := 16) (v := .ref (Z.2.2.1 + 451)) E dX11_bears_109 fs_X11_114 sh0 rfl ?_
  refine J_iload E dX11_bears_112 rfl ?_
  refine S_callV (As := [.int a5]) (rest := []) E dX11_bears_114 c kX0_set ⟨Nat.le_of_ble_eq_true rfl, Nat.le_of_ble_eq_true rfl⟩ rfl (Nat.le_of_ble_eq_true rfl) sh451 rfl rfl w4_121 w2_180 w2_181 (fun r_ μ1 hp_ => ?_)
  obtain ⟨rfl, hp_⟩ := hp_
  refine J.weak [0, 1] rfl ?_
  exact k μ1 hp_
theorem bX11_bears_117 {Z : ZT} {X : XT} {μ : Mu} {a2 : Int32} (E : Ent Z X mX11_bears 0 0) {p : Mu → Prop} 
    (c : CtrS Z mX2_set [.ref (Z.2.2.1 + 446), .ref (Z.2.2.1 + 451), .int (a2 - (nI 1))] μ (rV p)) (k : ∀ μ1, p μ1 → JS Z X 131 [] [] μ1) :
    JS Z X 117 [(0, .ref (Z.2.2.1 + 0)), (2, .int a2)] [] μ := by
  refine J_aload_n E dX11_bears_117 rfl ?_
  refine S_get (ci := 11) (q := 15) (v := .ref (Z.2.2.1 + 446)) E dX11_bears_118 fs_X11_107 sh0 rfl ?_
  refine J_aload_n E dX11_bears_121 rfl ?_
  refine S_get (ci := 11) (q := 16) (v := .ref (Z.2.2.1 + 451)) E dX11_bears_122 fs_X11_114 sh0 rfl ?_
  refine J_iload_n E dX11_bears_125 rfl ?_
  refine J_iconst (v := nI 1) E dX11_bears_126 rfl ?_
  refine J_isub E dX11_bears_127 ?_
  refine S_callV (As := [.ref (Z.2.2.1 + 451), .int (a2 - (nI 1))]) (rest := []) E dX11_bears_128 c kX2_set ⟨Nat.le_of_ble_eq_true rfl, Nat.le_of_ble_eq_true rfl⟩ rfl (Nat.le_of_ble_eq_true rfl) sh446 rfl rfl w4_122 w4_123 w4_124 (fun r_ μ1 hp_ => ?_)
  obtain ⟨rfl, hp_⟩ := hp_
  refine J.weak [] rfl ?_
  exact k μ1 hp_
theorem bX11_bears_131 {Z : ZT} {X : XT} {μ : Mu} (E : Ent Z X mX11_bears 0 0) {P : Option Value → Mu → Prop} (hB : BodS Z X P) 
    (k : P (some (.int (nI 1))) μ) :
    JS Z X 131 [] [] μ := by
  refine J_iconst (v := nI 1) E dX11_bears_131 rfl ?_
  exact S_iret E hB dX11_bears_132 rfl k
theorem dX11_soon_0 : decode cX11_soon 0 = .ok (.iload_n 1, 1) := by decide +kernel
theorem dX11_soon_1 : decode cX11_soon 1 = .ok (.iconst 2, 1) := by decide +kernel
theorem dX11_soon_2 : decode cX11_soon 2 = .ok (.invokestatic 198, 3) := by decide +kernel
theorem dX11_soon_5 : decode cX11_soon 5 = .ok (.ifCond .ne 10, 3) := by decide +kernel
theorem dX11_soon_8 : decode cX11_soon 8 = .ok (.aload_n 0, 1) := by decide +kernel
theorem dX11_soon_9 : decode cX11_soon 9 = .ok (.bipush (-2), 2) := by decide +kernel
theorem dX11_soon_11 : decode cX11_soon 11 = .ok (.invokevirtual 125, 3) := by decide +kernel
theorem dX11_soon_14 : decode cX11_soon 14 = .ok (.ireturn, 1) := by decide +kernel
theorem dX11_soon_15 : decode cX11_soon 15 = .ok (.aload_n 0, 1) := by decide +kernel
theorem dX11_soon_16 : decode cX11_soon 16 = .ok (.aload_n 0, 1) := by decide +kernel
theorem dX11_soon_17 : decode cX11_soon 17 = .ok (.getfield 63, 3) := by decide +kernel
theorem dX11_soon_20 : decode cX11_soon 20 = .ok (.iload_n 1, 1) := by decide +kernel
theorem dX11_soon_21 : decode cX11_soon 21 = .ok (.invokevirtual 205, 3) := by decide +kernel
theorem dX11_soon_24 : decode cX11_soon 24 = .ok (.ifCond .ne 10, 3) := by decide +kernel
theorem dX11_soon_27 : decode cX11_soon 27 = .ok (.aload_n 0, 1) := by decide +kernel
theorem dX11_soon_28 : decode cX11_soon 28 = .ok (.bipush (-3), 2) := by decide +kernel
theorem dX11_soon_30 : decode cX11_soon 30 = .ok (.invokevirtual 125, 3) := by decide +kernel
theorem dX11_soon_33 : decode cX11_soon 33 = .ok (.ireturn, 1) := by decide +kernel
theorem dX11_soon_34 : decode cX11_soon 34 = .ok (.iconst 0, 1) := by decide +kernel
theorem dX11_soon_35 : decode cX11_soon 35 = .ok (.istore_n 2, 1) := by decide +kernel
theorem dX11_soon_36 : decode cX11_soon 36 = .ok (.iconst 0, 1) := by decide +kernel
theorem dX11_soon_37 : decode cX11_soon 37 = .ok (.istore_n 3, 1) := by decide +kernel
theorem dX11_soon_38 : decode cX11_soon 38 = .ok (.iload_n 3, 1) := by decide +kernel
theorem dX11_soon_39 : decode cX11_soon 39 = .ok (.iconst 2, 1) := by decide +kernel
theorem dX11_soon_40 : decode cX11_soon 40 = .ok (.iadd, 1) := by decide +kernel
theorem dX11_soon_41 : decode cX11_soon 41 = .ok (.aload_n 0, 1) := by decide +kernel
theorem dX11_soon_42 : decode cX11_soon 42 = .ok (.getfield 63, 3) := by decide +kernel
theorem dX11_soon_45 : decode cX11_soon 45 = .ok (.getfield 226, 3) := by decide +kernel
theorem dX11_soon_48 : decode cX11_soon 48 = .ok (.if_icmp .ge 98, 3) := by decide +kernel
theorem dX11_soon_51 : decode cX11_soon 51 = .ok (.aload_n 0, 1) := by decide +kernel
theorem dX11_soon_52 : decode cX11_soon 52 = .ok (.getfield 10, 3) := by decide +kernel
theorem dX11_soon_55 : decode cX11_soon 55 = .ok (.aload_n 0, 1) := by decide +kernel
theorem dX11_soon_56 : decode cX11_soon 56 = .ok (.getfield 54, 3) := by decide +kernel
theorem dX11_soon_59 : decode cX11_soon 59 = .ok (.aload_n 0, 1) := by decide +kernel
theorem dX11_soon_60 : decode cX11_soon 60 = .ok (.getfield 63, 3) := by decide +kernel
theorem dX11_soon_63 : decode cX11_soon 63 = .ok (.getfield 303, 3) := by decide +kernel
theorem dX11_soon_66 : decode cX11_soon 66 = .ok (.iload_n 3, 1) := by decide +kernel
theorem dX11_soon_67 : decode cX11_soon 67 = .ok (.iaload, 1) := by decide +kernel
theorem dX11_soon_68 : decode cX11_soon 68 = .ok (.aload_n 0, 1) := by decide +kernel
theorem dX11_soon_69 : decode cX11_soon 69 = .ok (.getfield 63, 3) := by decide +kernel
theorem dX11_soon_72 : decode cX11_soon 72 = .ok (.getfield 309, 3) := by decide +kernel
theorem dX11_soon_75 : decode cX11_soon 75 = .ok (.iload_n 3, 1) := by decide +kernel
theorem dX11_soon_76 : decode cX11_soon 76 = .ok (.iaload, 1) := by decide +kernel
theorem dX11_soon_77 : decode cX11_soon 77 = .ok (.aload_n 0, 1) := by decide +kernel
theorem dX11_soon_78 : decode cX11_soon 78 = .ok (.getfield 63, 3) := by decide +kernel
theorem dX11_soon_81 : decode cX11_soon 81 = .ok (.getfield 309, 3) := by decide +kernel
theorem dX11_soon_84 : decode cX11_soon 84 = .ok (.iload_n 3, 1) := by decide +kernel
theorem dX11_soon_85 : decode cX11_soon 85 = .ok (.iconst 1, 1) := by decide +kernel
theorem dX11_soon_86 : decode cX11_soon 86 = .ok (.iadd, 1) := by decide +kernel
theorem dX11_soon_87 : decode cX11_soon 87 = .ok (.iaload, 1) := by decide +kernel
theorem dX11_soon_88 : decode cX11_soon 88 = .ok (.invokevirtual 312, 3) := by decide +kernel
theorem dX11_soon_91 : decode cX11_soon 91 = .ok (.invokevirtual 315, 3) := by decide +kernel
theorem dX11_soon_94 : decode cX11_soon 94 = .ok (.istore 4, 2) := by decide +kernel
theorem dX11_soon_96 : decode cX11_soon 96 = .ok (.iload_n 3, 1) := by decide +kernel
theorem dX11_soon_97 : decode cX11_soon 97 = .ok (.iconst 2, 1) := by decide +kernel
theorem dX11_soon_98 : decode cX11_soon 98 = .ok (.iadd, 1) := by decide +kernel
theorem dX11_soon_99 : decode cX11_soon 99 = .ok (.istore 5, 2) := by decide +kernel
theorem dX11_soon_101 : decode cX11_soon 101 = .ok (.iload 5, 2) := by decide +kernel
theorem dX11_soon_103 : decode cX11_soon 103 = .ok (.aload_n 0, 1) := by decide +kernel
theorem dX11_soon_104 : decode cX11_soon 104 = .ok (.getfield 63, 3) := by decide +kernel
theorem dX11_soon_107 : decode cX11_soon 107 = .ok (.getfield 226, 3) := by decide +kernel
theorem dX11_soon_110 : decode cX11_soon 110 = .ok (.if_icmp .ge 30, 3) := by decide +kernel
theorem dX11_soon_113 : decode cX11_soon 113 = .ok (.iload_n 2, 1) := by decide +kernel
theorem dX11_soon_114 : decode cX11_soon 114 = .ok (.iload 4, 2) := by decide +kernel
theorem dX11_soon_116 : decode cX11_soon 116 = .ok (.aload_n 0, 1) := by decide +kernel
theorem dX11_soon_117 : decode cX11_soon 117 = .ok (.getfield 63, 3) := by decide +kernel
theorem dX11_soon_120 : decode cX11_soon 120 = .ok (.getfield 309, 3) := by decide +kernel
theorem dX11_soon_123 : decode cX11_soon 123 = .ok (.iload 5, 2) := by decide +kernel
theorem dX11_soon_125 : decode cX11_soon 125 = .ok (.iaload, 1) := by decide +kernel
theorem dX11_soon_126 : decode cX11_soon 126 = .ok (.ishr, 1) := by decide +kernel
theorem dX11_soon_127 : decode cX11_soon 127 = .ok (.iconst 1, 1) := by decide +kernel
theorem dX11_soon_128 : decode cX11_soon 128 = .ok (.iand, 1) := by decide +kernel
theorem dX11_soon_129 : decode cX11_soon 129 = .ok (.iload 5, 2) := by decide +kernel
theorem dX11_soon_131 : decode cX11_soon 131 = .ok (.ishl, 1) := by decide +kernel
theorem dX11_soon_132 : decode cX11_soon 132 = .ok (.ior, 1) := by decide +kernel
theorem dX11_soon_133 : decode cX11_soon 133 = .ok (.istore_n 2, 1) := by decide +kernel
theorem dX11_soon_134 : decode cX11_soon 134 = .ok (.iinc 5 1, 3) := by decide +kernel
theorem dX11_soon_137 : decode cX11_soon 137 = .ok (.goto (-36), 3) := by decide +kernel
theorem dX11_soon_140 : decode cX11_soon 140 = .ok (.iinc 3 1, 3) := by decide +kernel
theorem dX11_soon_143 : decode cX11_soon 143 = .ok (.goto (-105), 3) := by decide +kernel
theorem dX11_soon_146 : decode cX11_soon 146 = .ok (.iload_n 2, 1) := by decide +kernel
theorem dX11_soon_147 : decode cX11_soon 147 = .ok (.ireturn, 1) := by decide +kernel
theorem bX11_soon_0 {Z : ZT} {X : XT} {μ : Mu} {a1 : Int32} (E : Ent Z X mX11_soon 0 0) {p : Int32 → Mu → Prop} 
    (c : CtrS Z mX11_within [.int a1, .int (nI 2)] μ (rI p)) (k : ∀ v μ1, p v μ1 → JS Z X 5 [(0, .ref (Z.2.2.1 + 0)), (1, .int a1)] [.int v] μ1) :
    JS Z X 0 [(0, .ref (Z.2.2.1 + 0)), (1, .int a1)] [] μ := by
  refine J_iload_n E dX11_soon_0 rfl ?_
  refine J_iconst (v := nI 2) E dX11_soon_1 rfl ?_
  refine S_callS (As := [.int a1, .int (nI 2)]) (rest := []) E dX11_soon_2 c kX11_within ⟨Nat.le_of_ble_eq_true rfl, Nat.le_of_ble_eq_true rfl⟩ rfl (Nat.le_of_ble_eq_true rfl) w4_71 w3_46 (fun r_ μ1 hp_ => ?_)
  obtain ⟨v, rfl, hp_⟩ := hp_
  exact k v μ1 hp_
theorem bX11_soon_5 {Z : ZT} {X : XT} {μ : Mu} {a1 : Int32} {s0 : Int32} (E : Ent Z X mX11_soon 0 0)  
    (kt : ¬ s0 = 0 → JS Z X 15 [(0, .ref (Z.2.2.1 + 0)), (1, .int a1)] [] μ) (kf : s0 = 0 → JS Z X 8 [(0, .ref (Z.2.2.1 + 0))] [] μ) :
    JS Z X 5 [(0, .ref (Z.2.2.1 + 0)), (1, .int a1)] [.int s0] μ := by
  refine J_if_ne (tgt := 15) E dX11_soon_5 (by decide) (fun c => ?_) (fun c => ?_)
  · exact kt c
  · refine J.weak [0] rfl ?_
    exact kf c
theorem bX11_soon_8 {Z : ZT} {X : XT} {μ : Mu} (E : Ent Z X mX11_soon 0 0) {p : Int32 → Mu → Prop} 
    (c : CtrS Z mX11_counted [.ref (Z.2.2.1 + 0), .int (-2)] μ (rI p)) (k : ∀ v μ1, p v μ1 → JS Z X 14 [] [.int v] μ1) :
    JS Z X 8 [(0, .ref (Z.2.2.1 + 0))] [] μ := by
  refine J_aload_n E dX11_soon_8 rfl ?_
  refine J_bipush (v := -2) E dX11_soon_9 rfl ?_
  refine S_callV (As := [.int (-2)]) (rest := []) E dX11_soon_11 c kX11_counted ⟨Nat.le_of_ble_eq_true rfl, Nat.le_of_ble_eq_true rfl⟩ rfl (Nat.le_of_ble_eq_true rfl) sh0 rfl rfl w3_25 w3_27 wp_1 (fun r_ μ1 hp_ => ?_)
  obtain ⟨v, rfl, hp_⟩ := hp_
  refine J.weak [] rfl ?_
  exact k v μ1 hp_
theorem bX11_soon_14 {Z : ZT} {X : XT} {μ : Mu} {s0 : Int32} (E : Ent Z X mX11_soon 0 0) {P : Option Value → Mu → Prop} (hB : BodS Z X P) 
    (k : P (some (.int s0)) μ) :
    JS Z X 14 [] [.int s0] μ := by
  exact S_iret E hB dX11_soon_14 rfl k
theorem bX11_soon_15 {Z : ZT} {X : XT} {μ : Mu} {a1 : Int32} (E : Ent Z X mX11_soon 0 0) {p : Int32 → Mu → Prop} 
    (c : CtrS Z mX11_canHunt [.ref (Z.2.2.1 + 0), .ref (Z.2.2.1 + 78), .int a1] μ (rI p)) (k : ∀ v μ1, p v μ1 → JS Z X 24 [(0, .ref (Z.2.2.1 + 0))] [.int v] μ1) :
    JS Z X 15 [(0, .ref (Z.2.2.1 + 0)), (1, .int a1)] [] μ := by
  refine J_aload_n E dX11_soon_15 rfl ?_
  refine J_aload_n E dX11_soon_16 rfl ?_
  refine S_get (ci := 11) (q := 9) (v := .ref (Z.2.2.1 + 78)) E dX11_soon_17 fs_X11_63 sh0 rfl ?_
  refine J_iload_n E dX11_soon_20 rfl ?_
  refine S_callV (As := [.ref (Z.2.2.1 + 78), .int a1]) (rest := []) E dX11_soon_21 c kX11_canHunt ⟨Nat.le_of_ble_eq_true rfl, Nat.le_of_ble_eq_true rfl⟩ rfl (Nat.le_of_ble_eq_true rfl) sh0 rfl rfl w4_72 w4_74 wp_12 (fun r_ μ1 hp_ => ?_)
  obtain ⟨v, rfl, hp_⟩ := hp_
  refine J.weak [0] rfl ?_
  exact k v μ1 hp_
theorem bX11_soon_24 {Z : ZT} {X : XT} {μ : Mu} {s0 : Int32} (E : Ent Z X mX11_soon 0 0)  
    (kt : ¬ s0 = 0 → JS Z X 34 [(0, .ref (Z.2.2.1 + 0))] [] μ) (kf : s0 = 0 → JS Z X 27 [(0, .ref (Z.2.2.1 + 0))] [] μ) :
    JS Z X 24 [(0, .ref (Z.2.2.1 + 0))] [.int s0] μ := by
  refine J_if_ne (tgt := 34) E dX11_soon_24 (by decide) (fun c => ?_) (fun c => ?_)
  · exact kt c
  · exact kf c
theorem bX11_soon_27 {Z : ZT} {X : XT} {μ : Mu} (E : Ent Z X mX11_soon 0 0) {p : Int32 → Mu → Prop} 
    (c : CtrS Z mX11_counted [.ref (Z.2.2.1 + 0), .int (-3)] μ (rI p)) (k : ∀ v μ1, p v μ1 → JS Z X 33 [] [.int v] μ1) :
    JS Z X 27 [(0, .ref (Z.2.2.1 + 0))] [] μ := by
  refine J_aload_n E dX11_soon_27 rfl ?_
  refine J_bipush (v := -3) E dX11_soon_28 rfl ?_
  refine S_callV (As := [.int (-3)]) (rest := []) E dX11_soon_30 c kX11_counted ⟨Nat.le_of_ble_eq_true rfl, Nat.le_of_ble_eq_true rfl⟩ rfl (Nat.le_of_ble_eq_true rfl) sh0 rfl rfl w3_25 w3_27 wp_1 (fun r_ μ1 hp_ => ?_)
  obtain ⟨v, rfl, hp_⟩ := hp_
  refine J.weak [] rfl ?_
  exact k v μ1 hp_
theorem bX11_soon_33 {Z : ZT} {X : XT} {μ : Mu} {s0 : Int32} (E : Ent Z X mX11_soon 0 0) {P : Option Value → Mu → Prop} (hB : BodS Z X P) 
    (k : P (some (.int s0)) μ) :
    JS Z X 33 [] [.int s0] μ := by
  exact S_iret E hB dX11_soon_33 rfl k
theorem bX11_soon_34 {Z : ZT} {X : XT} {μ : Mu} (E : Ent Z X mX11_soon 0 0)  
    (k : JS Z X 38 [(0, .ref (Z.2.2.1 + 0)), (2, .int (nI 0)), (3, .int (nI 0))] [] μ) :
    JS Z X 34 [(0, .ref (Z.2.2.1 + 0))] [] μ := by
  refine J_iconst (v := nI 0) E dX11_soon_34 rfl ?_
  refine J_istore_n (lv' := [(0, .ref (Z.2.2.1 + 0)), (2, .int (nI 0))]) E dX11_soon_35 (Nat.le_of_ble_eq_true rfl) rfl ?_
  refine J_iconst (v := nI 0) E dX11_soon_36 rfl ?_
  refine J_istore_n (lv' := [(0, .ref (Z.2.2.1 + 0)), (2, .int (nI 0)), (3, .int (nI 0))]) E dX11_soon_37 (Nat.le_of_ble_eq_true rfl) rfl ?_
  exact k
theorem bX11_soon_38 {Z : ZT} {X : XT} {μ : Mu} {a2 : Int32} {a3 : Int32} (E : Ent Z X mX11_soon 0 0)  
    (kt : (μ 78 4) ≤ (a3 + (nI 2)) → JS Z X 146 [(2, .int a2)] [] μ) (kf : ¬ ((μ 78 4) ≤ (a3 + (nI 2))) → JS Z X 51 [(0, .ref (Z.2.2.1 + 0)), (2, .int a2), (3, .int a3)] [] μ) :
    JS Z X 38 [(0, .ref (Z.2.2.1 + 0)), (2, .int a2), (3, .int a3)] [] μ := by
  refine J_iload_n E dX11_soon_38 rfl ?_
  refine J_iconst (v := nI 2) E dX11_soon_39 rfl ?_
  refine J_iadd E dX11_soon_40 ?_
  refine J_aload_n E dX11_soon_41 rfl ?_
  refine S_get (ci := 11) (q := 9) (v := .ref (Z.2.2.1 + 78)) E dX11_soon_42 fs_X11_63 sh0 rfl ?_
  refine S_get (ci := 4) (q := 4) (v := .int (μ 78 4)) E dX11_soon_45 fs_X11_226 sh78 rfl ?_
  refine J_icmp_ge (tgt := 146) E dX11_soon_48 (by decide) (fun c => ?_) (fun c => ?_)
  · refine J.weak [1] rfl ?_
    exact kt c
  · exact kf c
theorem bX11_soon_51 {Z : ZT} {X : XT} {μ : Mu} {a2 : Int32} {a3 : Int32} (E : Ent Z X mX11_soon 0 0) {p : Int32 → Mu → Prop} (s1_ : vp_in a3 6) (s2_ : vp_in a3 6) (s3_ : vp_in (a3 + (nI 1)) 6)
    (c : CtrS Z mX10_passed [.ref (Z.2.2.1 + 73), .int (μ (78 + 1) (ix a3)), .int (μ (78 + 2) (ix a3)), .int (μ (78 + 2) (ix (a3 + (nI 1))))] μ (rI p)) (k : ∀ v μ1, p v μ1 → JS Z X 91 [(0, .ref (Z.2.2.1 + 0)), (2, .int a2), (3, .int a3)] [.int v, .ref (Z.2.2.1 + 1)] μ1) :
    JS Z X 51 [(0, .ref (Z.2.2.1 + 0)), (2, .int a2), (3, .int a3)] [] μ := by
  refine J_aload_n E dX11_soon_51 rfl ?_
  refine S_get (ci := 11) (q := 0) (v := .ref (Z.2.2.1 + 1)) E dX11_soon_52 fs_X11_10 sh0 rfl ?_
  refine J_aload_n E dX11_soon_55 rfl ?_
  refine S_get (ci := 11) (q := 8) (v := .ref (Z.2.2.1 + 73)) E dX11_soon_56 fs_X11_54 sh0 rfl ?_
  refine J_aload_n E dX11_soon_59 rfl ?_
  refine S_get (ci := 11) (q := 9) (v := .ref (Z.2.2.1 + 78)) E dX11_soon_60 fs_X11_63 sh0 rfl ?_
  refine S_get (ci := 4) (q := 5) (v := .ref (Z.2.2.1 + (78 + 1))) E dX11_soon_63 fs_X11_303 sh78 rfl ?_
  refine J_iload_n E dX11_soon_66 rfl ?_
  refine S_iald E dX11_soon_67 (shr_X4_5 sh78) s1_ ?_
  refine J_aload_n E dX11_soon_68 rfl ?_
  refine S_get (ci := 11) (q := 9) (v := .ref (Z.2.2.1 + 78)) E dX11_soon_69 fs_X11_63 sh0 rfl ?_
  refine S_get (ci := 4) (q := 6) (v := .ref (Z.2.2.1 + (78 + 2))) E dX11_soon_72 fs_X11_309 sh78 rfl ?_
  refine J_iload_n E dX11_soon_75 rfl ?_
  refine S_iald E dX11_soon_76 (shr_X4_6 sh78) s2_ ?_
  refine J_aload_n E dX11_soon_77 rfl ?_
  refine S_get (ci := 11) (q := 9) (v := .ref (Z.2.2.1 + 78)) E dX11_soon_78 fs_X11_63 sh0 rfl ?_
  refine S_get (ci := 4) (q := 6) (v := .ref (Z.2.2.1 + (78 + 2))) E dX11_soon_81 fs_X11_309 sh78 rfl ?_
  refine J_iload_n E dX11_soon_84 rfl ?_
  refine J_iconst (v := nI 1) E dX11_soon_85 rfl ?_
  refine J_iadd E dX11_soon_86 ?_
  refine S_iald E dX11_soon_87 (shr_X4_6 sh78) s3_ ?_
  refine S_callV (As := [.int (μ (78 + 1) (ix a3)), .int (μ (78 + 2) (ix a3)), .int (μ (78 + 2) (ix (a3 + (nI 1))))]) (rest := [.ref (Z.2.2.1 + 1)]) E dX11_soon_88 c kX10_passed ⟨Nat.le_of_ble_eq_true rfl, Nat.le_of_ble_eq_true rfl⟩ rfl (Nat.le_of_ble_eq_true rfl) sh73 rfl rfl w5_102 w5_103 w5_104 (fun r_ μ1 hp_ => ?_)
  obtain ⟨v, rfl, hp_⟩ := hp_
  exact k v μ1 hp_
theorem bX11_soon_91 {Z : ZT} {X : XT} {μ : Mu} {a2 : Int32} {a3 : Int32} {s0 : Nat} {s1 : Int32} (E : Ent Z X mX11_soon 0 0) (hs0 : SH s0 = .inl 3) {p : Int32 → Mu → Prop} 
    (c : CtrS Z mX3_seenFromAny [.ref (Z.2.2.1 + s0), .int s1] μ (rI p)) (k : ∀ v μ1, p v μ1 → JS Z X 94 [(0, .ref (Z.2.2.1 + 0)), (2, .int a2), (3, .int a3)] [.int v] μ1) :
    JS Z X 91 [(0, .ref (Z.2.2.1 + 0)), (2, .int a2), (3, .int a3)] [.int s1, .ref (Z.2.2.1 + s0)] μ := by
  refine S_callV (As := [.int s1]) (rest := []) E dX11_soon_91 c kX3_seenFromAny ⟨Nat.le_of_ble_eq_true rfl, Nat.le_of_ble_eq_true rfl⟩ rfl (Nat.le_of_ble_eq_true rfl) hs0 rfl rfl w5_106 w5_107 w5_108 (fun r_ μ1 hp_ => ?_)
  obtain ⟨v, rfl, hp_⟩ := hp_
  exact k v μ1 hp_
theorem bX11_soon_94 {Z : ZT} {X : XT} {μ : Mu} {a2 : Int32} {a3 : Int32} {s0 : Int32} (E : Ent Z X mX11_soon 0 0)  
    (k : JS Z X 101 [(0, .ref (Z.2.2.1 + 0)), (2, .int a2), (3, .int a3), (4, .int s0), (5, .int (a3 + (nI 2)))] [] μ) :
    JS Z X 94 [(0, .ref (Z.2.2.1 + 0)), (2, .int a2), (3, .int a3)] [.int s0] μ := by
  refine J_istore (lv' := [(0, .ref (Z.2.2.1 + 0)), (2, .int a2), (3, .int a3), (4, .int s0)]) E dX11_soon_94 (Nat.le_of_ble_eq_true rfl) rfl ?_
  refine J_iload_n E dX11_soon_96 rfl ?_
  refine J_iconst (v := nI 2) E dX11_soon_97 rfl ?_
  refine J_iadd E dX11_soon_98 ?_
  refine J_istore (lv' := [(0, .ref (Z.2.2.1 + 0)), (2, .int a2), (3, .int a3), (4, .int s0), (5, .int (a3 + (nI 2)))]) E dX11_soon_99 (Nat.le_of_ble_eq_true rfl) rfl ?_
  exact k
theorem bX11_soon_101 {Z : ZT} {X : XT} {μ : Mu} {a2 : Int32} {a3 : Int32} {a4 : Int32} {a5 : Int32} (E : Ent Z X mX11_soon 0 0)  
    (kt : (μ 78 4) ≤ a5 → JS Z X 140 [(0, .ref (Z.2.2.1 + 0)), (2, .int a2), (3, .int a3)] [] μ) (kf : ¬ ((μ 78 4) ≤ a5) → JS Z X 113 [(0, .ref (Z.2.2.1 + 0)), (2, .int a2), (3, .int a3), (4, .int a4), (5, .int a5)] [] μ) :
    JS Z X 101 [(0, .ref (Z.2.2.1 + 0)), (2, .int a2), (3, .int a3), (4, .int a4), (5, .int a5)] [] μ := by
  refine J_iload E dX11_soon_101 rfl ?_
  refine J_aload_n E dX11_soon_103 rfl ?_
  refine S_get (ci := 11) (q := 9) (v := .ref (Z.2.2.1 + 78)) E dX11_soon_104 fs_X11_63 sh0 rfl ?_
  refine S_get (ci := 4) (q := 4) (v := .int (μ 78 4)) E dX11_soon_107 fs_X11_226 sh78 rfl ?_
  refine J_icmp_ge (tgt := 140) E dX11_soon_110 (by decide) (fun c => ?_) (fun c => ?_)
  · refine J.weak [0, 1, 2] rfl ?_
    exact kt c
  · exact kf c
theorem bX11_soon_113 {Z : ZT} {X : XT} {μ : Mu} {a2 : Int32} {a3 : Int32} {a4 : Int32} {a5 : Int32} (E : Ent Z X mX11_soon 0 0)  (s1_ : vp_in a5 6)
    (k : JS Z X 101 [(0, .ref (Z.2.2.1 + 0)), (2, .int (a2 ||| (((a4 >>> ((μ (78 + 2) (ix a5)) &&& 31)) &&& (nI 1)) <<< (a5 &&& 31)))), (3, .int a3), (4, .int a4), (5, .int (a5 + nI 1))] [] μ) :
    JS Z X 113 [(0, .ref (Z.2.2.1 + 0)), (2, .int a2), (3, .int a3), (4, .int a4), (5, .int a5)] [] μ := by
  refine J_iload_n E dX11_soon_113 rfl ?_
  refine J_iload E dX11_soon_114 rfl ?_
  refine J_aload_n E dX11_soon_116 rfl ?_
  refine S_get (ci := 11) (q := 9) (v := .ref (Z.2.2.1 + 78)) E dX11_soon_117 fs_X11_63 sh0 rfl ?_
  refine S_get (ci := 4) (q := 6) (v := .ref (Z.2.2.1 + (78 + 2))) E dX11_soon_120 fs_X11_309 sh78 rfl ?_
  refine J_iload E dX11_soon_123 rfl ?_
  refine S_iald E dX11_soon_125 (shr_X4_6 sh78) s1_ ?_
  refine J_ishr E dX11_soon_126 ?_
  refine J_iconst (v := nI 1) E dX11_soon_127 rfl ?_
  refine J_iand E dX11_soon_128 ?_
  refine J_iload E dX11_soon_129 rfl ?_
  refine J_ishl E dX11_soon_131 ?_
  refine J_ior E dX11_soon_132 ?_
  refine J_istore_n (lv' := [(0, .ref (Z.2.2.1 + 0)), (2, .int (a2 ||| (((a4 >>> ((μ (78 + 2) (ix a5)) &&& 31)) &&& (nI 1)) <<< (a5 &&& 31)))), (3, .int a3), (4, .int a4), (5, .int a5)]) E dX11_soon_133 (Nat.le_of_ble_eq_true rfl) rfl ?_
  refine J_iinc (v := a5 + nI 1) (lv' := [(0, .ref (Z.2.2.1 + 0)), (2, .int (a2 ||| (((a4 >>> ((μ (78 + 2) (ix a5)) &&& 31)) &&& (nI 1)) <<< (a5 &&& 31)))), (3, .int a3), (4, .int a4), (5, .int (a5 + nI 1))]) E dX11_soon_134 rfl rfl (Nat.le_of_ble_eq_true rfl) rfl ?_
  refine J_goto (tgt := 101) E dX11_soon_137 (by decide) ?_
  exact k
theorem bX11_soon_140 {Z : ZT} {X : XT} {μ : Mu} {a2 : Int32} {a3 : Int32} (E : Ent Z X mX11_soon 0 0)  
    (k : JS Z X 38 [(0, .ref (Z.2.2.1 + 0)), (2, .int a2), (3, .int (a3 + nI 1))] [] μ) :
    JS Z X 140 [(0, .ref (Z.2.2.1 + 0)), (2, .int a2), (3, .int a3)] [] μ := by
  refine J_iinc (v := a3 + nI 1) (lv' := [(0, .ref (Z.2.2.1 + 0)), (2, .int a2), (3, .int (a3 + nI 1))]) E dX11_soon_140 rfl rfl (Nat.le_of_ble_eq_true rfl) rfl ?_
  refine J_goto (tgt := 38) E dX11_soon_143 (by decide) ?_
  exact k
theorem bX11_soon_146 {Z : ZT} {X : XT} {μ : Mu} {a2 : Int32} (E : Ent Z X mX11_soon 0 0) {P : Option Value → Mu → Prop} (hB : BodS Z X P) 
    (k : P (some (.int a2)) μ) :
    JS Z X 146 [(2, .int a2)] [] μ := by
  refine J_iload_n E dX11_soon_146 rfl ?_
  exact S_iret E hB dX11_soon_147 rfl k
theorem dX11_report_0 : decode cX11_report 0 = .ok (.aload_n 0, 1) := by decide +kernel
theorem dX11_report_1 : decode cX11_report 1 = .ok (.aload_n 0, 1) := by decide +kernel
theorem dX11_report_2 : decode cX11_report 2 = .ok (.getfield 22, 3) := by decide +kernel
theorem dX11_report_5 : decode cX11_report 5 = .ok (.iload_n 1, 1) := by decide +kernel
theorem dX11_report_6 : decode cX11_report 6 = .ok (.iload_n 2, 1) := by decide +kernel
theorem dX11_report_7 : decode cX11_report 7 = .ok (.invokevirtual 318, 3) := by decide +kernel
theorem dX11_report_10 : decode cX11_report 10 = .ok (.invokevirtual 125, 3) := by decide +kernel
theorem dX11_report_13 : decode cX11_report 13 = .ok (.ireturn, 1) := by decide +kernel
theorem bX11_report_0 {Z : ZT} {X : XT} {μ : Mu} {a1 : Int32} {a2 : Int32} (E : Ent Z X mX11_report 0 0) {p : Int32 → Mu → Prop} 
    (c : CtrS Z mX6_addReport [.ref (Z.2.2.1 + 27), .int a1, .int a2] μ (rI p)) (k : ∀ v μ1, p v μ1 → JS Z X 10 [] [.int v, .ref (Z.2.2.1 + 0)] μ1) :
    JS Z X 0 [(0, .ref (Z.2.2.1 + 0)), (1, .int a1), (2, .int a2)] [] μ := by
  refine J_aload_n E dX11_report_0 rfl ?_
  refine J_aload_n E dX11_report_1 rfl ?_
  refine S_get (ci := 11) (q := 2) (v := .ref (Z.2.2.1 + 27)) E dX11_report_2 fs_X11_22 sh0 rfl ?_
  refine J_iload_n E dX11_report_5 rfl ?_
  refine J_iload_n E dX11_report_6 rfl ?_
  refine S_callV (As := [.int a1, .int a2]) (rest := [.ref (Z.2.2.1 + 0)]) E dX11_report_7 c kX6_addReport ⟨Nat.le_of_ble_eq_true rfl, Nat.le_of_ble_eq_true rfl⟩ rfl (Nat.le_of_ble_eq_true rfl) sh27 rfl rfl w5_114 w5_115 w5_116 (fun r_ μ1 hp_ => ?_)
  obtain ⟨v, rfl, hp_⟩ := hp_
  refine J.weak [] rfl ?_
  exact k v μ1 hp_
theorem bX11_report_10 {Z : ZT} {X : XT} {μ : Mu} {s1 : Int32} (E : Ent Z X mX11_report 0 0) {p : Int32 → Mu → Prop} 
    (c : CtrS Z mX11_counted [.ref (Z.2.2.1 + 0), .int s1] μ (rI p)) (k : ∀ v μ1, p v μ1 → JS Z X 13 [] [.int v] μ1) :
    JS Z X 10 [] [.int s1, .ref (Z.2.2.1 + 0)] μ := by
  refine S_callV (As := [.int s1]) (rest := []) E dX11_report_10 c kX11_counted ⟨Nat.le_of_ble_eq_true rfl, Nat.le_of_ble_eq_true rfl⟩ rfl (Nat.le_of_ble_eq_true rfl) sh0 rfl rfl w3_25 w3_27 wp_1 (fun r_ μ1 hp_ => ?_)
  obtain ⟨v, rfl, hp_⟩ := hp_
  exact k v μ1 hp_
theorem bX11_report_13 {Z : ZT} {X : XT} {μ : Mu} {s0 : Int32} (E : Ent Z X mX11_report 0 0) {P : Option Value → Mu → Prop} (hB : BodS Z X P) 
    (k : P (some (.int s0)) μ) :
    JS Z X 13 [] [.int s0] μ := by
  exact S_iret E hB dX11_report_13 rfl k
theorem dX11_hard_0 : decode cX11_hard 0 = .ok (.iload_n 1, 1) := by decide +kernel
theorem dX11_hard_1 : decode cX11_hard 1 = .ok (.iconst 4, 1) := by decide +kernel
theorem dX11_hard_2 : decode cX11_hard 2 = .ok (.invokestatic 198, 3) := by decide +kernel
theorem dX11_hard_5 : decode cX11_hard 5 = .ok (.ifCond .eq 11, 3) := by decide +kernel
theorem dX11_hard_8 : decode cX11_hard 8 = .ok (.iload_n 2, 1) := by decide +kernel
theorem dX11_hard_9 : decode cX11_hard 9 = .ok (.iconst 3, 1) := by decide +kernel
theorem dX11_hard_10 : decode cX11_hard 10 = .ok (.invokestatic 198, 3) := by decide +kernel
theorem dX11_hard_13 : decode cX11_hard 13 = .ok (.ifCond .ne 10, 3) := by decide +kernel
theorem dX11_hard_16 : decode cX11_hard 16 = .ok (.aload_n 0, 1) := by decide +kernel
theorem dX11_hard_17 : decode cX11_hard 17 = .ok (.bipush (-2), 2) := by decide +kernel
theorem dX11_hard_19 : decode cX11_hard 19 = .ok (.invokevirtual 125, 3) := by decide +kernel
theorem dX11_hard_22 : decode cX11_hard 22 = .ok (.ireturn, 1) := by decide +kernel
theorem dX11_hard_23 : decode cX11_hard 23 = .ok (.iconst 0, 1) := by decide +kernel
theorem dX11_hard_24 : decode cX11_hard 24 = .ok (.istore_n 3, 1) := by decide +kernel
theorem dX11_hard_25 : decode cX11_hard 25 = .ok (.iconst 0, 1) := by decide +kernel
theorem dX11_hard_26 : decode cX11_hard 26 = .ok (.istore 4, 2) := by decide +kernel
theorem dX11_hard_28 : decode cX11_hard 28 = .ok (.iconst 0, 1) := by decide +kernel
theorem dX11_hard_29 : decode cX11_hard 29 = .ok (.istore 5, 2) := by decide +kernel
theorem dX11_hard_31 : decode cX11_hard 31 = .ok (.iconst 0, 1) := by decide +kernel
theorem dX11_hard_32 : decode cX11_hard 32 = .ok (.istore 6, 2) := by decide +kernel
theorem dX11_hard_34 : decode cX11_hard 34 = .ok (.iconst 0, 1) := by decide +kernel
theorem dX11_hard_35 : decode cX11_hard 35 = .ok (.istore 7, 2) := by decide +kernel
theorem dX11_hard_37 : decode cX11_hard 37 = .ok (.iload 7, 2) := by decide +kernel
theorem dX11_hard_39 : decode cX11_hard 39 = .ok (.aload_n 0, 1) := by decide +kernel
theorem dX11_hard_40 : decode cX11_hard 40 = .ok (.getfield 22, 3) := by decide +kernel
theorem dX11_hard_43 : decode cX11_hard 43 = .ok (.getfield 321, 3) := by decide +kernel
theorem dX11_hard_46 : decode cX11_hard 46 = .ok (.if_icmp .ge 72, 3) := by decide +kernel
theorem dX11_hard_49 : decode cX11_hard 49 = .ok (.aload_n 0, 1) := by decide +kernel
theorem dX11_hard_50 : decode cX11_hard 50 = .ok (.getfield 22, 3) := by decide +kernel
theorem dX11_hard_53 : decode cX11_hard 53 = .ok (.getfield 324, 3) := by decide +kernel
theorem dX11_hard_56 : decode cX11_hard 56 = .ok (.iload 7, 2) := by decide +kernel
theorem dX11_hard_58 : decode cX11_hard 58 = .ok (.iaload, 1) := by decide +kernel
theorem dX11_hard_59 : decode cX11_hard 59 = .ok (.iload_n 1, 1) := by decide +kernel
theorem dX11_hard_60 : decode cX11_hard 60 = .ok (.if_icmp .ne 52, 3) := by decide +kernel
theorem dX11_hard_63 : decode cX11_hard 63 = .ok (.aload_n 0, 1) := by decide +kernel
theorem dX11_hard_64 : decode cX11_hard 64 = .ok (.getfield 22, 3) := by decide +kernel
theorem dX11_hard_67 : decode cX11_hard 67 = .ok (.getfield 327, 3) := by decide +kernel
theorem dX11_hard_70 : decode cX11_hard 70 = .ok (.iload 7, 2) := by decide +kernel
theorem dX11_hard_72 : decode cX11_hard 72 = .ok (.iaload, 1) := by decide +kernel
theorem dX11_hard_73 : decode cX11_hard 73 = .ok (.istore 8, 2) := by decide +kernel
theorem dX11_hard_75 : decode cX11_hard 75 = .ok (.iload_n 3, 1) := by decide +kernel
theorem dX11_hard_76 : decode cX11_hard 76 = .ok (.ifCond .ne 8, 3) := by decide +kernel
theorem dX11_hard_79 : decode cX11_hard 79 = .ok (.iload 8, 2) := by decide +kernel
theorem dX11_hard_81 : decode cX11_hard 81 = .ok (.goto 10, 3) := by decide +kernel
theorem dX11_hard_84 : decode cX11_hard 84 = .ok (.iload 5, 2) := by decide +kernel
theorem dX11_hard_86 : decode cX11_hard 86 = .ok (.iload 8, 2) := by decide +kernel
theorem dX11_hard_88 : decode cX11_hard 88 = .ok (.invokestatic 330, 3) := by decide +kernel
theorem dX11_hard_91 : decode cX11_hard 91 = .ok (.istore 5, 2) := by decide +kernel
theorem dX11_hard_93 : decode cX11_hard 93 = .ok (.iload 6, 2) := by decide +kernel
theorem dX11_hard_95 : decode cX11_hard 95 = .ok (.iload 8, 2) := by decide +kernel
theorem dX11_hard_97 : decode cX11_hard 97 = .ok (.invokestatic 335, 3) := by decide +kernel
theorem dX11_hard_100 : decode cX11_hard 100 = .ok (.istore 6, 2) := by decide +kernel
theorem dX11_hard_102 : decode cX11_hard 102 = .ok (.iload 4, 2) := by decide +kernel
theorem dX11_hard_104 : decode cX11_hard 104 = .ok (.iload 8, 2) := by decide +kernel
theorem dX11_hard_106 : decode cX11_hard 106 = .ok (.iadd, 1) := by decide +kernel
theorem dX11_hard_107 : decode cX11_hard 107 = .ok (.istore 4, 2) := by decide +kernel
theorem dX11_hard_109 : decode cX11_hard 109 = .ok (.iinc 3 1, 3) := by decide +kernel
theorem dX11_hard_112 : decode cX11_hard 112 = .ok (.iinc 7 1, 3) := by decide +kernel
theorem dX11_hard_115 : decode cX11_hard 115 = .ok (.goto (-78), 3) := by decide +kernel
theorem dX11_hard_118 : decode cX11_hard 118 = .ok (.iload_n 3, 1) := by decide +kernel
theorem dX11_hard_119 : decode cX11_hard 119 = .ok (.ifCond .ne 10, 3) := by decide +kernel
theorem dX11_hard_122 : decode cX11_hard 122 = .ok (.aload_n 0, 1) := by decide +kernel
theorem dX11_hard_123 : decode cX11_hard 123 = .ok (.bipush (-3), 2) := by decide +kernel
theorem dX11_hard_125 : decode cX11_hard 125 = .ok (.invokevirtual 125, 3) := by decide +kernel
theorem dX11_hard_128 : decode cX11_hard 128 = .ok (.ireturn, 1) := by decide +kernel
theorem dX11_hard_129 : decode cX11_hard 129 = .ok (.iload_n 2, 1) := by decide +kernel
theorem dX11_hard_130 : decode cX11_hard 130 = .ok (.iconst 2, 1) := by decide +kernel
theorem dX11_hard_131 : decode cX11_hard 131 = .ok (.if_icmp .ne 15, 3) := by decide +kernel
theorem dX11_hard_134 : decode cX11_hard 134 = .ok (.aload_n 0, 1) := by decide +kernel
theorem dX11_hard_135 : decode cX11_hard 135 = .ok (.getfield 107, 3) := by decide +kernel
theorem dX11_hard_138 : decode cX11_hard 138 = .ok (.iload 4, 2) := by decide +kernel
theorem dX11_hard_140 : decode cX11_hard 140 = .ok (.iload_n 3, 1) := by decide +kernel
theorem dX11_hard_141 : decode cX11_hard 141 = .ok (.invokevirtual 338, 3) := by decide +kernel
theorem dX11_hard_144 : decode cX11_hard 144 = .ok (.iconst 1, 1) := by decide +kernel
theorem dX11_hard_145 : decode cX11_hard 145 = .ok (.ireturn, 1) := by decide +kernel
theorem dX11_hard_146 : decode cX11_hard 146 = .ok (.iload_n 2, 1) := by decide +kernel
theorem dX11_hard_147 : decode cX11_hard 147 = .ok (.ifCond .ne 8, 3) := by decide +kernel
theorem dX11_hard_150 : decode cX11_hard 150 = .ok (.iload 5, 2) := by decide +kernel
theorem dX11_hard_152 : decode cX11_hard 152 = .ok (.goto 5, 3) := by decide +kernel
theorem dX11_hard_155 : decode cX11_hard 155 = .ok (.iload 6, 2) := by decide +kernel
theorem dX11_hard_157 : decode cX11_hard 157 = .ok (.ireturn, 1) := by decide +kernel
theorem bX11_hard_0 {Z : ZT} {X : XT} {μ : Mu} {a1 : Int32} {a2 : Int32} (E : Ent Z X mX11_hard 0 0) {p : Int32 → Mu → Prop} 
    (c : CtrS Z mX11_within [.int a1, .int (nI 4)] μ (rI p)) (k : ∀ v μ1, p v μ1 → JS Z X 5 [(0, .ref (Z.2.2.1 + 0)), (1, .int a1), (2, .int a2)] [.int v] μ1) :
    JS Z X 0 [(0, .ref (Z.2.2.1 + 0)), (1, .int a1), (2, .int a2)] [] μ := by
  refine J_iload_n E dX11_hard_0 rfl ?_
  refine J_iconst (v := nI 4) E dX11_hard_1 rfl ?_
  refine S_callS (As := [.int a1, .int (nI 4)]) (rest := []) E dX11_hard_2 c kX11_within ⟨Nat.le_of_ble_eq_true rfl, Nat.le_of_ble_eq_true rfl⟩ rfl (Nat.le_of_ble_eq_true rfl) w4_71 w3_46 (fun r_ μ1 hp_ => ?_)
  obtain ⟨v, rfl, hp_⟩ := hp_
  exact k v μ1 hp_
theorem bX11_hard_5 {Z : ZT} {X : XT} {μ : Mu} {a1 : Int32} {a2 : Int32} {s0 : Int32} (E : Ent Z X mX11_hard 0 0)  
    (kt : s0 = 0 → JS Z X 16 [(0, .ref (Z.2.2.1 + 0))] [] μ) (kf : ¬ (s0 = 0) → JS Z X 8 [(0, .ref (Z.2.2.1 + 0)), (1, .int a1), (2, .int a2)] [] μ) :
    JS Z X 5 [(0, .ref (Z.2.2.1 + 0)), (1, .int a1), (2, .int a2)] [.int s0] μ := by
  refine J_if_eq (tgt := 16) E dX11_hard_5 (by decide) (fun c => ?_) (fun c => ?_)
  · refine J.weak [0] rfl ?_
    exact kt c
  · exact kf c
theorem bX11_hard_8 {Z : ZT} {X : XT} {μ : Mu} {a1 : Int32} {a2 : Int32} (E : Ent Z X mX11_hard 0 0) {p : Int32 → Mu → Prop} 
    (c : CtrS Z mX11_within [.int a2, .int (nI 3)] μ (rI p)) (k : ∀ v μ1, p v μ1 → JS Z X 13 [(0, .ref (Z.2.2.1 + 0)), (1, .int a1), (2, .int a2)] [.int v] μ1) :
    JS Z X 8 [(0, .ref (Z.2.2.1 + 0)), (1, .int a1), (2, .int a2)] [] μ := by
  refine J_iload_n E dX11_hard_8 rfl ?_
  refine J_iconst (v := nI 3) E dX11_hard_9 rfl ?_
  refine S_callS (As := [.int a2, .int (nI 3)]) (rest := []) E dX11_hard_10 c kX11_within ⟨Nat.le_of_ble_eq_true rfl, Nat.le_of_ble_eq_true rfl⟩ rfl (Nat.le_of_ble_eq_true rfl) w4_71 w3_46 (fun r_ μ1 hp_ => ?_)
  obtain ⟨v, rfl, hp_⟩ := hp_
  exact k v μ1 hp_
theorem bX11_hard_13 {Z : ZT} {X : XT} {μ : Mu} {a1 : Int32} {a2 : Int32} {s0 : Int32} (E : Ent Z X mX11_hard 0 0)  
    (kt : ¬ s0 = 0 → JS Z X 23 [(0, .ref (Z.2.2.1 + 0)), (1, .int a1), (2, .int a2)] [] μ) (kf : s0 = 0 → JS Z X 16 [(0, .ref (Z.2.2.1 + 0))] [] μ) :
    JS Z X 13 [(0, .ref (Z.2.2.1 + 0)), (1, .int a1), (2, .int a2)] [.int s0] μ := by
  refine J_if_ne (tgt := 23) E dX11_hard_13 (by decide) (fun c => ?_) (fun c => ?_)
  · exact kt c
  · refine J.weak [0] rfl ?_
    exact kf c
theorem bX11_hard_16 {Z : ZT} {X : XT} {μ : Mu} (E : Ent Z X mX11_hard 0 0) {p : Int32 → Mu → Prop} 
    (c : CtrS Z mX11_counted [.ref (Z.2.2.1 + 0), .int (-2)] μ (rI p)) (k : ∀ v μ1, p v μ1 → JS Z X 22 [] [.int v] μ1) :
    JS Z X 16 [(0, .ref (Z.2.2.1 + 0))] [] μ := by
  refine J_aload_n E dX11_hard_16 rfl ?_
  refine J_bipush (v := -2) E dX11_hard_17 rfl ?_
  refine S_callV (As := [.int (-2)]) (rest := []) E dX11_hard_19 c kX11_counted ⟨Nat.le_of_ble_eq_true rfl, Nat.le_of_ble_eq_true rfl⟩ rfl (Nat.le_of_ble_eq_true rfl) sh0 rfl rfl w3_25 w3_27 wp_1 (fun r_ μ1 hp_ => ?_)
  obtain ⟨v, rfl, hp_⟩ := hp_
  refine J.weak [] rfl ?_
  exact k v μ1 hp_
theorem bX11_hard_22 {Z : ZT} {X : XT} {μ : Mu} {s0 : Int32} (E : Ent Z X mX11_hard 0 0) {P : Option Value → Mu → Prop} (hB : BodS Z X P) 
    (k : P (some (.int s0)) μ) :
    JS Z X 22 [] [.int s0] μ := by
  exact S_iret E hB dX11_hard_22 rfl k
theorem bX11_hard_23 {Z : ZT} {X : XT} {μ : Mu} {a1 : Int32} {a2 : Int32} (E : Ent Z X mX11_hard 0 0)  
    (k : JS Z X 37 [(0, .ref (Z.2.2.1 + 0)), (1, .int a1), (2, .int a2), (3, .int (nI 0)), (4, .int (nI 0)), (5, .int (nI 0)), (6, .int (nI 0)), (7, .int (nI 0))] [] μ) :
    JS Z X 23 [(0, .ref (Z.2.2.1 + 0)), (1, .int a1), (2, .int a2)] [] μ := by
  refine J_iconst (v := nI 0) E dX11_hard_23 rfl ?_
  refine J_istore_n (lv' := [(0, .ref (Z.2.2.1 + 0)), (1, .int a1), (2, .int a2), (3, .int (nI 0))]) E dX11_hard_24 (Nat.le_of_ble_eq_true rfl) rfl ?_
  refine J_iconst (v := nI 0) E dX11_hard_25 rfl ?_
  refine J_istore (lv' := [(0, .ref (Z.2.2.1 + 0)), (1, .int a1), (2, .int a2), (3, .int (nI 0)), (4, .int (nI 0))]) E dX11_hard_26 (Nat.le_of_ble_eq_true rfl) rfl ?_
  refine J_iconst (v := nI 0) E dX11_hard_28 rfl ?_
  refine J_istore (lv' := [(0, .ref (Z.2.2.1 + 0)), (1, .int a1), (2, .int a2), (3, .int (nI 0)), (4, .int (nI 0)), (5, .int (nI 0))]) E dX11_hard_29 (Nat.le_of_ble_eq_true rfl) rfl ?_
  refine J_iconst (v := nI 0) E dX11_hard_31 rfl ?_
  refine J_istore (lv' := [(0, .ref (Z.2.2.1 + 0)), (1, .int a1), (2, .int a2), (3, .int (nI 0)), (4, .int (nI 0)), (5, .int (nI 0)), (6, .int (nI 0))]) E dX11_hard_32 (Nat.le_of_ble_eq_true rfl) rfl ?_
  refine J_iconst (v := nI 0) E dX11_hard_34 rfl ?_
  refine J_istore (lv' := [(0, .ref (Z.2.2.1 + 0)), (1, .int a1), (2, .int a2), (3, .int (nI 0)), (4, .int (nI 0)), (5, .int (nI 0)), (6, .int (nI 0)), (7, .int (nI 0))]) E dX11_hard_35 (Nat.le_of_ble_eq_true rfl) rfl ?_
  exact k
theorem bX11_hard_37 {Z : ZT} {X : XT} {μ : Mu} {a1 : Int32} {a2 : Int32} {a3 : Int32} {a4 : Int32} {a5 : Int32} {a6 : Int32} {a7 : Int32} (E : Ent Z X mX11_hard 0 0)  
    (kt : (μ 27 1) ≤ a7 → JS Z X 118 [(0, .ref (Z.2.2.1 + 0)), (2, .int a2), (3, .int a3), (4, .int a4), (5, .int a5), (6, .int a6)] [] μ) (kf : ¬ ((μ 27 1) ≤ a7) → JS Z X 49 [(0, .ref (Z.2.2.1 + 0)), (1, .int a1), (2, .int a2), (3, .int a3), (4, .int a4), (5, .int a5), (6, .int a6), (7, .int a7)] [] μ) :
    JS Z X 37 [(0, .ref (Z.2.2.1 + 0)), (1, .int a1), (2, .int a2), (3, .int a3), (4, .int a4), (5, .int a5), (6, .int a6), (7, .int a7)] [] μ := by
  refine J_iload E dX11_hard_37 rfl ?_
  refine J_aload_n E dX11_hard_39 rfl ?_
  refine S_get (ci := 11) (q := 2) (v := .ref (Z.2.2.1 + 27)) E dX11_hard_40 fs_X11_22 sh0 rfl ?_
  refine S_get (ci := 6) (q := 1) (v := .int (μ 27 1)) E dX11_hard_43 fs_X11_321 sh27 rfl ?_
  refine J_icmp_ge (tgt := 118) E dX11_hard_46 (by decide) (fun c => ?_) (fun c => ?_)
  · refine J.weak [0, 2, 3, 4, 5, 6] rfl ?_
    exact kt c
  · exact kf c
theorem bX11_hard_49 {Z : ZT} {X : XT} {μ : Mu} {a1 : Int32} {a2 : Int32} {a3 : Int32} {a4 : Int32} {a5 : Int32} {a6 : Int32} {a7 : Int32} (E : Ent Z X mX11_hard 0 0)  (s1_ : vp_in a7 20)
    (kt : ¬ (μ (27 + 2) (ix a7)) = a1 → JS Z X 112 [(0, .ref (Z.2.2.1 + 0)), (1, .int a1), (2, .int a2), (3, .int a3), (4, .int a4), (5, .int a5), (6, .int a6), (7, .int a7)] [] μ) (kf : (μ (27 + 2) (ix a7)) = a1 → JS Z X 63 [(0, .ref (Z.2.2.1 + 0)), (1, .int a1), (2, .int a2), (3, .int a3), (4, .int a4), (5, .int a5), (6, .int a6), (7, .int a7)] [] μ) :
    JS Z X 49 [(0, .ref (Z.2.2.1 + 0)), (1, .int a1), (2, .int a2), (3, .int a3), (4, .int a4), (5, .int a5), (6, .int a6), (7, .int a7)] [] μ := by
  refine J_aload_n E dX11_hard_49 rfl ?_
  refine S_get (ci := 11) (q := 2) (v := .ref (Z.2.2.1 + 27)) E dX11_hard_50 fs_X11_22 sh0 rfl ?_
  refine S_get (ci := 6) (q := 2) (v := .ref (Z.2.2.1 + (27 + 2))) E dX11_hard_53 fs_X11_324 sh27 rfl ?_
  refine J_iload E dX11_hard_56 rfl ?_
  refine S_iald E dX11_hard_58 (shr_X6_2 sh27) s1_ ?_
  refine J_iload_n E dX11_hard_59 rfl ?_
  refine J_icmp_ne (tgt := 112) E dX11_hard_60 (by decide) (fun c => ?_) (fun c => ?_)
  · exact kt c
  · exact kf c
theorem bX11_hard_63 {Z : ZT} {X : XT} {μ : Mu} {a1 : Int32} {a2 : Int32} {a3 : Int32} {a4 : Int32} {a5 : Int32} {a6 : Int32} {a7 : Int32} (E : Ent Z X mX11_hard 0 0)  (s1_ : vp_in a7 20)
    (kt : ¬ a3 = 0 → JS Z X 84 [(0, .ref (Z.2.2.1 + 0)), (1, .int a1), (2, .int a2), (3, .int a3), (4, .int a4), (5, .int a5), (6, .int a6), (7, .int a7), (8, .int (μ (27 + 3) (ix a7)))] [] μ) (kf : a3 = 0 → JS Z X 79 [(0, .ref (Z.2.2.1 + 0)), (1, .int a1), (2, .int a2), (3, .int a3), (4, .int a4), (6, .int a6), (7, .int a7), (8, .int (μ (27 + 3) (ix a7)))] [] μ) :
    JS Z X 63 [(0, .ref (Z.2.2.1 + 0)), (1, .int a1), (2, .int a2), (3, .int a3), (4, .int a4), (5, .int a5), (6, .int a6), (7, .int a7)] [] μ := by
  refine J_aload_n E dX11_hard_63 rfl ?_
  refine S_get (ci := 11) (q := 2) (v := .ref (Z.2.2.1 + 27)) E dX11_hard_64 fs_X11_22 sh0 rfl ?_
  refine S_get (ci := 6) (q := 3) (v := .ref (Z.2.2.1 + (27 + 3))) E dX11_hard_67 fs_X11_327 sh27 rfl ?_
  refine J_iload E dX11_hard_70 rfl ?_
  refine S_iald E dX11_hard_72 (shr_X6_3 sh27) s1_ ?_
  refine J_istore (lv' := [(0, .ref (Z.2.2.1 + 0)), (1, .int a1), (2, .int a2), (3, .int a3), (4, .int a4), (5, .int a5), (6, .int a6), (7, .int a7), (8, .int (μ (27 + 3) (ix a7)))]) E dX11_hard_73 (Nat.le_of_ble_eq_true rfl) rfl ?_
  refine J_iload_n E dX11_hard_75 rfl ?_
  refine J_if_ne (tgt := 84) E dX11_hard_76 (by decide) (fun c => ?_) (fun c => ?_)
  · exact kt c
  · refine J.weak [0, 1, 2, 3, 4, 6, 7, 8] rfl ?_
    exact kf c
theorem bX11_hard_79 {Z : ZT} {X : XT} {μ : Mu} {a1 : Int32} {a2 : Int32} {a3 : Int32} {a4 : Int32} {a6 : Int32} {a7 : Int32} {a8 : Int32} (E : Ent Z X mX11_hard 0 0)  
    (k : JS Z X 91 [(0, .ref (Z.2.2.1 + 0)), (1, .int a1), (2, .int a2), (3, .int a3), (4, .int a4), (6, .int a6), (7, .int a7), (8, .int a8)] [.int a8] μ) :
    JS Z X 79 [(0, .ref (Z.2.2.1 + 0)), (1, .int a1), (2, .int a2), (3, .int a3), (4, .int a4), (6, .int a6), (7, .int a7), (8, .int a8)] [] μ := by
  refine J_iload E dX11_hard_79 rfl ?_
  refine J_goto (tgt := 91) E dX11_hard_81 (by decide) ?_
  exact k
theorem bX11_hard_84 {Z : ZT} {X : XT} {μ : Mu} {a1 : Int32} {a2 : Int32} {a3 : Int32} {a4 : Int32} {a5 : Int32} {a6 : Int32} {a7 : Int32} {a8 : Int32} (E : Ent Z X mX11_hard 0 0)  
    (k : JS Z X 91 [(0, .ref (Z.2.2.1 + 0)), (1, .int a1), (2, .int a2), (3, .int a3), (4, .int a4), (6, .int a6), (7, .int a7), (8, .int a8)] [.int (if a8 < a5 then a8 else a5)] μ) :
    JS Z X 84 [(0, .ref (Z.2.2.1 + 0)), (1, .int a1), (2, .int a2), (3, .int a3), (4, .int a4), (5, .int a5), (6, .int a6), (7, .int a7), (8, .int a8)] [] μ := by
  refine J_iload E dX11_hard_84 rfl ?_
  refine J_iload E dX11_hard_86 rfl ?_
  refine J_mmin E dX11_hard_88 w5_122 w2_189 w1_13 w2_190 (Nat.le_of_ble_eq_true rfl) (Nat.le_of_ble_eq_true rfl) (Nat.le_refl 0) (Nat.le_refl 0) ?_
  refine J.weak [0, 1, 2, 3, 4, 6, 7, 8] rfl ?_
  exact k
theorem bX11_hard_91 {Z : ZT} {X : XT} {μ : Mu} {a1 : Int32} {a2 : Int32} {a3 : Int32} {a4 : Int32} {a6 : Int32} {a7 : Int32} {a8 : Int32} {s0 : Int32} (E : Ent Z X mX11_hard 0 0)  
    (k : JS Z X 112 [(0, .ref (Z.2.2.1 + 0)), (1, .int a1), (2, .int a2), (3, .int (a3 + nI 1)), (4, .int (a4 + a8)), (5, .int s0), (6, .int (if a6 < a8 then a8 else a6)), (7, .int a7)] [] μ) :
    JS Z X 91 [(0, .ref (Z.2.2.1 + 0)), (1, .int a1), (2, .int a2), (3, .int a3), (4, .int a4), (6, .int a6), (7, .int a7), (8, .int a8)] [.int s0] μ := by
  refine J_istore (lv' := [(0, .ref (Z.2.2.1 + 0)), (1, .int a1), (2, .int a2), (3, .int a3), (4, .int a4), (5, .int s0), (6, .int a6), (7, .int a7), (8, .int a8)]) E dX11_hard_91 (Nat.le_of_ble_eq_true rfl) rfl ?_
  refine J_iload E dX11_hard_93 rfl ?_
  refine J_iload E dX11_hard_95 rfl ?_
  refine J_mmax E dX11_hard_97 w5_123 w4_131 w1_13 w4_132 (Nat.le_of_ble_eq_true rfl) (Nat.le_of_ble_eq_true rfl) (Nat.le_refl 0) (Nat.le_refl 0) ?_
  refine J_istore (lv' := [(0, .ref (Z.2.2.1 + 0)), (1, .int a1), (2, .int a2), (3, .int a3), (4, .int a4), (5, .int s0), (6, .int (if a6 < a8 then a8 else a6)), (7, .int a7), (8, .int a8)]) E dX11_hard_100 (Nat.le_of_ble_eq_true rfl) rfl ?_
  refine J_iload E dX11_hard_102 rfl ?_
  refine J_iload E dX11_hard_104 rfl ?_
  refine J_iadd E dX11_hard_106 ?_
  refine J_istore (lv' := [(0, .ref (Z.2.2.1 + 0)), (1, .int a1), (2, .int a2), (3, .int a3), (4, .int (a4 + a8)), (5, .int s0), (6, .int (if a6 < a8 then a8 else a6)), (7, .int a7), (8, .int a8)]) E dX11_hard_107 (Nat.le_of_ble_eq_true rfl) rfl ?_
  refine J_iinc (v := a3 + nI 1) (lv' := [(0, .ref (Z.2.2.1 + 0)), (1, .int a1), (2, .int a2), (3, .int (a3 + nI 1)), (4, .int (a4 + a8)), (5, .int s0), (6, .int (if a6 < a8 then a8 else a6)), (7, .int a7), (8, .int a8)]) E dX11_hard_109 rfl rfl (Nat.le_of_ble_eq_true rfl) rfl ?_
  refine J.weak [0, 1, 2, 3, 4, 5, 6, 7] rfl ?_
  exact k
theorem bX11_hard_112 {Z : ZT} {X : XT} {μ : Mu} {a1 : Int32} {a2 : Int32} {a3 : Int32} {a4 : Int32} {a5 : Int32} {a6 : Int32} {a7 : Int32} (E : Ent Z X mX11_hard 0 0)  
    (k : JS Z X 37 [(0, .ref (Z.2.2.1 + 0)), (1, .int a1), (2, .int a2), (3, .int a3), (4, .int a4), (5, .int a5), (6, .int a6), (7, .int (a7 + nI 1))] [] μ) :
    JS Z X 112 [(0, .ref (Z.2.2.1 + 0)), (1, .int a1), (2, .int a2), (3, .int a3), (4, .int a4), (5, .int a5), (6, .int a6), (7, .int a7)] [] μ := by
  refine J_iinc (v := a7 + nI 1) (lv' := [(0, .ref (Z.2.2.1 + 0)), (1, .int a1), (2, .int a2), (3, .int a3), (4, .int a4), (5, .int a5), (6, .int a6), (7, .int (a7 + nI 1))]) E dX11_hard_112 rfl rfl (Nat.le_of_ble_eq_true rfl) rfl ?_
  refine J_goto (tgt := 37) E dX11_hard_115 (by decide) ?_
  exact k
theorem bX11_hard_118 {Z : ZT} {X : XT} {μ : Mu} {a2 : Int32} {a3 : Int32} {a4 : Int32} {a5 : Int32} {a6 : Int32} (E : Ent Z X mX11_hard 0 0)  
    (kt : ¬ a3 = 0 → JS Z X 129 [(0, .ref (Z.2.2.1 + 0)), (2, .int a2), (3, .int a3), (4, .int a4), (5, .int a5), (6, .int a6)] [] μ) (kf : a3 = 0 → JS Z X 122 [(0, .ref (Z.2.2.1 + 0))] [] μ) :
    JS Z X 118 [(0, .ref (Z.2.2.1 + 0)), (2, .int a2), (3, .int a3), (4, .int a4), (5, .int a5), (6, .int a6)] [] μ := by
  refine J_iload_n E dX11_hard_118 rfl ?_
  refine J_if_ne (tgt := 129) E dX11_hard_119 (by decide) (fun c => ?_) (fun c => ?_)
  · exact kt c
  · refine J.weak [0] rfl ?_
    exact kf c
theorem bX11_hard_122 {Z : ZT} {X : XT} {μ : Mu} (E : Ent Z X mX11_hard 0 0) {p : Int32 → Mu → Prop} 
    (c : CtrS Z mX11_counted [.ref (Z.2.2.1 + 0), .int (-3)] μ (rI p)) (k : ∀ v μ1, p v μ1 → JS Z X 128 [] [.int v] μ1) :
    JS Z X 122 [(0, .ref (Z.2.2.1 + 0))] [] μ := by
  refine J_aload_n E dX11_hard_122 rfl ?_
  refine J_bipush (v := -3) E dX11_hard_123 rfl ?_
  refine S_callV (As := [.int (-3)]) (rest := []) E dX11_hard_125 c kX11_counted ⟨Nat.le_of_ble_eq_true rfl, Nat.le_of_ble_eq_true rfl⟩ rfl (Nat.le_of_ble_eq_true rfl) sh0 rfl rfl w3_25 w3_27 wp_1 (fun r_ μ1 hp_ => ?_)
  obtain ⟨v, rfl, hp_⟩ := hp_
  refine J.weak [] rfl ?_
  exact k v μ1 hp_
theorem bX11_hard_128 {Z : ZT} {X : XT} {μ : Mu} {s0 : Int32} (E : Ent Z X mX11_hard 0 0) {P : Option Value → Mu → Prop} (hB : BodS Z X P) 
    (k : P (some (.int s0)) μ) :
    JS Z X 128 [] [.int s0] μ := by
  exact S_iret E hB dX11_hard_128 rfl k
theorem bX11_hard_129 {Z : ZT} {X : XT} {μ : Mu} {a2 : Int32} {a3 : Int32} {a4 : Int32} {a5 : Int32} {a6 : Int32} (E : Ent Z X mX11_hard 0 0)  
    (kt : ¬ a2 = (nI 2) → JS Z X 146 [(2, .int a2), (5, .int a5), (6, .int a6)] [] μ) (kf : a2 = (nI 2) → JS Z X 134 [(0, .ref (Z.2.2.1 + 0)), (3, .int a3), (4, .int a4)] [] μ) :
    JS Z X 129 [(0, .ref (Z.2.2.1 + 0)), (2, .int a2), (3, .int a3), (4, .int a4), (5, .int a5), (6, .int a6)] [] μ := by
  refine J_iload_n E dX11_hard_129 rfl ?_
  refine J_iconst (v := nI 2) E dX11_hard_130 rfl ?_
  refine J_icmp_ne (tgt := 146) E dX11_hard_131 (by decide) (fun c => ?_) (fun c => ?_)
  · refine J.weak [1, 4, 5] rfl ?_
    exact kt c
  · refine J.weak [0, 2, 3] rfl ?_
    exact kf c
theorem bX11_hard_134 {Z : ZT} {X : XT} {μ : Mu} {a3 : Int32} {a4 : Int32} (E : Ent Z X mX11_hard 0 0) {p : Mu → Prop} 
    (c : CtrS Z mX2_setRatio [.ref (Z.2.2.1 + 446), .int a4, .int a3] μ (rV p)) (k : ∀ μ1, p μ1 → JS Z X 144 [] [] μ1) :
    JS Z X 134 [(0, .ref (Z.2.2.1 + 0)), (3, .int a3), (4, .int a4)] [] μ := by
  refine J_aload_n E dX11_hard_134 rfl ?_
  refine S_get (ci := 11) (q := 15) (v := .ref (Z.2.2.1 + 446)) E dX11_hard_135 fs_X11_107 sh0 rfl ?_
  refine J_iload E dX11_hard_138 rfl ?_
  refine J_iload_n E dX11_hard_140 rfl ?_
  refine S_callV (As := [.int a4, .int a3]) (rest := []) E dX11_hard_141 c kX2_setRatio ⟨Nat.le_of_ble_eq_true rfl, Nat.le_of_ble_eq_true rfl⟩ rfl (Nat.le_of_ble_eq_true rfl) sh446 rfl rfl w5_124 w5_125 w5_126 (fun r_ μ1 hp_ => ?_)
  obtain ⟨rfl, hp_⟩ := hp_
  refine J.weak [] rfl ?_
  exact k μ1 hp_
theorem bX11_hard_144 {Z : ZT} {X : XT} {μ : Mu} (E : Ent Z X mX11_hard 0 0) {P : Option Value → Mu → Prop} (hB : BodS Z X P) 
    (k : P (some (.int (nI 1))) μ) :
    JS Z X 144 [] [] μ := by
  refine J_iconst (v := nI 1) E dX11_hard_144 rfl ?_
  exact S_iret E hB dX11_hard_145 rfl k
theorem bX11_hard_146 {Z : ZT} {X : XT} {μ : Mu} {a2 : Int32} {a5 : Int32} {a6 : Int32} (E : Ent Z X mX11_hard 0 0)  
    (kt : ¬ a2 = 0 → JS Z X 155 [(6, .int a6)] [] μ) (kf : a2 = 0 → JS Z X 150 [(5, .int a5)] [] μ) :
    JS Z X 146 [(2, .int a2), (5, .int a5), (6, .int a6)] [] μ := by
  refine J_iload_n E dX11_hard_146 rfl ?_
  refine J_if_ne (tgt := 155) E dX11_hard_147 (by decide) (fun c => ?_) (fun c => ?_)
  · refine J.weak [2] rfl ?_
    exact kt c
  · refine J.weak [1] rfl ?_
    exact kf c
theorem bX11_hard_150 {Z : ZT} {X : XT} {μ : Mu} {a5 : Int32} (E : Ent Z X mX11_hard 0 0)  
    (k : JS Z X 157 [] [.int a5] μ) :
    JS Z X 150 [(5, .int a5)] [] μ := by
  refine J_iload E dX11_hard_150 rfl ?_
  refine J_goto (tgt := 157) E dX11_hard_152 (by decide) ?_
  refine J.weak [] rfl ?_
  exact k
theorem bX11_hard_155 {Z : ZT} {X : XT} {μ : Mu} {a6 : Int32} (E : Ent Z X mX11_hard 0 0)  
    (k : JS Z X 157 [] [.int a6] μ) :
    JS Z X 155 [(6, .int a6)] [] μ := by
  refine J_iload E dX11_hard_155 rfl ?_
  refine J.weak [] rfl ?_
  exact k
theorem bX11_hard_157 {Z : ZT} {X : XT} {μ : Mu} {s0 : Int32} (E : Ent Z X mX11_hard 0 0) {P : Option Value → Mu → Prop} (hB : BodS Z X P) 
    (k : P (some (.int s0)) μ) :
    JS Z X 157 [] [.int s0] μ := by
  exact S_iret E hB dX11_hard_157 rfl k
theorem dX11_sign_0 : decode cX11_sign 0 = .ok (.iload_n 1, 1) := by decide +kernel
theorem dX11_sign_1 : decode cX11_sign 1 = .ok (.iconst 3, 1) := by decide +kernel
theorem dX11_sign_2 : decode cX11_sign 2 = .ok (.invokestatic 198, 3) := by decide +kernel
theorem dX11_sign_5 : decode cX11_sign 5 = .ok (.ifCond .eq 14, 3) := by decide +kernel
theorem dX11_sign_8 : decode cX11_sign 8 = .ok (.aload_n 0, 1) := by decide +kernel
theorem dX11_sign_9 : decode cX11_sign 9 = .ok (.getfield 107, 3) := by decide +kernel
theorem dX11_sign_12 : decode cX11_sign 12 = .ok (.iload_n 1, 1) := by decide +kernel
theorem dX11_sign_13 : decode cX11_sign 13 = .ok (.invokevirtual 342, 3) := by decide +kernel
theorem dX11_sign_16 : decode cX11_sign 16 = .ok (.goto 9, 3) := by decide +kernel
theorem dX11_sign_19 : decode cX11_sign 19 = .ok (.aload_n 0, 1) := by decide +kernel
theorem dX11_sign_20 : decode cX11_sign 20 = .ok (.bipush (-2), 2) := by decide +kernel
theorem dX11_sign_22 : decode cX11_sign 22 = .ok (.invokevirtual 125, 3) := by decide +kernel
theorem dX11_sign_25 : decode cX11_sign 25 = .ok (.ireturn, 1) := by decide +kernel
theorem bX11_sign_0 {Z : ZT} {X : XT} {μ : Mu} {a1 : Int32} (E : Ent Z X mX11_sign 0 0) {p : Int32 → Mu → Prop} 
    (c : CtrS Z mX11_within [.int a1, .int (nI 3)] μ (rI p)) (k : ∀ v μ1, p v μ1 → JS Z X 5 [(0, .ref (Z.2.2.1 + 0)), (1, .int a1)] [.int v] μ1) :
    JS Z X 0 [(0, .ref (Z.2.2.1 + 0)), (1, .int a1)] [] μ := by
  refine J_iload_n E dX11_sign_0 rfl ?_
  refine J_iconst (v := nI 3) E dX11_sign_1 rfl ?_
  refine S_callS (As := [.int a1, .int (nI 3)]) (rest := []) E dX11_sign_2 c kX11_within ⟨Nat.le_of_ble_eq_true rfl, Nat.le_of_ble_eq_true rfl⟩ rfl (Nat.le_of_ble_eq_true rfl) w4_71 w3_46 (fun r_ μ1 hp_ => ?_)
  obtain ⟨v, rfl, hp_⟩ := hp_
  exact k v μ1 hp_
theorem bX11_sign_5 {Z : ZT} {X : XT} {μ : Mu} {a1 : Int32} {s0 : Int32} (E : Ent Z X mX11_sign 0 0)  
    (kt : s0 = 0 → JS Z X 19 [(0, .ref (Z.2.2.1 + 0))] [] μ) (kf : ¬ (s0 = 0) → JS Z X 8 [(0, .ref (Z.2.2.1 + 0)), (1, .int a1)] [] μ) :
    JS Z X 5 [(0, .ref (Z.2.2.1 + 0)), (1, .int a1)] [.int s0] μ := by
  refine J_if_eq (tgt := 19) E dX11_sign_5 (by decide) (fun c => ?_) (fun c => ?_)
  · refine J.weak [0] rfl ?_
    exact kt c
  · exact kf c
theorem bX11_sign_8 {Z : ZT} {X : XT} {μ : Mu} {a1 : Int32} (E : Ent Z X mX11_sign 0 0) {p : Int32 → Mu → Prop} 
    (c : CtrS Z mX2_signOrSize [.ref (Z.2.2.1 + 446), .int a1] μ (rI p)) (k : ∀ v μ1, p v μ1 → JS Z X 16 [] [.int v] μ1) :
    JS Z X 8 [(0, .ref (Z.2.2.1 + 0)), (1, .int a1)] [] μ := by
  refine J_aload_n E dX11_sign_8 rfl ?_
  refine S_get (ci := 11) (q := 15) (v := .ref (Z.2.2.1 + 446)) E dX11_sign_9 fs_X11_107 sh0 rfl ?_
  refine J_iload_n E dX11_sign_12 rfl ?_
  refine S_callV (As := [.int a1]) (rest := []) E dX11_sign_13 c kX2_signOrSize ⟨Nat.le_of_ble_eq_true rfl, Nat.le_of_ble_eq_true rfl⟩ rfl (Nat.le_of_ble_eq_true rfl) sh446 rfl rfl w5_132 w5_133 w5_134 (fun r_ μ1 hp_ => ?_)
  obtain ⟨v, rfl, hp_⟩ := hp_
  refine J.weak [] rfl ?_
  exact k v μ1 hp_
theorem bX11_sign_16 {Z : ZT} {X : XT} {μ : Mu} {s0 : Int32} (E : Ent Z X mX11_sign 0 0)  
    (k : JS Z X 25 [] [.int s0] μ) :
    JS Z X 16 [] [.int s0] μ := by
  refine J_goto (tgt := 25) E dX11_sign_16 (by decide) ?_
  exact k
theorem bX11_sign_19 {Z : ZT} {X : XT} {μ : Mu} (E : Ent Z X mX11_sign 0 0) {p : Int32 → Mu → Prop} 
    (c : CtrS Z mX11_counted [.ref (Z.2.2.1 + 0), .int (-2)] μ (rI p)) (k : ∀ v μ1, p v μ1 → JS Z X 25 [] [.int v] μ1) :
    JS Z X 19 [(0, .ref (Z.2.2.1 + 0))] [] μ := by
  refine J_aload_n E dX11_sign_19 rfl ?_
  refine J_bipush (v := -2) E dX11_sign_20 rfl ?_
  refine S_callV (As := [.int (-2)]) (rest := []) E dX11_sign_22 c kX11_counted ⟨Nat.le_of_ble_eq_true rfl, Nat.le_of_ble_eq_true rfl⟩ rfl (Nat.le_of_ble_eq_true rfl) sh0 rfl rfl w3_25 w3_27 wp_1 (fun r_ μ1 hp_ => ?_)
  obtain ⟨v, rfl, hp_⟩ := hp_
  refine J.weak [] rfl ?_
  exact k v μ1 hp_
theorem bX11_sign_25 {Z : ZT} {X : XT} {μ : Mu} {s0 : Int32} (E : Ent Z X mX11_sign 0 0) {P : Option Value → Mu → Prop} (hB : BodS Z X P) 
    (k : P (some (.int s0)) μ) :
    JS Z X 25 [] [.int s0] μ := by
  exact S_iret E hB dX11_sign_25 rfl k
theorem dX11_limb_0 : decode cX11_limb 0 = .ok (.iload_n 1, 1) := by decide +kernel
theorem dX11_limb_1 : decode cX11_limb 1 = .ok (.iconst 2, 1) := by decide +kernel
theorem dX11_limb_2 : decode cX11_limb 2 = .ok (.invokestatic 198, 3) := by decide +kernel
theorem dX11_limb_5 : decode cX11_limb 5 = .ok (.ifCond .eq 7, 3) := by decide +kernel
theorem dX11_limb_8 : decode cX11_limb 8 = .ok (.iload_n 2, 1) := by decide +kernel
theorem dX11_limb_9 : decode cX11_limb 9 = .ok (.ifCond .ge 10, 3) := by decide +kernel
theorem dX11_limb_12 : decode cX11_limb 12 = .ok (.aload_n 0, 1) := by decide +kernel
theorem dX11_limb_13 : decode cX11_limb 13 = .ok (.bipush (-2), 2) := by decide +kernel
theorem dX11_limb_15 : decode cX11_limb 15 = .ok (.invokevirtual 125, 3) := by decide +kernel
theorem dX11_limb_18 : decode cX11_limb 18 = .ok (.ireturn, 1) := by decide +kernel
theorem dX11_limb_19 : decode cX11_limb 19 = .ok (.iload_n 1, 1) := by decide +kernel
theorem dX11_limb_20 : decode cX11_limb 20 = .ok (.ifCond .ne 13, 3) := by decide +kernel
theorem dX11_limb_23 : decode cX11_limb 23 = .ok (.aload_n 0, 1) := by decide +kernel
theorem dX11_limb_24 : decode cX11_limb 24 = .ok (.getfield 107, 3) := by decide +kernel
theorem dX11_limb_27 : decode cX11_limb 27 = .ok (.getfield 345, 3) := by decide +kernel
theorem dX11_limb_30 : decode cX11_limb 30 = .ok (.goto 10, 3) := by decide +kernel
theorem dX11_limb_33 : decode cX11_limb 33 = .ok (.aload_n 0, 1) := by decide +kernel
theorem dX11_limb_34 : decode cX11_limb 34 = .ok (.getfield 107, 3) := by decide +kernel
theorem dX11_limb_37 : decode cX11_limb 37 = .ok (.getfield 348, 3) := by decide +kernel
theorem dX11_limb_40 : decode cX11_limb 40 = .ok (.astore_n 3, 1) := by decide +kernel
theorem dX11_limb_41 : decode cX11_limb 41 = .ok (.iload_n 2, 1) := by decide +kernel
theorem dX11_limb_42 : decode cX11_limb 42 = .ok (.aload_n 3, 1) := by decide +kernel
theorem dX11_limb_43 : decode cX11_limb 43 = .ok (.getfield 351, 3) := by decide +kernel
theorem dX11_limb_46 : decode cX11_limb 46 = .ok (.if_icmp .ge 12, 3) := by decide +kernel
theorem dX11_limb_49 : decode cX11_limb 49 = .ok (.aload_n 3, 1) := by decide +kernel
theorem dX11_limb_50 : decode cX11_limb 50 = .ok (.getfield 354, 3) := by decide +kernel
theorem dX11_limb_53 : decode cX11_limb 53 = .ok (.iload_n 2, 1) := by decide +kernel
theorem dX11_limb_54 : decode cX11_limb 54 = .ok (.iaload, 1) := by decide +kernel
theorem dX11_limb_55 : decode cX11_limb 55 = .ok (.goto 4, 3) := by decide +kernel
theorem dX11_limb_58 : decode cX11_limb 58 = .ok (.iconst (-1), 1) := by decide +kernel
theorem dX11_limb_59 : decode cX11_limb 59 = .ok (.ireturn, 1) := by decide +kernel
theorem bX11_limb_0 {Z : ZT} {X : XT} {μ : Mu} {a1 : Int32} {a2 : Int32} (E : Ent Z X mX11_limb 0 0) {p : Int32 → Mu → Prop} 
    (c : CtrS Z mX11_within [.int a1, .int (nI 2)] μ (rI p)) (k : ∀ v μ1, p v μ1 → JS Z X 5 [(0, .ref (Z.2.2.1 + 0)), (1, .int a1), (2, .int a2)] [.int v] μ1) :
    JS Z X 0 [(0, .ref (Z.2.2.1 + 0)), (1, .int a1), (2, .int a2)] [] μ := by
  refine J_iload_n E dX11_limb_0 rfl ?_
  refine J_iconst (v := nI 2) E dX11_limb_1 rfl ?_
  refine S_callS (As := [.int a1, .int (nI 2)]) (rest := []) E dX11_limb_2 c kX11_within ⟨Nat.le_of_ble_eq_true rfl, Nat.le_of_ble_eq_true rfl⟩ rfl (Nat.le_of_ble_eq_true rfl) w4_71 w3_46 (fun r_ μ1 hp_ => ?_)
  obtain ⟨v, rfl, hp_⟩ := hp_
  exact k v μ1 hp_
theorem bX11_limb_5 {Z : ZT} {X : XT} {μ : Mu} {a1 : Int32} {a2 : Int32} {s0 : Int32} (E : Ent Z X mX11_limb 0 0)  
    (kt : s0 = 0 → JS Z X 12 [(0, .ref (Z.2.2.1 + 0))] [] μ) (kf : ¬ (s0 = 0) → JS Z X 8 [(0, .ref (Z.2.2.1 + 0)), (1, .int a1), (2, .int a2)] [] μ) :
    JS Z X 5 [(0, .ref (Z.2.2.1 + 0)), (1, .int a1), (2, .int a2)] [.int s0] μ := by
  refine J_if_eq (tgt := 12) E dX11_limb_5 (by decide) (fun c => ?_) (fun c => ?_)
  · refine J.weak [0] rfl ?_
    exact kt c
  · exact kf c
theorem bX11_limb_8 {Z : ZT} {X : XT} {μ : Mu} {a1 : Int32} {a2 : Int32} (E : Ent Z X mX11_limb 0 0)  
    (kt : 0 ≤ a2 → JS Z X 19 [(0, .ref (Z.2.2.1 + 0)), (1, .int a1), (2, .int a2)] [] μ) (kf : ¬ (0 ≤ a2) → JS Z X 12 [(0, .ref (Z.2.2.1 + 0))] [] μ) :
    JS Z X 8 [(0, .ref (Z.2.2.1 + 0)), (1, .int a1), (2, .int a2)] [] μ := by
  refine J_iload_n E dX11_limb_8 rfl ?_
  refine J_if_ge (tgt := 19) E dX11_limb_9 (by decide) (fun c => ?_) (fun c => ?_)
  · exact kt c
  · refine J.weak [0] rfl ?_
    exact kf c
theorem bX11_limb_12 {Z : ZT} {X : XT} {μ : Mu} (E : Ent Z X mX11_limb 0 0) {p : Int32 → Mu → Prop} 
    (c : CtrS Z mX11_counted [.ref (Z.2.2.1 + 0), .int (-2)] μ (rI p)) (k : ∀ v μ1, p v μ1 → JS Z X 18 [] [.int v] μ1) :
    JS Z X 12 [(0, .ref (Z.2.2.1 + 0))] [] μ := by
  refine J_aload_n E dX11_limb_12 rfl ?_
  refine J_bipush (v := -2) E dX11_limb_13 rfl ?_
  refine S_callV (As := [.int (-2)]) (rest := []) E dX11_limb_15 c kX11_counted ⟨Nat.le_of_ble_eq_true rfl, Nat.le_of_ble_eq_true rfl⟩ rfl (Nat.le_of_ble_eq_true rfl) sh0 rfl rfl w3_25 w3_27 wp_1 (fun r_ μ1 hp_ => ?_)
  obtain ⟨v, rfl, hp_⟩ := hp_
  refine J.weak [] rfl ?_
  exact k v μ1 hp_
theorem bX11_limb_18 {Z : ZT} {X : XT} {μ : Mu} {s0 : Int32} (E : Ent Z X mX11_limb 0 0) {P : Option Value → Mu → Prop} (hB : BodS Z X P) 
    (k : P (some (.int s0)) μ) :
    JS Z X 18 [] [.int s0] μ := by
  exact S_iret E hB dX11_limb_18 rfl k
theorem bX11_limb_19 {Z : ZT} {X : XT} {μ : Mu} {a1 : Int32} {a2 : Int32} (E : Ent Z X mX11_limb 0 0)  
    (kt : ¬ a1 = 0 → JS Z X 33 [(0, .ref (Z.2.2.1 + 0)), (2, .int a2)] [] μ) (kf : a1 = 0 → JS Z X 23 [(0, .ref (Z.2.2.1 + 0)), (2, .int a2)] [] μ) :
    JS Z X 19 [(0, .ref (Z.2.2.1 + 0)), (1, .int a1), (2, .int a2)] [] μ := by
  refine J_iload_n E dX11_limb_19 rfl ?_
  refine J_if_ne (tgt := 33) E dX11_limb_20 (by decide) (fun c => ?_) (fun c => ?_)
  · refine J.weak [0, 2] rfl ?_
    exact kt c
  · refine J.weak [0, 2] rfl ?_
    exact kf c
theorem bX11_limb_23 {Z : ZT} {X : XT} {μ : Mu} {a2 : Int32} (E : Ent Z X mX11_limb 0 0)  
    (k : JS Z X 40 [(2, .int a2)] [.ref (Z.2.2.1 + 447)] μ) :
    JS Z X 23 [(0, .ref (Z.2.2.1 + 0)), (2, .int a2)] [] μ := by
  refine J_aload_n E dX11_limb_23 rfl ?_
  refine S_get (ci := 11) (q := 15) (v := .ref (Z.2.2.1 + 446)) E dX11_limb_24 fs_X11_107 sh0 rfl ?_
  refine S_get (ci := 2) (q := 0) (v := .ref (Z.2.2.1 + 447)) E dX11_limb_27 fs_X11_345 sh446 rfl ?_
  refine J_goto (tgt := 40) E dX11_limb_30 (by decide) ?_
  refine J.weak [1] rfl ?_
  exact k
theorem bX11_limb_33 {Z : ZT} {X : XT} {μ : Mu} {a2 : Int32} (E : Ent Z X mX11_limb 0 0)  
    (k : JS Z X 40 [(2, .int a2)] [.ref (Z.2.2.1 + 449)] μ) :
    JS Z X 33 [(0, .ref (Z.2.2.1 + 0)), (2, .int a2)] [] μ := by
  refine J_aload_n E dX11_limb_33 rfl ?_
  refine S_get (ci := 11) (q := 15) (v := .ref (Z.2.2.1 + 446)) E dX11_limb_34 fs_X11_107 sh0 rfl ?_
  refine S_get (ci := 2) (q := 1) (v := .ref (Z.2.2.1 + 449)) E dX11_limb_37 fs_X11_348 sh446 rfl ?_
  refine J.weak [1] rfl ?_
  exact k
theorem bX11_limb_40 {Z : ZT} {X : XT} {μ : Mu} {a2 : Int32} {s0 : Nat} (E : Ent Z X mX11_limb 0 0) (hs0 : SH s0 = .inl 0) 
    (kt : (μ s0 1) ≤ a2 → JS Z X 58 [] [] μ) (kf : ¬ ((μ s0 1) ≤ a2) → JS Z X 49 [(2, .int a2), (3, .ref (Z.2.2.1 + s0))] [] μ) :
    JS Z X 40 [(2, .int a2)] [.ref (Z.2.2.1 + s0)] μ := by
  refine J_astore_n (lv' := [(2, .int a2), (3, .ref (Z.2.2.1 + s0))]) E dX11_limb_40 (Nat.le_of_ble_eq_true rfl) rfl ?_
  refine J_iload_n E dX11_limb_41 rfl ?_
  refine J_aload_n E dX11_limb_42 rfl ?_
  refine S_get (ci := 0) (q := 1) (v := .int (μ s0 1)) E dX11_limb_43 fs_X11_351 hs0 rfl ?_
  refine J_icmp_ge (tgt := 58) E dX11_limb_46 (by decide) (fun c => ?_) (fun c => ?_)
  · refine J.weak [] rfl ?_
    exact kt c
  · exact kf c
theorem bX11_limb_49 {Z : ZT} {X : XT} {μ : Mu} {a2 : Int32} {a3 : Nat} (E : Ent Z X mX11_limb 0 0) (ha3 : SH a3 = .inl 0) (s1_ : vp_in a2 24)
    (k : JS Z X 59 [] [.int (μ (a3 + 1) (ix a2))] μ) :
    JS Z X 49 [(2, .int a2), (3, .ref (Z.2.2.1 + a3))] [] μ := by
  refine J_aload_n E dX11_limb_49 rfl ?_
  refine S_get (ci := 0) (q := 0) (v := .ref (Z.2.2.1 + (a3 + 1))) E dX11_limb_50 fs_X11_354 ha3 rfl ?_
  refine J_iload_n E dX11_limb_53 rfl ?_
  refine S_iald E dX11_limb_54 (shr_X0_0 ha3) s1_ ?_
  refine J_goto (tgt := 59) E dX11_limb_55 (by decide) ?_
  refine J.weak [] rfl ?_
  exact k
theorem bX11_limb_58 {Z : ZT} {X : XT} {μ : Mu} (E : Ent Z X mX11_limb 0 0)  
    (k : JS Z X 59 [] [.int (-1)] μ) :
    JS Z X 58 [] [] μ := by
  refine J_iconst (v := -1) E dX11_limb_58 rfl ?_
  exact k
theorem bX11_limb_59 {Z : ZT} {X : XT} {μ : Mu} {s0 : Int32} (E : Ent Z X mX11_limb 0 0) {P : Option Value → Mu → Prop} (hB : BodS Z X P) 
    (k : P (some (.int s0)) μ) :
    JS Z X 59 [] [.int s0] μ := by
  exact S_iret E hB dX11_limb_59 rfl k
theorem dX11_image_0 : decode cX11_image 0 = .ok (.iload_n 1, 1) := by decide +kernel
theorem dX11_image_1 : decode cX11_image 1 = .ok (.iconst 2, 1) := by decide +kernel
theorem dX11_image_2 : decode cX11_image 2 = .ok (.invokestatic 198, 3) := by decide +kernel
theorem dX11_image_5 : decode cX11_image 5 = .ok (.ifCond .ne 10, 3) := by decide +kernel
theorem dX11_image_8 : decode cX11_image 8 = .ok (.aload_n 0, 1) := by decide +kernel
theorem dX11_image_9 : decode cX11_image 9 = .ok (.bipush (-2), 2) := by decide +kernel
theorem dX11_image_11 : decode cX11_image 11 = .ok (.invokevirtual 125, 3) := by decide +kernel
theorem dX11_image_14 : decode cX11_image 14 = .ok (.ireturn, 1) := by decide +kernel
theorem dX11_image_15 : decode cX11_image 15 = .ok (.aload_n 0, 1) := by decide +kernel
theorem dX11_image_16 : decode cX11_image 16 = .ok (.getfield 33, 3) := by decide +kernel
theorem dX11_image_19 : decode cX11_image 19 = .ok (.iload_n 1, 1) := by decide +kernel
theorem dX11_image_20 : decode cX11_image 20 = .ok (.aaload, 1) := by decide +kernel
theorem dX11_image_21 : decode cX11_image 21 = .ok (.aload_n 0, 1) := by decide +kernel
theorem dX11_image_22 : decode cX11_image 22 = .ok (.getfield 10, 3) := by decide +kernel
theorem dX11_image_25 : decode cX11_image 25 = .ok (.invokevirtual 185, 3) := by decide +kernel
theorem dX11_image_28 : decode cX11_image 28 = .ok (.aload_n 0, 1) := by decide +kernel
theorem dX11_image_29 : decode cX11_image 29 = .ok (.getfield 37, 3) := by decide +kernel
theorem dX11_image_32 : decode cX11_image 32 = .ok (.iload_n 1, 1) := by decide +kernel
theorem dX11_image_33 : decode cX11_image 33 = .ok (.aaload, 1) := by decide +kernel
theorem dX11_image_34 : decode cX11_image 34 = .ok (.aload_n 0, 1) := by decide +kernel
theorem dX11_image_35 : decode cX11_image 35 = .ok (.getfield 22, 3) := by decide +kernel
theorem dX11_image_38 : decode cX11_image 38 = .ok (.invokevirtual 357, 3) := by decide +kernel
theorem dX11_image_41 : decode cX11_image 41 = .ok (.aload_n 0, 1) := by decide +kernel
theorem dX11_image_42 : decode cX11_image 42 = .ok (.getfield 41, 3) := by decide +kernel
theorem dX11_image_45 : decode cX11_image 45 = .ok (.iload_n 1, 1) := by decide +kernel
theorem dX11_image_46 : decode cX11_image 46 = .ok (.iconst 1, 1) := by decide +kernel
theorem dX11_image_47 : decode cX11_image 47 = .ok (.bastore, 1) := by decide +kernel
theorem dX11_image_48 : decode cX11_image 48 = .ok (.iconst 1, 1) := by decide +kernel
theorem dX11_image_49 : decode cX11_image 49 = .ok (.ireturn, 1) := by decide +kernel
theorem bX11_image_0 {Z : ZT} {X : XT} {μ : Mu} {a1 : Int32} (E : Ent Z X mX11_image 0 0) {p : Int32 → Mu → Prop} 
    (c : CtrS Z mX11_within [.int a1, .int (nI 2)] μ (rI p)) (k : ∀ v μ1, p v μ1 → JS Z X 5 [(0, .ref (Z.2.2.1 + 0)), (1, .int a1)] [.int v] μ1) :
    JS Z X 0 [(0, .ref (Z.2.2.1 + 0)), (1, .int a1)] [] μ := by
  refine J_iload_n E dX11_image_0 rfl ?_
  refine J_iconst (v := nI 2) E dX11_image_1 rfl ?_
  refine S_callS (As := [.int a1, .int (nI 2)]) (rest := []) E dX11_image_2 c kX11_within ⟨Nat.le_of_ble_eq_true rfl, Nat.le_of_ble_eq_true rfl⟩ rfl (Nat.le_of_ble_eq_true rfl) w4_71 w3_46 (fun r_ μ1 hp_ => ?_)
  obtain ⟨v, rfl, hp_⟩ := hp_
  exact k v μ1 hp_
theorem bX11_image_5 {Z : ZT} {X : XT} {μ : Mu} {a1 : Int32} {s0 : Int32} (E : Ent Z X mX11_image 0 0)  
    (kt : ¬ s0 = 0 → JS Z X 15 [(0, .ref (Z.2.2.1 + 0)), (1, .int a1)] [] μ) (kf : s0 = 0 → JS Z X 8 [(0, .ref (Z.2.2.1 + 0))] [] μ) :
    JS Z X 5 [(0, .ref (Z.2.2.1 + 0)), (1, .int a1)] [.int s0] μ := by
  refine J_if_ne (tgt := 15) E dX11_image_5 (by decide) (fun c => ?_) (fun c => ?_)
  · exact kt c
  · refine J.weak [0] rfl ?_
    exact kf c
theorem bX11_image_8 {Z : ZT} {X : XT} {μ : Mu} (E : Ent Z X mX11_image 0 0) {p : Int32 → Mu → Prop} 
    (c : CtrS Z mX11_counted [.ref (Z.2.2.1 + 0), .int (-2)] μ (rI p)) (k : ∀ v μ1, p v μ1 → JS Z X 14 [] [.int v] μ1) :
    JS Z X 8 [(0, .ref (Z.2.2.1 + 0))] [] μ := by
  refine J_aload_n E dX11_image_8 rfl ?_
  refine J_bipush (v := -2) E dX11_image_9 rfl ?_
  refine S_callV (As := [.int (-2)]) (rest := []) E dX11_image_11 c kX11_counted ⟨Nat.le_of_ble_eq_true rfl, Nat.le_of_ble_eq_true rfl⟩ rfl (Nat.le_of_ble_eq_true rfl) sh0 rfl rfl w3_25 w3_27 wp_1 (fun r_ μ1 hp_ => ?_)
  obtain ⟨v, rfl, hp_⟩ := hp_
  refine J.weak [] rfl ?_
  exact k v μ1 hp_
theorem bX11_image_14 {Z : ZT} {X : XT} {μ : Mu} {s0 : Int32} (E : Ent Z X mX11_image 0 0) {P : Option Value → Mu → Prop} (hB : BodS Z X P) 
    (k : P (some (.int s0)) μ) :
    JS Z X 14 [] [.int s0] μ := by
  exact S_iret E hB dX11_image_14 rfl k
theorem bX11_image_15 {Z : ZT} {X : XT} {μ : Mu} {a1 : Int32} (E : Ent Z X mX11_image 0 0) {p : Mu → Prop} (s1_ : vp_in a1 2)
    (c : CtrS Z mX3_copy [.ref (Z.2.2.1 + (el 35 (ix a1))), .ref (Z.2.2.1 + 1)] μ (rV p)) (k : ∀ μ1, p μ1 → JS Z X 28 [(0, .ref (Z.2.2.1 + 0)), (1, .int a1)] [] μ1) :
    JS Z X 15 [(0, .ref (Z.2.2.1 + 0)), (1, .int a1)] [] μ := by
  refine J_aload_n E dX11_image_15 rfl ?_
  refine S_get (ci := 11) (q := 4) (v := .ref (Z.2.2.1 + 35)) E dX11_image_16 fs_X11_33 sh0 rfl ?_
  refine J_iload_n E dX11_image_19 rfl ?_
  refine S_aald (t := 1) E dX11_image_20 sh35 rfl s1_ (by decide) ?_
  refine J_aload_n E dX11_image_21 rfl ?_
  refine S_get (ci := 11) (q := 0) (v := .ref (Z.2.2.1 + 1)) E dX11_image_22 fs_X11_10 sh0 rfl ?_
  refine S_callV (As := [.ref (Z.2.2.1 + 1)]) (rest := []) E dX11_image_25 c kX3_copy ⟨Nat.le_of_ble_eq_true rfl, Nat.le_of_ble_eq_true rfl⟩ rfl (Nat.le_of_ble_eq_true rfl) (she35 (vpl s1_)) rfl rfl w4_27 w4_28 w4_29 (fun r_ μ1 hp_ => ?_)
  obtain ⟨rfl, hp_⟩ := hp_
  exact k μ1 hp_
theorem bX11_image_28 {Z : ZT} {X : XT} {μ : Mu} {a1 : Int32} (E : Ent Z X mX11_image 0 0) {p : Mu → Prop} (s1_ : vp_in a1 2)
    (c : CtrS Z mX6_copy [.ref (Z.2.2.1 + (el 36 (ix a1))), .ref (Z.2.2.1 + 27)] μ (rV p)) (k : ∀ μ1, p μ1 → JS Z X 41 [(0, .ref (Z.2.2.1 + 0)), (1, .int a1)] [] μ1) :
    JS Z X 28 [(0, .ref (Z.2.2.1 + 0)), (1, .int a1)] [] μ := by
  refine J_aload_n E dX11_image_28 rfl ?_
  refine S_get (ci := 11) (q := 5) (v := .ref (Z.2.2.1 + 36)) E dX11_image_29 fs_X11_37 sh0 rfl ?_
  refine J_iload_n E dX11_image_32 rfl ?_
  refine S_aald (t := 2) E dX11_image_33 sh36 rfl s1_ (by decide) ?_
  refine J_aload_n E dX11_image_34 rfl ?_
  refine S_get (ci := 11) (q := 2) (v := .ref (Z.2.2.1 + 27)) E dX11_image_35 fs_X11_22 sh0 rfl ?_
  refine S_callV (As := [.ref (Z.2.2.1 + 27)]) (rest := []) E dX11_image_38 c kX6_copy ⟨Nat.le_of_ble_eq_true rfl, Nat.le_of_ble_eq_true rfl⟩ rfl (Nat.le_of_ble_eq_true rfl) (she36 (vpl s1_)) rfl rfl w5_144 w5_145 w5_146 (fun r_ μ1 hp_ => ?_)
  obtain ⟨rfl, hp_⟩ := hp_
  exact k μ1 hp_
theorem bX11_image_41 {Z : ZT} {X : XT} {μ : Mu} {a1 : Int32} (E : Ent Z X mX11_image 0 0)  (s1_ : vp_in a1 2)
    (k : JS Z X 48 [] [] (uR μ 71 (upd (μ 71) (ix a1) (vp_nar .boolean (nI 1))))) :
    JS Z X 41 [(0, .ref (Z.2.2.1 + 0)), (1, .int a1)] [] μ := by
  refine J_aload_n E dX11_image_41 rfl ?_
  refine S_get (ci := 11) (q := 6) (v := .ref (Z.2.2.1 + 71)) E dX11_image_42 fs_X11_41 sh0 rfl ?_
  refine J_iload_n E dX11_image_45 rfl ?_
  refine J_iconst (v := nI 1) E dX11_image_46 rfl ?_
  refine S_zast E dX11_image_47 sh71 s1_ ?_
  refine J.weak [] rfl ?_
  exact k
theorem bX11_image_48 {Z : ZT} {X : XT} {μ : Mu} (E : Ent Z X mX11_image 0 0) {P : Option Value → Mu → Prop} (hB : BodS Z X P) 
    (k : P (some (.int (nI 1))) μ) :
    JS Z X 48 [] [] μ := by
  refine J_iconst (v := nI 1) E dX11_image_48 rfl ?_
  exact S_iret E hB dX11_image_49 rfl k
theorem dX11_from_0 : decode cX11_from 0 = .ok (.iload_n 1, 1) := by decide +kernel
theorem dX11_from_1 : decode cX11_from 1 = .ok (.iconst 2, 1) := by decide +kernel
theorem dX11_from_2 : decode cX11_from 2 = .ok (.invokestatic 198, 3) := by decide +kernel
theorem dX11_from_5 : decode cX11_from 5 = .ok (.ifCond .ne 10, 3) := by decide +kernel
theorem dX11_from_8 : decode cX11_from 8 = .ok (.aload_n 0, 1) := by decide +kernel
theorem dX11_from_9 : decode cX11_from 9 = .ok (.bipush (-2), 2) := by decide +kernel
theorem dX11_from_11 : decode cX11_from 11 = .ok (.invokevirtual 125, 3) := by decide +kernel
theorem dX11_from_14 : decode cX11_from 14 = .ok (.ireturn, 1) := by decide +kernel
theorem dX11_from_15 : decode cX11_from 15 = .ok (.aload_n 0, 1) := by decide +kernel
theorem dX11_from_16 : decode cX11_from 16 = .ok (.getfield 41, 3) := by decide +kernel
theorem dX11_from_19 : decode cX11_from 19 = .ok (.iload_n 1, 1) := by decide +kernel
theorem dX11_from_20 : decode cX11_from 20 = .ok (.baload, 1) := by decide +kernel
theorem dX11_from_21 : decode cX11_from 21 = .ok (.ifCond .ne 10, 3) := by decide +kernel
theorem dX11_from_24 : decode cX11_from 24 = .ok (.aload_n 0, 1) := by decide +kernel
theorem dX11_from_25 : decode cX11_from 25 = .ok (.bipush (-3), 2) := by decide +kernel
theorem dX11_from_27 : decode cX11_from 27 = .ok (.invokevirtual 125, 3) := by decide +kernel
theorem dX11_from_30 : decode cX11_from 30 = .ok (.ireturn, 1) := by decide +kernel
theorem dX11_from_31 : decode cX11_from 31 = .ok (.aload_n 0, 1) := by decide +kernel
theorem dX11_from_32 : decode cX11_from 32 = .ok (.getfield 10, 3) := by decide +kernel
theorem dX11_from_35 : decode cX11_from 35 = .ok (.aload_n 0, 1) := by decide +kernel
theorem dX11_from_36 : decode cX11_from 36 = .ok (.getfield 33, 3) := by decide +kernel
theorem dX11_from_39 : decode cX11_from 39 = .ok (.iload_n 1, 1) := by decide +kernel
theorem dX11_from_40 : decode cX11_from 40 = .ok (.aaload, 1) := by decide +kernel
theorem dX11_from_41 : decode cX11_from 41 = .ok (.invokevirtual 185, 3) := by decide +kernel
theorem dX11_from_44 : decode cX11_from 44 = .ok (.aload_n 0, 1) := by decide +kernel
theorem dX11_from_45 : decode cX11_from 45 = .ok (.getfield 22, 3) := by decide +kernel
theorem dX11_from_48 : decode cX11_from 48 = .ok (.aload_n 0, 1) := by decide +kernel
theorem dX11_from_49 : decode cX11_from 49 = .ok (.getfield 37, 3) := by decide +kernel
theorem dX11_from_52 : decode cX11_from 52 = .ok (.iload_n 1, 1) := by decide +kernel
theorem dX11_from_53 : decode cX11_from 53 = .ok (.aaload, 1) := by decide +kernel
theorem dX11_from_54 : decode cX11_from 54 = .ok (.invokevirtual 357, 3) := by decide +kernel
theorem dX11_from_57 : decode cX11_from 57 = .ok (.iconst 1, 1) := by decide +kernel
theorem dX11_from_58 : decode cX11_from 58 = .ok (.ireturn, 1) := by decide +kernel
theorem bX11_from_0 {Z : ZT} {X : XT} {μ : Mu} {a1 : Int32} (E : Ent Z X mX11_from 0 0) {p : Int32 → Mu → Prop} 
    (c : CtrS Z mX11_within [.int a1, .int (nI 2)] μ (rI p)) (k : ∀ v μ1, p v μ1 → JS Z X 5 [(0, .ref (Z.2.2.1 + 0)), (1, .int a1)] [.int v] μ1) :
    JS Z X 0 [(0, .ref (Z.2.2.1 + 0)), (1, .int a1)] [] μ := by
  refine J_iload_n E dX11_from_0 rfl ?_
  refine J_iconst (v := nI 2) E dX11_from_1 rfl ?_
  refine S_callS (As := [.int a1, .int (nI 2)]) (rest := []) E dX11_from_2 c kX11_within ⟨Nat.le_of_ble_eq_true rfl, Nat.le_of_ble_eq_true rfl⟩ rfl (Nat.le_of_ble_eq_true rfl) w4_71 w3_46 (fun r_ μ1 hp_ => ?_)
  obtain ⟨v, rfl, hp_⟩ := hp_
  exact k v μ1 hp_
theorem bX11_from_5 {Z : ZT} {X : XT} {μ : Mu} {a1 : Int32} {s0 : Int32} (E : Ent Z X mX11_from 0 0)  
    (kt : ¬ s0 = 0 → JS Z X 15 [(0, .ref (Z.2.2.1 + 0)), (1, .int a1)] [] μ) (kf : s0 = 0 → JS Z X 8 [(0, .ref (Z.2.2.1 + 0))] [] μ) :
    JS Z X 5 [(0, .ref (Z.2.2.1 + 0)), (1, .int a1)] [.int s0] μ := by
  refine J_if_ne (tgt := 15) E dX11_from_5 (by decide) (fun c => ?_) (fun c => ?_)
  · exact kt c
  · refine J.weak [0] rfl ?_
    exact kf c
theorem bX11_from_8 {Z : ZT} {X : XT} {μ : Mu} (E : Ent Z X mX11_from 0 0) {p : Int32 → Mu → Prop} 
    (c : CtrS Z mX11_counted [.ref (Z.2.2.1 + 0), .int (-2)] μ (rI p)) (k : ∀ v μ1, p v μ1 → JS Z X 14 [] [.int v] μ1) :
    JS Z X 8 [(0, .ref (Z.2.2.1 + 0))] [] μ := by
  refine J_aload_n E dX11_from_8 rfl ?_
  refine J_bipush (v := -2) E dX11_from_9 rfl ?_
  refine S_callV (As := [.int (-2)]) (rest := []) E dX11_from_11 c kX11_counted ⟨Nat.le_of_ble_eq_true rfl, Nat.le_of_ble_eq_true rfl⟩ rfl (Nat.le_of_ble_eq_true rfl) sh0 rfl rfl w3_25 w3_27 wp_1 (fun r_ μ1 hp_ => ?_)
  obtain ⟨v, rfl, hp_⟩ := hp_
  refine J.weak [] rfl ?_
  exact k v μ1 hp_
theorem bX11_from_14 {Z : ZT} {X : XT} {μ : Mu} {s0 : Int32} (E : Ent Z X mX11_from 0 0) {P : Option Value → Mu → Prop} (hB : BodS Z X P) 
    (k : P (some (.int s0)) μ) :
    JS Z X 14 [] [.int s0] μ := by
  exact S_iret E hB dX11_from_14 rfl k
theorem bX11_from_15 {Z : ZT} {X : XT} {μ : Mu} {a1 : Int32} (E : Ent Z X mX11_from 0 0)  (s1_ : vp_in a1 2)
    (kt : ¬ (μ 71 (ix a1)) = 0 → JS Z X 31 [(0, .ref (Z.2.2.1 + 0)), (1, .int a1)] [] μ) (kf : (μ 71 (ix a1)) = 0 → JS Z X 24 [(0, .ref (Z.2.2.1 + 0))] [] μ) :
    JS Z X 15 [(0, .ref (Z.2.2.1 + 0)), (1, .int a1)] [] μ := by
  refine J_aload_n E dX11_from_15 rfl ?_
  refine S_get (ci := 11) (q := 6) (v := .ref (Z.2.2.1 + 71)) E dX11_from_16 fs_X11_41 sh0 rfl ?_
  refine J_iload_n E dX11_from_19 rfl ?_
  refine S_zald E dX11_from_20 sh71 s1_ ?_
  refine J_if_ne (tgt := 31) E dX11_from_21 (by decide) (fun c => ?_) (fun c => ?_)
  · exact kt c
  · refine J.weak [0] rfl ?_
    exact kf c
theorem bX11_from_24 {Z : ZT} {X : XT} {μ : Mu} (E : Ent Z X mX11_from 0 0) {p : Int32 → Mu → Prop} 
    (c : CtrS Z mX11_counted [.ref (Z.2.2.1 + 0), .int (-3)] μ (rI p)) (k : ∀ v μ1, p v μ1 → JS Z X 30 [] [.int v] μ1) :
    JS Z X 24 [(0, .ref (Z.2.2.1 + 0))] [] μ := by
  refine J_aload_n E dX11_from_24 rfl ?_
  refine J_bipush (v := -3) E dX11_from_25 rfl ?_
  refine S_callV (As := [.int (-3)]) (rest := []) E dX11_from_27 c kX11_counted ⟨Nat.le_of_ble_eq_true rfl, Nat.le_of_ble_eq_true rfl⟩ rfl (Nat.le_of_ble_eq_true rfl) sh0 rfl rfl w3_25 w3_27 wp_1 (fun r_ μ1 hp_ => ?_)
  obtain ⟨v, rfl, hp_⟩ := hp_
  refine J.weak [] rfl ?_
  exact k v μ1 hp_
theorem bX11_from_30 {Z : ZT} {X : XT} {μ : Mu} {s0 : Int32} (E : Ent Z X mX11_from 0 0) {P : Option Value → Mu → Prop} (hB : BodS Z X P) 
    (k : P (some (.int s0)) μ) :
    JS Z X 30 [] [.int s0] μ := by
  exact S_iret E hB dX11_from_30 rfl k
theorem bX11_from_31 {Z : ZT} {X : XT} {μ : Mu} {a1 : Int32} (E : Ent Z X mX11_from 0 0) {p : Mu → Prop} (s1_ : vp_in a1 2)
    (c : CtrS Z mX3_copy [.ref (Z.2.2.1 + 1), .ref (Z.2.2.1 + (el 35 (ix a1)))] μ (rV p)) (k : ∀ μ1, p μ1 → JS Z X 44 [(0, .ref (Z.2.2.1 + 0)), (1, .int a1)] [] μ1) :
    JS Z X 31 [(0, .ref (Z.2.2.1 + 0)), (1, .int a1)] [] μ := by
  refine J_aload_n E dX11_from_31 rfl ?_
  refine S_get (ci := 11) (q := 0) (v := .ref (Z.2.2.1 + 1)) E dX11_from_32 fs_X11_10 sh0 rfl ?_
  refine J_aload_n E dX11_from_35 rfl ?_
  refine S_get (ci := 11) (q := 4) (v := .ref (Z.2.2.1 + 35)) E dX11_from_36 fs_X11_33 sh0 rfl ?_
  refine J_iload_n E dX11_from_39 rfl ?_
  refine S_aald (t := 1) E dX11_from_40 sh35 rfl s1_ (by decide) ?_
  refine S_callV (As := [.ref (Z.2.2.1 + (el 35 (ix a1)))]) (rest := []) E dX11_from_41 c kX3_copy ⟨Nat.le_of_ble_eq_true rfl, Nat.le_of_ble_eq_true rfl⟩ rfl (Nat.le_of_ble_eq_true rfl) sh1 rfl rfl w4_27 w4_28 w4_29 (fun r_ μ1 hp_ => ?_)
  obtain ⟨rfl, hp_⟩ := hp_
  exact k μ1 hp_
theorem bX11_from_44 {Z : ZT} {X : XT} {μ : Mu} {a1 : Int32} (E : Ent Z X mX11_from 0 0) {p : Mu → Prop} (s1_ : vp_in a1 2)
    (c : CtrS Z mX6_copy [.ref (Z.2.2.1 + 27), .ref (Z.2.2.1 + (el 36 (ix a1)))] μ (rV p)) (k : ∀ μ1, p μ1 → JS Z X 57 [] [] μ1) :
    JS Z X 44 [(0, .ref (Z.2.2.1 + 0)), (1, .int a1)] [] μ := by
  refine J_aload_n E dX11_from_44 rfl ?_
  refine S_get (ci := 11) (q := 2) (v := .ref (Z.2.2.1 + 27)) E dX11_from_45 fs_X11_22 sh0 rfl ?_
  refine J_aload_n E dX11_from_48 rfl ?_
  refine S_get (ci := 11) (q := 5) (v := .ref (Z.2.2.1 + 36)) E dX11_from_49 fs_X11_37 sh0 rfl ?_
  refine J_iload_n E dX11_from_52 rfl ?_
  refine S_aald (t := 2) E dX11_from_53 sh36 rfl s1_ (by decide) ?_
  refine S_callV (As := [.ref (Z.2.2.1 + (el 36 (ix a1)))]) (rest := []) E dX11_from_54 c kX6_copy ⟨Nat.le_of_ble_eq_true rfl, Nat.le_of_ble_eq_true rfl⟩ rfl (Nat.le_of_ble_eq_true rfl) sh27 rfl rfl w5_144 w5_145 w5_146 (fun r_ μ1 hp_ => ?_)
  obtain ⟨rfl, hp_⟩ := hp_
  refine J.weak [] rfl ?_
  exact k μ1 hp_
theorem bX11_from_57 {Z : ZT} {X : XT} {μ : Mu} (E : Ent Z X mX11_from 0 0) {P : Option Value → Mu → Prop} (hB : BodS Z X P) 
    (k : P (some (.int (nI 1))) μ) :
    JS Z X 57 [] [] μ := by
  refine J_iconst (v := nI 1) E dX11_from_57 rfl ?_
  exact S_iret E hB dX11_from_58 rfl k
theorem dX11_status_0 : decode cX11_status 0 = .ok (.iload_n 1, 1) := by decide +kernel
theorem dX11_status_1 : decode cX11_status 1 = .ok (.iconst 3, 1) := by decide +kernel
theorem dX11_status_2 : decode cX11_status 2 = .ok (.invokestatic 198, 3) := by decide +kernel
theorem dX11_status_5 : decode cX11_status 5 = .ok (.ifCond .ne 12, 3) := by decide +kernel
theorem dX11_status_8 : decode cX11_status 8 = .ok (.aload_n 0, 1) := by decide +kernel
theorem dX11_status_9 : decode cX11_status 9 = .ok (.bipush (-2), 2) := by decide +kernel
theorem dX11_status_11 : decode cX11_status 11 = .ok (.invokevirtual 125, 3) := by decide +kernel
theorem dX11_status_14 : decode cX11_status 14 = .ok (.pop, 1) := by decide +kernel
theorem dX11_status_15 : decode cX11_status 15 = .ok (.iconst (-1), 1) := by decide +kernel
theorem dX11_status_16 : decode cX11_status 16 = .ok (.ireturn, 1) := by decide +kernel
theorem dX11_status_17 : decode cX11_status 17 = .ok (.aload_n 0, 1) := by decide +kernel
theorem dX11_status_18 : decode cX11_status 18 = .ok (.getfield 45, 3) := by decide +kernel
theorem dX11_status_21 : decode cX11_status 21 = .ok (.iload_n 1, 1) := by decide +kernel
theorem dX11_status_22 : decode cX11_status 22 = .ok (.iaload, 1) := by decide +kernel
theorem dX11_status_23 : decode cX11_status 23 = .ok (.ireturn, 1) := by decide +kernel
theorem bX11_status_0 {Z : ZT} {X : XT} {μ : Mu} {a1 : Int32} (E : Ent Z X mX11_status 0 0) {p : Int32 → Mu → Prop} 
    (c : CtrS Z mX11_within [.int a1, .int (nI 3)] μ (rI p)) (k : ∀ v μ1, p v μ1 → JS Z X 5 [(0, .ref (Z.2.2.1 + 0)), (1, .int a1)] [.int v] μ1) :
    JS Z X 0 [(0, .ref (Z.2.2.1 + 0)), (1, .int a1)] [] μ := by
  refine J_iload_n E dX11_status_0 rfl ?_
  refine J_iconst (v := nI 3) E dX11_status_1 rfl ?_
  refine S_callS (As := [.int a1, .int (nI 3)]) (rest := []) E dX11_status_2 c kX11_within ⟨Nat.le_of_ble_eq_true rfl, Nat.le_of_ble_eq_true rfl⟩ rfl (Nat.le_of_ble_eq_true rfl) w4_71 w3_46 (fun r_ μ1 hp_ => ?_)
  obtain ⟨v, rfl, hp_⟩ := hp_
  exact k v μ1 hp_
theorem bX11_status_5 {Z : ZT} {X : XT} {μ : Mu} {a1 : Int32} {s0 : Int32} (E : Ent Z X mX11_status 0 0)  
    (kt : ¬ s0 = 0 → JS Z X 17 [(0, .ref (Z.2.2.1 + 0)), (1, .int a1)] [] μ) (kf : s0 = 0 → JS Z X 8 [(0, .ref (Z.2.2.1 + 0))] [] μ) :
    JS Z X 5 [(0, .ref (Z.2.2.1 + 0)), (1, .int a1)] [.int s0] μ := by
  refine J_if_ne (tgt := 17) E dX11_status_5 (by decide) (fun c => ?_) (fun c => ?_)
  · exact kt c
  · refine J.weak [0] rfl ?_
    exact kf c
theorem bX11_status_8 {Z : ZT} {X : XT} {μ : Mu} (E : Ent Z X mX11_status 0 0) {p : Int32 → Mu → Prop} 
    (c : CtrS Z mX11_counted [.ref (Z.2.2.1 + 0), .int (-2)] μ (rI p)) (k : ∀ v μ1, p v μ1 → JS Z X 14 [] [.int v] μ1) :
    JS Z X 8 [(0, .ref (Z.2.2.1 + 0))] [] μ := by
  refine J_aload_n E dX11_status_8 rfl ?_
  refine J_bipush (v := -2) E dX11_status_9 rfl ?_
  refine S_callV (As := [.int (-2)]) (rest := []) E dX11_status_11 c kX11_counted ⟨Nat.le_of_ble_eq_true rfl, Nat.le_of_ble_eq_true rfl⟩ rfl (Nat.le_of_ble_eq_true rfl) sh0 rfl rfl w3_25 w3_27 wp_1 (fun r_ μ1 hp_ => ?_)
  obtain ⟨v, rfl, hp_⟩ := hp_
  refine J.weak [] rfl ?_
  exact k v μ1 hp_
theorem bX11_status_14 {Z : ZT} {X : XT} {μ : Mu} {s0 : Int32} (E : Ent Z X mX11_status 0 0) {P : Option Value → Mu → Prop} (hB : BodS Z X P) 
    (k : P (some (.int (-1))) μ) :
    JS Z X 14 [] [.int s0] μ := by
  refine J_pop E dX11_status_14 rfl ?_
  refine J_iconst (v := -1) E dX11_status_15 rfl ?_
  exact S_iret E hB dX11_status_16 rfl k
theorem bX11_status_17 {Z : ZT} {X : XT} {μ : Mu} {a1 : Int32} (E : Ent Z X mX11_status 0 0) {P : Option Value → Mu → Prop} (hB : BodS Z X P) (s1_ : vp_in a1 3)
    (k : P (some (.int (μ 72 (ix a1)))) μ) :
    JS Z X 17 [(0, .ref (Z.2.2.1 + 0)), (1, .int a1)] [] μ := by
  refine J_aload_n E dX11_status_17 rfl ?_
  refine S_get (ci := 11) (q := 7) (v := .ref (Z.2.2.1 + 72)) E dX11_status_18 fs_X11_45 sh0 rfl ?_
  refine J_iload_n E dX11_status_21 rfl ?_
  refine S_iald E dX11_status_22 sh72 s1_ ?_
  exact S_iret E hB dX11_status_23 rfl k
theorem dX11_count_0 : decode cX11_count 0 = .ok (.iload_n 1, 1) := by decide +kernel
theorem dX11_count_1 : decode cX11_count 1 = .ok (.bipush 7, 2) := by decide +kernel
theorem dX11_count_3 : decode cX11_count 3 = .ok (.invokestatic 198, 3) := by decide +kernel
theorem dX11_count_6 : decode cX11_count 6 = .ok (.ifCond .eq 11, 3) := by decide +kernel
theorem dX11_count_9 : decode cX11_count 9 = .ok (.aload_n 0, 1) := by decide +kernel
theorem dX11_count_10 : decode cX11_count 10 = .ok (.iload_n 1, 1) := by decide +kernel
theorem dX11_count_11 : decode cX11_count 11 = .ok (.invokevirtual 360, 3) := by decide +kernel
theorem dX11_count_14 : decode cX11_count 14 = .ok (.goto 9, 3) := by decide +kernel
theorem dX11_count_17 : decode cX11_count 17 = .ok (.aload_n 0, 1) := by decide +kernel
theorem dX11_count_18 : decode cX11_count 18 = .ok (.bipush (-2), 2) := by decide +kernel
theorem dX11_count_20 : decode cX11_count 20 = .ok (.invokevirtual 125, 3) := by decide +kernel
theorem dX11_count_23 : decode cX11_count 23 = .ok (.ireturn, 1) := by decide +kernel
theorem bX11_count_0 {Z : ZT} {X : XT} {μ : Mu} {a1 : Int32} (E : Ent Z X mX11_count 0 0) {p : Int32 → Mu → Prop} 
    (c : CtrS Z mX11_within [.int a1, .int (nI 7)] μ (rI p)) (k : ∀ v μ1, p v μ1 → JS Z X 6 [(0, .ref (Z.2.2.1 + 0)), (1, .int a1)] [.int v] μ1) :
    JS Z X 0 [(0, .ref (Z.2.2.1 + 0)), (1, .int a1)] [] μ := by
  refine J_iload_n E dX11_count_0 rfl ?_
  refine J_bipush (v := nI 7) E dX11_count_1 rfl ?_
  refine S_callS (As := [.int a1, .int (nI 7)]) (rest := []) E dX11_count_3 c kX11_within ⟨Nat.le_of_ble_eq_true rfl, Nat.le_of_ble_eq_true rfl⟩ rfl (Nat.le_of_ble_eq_true rfl) w4_71 w3_46 (fun r_ μ1 hp_ => ?_)
  obtain ⟨v, rfl, hp_⟩ := hp_
  exact k v μ1 hp_
theorem bX11_count_6 {Z : ZT} {X : XT} {μ : Mu} {a1 : Int32} {s0 : Int32} (E : Ent Z X mX11_count 0 0)  
    (kt : s0 = 0 → JS Z X 17 [(0, .ref (Z.2.2.1 + 0))] [] μ) (kf : ¬ (s0 = 0) → JS Z X 9 [(0, .ref (Z.2.2.1 + 0)), (1, .int a1)] [] μ) :
    JS Z X 6 [(0, .ref (Z.2.2.1 + 0)), (1, .int a1)] [.int s0] μ := by
  refine J_if_eq (tgt := 17) E dX11_count_6 (by decide) (fun c => ?_) (fun c => ?_)
  · refine J.weak [0] rfl ?_
    exact kt c
  · exact kf c
theorem bX11_count_9 {Z : ZT} {X : XT} {μ : Mu} {a1 : Int32} (E : Ent Z X mX11_count 0 0) {p : Int32 → Mu → Prop} 
    (c : CtrS Z mX11_howMany [.ref (Z.2.2.1 + 0), .int a1] μ (rI p)) (k : ∀ v μ1, p v μ1 → JS Z X 14 [] [.int v] μ1) :
    JS Z X 9 [(0, .ref (Z.2.2.1 + 0)), (1, .int a1)] [] μ := by
  refine J_aload_n E dX11_count_9 rfl ?_
  refine J_iload_n E dX11_count_10 rfl ?_
  refine S_callV (As := [.int a1]) (rest := []) E dX11_count_11 c kX11_howMany ⟨Nat.le_of_ble_eq_true rfl, Nat.le_of_ble_eq_true rfl⟩ rfl (Nat.le_of_ble_eq_true rfl) sh0 rfl rfl w5_161 w5_163 wp_28 (fun r_ μ1 hp_ => ?_)
  obtain ⟨v, rfl, hp_⟩ := hp_
  refine J.weak [] rfl ?_
  exact k v μ1 hp_
theorem bX11_count_14 {Z : ZT} {X : XT} {μ : Mu} {s0 : Int32} (E : Ent Z X mX11_count 0 0)  
    (k : JS Z X 23 [] [.int s0] μ) :
    JS Z X 14 [] [.int s0] μ := by
  refine J_goto (tgt := 23) E dX11_count_14 (by decide) ?_
  exact k
theorem bX11_count_17 {Z : ZT} {X : XT} {μ : Mu} (E : Ent Z X mX11_count 0 0) {p : Int32 → Mu → Prop} 
    (c : CtrS Z mX11_counted [.ref (Z.2.2.1 + 0), .int (-2)] μ (rI p)) (k : ∀ v μ1, p v μ1 → JS Z X 23 [] [.int v] μ1) :
    JS Z X 17 [(0, .ref (Z.2.2.1 + 0))] [] μ := by
  refine J_aload_n E dX11_count_17 rfl ?_
  refine J_bipush (v := -2) E dX11_count_18 rfl ?_
  refine S_callV (As := [.int (-2)]) (rest := []) E dX11_count_20 c kX11_counted ⟨Nat.le_of_ble_eq_true rfl, Nat.le_of_ble_eq_true rfl⟩ rfl (Nat.le_of_ble_eq_true rfl) sh0 rfl rfl w3_25 w3_27 wp_1 (fun r_ μ1 hp_ => ?_)
  obtain ⟨v, rfl, hp_⟩ := hp_
  refine J.weak [] rfl ?_
  exact k v μ1 hp_
theorem bX11_count_23 {Z : ZT} {X : XT} {μ : Mu} {s0 : Int32} (E : Ent Z X mX11_count 0 0) {P : Option Value → Mu → Prop} (hB : BodS Z X P) 
    (k : P (some (.int s0)) μ) :
    JS Z X 23 [] [.int s0] μ := by
  exact S_iret E hB dX11_count_23 rfl k
theorem dX11_digest_0 : decode cX11_digest 0 = .ok (.ldc2_w 363, 3) := by decide +kernel
theorem dX11_digest_3 : decode cX11_digest 3 = .ok (.lstore_n 1, 1) := by decide +kernel
theorem dX11_digest_4 : decode cX11_digest 4 = .ok (.iconst 0, 1) := by decide +kernel
theorem dX11_digest_5 : decode cX11_digest 5 = .ok (.istore_n 3, 1) := by decide +kernel
theorem dX11_digest_6 : decode cX11_digest 6 = .ok (.iload_n 3, 1) := by decide +kernel
theorem dX11_digest_7 : decode cX11_digest 7 = .ok (.bipush 7, 2) := by decide +kernel
theorem dX11_digest_9 : decode cX11_digest 9 = .ok (.if_icmp .ge 22, 3) := by decide +kernel
theorem dX11_digest_12 : decode cX11_digest 12 = .ok (.ldc2_w 365, 3) := by decide +kernel
theorem dX11_digest_15 : decode cX11_digest 15 = .ok (.lload_n 1, 1) := by decide +kernel
theorem dX11_digest_16 : decode cX11_digest 16 = .ok (.lmul, 1) := by decide +kernel
theorem dX11_digest_17 : decode cX11_digest 17 = .ok (.aload_n 0, 1) := by decide +kernel
theorem dX11_digest_18 : decode cX11_digest 18 = .ok (.iload_n 3, 1) := by decide +kernel
theorem dX11_digest_19 : decode cX11_digest 19 = .ok (.invokevirtual 360, 3) := by decide +kernel
theorem dX11_digest_22 : decode cX11_digest 22 = .ok (.i2l, 1) := by decide +kernel
theorem dX11_digest_23 : decode cX11_digest 23 = .ok (.ladd, 1) := by decide +kernel
theorem dX11_digest_24 : decode cX11_digest 24 = .ok (.lstore_n 1, 1) := by decide +kernel
theorem dX11_digest_25 : decode cX11_digest 25 = .ok (.iinc 3 1, 3) := by decide +kernel
theorem dX11_digest_28 : decode cX11_digest 28 = .ok (.goto (-22), 3) := by decide +kernel
theorem dX11_digest_31 : decode cX11_digest 31 = .ok (.aload_n 0, 1) := by decide +kernel
theorem dX11_digest_32 : decode cX11_digest 32 = .ok (.getfield 10, 3) := by decide +kernel
theorem dX11_digest_35 : decode cX11_digest 35 = .ok (.lload_n 1, 1) := by decide +kernel
theorem dX11_digest_36 : decode cX11_digest 36 = .ok (.invokevirtual 367, 3) := by decide +kernel
theorem dX11_digest_39 : decode cX11_digest 39 = .ok (.lstore_n 1, 1) := by decide +kernel
theorem dX11_digest_40 : decode cX11_digest 40 = .ok (.aload_n 0, 1) := by decide +kernel
theorem dX11_digest_41 : decode cX11_digest 41 = .ok (.getfield 22, 3) := by decide +kernel
theorem dX11_digest_44 : decode cX11_digest 44 = .ok (.lload_n 1, 1) := by decide +kernel
theorem dX11_digest_45 : decode cX11_digest 45 = .ok (.invokevirtual 371, 3) := by decide +kernel
theorem dX11_digest_48 : decode cX11_digest 48 = .ok (.lstore_n 1, 1) := by decide +kernel
theorem dX11_digest_49 : decode cX11_digest 49 = .ok (.aload_n 0, 1) := by decide +kernel
theorem dX11_digest_50 : decode cX11_digest 50 = .ok (.getfield 107, 3) := by decide +kernel
theorem dX11_digest_53 : decode cX11_digest 53 = .ok (.lload_n 1, 1) := by decide +kernel
theorem dX11_digest_54 : decode cX11_digest 54 = .ok (.invokevirtual 372, 3) := by decide +kernel
theorem dX11_digest_57 : decode cX11_digest 57 = .ok (.lreturn, 1) := by decide +kernel
theorem bX11_digest_0 {Z : ZT} {X : XT} {μ : Mu} (E : Ent Z X mX11_digest 0 0)  
    (k : JS Z X 6 [(0, .ref (Z.2.2.1 + 0)), (1, .long (lN 577)), (3, .int (nI 0))] [] μ) :
    JS Z X 0 [(0, .ref (Z.2.2.1 + 0))] [] μ := by
  refine J_ldc2 (v := lN 577) E dX11_digest_0 w5_169 ?_
  refine J_lstore_n (lv' := [(0, .ref (Z.2.2.1 + 0)), (1, .long (lN 577))]) E dX11_digest_3 (Nat.le_of_ble_eq_true rfl) rfl ?_
  refine J_iconst (v := nI 0) E dX11_digest_4 rfl ?_
  refine J_istore_n (lv' := [(0, .ref (Z.2.2.1 + 0)), (1, .long (lN 577)), (3, .int (nI 0))]) E dX11_digest_5 (Nat.le_of_ble_eq_true rfl) rfl ?_
  exact k
theorem bX11_digest_6 {Z : ZT} {X : XT} {μ : Mu} {a1 : Int64} {a3 : Int32} (E : Ent Z X mX11_digest 0 0)  
    (kt : (nI 7) ≤ a3 → JS Z X 31 [(0, .ref (Z.2.2.1 + 0)), (1, .long a1)] [] μ) (kf : ¬ ((nI 7) ≤ a3) → JS Z X 12 [(0, .ref (Z.2.2.1 + 0)), (1, .long a1), (3, .int a3)] [] μ) :
    JS Z X 6 [(0, .ref (Z.2.2.1 + 0)), (1, .long a1), (3, .int a3)] [] μ := by
  refine J_iload_n E dX11_digest_6 rfl ?_
  refine J_bipush (v := nI 7) E dX11_digest_7 rfl ?_
  refine J_icmp_ge (tgt := 31) E dX11_digest_9 (by decide) (fun c => ?_) (fun c => ?_)
  · refine J.weak [0, 1] rfl ?_
    exact kt c
  · exact kf c
theorem bX11_digest_12 {Z : ZT} {X : XT} {μ : Mu} {a1 : Int64} {a3 : Int32} (E : Ent Z X mX11_digest 0 0) {p : Int32 → Mu → Prop} 
    (c : CtrS Z mX11_howMany [.ref (Z.2.2.1 + 0), .int a3] μ (rI p)) (k : ∀ v μ1, p v μ1 → JS Z X 22 [(0, .ref (Z.2.2.1 + 0)), (3, .int a3)] [.int v, .long ((lN 31) * a1)] μ1) :
    JS Z X 12 [(0, .ref (Z.2.2.1 + 0)), (1, .long a1), (3, .int a3)] [] μ := by
  refine J_ldc2 (v := lN 31) E dX11_digest_12 w5_170 ?_
  refine J_lload_n E dX11_digest_15 rfl ?_
  refine J_lmul E dX11_digest_16 ?_
  refine J_aload_n E dX11_digest_17 rfl ?_
  refine J_iload_n E dX11_digest_18 rfl ?_
  refine S_callV (As := [.int a3]) (rest := [.long ((lN 31) * a1)]) E dX11_digest_19 c kX11_howMany ⟨Nat.le_of_ble_eq_true rfl, Nat.le_of_ble_eq_true rfl⟩ rfl (Nat.le_of_ble_eq_true rfl) sh0 rfl rfl w5_161 w5_163 wp_28 (fun r_ μ1 hp_ => ?_)
  obtain ⟨v, rfl, hp_⟩ := hp_
  refine J.weak [0, 2] rfl ?_
  exact k v μ1 hp_
theorem bX11_digest_22 {Z : ZT} {X : XT} {μ : Mu} {a3 : Int32} {s0 : Int64} {s1 : Int32} (E : Ent Z X mX11_digest 0 0)  
    (k : JS Z X 6 [(0, .ref (Z.2.2.1 + 0)), (1, .long (s0 + s1.toInt64)), (3, .int (a3 + nI 1))] [] μ) :
    JS Z X 22 [(0, .ref (Z.2.2.1 + 0)), (3, .int a3)] [.int s1, .long s0] μ := by
  refine J_i2l E dX11_digest_22 ?_
  refine J_ladd E dX11_digest_23 ?_
  refine J_lstore_n (lv' := [(0, .ref (Z.2.2.1 + 0)), (1, .long (s0 + s1.toInt64)), (3, .int a3)]) E dX11_digest_24 (Nat.le_of_ble_eq_true rfl) rfl ?_
  refine J_iinc (v := a3 + nI 1) (lv' := [(0, .ref (Z.2.2.1 + 0)), (1, .long (s0 + s1.toInt64)), (3, .int (a3 + nI 1))]) E dX11_digest_25 rfl rfl (Nat.le_of_ble_eq_true rfl) rfl ?_
  refine J_goto (tgt := 6) E dX11_digest_28 (by decide) ?_
  exact k
theorem bX11_digest_31 {Z : ZT} {X : XT} {μ : Mu} {a1 : Int64} (E : Ent Z X mX11_digest 0 0) {p : Int64 → Mu → Prop} 
    (c : CtrS Z mX3_digestOnto [.ref (Z.2.2.1 + 1), .long a1] μ (rJ p)) (k : ∀ v μ1, p v μ1 → JS Z X 39 [(0, .ref (Z.2.2.1 + 0))] [.long v] μ1) :
    JS Z X 31 [(0, .ref (Z.2.2.1 + 0)), (1, .long a1)] [] μ := by
  refine J_aload_n E dX11_digest_31 rfl ?_
  refine S_get (ci := 11) (q := 0) (v := .ref (Z.2.2.1 + 1)) E dX11_digest_32 fs_X11_10 sh0 rfl ?_
  refine J_lload_n E dX11_digest_35 rfl ?_
  refine S_callV (As := [.long a1]) (rest := []) E dX11_digest_36 c kX3_digestOnto ⟨Nat.le_of_ble_eq_true rfl, Nat.le_of_ble_eq_true rfl⟩ rfl (Nat.le_of_ble_eq_true rfl) sh1 rfl rfl w5_171 w5_172 w5_173 (fun r_ μ1 hp_ => ?_)
  obtain ⟨v, rfl, hp_⟩ := hp_
  refine J.weak [0] rfl ?_
  exact k v μ1 hp_
theorem bX11_digest_39 {Z : ZT} {X : XT} {μ : Mu} {s0 : Int64} (E : Ent Z X mX11_digest 0 0) {p : Int64 → Mu → Prop} 
    (c : CtrS Z mX6_digestOnto [.ref (Z.2.2.1 + 27), .long s0] μ (rJ p)) (k : ∀ v μ1, p v μ1 → JS Z X 48 [(0, .ref (Z.2.2.1 + 0))] [.long v] μ1) :
    JS Z X 39 [(0, .ref (Z.2.2.1 + 0))] [.long s0] μ := by
  refine J_lstore_n (lv' := [(0, .ref (Z.2.2.1 + 0)), (1, .long s0)]) E dX11_digest_39 (Nat.le_of_ble_eq_true rfl) rfl ?_
  refine J_aload_n E dX11_digest_40 rfl ?_
  refine S_get (ci := 11) (q := 2) (v := .ref (Z.2.2.1 + 27)) E dX11_digest_41 fs_X11_22 sh0 rfl ?_
  refine J_lload_n E dX11_digest_44 rfl ?_
  refine S_callV (As := [.long s0]) (rest := []) E dX11_digest_45 c kX6_digestOnto ⟨Nat.le_of_ble_eq_true rfl, Nat.le_of_ble_eq_true rfl⟩ rfl (Nat.le_of_ble_eq_true rfl) sh27 rfl rfl w5_176 w5_177 w5_178 (fun r_ μ1 hp_ => ?_)
  obtain ⟨v, rfl, hp_⟩ := hp_
  refine J.weak [0] rfl ?_
  exact k v μ1 hp_
theorem bX11_digest_48 {Z : ZT} {X : XT} {μ : Mu} {s0 : Int64} (E : Ent Z X mX11_digest 0 0) {p : Int64 → Mu → Prop} 
    (c : CtrS Z mX2_digestOnto [.ref (Z.2.2.1 + 446), .long s0] μ (rJ p)) (k : ∀ v μ1, p v μ1 → JS Z X 57 [] [.long v] μ1) :
    JS Z X 48 [(0, .ref (Z.2.2.1 + 0))] [.long s0] μ := by
  refine J_lstore_n (lv' := [(0, .ref (Z.2.2.1 + 0)), (1, .long s0)]) E dX11_digest_48 (Nat.le_of_ble_eq_true rfl) rfl ?_
  refine J_aload_n E dX11_digest_49 rfl ?_
  refine S_get (ci := 11) (q := 15) (v := .ref (Z.2.2.1 + 446)) E dX11_digest_50 fs_X11_107 sh0 rfl ?_
  refine J_lload_n E dX11_digest_53 rfl ?_
  refine S_callV (As := [.long s0]) (rest := []) E dX11_digest_54 c kX2_digestOnto ⟨Nat.le_of_ble_eq_true rfl, Nat.le_of_ble_eq_true rfl⟩ rfl (Nat.le_of_ble_eq_true rfl) sh446 rfl rfl w5_181 w5_182 w5_183 (fun r_ μ1 hp_ => ?_)
  obtain ⟨v, rfl, hp_⟩ := hp_
  refine J.weak [] rfl ?_
  exact k v μ1 hp_
theorem bX11_digest_57 {Z : ZT} {X : XT} {μ : Mu} {s0 : Int64} (E : Ent Z X mX11_digest 0 0) {P : Option Value → Mu → Prop} (hB : BodS Z X P) 
    (k : P (some (.long s0)) μ) :
    JS Z X 57 [] [.long s0] μ := by
  exact S_lret E hB dX11_digest_57 rfl k
theorem dX11_within_0 : decode cX11_within 0 = .ok (.iload_n 0, 1) := by decide +kernel
theorem dX11_within_1 : decode cX11_within 1 = .ok (.ifCond .lt 12, 3) := by decide +kernel
theorem dX11_within_4 : decode cX11_within 4 = .ok (.iload_n 0, 1) := by decide +kernel
theorem dX11_within_5 : decode cX11_within 5 = .ok (.iload_n 1, 1) := by decide +kernel
theorem dX11_within_6 : decode cX11_within 6 = .ok (.if_icmp .ge 7, 3) := by decide +kernel
theorem dX11_within_9 : decode cX11_within 9 = .ok (.iconst 1, 1) := by decide +kernel
theorem dX11_within_10 : decode cX11_within 10 = .ok (.goto 4, 3) := by decide +kernel
theorem dX11_within_13 : decode cX11_within 13 = .ok (.iconst 0, 1) := by decide +kernel
theorem dX11_within_14 : decode cX11_within 14 = .ok (.ireturn, 1) := by decide +kernel
theorem bX11_within_0 {Z : ZT} {X : XT} {μ : Mu} {a0 : Int32} {a1 : Int32} (E : Ent Z X mX11_within 0 0)  
    (kt : a0 < 0 → JS Z X 13 [] [] μ) (kf : ¬ (a0 < 0) → JS Z X 4 [(0, .int a0), (1, .int a1)] [] μ) :
    JS Z X 0 [(0, .int a0), (1, .int a1)] [] μ := by
  refine J_iload_n E dX11_within_0 rfl ?_
  refine J_if_lt (tgt := 13) E dX11_within_1 (by decide) (fun c => ?_) (fun c => ?_)
  · refine J.weak [] rfl ?_
    exact kt c
  · exact kf c
theorem bX11_within_4 {Z : ZT} {X : XT} {μ : Mu} {a0 : Int32} {a1 : Int32} (E : Ent Z X mX11_within 0 0)  
    (kt : a1 ≤ a0 → JS Z X 13 [] [] μ) (kf : ¬ (a1 ≤ a0) → JS Z X 9 [] [] μ) :
    JS Z X 4 [(0, .int a0), (1, .int a1)] [] μ := by
  refine J_iload_n E dX11_within_4 rfl ?_
  refine J_iload_n E dX11_within_5 rfl ?_
  refine J_icmp_ge (tgt := 13) E dX11_within_6 (by decide) (fun c => ?_) (fun c => ?_)
  · refine J.weak [] rfl ?_
    exact kt c
  · refine J.weak [] rfl ?_
    exact kf c
theorem bX11_within_9 {Z : ZT} {X : XT} {μ : Mu} (E : Ent Z X mX11_within 0 0)  
    (k : JS Z X 14 [] [.int (nI 1)] μ) :
    JS Z X 9 [] [] μ := by
  refine J_iconst (v := nI 1) E dX11_within_9 rfl ?_
  refine J_goto (tgt := 14) E dX11_within_10 (by decide) ?_
  exact k
theorem bX11_within_13 {Z : ZT} {X : XT} {μ : Mu} (E : Ent Z X mX11_within 0 0)  
    (k : JS Z X 14 [] [.int (nI 0)] μ) :
    JS Z X 13 [] [] μ := by
  refine J_iconst (v := nI 0) E dX11_within_13 rfl ?_
  exact k
theorem bX11_within_14 {Z : ZT} {X : XT} {μ : Mu} {s0 : Int32} (E : Ent Z X mX11_within 0 0) {P : Option Value → Mu → Prop} (hB : BodS Z X P) (s1_ : narrow .boolean (.int s0) = .int s0)
    (k : P (some (.int s0)) μ) :
    JS Z X 14 [] [.int s0] μ := by
  exact S_zret E hB dX11_within_14 rfl s1_ k
theorem dX11_counted_0 : decode cX11_counted 0 = .ok (.iload_n 1, 1) := by decide +kernel
theorem dX11_counted_1 : decode cX11_counted 1 = .ok (.bipush (-2), 2) := by decide +kernel
theorem dX11_counted_3 : decode cX11_counted 3 = .ok (.if_icmp .ne 16, 3) := by decide +kernel
theorem dX11_counted_6 : decode cX11_counted 6 = .ok (.aload_n 0, 1) := by decide +kernel
theorem dX11_counted_7 : decode cX11_counted 7 = .ok (.getfield 45, 3) := by decide +kernel
theorem dX11_counted_10 : decode cX11_counted 10 = .ok (.iconst 0, 1) := by decide +kernel
theorem dX11_counted_11 : decode cX11_counted 11 = .ok (.dup2, 1) := by decide +kernel
theorem dX11_counted_12 : decode cX11_counted 12 = .ok (.iaload, 1) := by decide +kernel
theorem dX11_counted_13 : decode cX11_counted 13 = .ok (.iconst 1, 1) := by decide +kernel
theorem dX11_counted_14 : decode cX11_counted 14 = .ok (.iadd, 1) := by decide +kernel
theorem dX11_counted_15 : decode cX11_counted 15 = .ok (.iastore, 1) := by decide +kernel
theorem dX11_counted_16 : decode cX11_counted 16 = .ok (.goto 38, 3) := by decide +kernel
theorem dX11_counted_19 : decode cX11_counted 19 = .ok (.iload_n 1, 1) := by decide +kernel
theorem dX11_counted_20 : decode cX11_counted 20 = .ok (.bipush (-3), 2) := by decide +kernel
theorem dX11_counted_22 : decode cX11_counted 22 = .ok (.if_icmp .ne 16, 3) := by decide +kernel
theorem dX11_counted_25 : decode cX11_counted 25 = .ok (.aload_n 0, 1) := by decide +kernel
theorem dX11_counted_26 : decode cX11_counted 26 = .ok (.getfield 45, 3) := by decide +kernel
theorem dX11_counted_29 : decode cX11_counted 29 = .ok (.iconst 1, 1) := by decide +kernel
theorem dX11_counted_30 : decode cX11_counted 30 = .ok (.dup2, 1) := by decide +kernel
theorem dX11_counted_31 : decode cX11_counted 31 = .ok (.iaload, 1) := by decide +kernel
theorem dX11_counted_32 : decode cX11_counted 32 = .ok (.iconst 1, 1) := by decide +kernel
theorem dX11_counted_33 : decode cX11_counted 33 = .ok (.iadd, 1) := by decide +kernel
theorem dX11_counted_34 : decode cX11_counted 34 = .ok (.iastore, 1) := by decide +kernel
theorem dX11_counted_35 : decode cX11_counted 35 = .ok (.goto 19, 3) := by decide +kernel
theorem dX11_counted_38 : decode cX11_counted 38 = .ok (.iload_n 1, 1) := by decide +kernel
theorem dX11_counted_39 : decode cX11_counted 39 = .ok (.bipush (-4), 2) := by decide +kernel
theorem dX11_counted_41 : decode cX11_counted 41 = .ok (.if_icmp .ne 13, 3) := by decide +kernel
theorem dX11_counted_44 : decode cX11_counted 44 = .ok (.aload_n 0, 1) := by decide +kernel
theorem dX11_counted_45 : decode cX11_counted 45 = .ok (.getfield 45, 3) := by decide +kernel
theorem dX11_counted_48 : decode cX11_counted 48 = .ok (.iconst 2, 1) := by decide +kernel
theorem dX11_counted_49 : decode cX11_counted 49 = .ok (.dup2, 1) := by decide +kernel
theorem dX11_counted_50 : decode cX11_counted 50 = .ok (.iaload, 1) := by decide +kernel
theorem dX11_counted_51 : decode cX11_counted 51 = .ok (.iconst 1, 1) := by decide +kernel
theorem dX11_counted_52 : decode cX11_counted 52 = .ok (.iadd, 1) := by decide +kernel
theorem dX11_counted_53 : decode cX11_counted 53 = .ok (.iastore, 1) := by decide +kernel
theorem dX11_counted_54 : decode cX11_counted 54 = .ok (.iload_n 1, 1) := by decide +kernel
theorem dX11_counted_55 : decode cX11_counted 55 = .ok (.ireturn, 1) := by decide +kernel
theorem bX11_counted_0 {Z : ZT} {X : XT} {μ : Mu} {a1 : Int32} (E : Ent Z X mX11_counted 0 0)  
    (kt : ¬ a1 = (-2) → JS Z X 19 [(0, .ref (Z.2.2.1 + 0)), (1, .int a1)] [] μ) (kf : a1 = (-2) → JS Z X 6 [(0, .ref (Z.2.2.1 + 0)), (1, .int a1)] [] μ) :
    JS Z X 0 [(0, .ref (Z.2.2.1 + 0)), (1, .int a1)] [] μ := by
  refine J_iload_n E dX11_counted_0 rfl ?_
  refine J_bipush (v := -2) E dX11_counted_1 rfl ?_
  refine J_icmp_ne (tgt := 19) E dX11_counted_3 (by decide) (fun c => ?_) (fun c => ?_)
  · exact kt c
  · exact kf c
theorem bX11_counted_6 {Z : ZT} {X : XT} {μ : Mu} {a1 : Int32} (E : Ent Z X mX11_counted 0 0)  (s1_ : vp_in (nI 0) 3) (s2_ : vp_in (nI 0) 3)
    (k : JS Z X 16 [(1, .int a1)] [] (uR μ 72 (upd (μ 72) (ix (nI 0)) ((μ 72 (ix (nI 0))) + (nI 1))))) :
    JS Z X 6 [(0, .ref (Z.2.2.1 + 0)), (1, .int a1)] [] μ := by
  refine J_aload_n E dX11_counted_6 rfl ?_
  refine S_get (ci := 11) (q := 7) (v := .ref (Z.2.2.1 + 72)) E dX11_counted_7 fs_X11_45 sh0 rfl ?_
  refine J_iconst (v := nI 0) E dX11_counted_10 rfl ?_
  refine J_dup2_11 E dX11_counted_11 rfl rfl ?_
  refine S_iald E dX11_counted_12 sh72 s1_ ?_
  refine J_iconst (v := nI 1) E dX11_counted_13 rfl ?_
  refine J_iadd E dX11_counted_14 ?_
  refine S_iast E dX11_counted_15 sh72 s2_ ?_
  refine J.weak [1] rfl ?_
  exact k
theorem bX11_counted_16 {Z : ZT} {X : XT} {μ : Mu} {a1 : Int32} (E : Ent Z X mX11_counted 0 0)  
    (k : JS Z X 54 [(1, .int a1)] [] μ) :
    JS Z X 16 [(1, .int a1)] [] μ := by
  refine J_goto (tgt := 54) E dX11_counted_16 (by decide) ?_
  exact k
theorem bX11_counted_19 {Z : ZT} {X : XT} {μ : Mu} {a1 : Int32} (E : Ent Z X mX11_counted 0 0)  
    (kt : ¬ a1 = (-3) → JS Z X 38 [(0, .ref (Z.2.2.1 + 0)), (1, .int a1)] [] μ) (kf : a1 = (-3) → JS Z X 25 [(0, .ref (Z.2.2.1 + 0)), (1, .int a1)] [] μ) :
    JS Z X 19 [(0, .ref (Z.2.2.1 + 0)), (1, .int a1)] [] μ := by
  refine J_iload_n E dX11_counted_19 rfl ?_
  refine J_bipush (v := -3) E dX11_counted_20 rfl ?_
  refine J_icmp_ne (tgt := 38) E dX11_counted_22 (by decide) (fun c => ?_) (fun c => ?_)
  · exact kt c
  · exact kf c
theorem bX11_counted_25 {Z : ZT} {X : XT} {μ : Mu} {a1 : Int32} (E : Ent Z X mX11_counted 0 0)  (s1_ : vp_in (nI 1) 3) (s2_ : vp_in (nI 1) 3)
    (k : JS Z X 35 [(1, .int a1)] [] (uR μ 72 (upd (μ 72) (ix (nI 1)) ((μ 72 (ix (nI 1))) + (nI 1))))) :
    JS Z X 25 [(0, .ref (Z.2.2.1 + 0)), (1, .int a1)] [] μ := by
  refine J_aload_n E dX11_counted_25 rfl ?_
  refine S_get (ci := 11) (q := 7) (v := .ref (Z.2.2.1 + 72)) E dX11_counted_26 fs_X11_45 sh0 rfl ?_
  refine J_iconst (v := nI 1) E dX11_counted_29 rfl ?_
  refine J_dup2_11 E dX11_counted_30 rfl rfl ?_
  refine S_iald E dX11_counted_31 sh72 s1_ ?_
  refine J_iconst (v := nI 1) E dX11_counted_32 rfl ?_
  refine J_iadd E dX11_counted_33 ?_
  refine S_iast E dX11_counted_34 sh72 s2_ ?_
  refine J.weak [1] rfl ?_
  exact k
theorem bX11_counted_35 {Z : ZT} {X : XT} {μ : Mu} {a1 : Int32} (E : Ent Z X mX11_counted 0 0)  
    (k : JS Z X 54 [(1, .int a1)] [] μ) :
    JS Z X 35 [(1, .int a1)] [] μ := by
  refine J_goto (tgt := 54) E dX11_counted_35 (by decide) ?_
  exact k
theorem bX11_counted_38 {Z : ZT} {X : XT} {μ : Mu} {a1 : Int32} (E : Ent Z X mX11_counted 0 0)  
    (kt : ¬ a1 = (-4) → JS Z X 54 [(1, .int a1)] [] μ) (kf : a1 = (-4) → JS Z X 44 [(0, .ref (Z.2.2.1 + 0)), (1, .int a1)] [] μ) :
    JS Z X 38 [(0, .ref (Z.2.2.1 + 0)), (1, .int a1)] [] μ := by
  refine J_iload_n E dX11_counted_38 rfl ?_
  refine J_bipush (v := -4) E dX11_counted_39 rfl ?_
  refine J_icmp_ne (tgt := 54) E dX11_counted_41 (by decide) (fun c => ?_) (fun c => ?_)
  · refine J.weak [1] rfl ?_
    exact kt c
  · exact kf c
theorem bX11_counted_44 {Z : ZT} {X : XT} {μ : Mu} {a1 : Int32} (E : Ent Z X mX11_counted 0 0)  (s1_ : vp_in (nI 2) 3) (s2_ : vp_in (nI 2) 3)
    (k : JS Z X 54 [(1, .int a1)] [] (uR μ 72 (upd (μ 72) (ix (nI 2)) ((μ 72 (ix (nI 2))) + (nI 1))))) :
    JS Z X 44 [(0, .ref (Z.2.2.1 + 0)), (1, .int a1)] [] μ := by
  refine J_aload_n E dX11_counted_44 rfl ?_
  refine S_get (ci := 11) (q := 7) (v := .ref (Z.2.2.1 + 72)) E dX11_counted_45 fs_X11_45 sh0 rfl ?_
  refine J_iconst (v := nI 2) E dX11_counted_48 rfl ?_
  refine J_dup2_11 E dX11_counted_49 rfl rfl ?_
  refine S_iald E dX11_counted_50 sh72 s1_ ?_
  refine J_iconst (v := nI 1) E dX11_counted_51 rfl ?_
  refine J_iadd E dX11_counted_52 ?_
  refine S_iast E dX11_counted_53 sh72 s2_ ?_
  refine J.weak [1] rfl ?_
  exact k
theorem bX11_counted_54 {Z : ZT} {X : XT} {μ : Mu} {a1 : Int32} (E : Ent Z X mX11_counted 0 0) {P : Option Value → Mu → Prop} (hB : BodS Z X P) 
    (k : P (some (.int a1)) μ) :
    JS Z X 54 [(1, .int a1)] [] μ := by
  refine J_iload_n E dX11_counted_54 rfl ?_
  exact S_iret E hB dX11_counted_55 rfl k
theorem dX11_canHunt_0 : decode cX11_canHunt 0 = .ok (.aload_n 0, 1) := by decide +kernel
theorem dX11_canHunt_1 : decode cX11_canHunt 1 = .ok (.getfield 54, 3) := by decide +kernel
theorem dX11_canHunt_4 : decode cX11_canHunt 4 = .ok (.invokevirtual 192, 3) := by decide +kernel
theorem dX11_canHunt_7 : decode cX11_canHunt 7 = .ok (.aload_n 1, 1) := by decide +kernel
theorem dX11_canHunt_8 : decode cX11_canHunt 8 = .ok (.iload_n 2, 1) := by decide +kernel
theorem dX11_canHunt_9 : decode cX11_canHunt 9 = .ok (.invokevirtual 264, 3) := by decide +kernel
theorem dX11_canHunt_12 : decode cX11_canHunt 12 = .ok (.aload_n 1, 1) := by decide +kernel
theorem dX11_canHunt_13 : decode cX11_canHunt 13 = .ok (.invokevirtual 373, 3) := by decide +kernel
theorem dX11_canHunt_16 : decode cX11_canHunt 16 = .ok (.ireturn, 1) := by decide +kernel
theorem bX11_canHunt_0 {Z : ZT} {X : XT} {μ : Mu} {a1 : Nat} {a2 : Int32} (E : Ent Z X mX11_canHunt 0 0) (ha1 : SH a1 = .inl 4) {p : Mu → Prop} 
    (c : CtrS Z mX10_measure [.ref (Z.2.2.1 + 73)] μ (rV p)) (k : ∀ μ1, p μ1 → JS Z X 7 [(1, .ref (Z.2.2.1 + a1)), (2, .int a2)] [] μ1) :
    JS Z X 0 [(0, .ref (Z.2.2.1 + 0)), (1, .ref (Z.2.2.1 + a1)), (2, .int a2)] [] μ := by
  refine J_aload_n E dX11_canHunt_0 rfl ?_
  refine S_get (ci := 11) (q := 8) (v := .ref (Z.2.2.1 + 73)) E dX11_canHunt_1 fs_X11_54 sh0 rfl ?_
  refine S_callV (As := []) (rest := []) E dX11_canHunt_4 c kX10_measure ⟨Nat.le_of_ble_eq_true rfl, Nat.le_of_ble_eq_true rfl⟩ rfl (Nat.le_of_ble_eq_true rfl) sh73 rfl rfl w4_44 w4_45 w4_46 (fun r_ μ1 hp_ => ?_)
  obtain ⟨rfl, hp_⟩ := hp_
  refine J.weak [1, 2] rfl ?_
  exact k μ1 hp_
theorem bX11_canHunt_7 {Z : ZT} {X : XT} {μ : Mu} {a1 : Nat} {a2 : Int32} (E : Ent Z X mX11_canHunt 0 0) (ha1 : SH a1 = .inl 4) {p : Mu → Prop} 
    (c : CtrS Z mX4_take [.ref (Z.2.2.1 + a1), .int a2] μ (rV p)) (k : ∀ μ1, p μ1 → JS Z X 12 [(1, .ref (Z.2.2.1 + a1))] [] μ1) :
    JS Z X 7 [(1, .ref (Z.2.2.1 + a1)), (2, .int a2)] [] μ := by
  refine J_aload_n E dX11_canHunt_7 rfl ?_
  refine J_iload_n E dX11_canHunt_8 rfl ?_
  refine S_callV (As := [.int a2]) (rest := []) E dX11_canHunt_9 c kX4_take ⟨Nat.le_of_ble_eq_true rfl, Nat.le_of_ble_eq_true rfl⟩ rfl (Nat.le_of_ble_eq_true rfl) ha1 rfl rfl w4_76 w4_77 w4_78 (fun r_ μ1 hp_ => ?_)
  obtain ⟨rfl, hp_⟩ := hp_
  refine J.weak [0] rfl ?_
  exact k μ1 hp_
theorem bX11_canHunt_12 {Z : ZT} {X : XT} {μ : Mu} {a1 : Nat} (E : Ent Z X mX11_canHunt 0 0) (ha1 : SH a1 = .inl 4) {p : Int32 → Mu → Prop} 
    (c : CtrS Z mX4_lay [.ref (Z.2.2.1 + a1)] μ (rI p)) (k : ∀ v μ1, p v μ1 → JS Z X 16 [] [.int v] μ1) :
    JS Z X 12 [(1, .ref (Z.2.2.1 + a1))] [] μ := by
  refine J_aload_n E dX11_canHunt_12 rfl ?_
  refine S_callV (As := []) (rest := []) E dX11_canHunt_13 c kX4_lay ⟨Nat.le_of_ble_eq_true rfl, Nat.le_of_ble_eq_true rfl⟩ rfl (Nat.le_of_ble_eq_true rfl) ha1 rfl rfl w4_81 w4_82 w4_83 (fun r_ μ1 hp_ => ?_)
  obtain ⟨v, rfl, hp_⟩ := hp_
  refine J.weak [] rfl ?_
  exact k v μ1 hp_
theorem bX11_canHunt_16 {Z : ZT} {X : XT} {μ : Mu} {s0 : Int32} (E : Ent Z X mX11_canHunt 0 0) {P : Option Value → Mu → Prop} (hB : BodS Z X P) (s1_ : narrow .boolean (.int s0) = .int s0)
    (k : P (some (.int s0)) μ) :
    JS Z X 16 [] [.int s0] μ := by
  exact S_zret E hB dX11_canHunt_16 rfl s1_ k
theorem dX11_howMany_0 : decode cX11_howMany 0 = .ok (.iload_n 1, 1) := by decide +kernel
theorem dX11_howMany_1 : decode cX11_howMany 1 = .ok (.tableswitch 91 0 5 #[39, 47, 55, 63, 73, 83], 39) := by decide +kernel
theorem dX11_howMany_40 : decode cX11_howMany 40 = .ok (.aload_n 0, 1) := by decide +kernel
theorem dX11_howMany_41 : decode cX11_howMany 41 = .ok (.getfield 10, 3) := by decide +kernel
theorem dX11_howMany_44 : decode cX11_howMany 44 = .ok (.getfield 377, 3) := by decide +kernel
theorem dX11_howMany_47 : decode cX11_howMany 47 = .ok (.ireturn, 1) := by decide +kernel
theorem dX11_howMany_48 : decode cX11_howMany 48 = .ok (.aload_n 0, 1) := by decide +kernel
theorem dX11_howMany_49 : decode cX11_howMany 49 = .ok (.getfield 10, 3) := by decide +kernel
theorem dX11_howMany_52 : decode cX11_howMany 52 = .ok (.getfield 251, 3) := by decide +kernel
theorem dX11_howMany_55 : decode cX11_howMany 55 = .ok (.ireturn, 1) := by decide +kernel
theorem dX11_howMany_56 : decode cX11_howMany 56 = .ok (.aload_n 0, 1) := by decide +kernel
theorem dX11_howMany_57 : decode cX11_howMany 57 = .ok (.getfield 10, 3) := by decide +kernel
theorem dX11_howMany_60 : decode cX11_howMany 60 = .ok (.getfield 380, 3) := by decide +kernel
theorem dX11_howMany_63 : decode cX11_howMany 63 = .ok (.ireturn, 1) := by decide +kernel
theorem dX11_howMany_64 : decode cX11_howMany 64 = .ok (.aload_n 0, 1) := by decide +kernel
theorem dX11_howMany_65 : decode cX11_howMany 65 = .ok (.getfield 10, 3) := by decide +kernel
theorem dX11_howMany_68 : decode cX11_howMany 68 = .ok (.getfield 202, 3) := by decide +kernel
theorem dX11_howMany_71 : decode cX11_howMany 71 = .ok (.iconst 0, 1) := by decide +kernel
theorem dX11_howMany_72 : decode cX11_howMany 72 = .ok (.iaload, 1) := by decide +kernel
theorem dX11_howMany_73 : decode cX11_howMany 73 = .ok (.ireturn, 1) := by decide +kernel
theorem dX11_howMany_74 : decode cX11_howMany 74 = .ok (.aload_n 0, 1) := by decide +kernel
theorem dX11_howMany_75 : decode cX11_howMany 75 = .ok (.getfield 10, 3) := by decide +kernel
theorem dX11_howMany_78 : decode cX11_howMany 78 = .ok (.getfield 202, 3) := by decide +kernel
theorem dX11_howMany_81 : decode cX11_howMany 81 = .ok (.iconst 1, 1) := by decide +kernel
theorem dX11_howMany_82 : decode cX11_howMany 82 = .ok (.iaload, 1) := by decide +kernel
theorem dX11_howMany_83 : decode cX11_howMany 83 = .ok (.ireturn, 1) := by decide +kernel
theorem dX11_howMany_84 : decode cX11_howMany 84 = .ok (.aload_n 0, 1) := by decide +kernel
theorem dX11_howMany_85 : decode cX11_howMany 85 = .ok (.getfield 22, 3) := by decide +kernel
theorem dX11_howMany_88 : decode cX11_howMany 88 = .ok (.getfield 321, 3) := by decide +kernel
theorem dX11_howMany_91 : decode cX11_howMany 91 = .ok (.ireturn, 1) := by decide +kernel
theorem dX11_howMany_92 : decode cX11_howMany 92 = .ok (.aload_n 0, 1) := by decide +kernel
theorem dX11_howMany_93 : decode cX11_howMany 93 = .ok (.getfield 29, 3) := by decide +kernel
theorem dX11_howMany_96 : decode cX11_howMany 96 = .ok (.getfield 383, 3) := by decide +kernel
theorem dX11_howMany_99 : decode cX11_howMany 99 = .ok (.ireturn, 1) := by decide +kernel
theorem bX11_howMany_0 {Z : ZT} {X : XT} {μ : Mu} {a1 : Int32} (E : Ent Z X mX11_howMany 0 0)  
    (kd : (a1.toInt < 0 ∨ 5 < a1.toInt) → JS Z X 92 [(0, .ref (Z.2.2.1 + 0))] [] μ) (k0 : a1 = nI 0 → JS Z X 40 [(0, .ref (Z.2.2.1 + 0))] [] μ) (k1 : a1 = nI 1 → JS Z X 48 [(0, .ref (Z.2.2.1 + 0))] [] μ) (k2 : a1 = nI 2 → JS Z X 56 [(0, .ref (Z.2.2.1 + 0))] [] μ) (k3 : a1 = nI 3 → JS Z X 64 [(0, .ref (Z.2.2.1 + 0))] [] μ) (k4 : a1 = nI 4 → JS Z X 74 [(0, .ref (Z.2.2.1 + 0))] [] μ) (k5 : a1 = nI 5 → JS Z X 84 [(0, .ref (Z.2.2.1 + 0))] [] μ) :
    JS Z X 0 [(0, .ref (Z.2.2.1 + 0)), (1, .int a1)] [] μ := by
  refine J_iload_n E dX11_howMany_0 rfl ?_
  rcases sw_le (x := a1) (lo := 0) (hi := 5) with g | ⟨j, hj, hj2, g⟩
  · refine J_tableOut (tgt := 92) E dX11_howMany_1 g (by decide) ?_
    refine J.weak [0] rfl ?_
    exact kd g
  · rcases (show j = 0 ∨ j = 1 ∨ j = 2 ∨ j = 3 ∨ j = 4 ∨ j = 5 by omega) with e | e | e | e | e | e
    · have g : a1 = nI 0 := by rw [g, e]
      refine J_tableIn (tgt := 40) E dX11_howMany_1 (by rw [g]; decide) (by rw [g]; decide) (by rw [g]; rfl) (by decide) ?_
      refine J.weak [0] rfl ?_
      exact k0 g
    · have g : a1 = nI 1 := by rw [g, e]
      refine J_tableIn (tgt := 48) E dX11_howMany_1 (by rw [g]; decide) (by rw [g]; decide) (by rw [g]; rfl) (by decide) ?_
      refine J.weak [0] rfl ?_
      exact k1 g
    · have g : a1 = nI 2 := by rw [g, e]
      refine J_tableIn (tgt := 56) E dX11_howMany_1 (by rw [g]; decide) (by rw [g]; decide) (by rw [g]; rfl) (by decide) ?_
      refine J.weak [0] rfl ?_
      exact k2 g
    · have g : a1 = nI 3 := by rw [g, e]
      refine J_tableIn (tgt := 64) E dX11_howMany_1 (by rw [g]; decide) (by rw [g]; decide) (by rw [g]; rfl) (by decide) ?_
      refine J.weak [0] rfl ?_
      exact k3 g
    · have g : a1 = nI 4 := by rw [g, e]
      refine J_tableIn (tgt := 74) E dX11_howMany_1 (by rw [g]; decide) (by rw [g]; decide) (by rw [g]; rfl) (by decide) ?_
      refine J.weak [0] rfl ?_
      exact k4 g
    · have g : a1 = nI 5 := by rw [g, e]
      refine J_tableIn (tgt := 84) E dX11_howMany_1 (by rw [g]; decide) (by rw [g]; decide) (by rw [g]; rfl) (by decide) ?_
      refine J.weak [0] rfl ?_
      exact k5 g
theorem bX11_howMany_40 {Z : ZT} {X : XT} {μ : Mu} (E : Ent Z X mX11_howMany 0 0) {P : Option Value → Mu → Prop} (hB : BodS Z X P) 
    (k : P (some (.int (μ 1 0))) μ) :
    JS Z X 40 [(0, .ref (Z.2.2.1 + 0))] [] μ := by
  refine J_aload_n E dX11_howMany_40 rfl ?_
  refine S_get (ci := 11) (q := 0) (v := .ref (Z.2.2.1 + 1)) E dX11_howMany_41 fs_X11_10 sh0 rfl ?_
  refine S_get (ci := 3) (q := 0) (v := .int (μ 1 0)) E dX11_howMany_44 fs_X11_377 sh1 rfl ?_
  exact S_iret E hB dX11_howMany_47 rfl k
theorem bX11_howMany_48 {Z : ZT} {X : XT} {μ : Mu} (E : Ent Z X mX11_howMany 0 0) {P : Option Value → Mu → Prop} (hB : BodS Z X P) 
    (k : P (some (.int (μ 1 3))) μ) :
    JS Z X 48 [(0, .ref (Z.2.2.1 + 0))] [] μ := by
  refine J_aload_n E dX11_howMany_48 rfl ?_
  refine S_get (ci := 11) (q := 0) (v := .ref (Z.2.2.1 + 1)) E dX11_howMany_49 fs_X11_10 sh0 rfl ?_
  refine S_get (ci := 3) (q := 3) (v := .int (μ 1 3)) E dX11_howMany_52 fs_X11_251 sh1 rfl ?_
  exact S_iret E hB dX11_howMany_55 rfl k
theorem bX11_howMany_56 {Z : ZT} {X : XT} {μ : Mu} (E : Ent Z X mX11_howMany 0 0) {P : Option Value → Mu → Prop} (hB : BodS Z X P) 
    (k : P (some (.int (μ 1 8))) μ) :
    JS Z X 56 [(0, .ref (Z.2.2.1 + 0))] [] μ := by
  refine J_aload_n E dX11_howMany_56 rfl ?_
  refine S_get (ci := 11) (q := 0) (v := .ref (Z.2.2.1 + 1)) E dX11_howMany_57 fs_X11_10 sh0 rfl ?_
  refine S_get (ci := 3) (q := 8) (v := .int (μ 1 8)) E dX11_howMany_60 fs_X11_380 sh1 rfl ?_
  exact S_iret E hB dX11_howMany_63 rfl k
theorem bX11_howMany_64 {Z : ZT} {X : XT} {μ : Mu} (E : Ent Z X mX11_howMany 0 0) {P : Option Value → Mu → Prop} (hB : BodS Z X P) (s1_ : vp_in (nI 0) 2)
    (k : P (some (.int (μ (1 + 11) (ix (nI 0))))) μ) :
    JS Z X 64 [(0, .ref (Z.2.2.1 + 0))] [] μ := by
  refine J_aload_n E dX11_howMany_64 rfl ?_
  refine S_get (ci := 11) (q := 0) (v := .ref (Z.2.2.1 + 1)) E dX11_howMany_65 fs_X11_10 sh0 rfl ?_
  refine S_get (ci := 3) (q := 13) (v := .ref (Z.2.2.1 + (1 + 11))) E dX11_howMany_68 fs_X11_202 sh1 rfl ?_
  refine J_iconst (v := nI 0) E dX11_howMany_71 rfl ?_
  refine S_iald E dX11_howMany_72 (shr_X3_13 sh1) s1_ ?_
  exact S_iret E hB dX11_howMany_73 rfl k
theorem bX11_howMany_74 {Z : ZT} {X : XT} {μ : Mu} (E : Ent Z X mX11_howMany 0 0) {P : Option Value → Mu → Prop} (hB : BodS Z X P) (s1_ : vp_in (nI 1) 2)
    (k : P (some (.int (μ (1 + 11) (ix (nI 1))))) μ) :
    JS Z X 74 [(0, .ref (Z.2.2.1 + 0))] [] μ := by
  refine J_aload_n E dX11_howMany_74 rfl ?_
  refine S_get (ci := 11) (q := 0) (v := .ref (Z.2.2.1 + 1)) E dX11_howMany_75 fs_X11_10 sh0 rfl ?_
  refine S_get (ci := 3) (q := 13) (v := .ref (Z.2.2.1 + (1 + 11))) E dX11_howMany_78 fs_X11_202 sh1 rfl ?_
  refine J_iconst (v := nI 1) E dX11_howMany_81 rfl ?_
  refine S_iald E dX11_howMany_82 (shr_X3_13 sh1) s1_ ?_
  exact S_iret E hB dX11_howMany_83 rfl k
theorem bX11_howMany_84 {Z : ZT} {X : XT} {μ : Mu} (E : Ent Z X mX11_howMany 0 0) {P : Option Value → Mu → Prop} (hB : BodS Z X P) 
    (k : P (some (.int (μ 27 1))) μ) :
    JS Z X 84 [(0, .ref (Z.2.2.1 + 0))] [] μ := by
  refine J_aload_n E dX11_howMany_84 rfl ?_
  refine S_get (ci := 11) (q := 2) (v := .ref (Z.2.2.1 + 27)) E dX11_howMany_85 fs_X11_22 sh0 rfl ?_
  refine S_get (ci := 6) (q := 1) (v := .int (μ 27 1)) E dX11_howMany_88 fs_X11_321 sh27 rfl ?_
  exact S_iret E hB dX11_howMany_91 rfl k
theorem bX11_howMany_92 {Z : ZT} {X : XT} {μ : Mu} (E : Ent Z X mX11_howMany 0 0) {P : Option Value → Mu → Prop} (hB : BodS Z X P) 
    (k : P (some (.int (μ 31 1))) μ) :
    JS Z X 92 [(0, .ref (Z.2.2.1 + 0))] [] μ := by
  refine J_aload_n E dX11_howMany_92 rfl ?_
  refine S_get (ci := 11) (q := 3) (v := .ref (Z.2.2.1 + 31)) E dX11_howMany_93 fs_X11_29 sh0 rfl ?_
  refine S_get (ci := 9) (q := 1) (v := .int (μ 31 1)) E dX11_howMany_96 fs_X11_383 sh31 rfl ?_
  exact S_iret E hB dX11_howMany_99 rfl k
