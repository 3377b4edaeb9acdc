/-! the law's twenty cases -/
section LC
variable {K : Cx} {A B : Nat → Nat} {o : Nat} {cell : Nat → Nat → Nat} {vals : Nat → Nat} {N R w ms b L : Nat} {xs : Nat → Int32} {wx wy wz : va_W} {ce sl : Nat} {x : Int32}
set_option maxRecDepth 20000 in
theorem lc_clear (hk : Ok K cL_law 4 RL w2_L_law room_1) (hX : va_X b L xs (ks K) (ks K).heap) (hbl : b < (ks K).heap.size) (hbA : ¬ kA K b) (hC : CW (kG K) A cell vals N R w ms wx) (hR : RW (kG K) o B cell vals N R w ms wy) (hin : ∀ j : Int32, 0 < j → j < 6 → vp_in (x + j) L) (hce : ce + 5820 ≤ 600000) (hsl : sl + 26400 ≤ 7302249) (ct : ∀ (u v : va_W) (cell : Nat → Nat → Nat) (vals : Nat → Nat) (N R w ms ce1 sl1 : Nat), CW (kG K) A cell vals N R w ms u → RW (kG K) o B cell vals N R w ms v → ce1 ≤ ce + 820 → sl1 ≤ sl + 10400 → V K 4 (u ++ (v ++ wz)) ce1 sl1 811 [(0, .ref b), (1, .ref (A 17)), (2, .ref o), (3, .int x)] []) : V K 4 (wx ++ (wy ++ wz)) ce sl 128 [(0, .ref b), (1, .ref (A 17)), (2, .ref o), (3, .int x)] [] := by
  obtain ⟨r, cell2, vals2, N2, R2, w2, ms2, ⟨y, rfl⟩, h1, h2⟩ := jn_clear (l := kl K) (G := kG K) (A := A) (o := o) (B := B) hC hR
  obtain ⟨fs1, hm1⟩ := hC.mem
  obtain ⟨fs2, hm2⟩ := hR.mem
  refine v_aload_n hk dL_law_128 rfl ?_
  refine v_callX (n := 0) (st := []) (T := TX10) (N := 6) hk dL_law_129 h1 rfl gd_L_law_X10_clear rfl (by decide +kernel) ⟨Nat.le_of_ble_eq_true rfl, Nat.le_of_ble_eq_true rfl⟩ ⟨show ce + 5000 ≤ 600000 by omega, show sl + 16000 ≤ 7302249 by omega⟩ rfl rfl (Nat.le_of_ble_eq_true rfl) (List.mem_append_left _ hm1) rfl List.perm_append_comm ?_
  rintro _ u ce1 sl1 ⟨rfl, hC2⟩ hc1 hs1
  refine v_aload_n hk dL_law_132 rfl ?_
  refine v_callX (n := 0) (st := [.int y]) (T := TX11) (N := 39) hk dL_law_133 h2 rfl gd_L_law_X11_clear rfl (by decide +kernel) ⟨Nat.le_of_ble_eq_true rfl, Nat.le_of_ble_eq_true rfl⟩ ⟨show ce1 + 5000 ≤ 600000 by omega, show sl1 + 16000 ≤ 7302249 by omega⟩ rfl rfl (Nat.le_of_ble_eq_true rfl) (List.mem_append_left _ (List.mem_append_left _ hm2)) rfl pm3 ?_
  rintro _ v ce2 sl2 ⟨rfl, hR2⟩ hc2 hs2
  refine v_lperm pm4 ?_
  exact v_icmp_eq (tgt := 811) hk dL_law_136 (by decide) (fun _ => ct u v cell2 vals2 N2 R2 w2 ms2 ce2 sl2 hC2 hR2 (by omega) (by omega)) (fun hn => absurd rfl hn)
set_option maxRecDepth 20000 in
theorem lc_name (hk : Ok K cL_law 4 RL w2_L_law room_1) (hX : va_X b L xs (ks K) (ks K).heap) (hbl : b < (ks K).heap.size) (hbA : ¬ kA K b) (hC : CW (kG K) A cell vals N R w ms wx) (hR : RW (kG K) o B cell vals N R w ms wy) (hin : ∀ j : Int32, 0 < j → j < 6 → vp_in (x + j) L) (hce : ce + 5820 ≤ 600000) (hsl : sl + 26400 ≤ 7302249) (ct : ∀ (u v : va_W) (cell : Nat → Nat → Nat) (vals : Nat → Nat) (N R w ms ce1 sl1 : Nat), CW (kG K) A cell vals N R w ms u → RW (kG K) o B cell vals N R w ms v → ce1 ≤ ce + 820 → sl1 ≤ sl + 10400 → V K 4 (u ++ (v ++ wz)) ce1 sl1 811 [(0, .ref b), (1, .ref (A 17)), (2, .ref o), (3, .int x)] []) : V K 4 (wx ++ (wy ++ wz)) ce sl 141 [(0, .ref b), (1, .ref (A 17)), (2, .ref o), (3, .int x)] [] := by
  obtain ⟨r, cell2, vals2, N2, R2, w2, ms2, ⟨y, rfl⟩, h1, h2⟩ := jn_name (l := kl K) (G := kG K) (A := A) (o := o) (B := B) hC hR (xs (x + 1).toNatClampNeg)
  obtain ⟨fs1, hm1⟩ := hC.mem
  obtain ⟨fs2, hm2⟩ := hR.mem
  refine v_aload_n hk dL_law_141 rfl ?_
  refine v_aload_n hk dL_law_142 rfl ?_
  refine v_iload_n hk dL_law_143 rfl ?_
  refine v_iconst (v := 1) hk dL_law_144 (by decide) ?_
  refine v_iadd hk dL_law_145 ?_
  refine v_sld hk hX hbl hbA dL_law_146 (hin 1 (by decide) (by decide)) ?_
  refine v_callX (n := 1) (st := []) (T := TX10) (N := 6) hk dL_law_147 h1 rfl gd_L_law_X10_name rfl (by decide +kernel) ⟨Nat.le_of_ble_eq_true rfl, Nat.le_of_ble_eq_true rfl⟩ ⟨show ce + 5000 ≤ 600000 by omega, show sl + 16000 ≤ 7302249 by omega⟩ rfl rfl (Nat.le_of_ble_eq_true rfl) (List.mem_append_left _ hm1) rfl List.perm_append_comm ?_
  rintro _ u ce1 sl1 ⟨rfl, hC2⟩ hc1 hs1
  refine v_aload_n hk dL_law_150 rfl ?_
  refine v_aload_n hk dL_law_151 rfl ?_
  refine v_iload_n hk dL_law_152 rfl ?_
  refine v_iconst (v := 1) hk dL_law_153 (by decide) ?_
  refine v_iadd hk dL_law_154 ?_
  refine v_sld hk hX hbl hbA dL_law_155 (hin 1 (by decide) (by decide)) ?_
  refine v_callX (n := 1) (st := [.int y]) (T := TX11) (N := 39) hk dL_law_156 h2 rfl gd_L_law_X11_name rfl (by decide +kernel) ⟨Nat.le_of_ble_eq_true rfl, Nat.le_of_ble_eq_true rfl⟩ ⟨show ce1 + 5000 ≤ 600000 by omega, show sl1 + 16000 ≤ 7302249 by omega⟩ rfl rfl (Nat.le_of_ble_eq_true rfl) (List.mem_append_left _ (List.mem_append_left _ hm2)) rfl pm3 ?_
  rintro _ v ce2 sl2 ⟨rfl, hR2⟩ hc2 hs2
  refine v_lperm pm4 ?_
  exact v_icmp_eq (tgt := 811) hk dL_law_159 (by decide) (fun _ => ct u v cell2 vals2 N2 R2 w2 ms2 ce2 sl2 hC2 hR2 (by omega) (by omega)) (fun hn => absurd rfl hn)
set_option maxRecDepth 20000 in
theorem lc_row (hk : Ok K cL_law 4 RL w2_L_law room_1) (hX : va_X b L xs (ks K) (ks K).heap) (hbl : b < (ks K).heap.size) (hbA : ¬ kA K b) (hC : CW (kG K) A cell vals N R w ms wx) (hR : RW (kG K) o B cell vals N R w ms wy) (hin : ∀ j : Int32, 0 < j → j < 6 → vp_in (x + j) L) (hce : ce + 5820 ≤ 600000) (hsl : sl + 26400 ≤ 7302249) (ct : ∀ (u v : va_W) (cell : Nat → Nat → Nat) (vals : Nat → Nat) (N R w ms ce1 sl1 : Nat), CW (kG K) A cell vals N R w ms u → RW (kG K) o B cell vals N R w ms v → ce1 ≤ ce + 820 → sl1 ≤ sl + 10400 → V K 4 (u ++ (v ++ wz)) ce1 sl1 811 [(0, .ref b), (1, .ref (A 17)), (2, .ref o), (3, .int x)] []) : V K 4 (wx ++ (wy ++ wz)) ce sl 164 [(0, .ref b), (1, .ref (A 17)), (2, .ref o), (3, .int x)] [] := by
  obtain ⟨r, cell2, vals2, N2, R2, w2, ms2, ⟨y, rfl⟩, h1, h2⟩ := jn_row (l := kl K) (G := kG K) (A := A) (o := o) (B := B) hC hR (xs (x + 1).toNatClampNeg) (xs (x + 2).toNatClampNeg) (xs (x + 3).toNatClampNeg) (xs (x + 4).toNatClampNeg) (xs (x + 5).toNatClampNeg)
  obtain ⟨fs1, hm1⟩ := hC.mem
  obtain ⟨fs2, hm2⟩ := hR.mem
  refine v_aload_n hk dL_law_164 rfl ?_
  refine v_aload_n hk dL_law_165 rfl ?_
  refine v_iload_n hk dL_law_166 rfl ?_
  refine v_iconst (v := 1) hk dL_law_167 (by decide) ?_
  refine v_iadd hk dL_law_168 ?_
  refine v_sld hk hX hbl hbA dL_law_169 (hin 1 (by decide) (by decide)) ?_
  refine v_aload_n hk dL_law_170 rfl ?_
  refine v_iload_n hk dL_law_171 rfl ?_
  refine v_iconst (v := 2) hk dL_law_172 (by decide) ?_
  refine v_iadd hk dL_law_173 ?_
  refine v_sld hk hX hbl hbA dL_law_174 (hin 2 (by decide) (by decide)) ?_
  refine v_aload_n hk dL_law_175 rfl ?_
  refine v_iload_n hk dL_law_176 rfl ?_
  refine v_iconst (v := 3) hk dL_law_177 (by decide) ?_
  refine v_iadd hk dL_law_178 ?_
  refine v_sld hk hX hbl hbA dL_law_179 (hin 3 (by decide) (by decide)) ?_
  refine v_aload_n hk dL_law_180 rfl ?_
  refine v_iload_n hk dL_law_181 rfl ?_
  refine v_iconst (v := 4) hk dL_law_182 (by decide) ?_
  refine v_iadd hk dL_law_183 ?_
  refine v_sld hk hX hbl hbA dL_law_184 (hin 4 (by decide) (by decide)) ?_
  refine v_aload_n hk dL_law_185 rfl ?_
  refine v_iload_n hk dL_law_186 rfl ?_
  refine v_iconst (v := 5) hk dL_law_187 (by decide) ?_
  refine v_iadd hk dL_law_188 ?_
  refine v_sld hk hX hbl hbA dL_law_189 (hin 5 (by decide) (by decide)) ?_
  refine v_callX (n := 5) (st := []) (T := TX10) (N := 6) hk dL_law_190 h1 rfl gd_L_law_X10_row rfl (by decide +kernel) ⟨Nat.le_of_ble_eq_true rfl, Nat.le_of_ble_eq_true rfl⟩ ⟨show ce + 5000 ≤ 600000 by omega, show sl + 16000 ≤ 7302249 by omega⟩ rfl rfl (Nat.le_of_ble_eq_true rfl) (List.mem_append_left _ hm1) rfl List.perm_append_comm ?_
  rintro _ u ce1 sl1 ⟨rfl, hC2⟩ hc1 hs1
  refine v_aload_n hk dL_law_193 rfl ?_
  refine v_aload_n hk dL_law_194 rfl ?_
  refine v_iload_n hk dL_law_195 rfl ?_
  refine v_iconst (v := 1) hk dL_law_196 (by decide) ?_
  refine v_iadd hk dL_law_197 ?_
  refine v_sld hk hX hbl hbA dL_law_198 (hin 1 (by decide) (by decide)) ?_
  refine v_aload_n hk dL_law_199 rfl ?_
  refine v_iload_n hk dL_law_200 rfl ?_
  refine v_iconst (v := 2) hk dL_law_201 (by decide) ?_
  refine v_iadd hk dL_law_202 ?_
  refine v_sld hk hX hbl hbA dL_law_203 (hin 2 (by decide) (by decide)) ?_
  refine v_aload_n hk dL_law_204 rfl ?_
  refine v_iload_n hk dL_law_205 rfl ?_
  refine v_iconst (v := 3) hk dL_law_206 (by decide) ?_
  refine v_iadd hk dL_law_207 ?_
  refine v_sld hk hX hbl hbA dL_law_208 (hin 3 (by decide) (by decide)) ?_
  refine v_aload_n hk dL_law_209 rfl ?_
  refine v_iload_n hk dL_law_210 rfl ?_
  refine v_iconst (v := 4) hk dL_law_211 (by decide) ?_
  refine v_iadd hk dL_law_212 ?_
  refine v_sld hk hX hbl hbA dL_law_213 (hin 4 (by decide) (by decide)) ?_
  refine v_aload_n hk dL_law_214 rfl ?_
  refine v_iload_n hk dL_law_215 rfl ?_
  refine v_iconst (v := 5) hk dL_law_216 (by decide) ?_
  refine v_iadd hk dL_law_217 ?_
  refine v_sld hk hX hbl hbA dL_law_218 (hin 5 (by decide) (by decide)) ?_
  refine v_callX (n := 5) (st := [.int y]) (T := TX11) (N := 39) hk dL_law_219 h2 rfl gd_L_law_X11_row rfl (by decide +kernel) ⟨Nat.le_of_ble_eq_true rfl, Nat.le_of_ble_eq_true rfl⟩ ⟨show ce1 + 5000 ≤ 600000 by omega, show sl1 + 16000 ≤ 7302249 by omega⟩ rfl rfl (Nat.le_of_ble_eq_true rfl) (List.mem_append_left _ (List.mem_append_left _ hm2)) rfl pm3 ?_
  rintro _ v ce2 sl2 ⟨rfl, hR2⟩ hc2 hs2
  refine v_lperm pm4 ?_
  exact v_icmp_eq (tgt := 811) hk dL_law_222 (by decide) (fun _ => ct u v cell2 vals2 N2 R2 w2 ms2 ce2 sl2 hC2 hR2 (by omega) (by omega)) (fun hn => absurd rfl hn)
set_option maxRecDepth 20000 in
theorem lc_drop (hk : Ok K cL_law 4 RL w2_L_law room_1) (hX : va_X b L xs (ks K) (ks K).heap) (hbl : b < (ks K).heap.size) (hbA : ¬ kA K b) (hC : CW (kG K) A cell vals N R w ms wx) (hR : RW (kG K) o B cell vals N R w ms wy) (hin : ∀ j : Int32, 0 < j → j < 6 → vp_in (x + j) L) (hce : ce + 5820 ≤ 600000) (hsl : sl + 26400 ≤ 7302249) (ct : ∀ (u v : va_W) (cell : Nat → Nat → Nat) (vals : Nat → Nat) (N R w ms ce1 sl1 : Nat), CW (kG K) A cell vals N R w ms u → RW (kG K) o B cell vals N R w ms v → ce1 ≤ ce + 820 → sl1 ≤ sl + 10400 → V K 4 (u ++ (v ++ wz)) ce1 sl1 811 [(0, .ref b), (1, .ref (A 17)), (2, .ref o), (3, .int x)] []) : V K 4 (wx ++ (wy ++ wz)) ce sl 227 [(0, .ref b), (1, .ref (A 17)), (2, .ref o), (3, .int x)] [] := by
  obtain ⟨r, cell2, vals2, N2, R2, w2, ms2, ⟨y, rfl⟩, h1, h2⟩ := jn_drop (l := kl K) (G := kG K) (A := A) (o := o) (B := B) hC hR (xs (x + 1).toNatClampNeg)
  obtain ⟨fs1, hm1⟩ := hC.mem
  obtain ⟨fs2, hm2⟩ := hR.mem
  refine v_aload_n hk dL_law_227 rfl ?_
  refine v_aload_n hk dL_law_228 rfl ?_
  refine v_iload_n hk dL_law_229 rfl ?_
  refine v_iconst (v := 1) hk dL_law_230 (by decide) ?_
  refine v_iadd hk dL_law_231 ?_
  refine v_sld hk hX hbl hbA dL_law_232 (hin 1 (by decide) (by decide)) ?_
  refine v_callX (n := 1) (st := []) (T := TX10) (N := 6) hk dL_law_233 h1 rfl gd_L_law_X10_drop rfl (by decide +kernel) ⟨Nat.le_of_ble_eq_true rfl, Nat.le_of_ble_eq_true rfl⟩ ⟨show ce + 5000 ≤ 600000 by omega, show sl + 16000 ≤ 7302249 by omega⟩ rfl rfl (Nat.le_of_ble_eq_true rfl) (List.mem_append_left _ hm1) rfl List.perm_append_comm ?_
  rintro _ u ce1 sl1 ⟨rfl, hC2⟩ hc1 hs1
  refine v_aload_n hk dL_law_236 rfl ?_
  refine v_aload_n hk dL_law_237 rfl ?_
  refine v_iload_n hk dL_law_238 rfl ?_
  refine v_iconst (v := 1) hk dL_law_239 (by decide) ?_
  refine v_iadd hk dL_law_240 ?_
  refine v_sld hk hX hbl hbA dL_law_241 (hin 1 (by decide) (by decide)) ?_
  refine v_callX (n := 1) (st := [.int y]) (T := TX11) (N := 39) hk dL_law_242 h2 rfl gd_L_law_X11_drop rfl (by decide +kernel) ⟨Nat.le_of_ble_eq_true rfl, Nat.le_of_ble_eq_true rfl⟩ ⟨show ce1 + 5000 ≤ 600000 by omega, show sl1 + 16000 ≤ 7302249 by omega⟩ rfl rfl (Nat.le_of_ble_eq_true rfl) (List.mem_append_left _ (List.mem_append_left _ hm2)) rfl pm3 ?_
  rintro _ v ce2 sl2 ⟨rfl, hR2⟩ hc2 hs2
  refine v_lperm pm4 ?_
  exact v_icmp_eq (tgt := 811) hk dL_law_245 (by decide) (fun _ => ct u v cell2 vals2 N2 R2 w2 ms2 ce2 sl2 hC2 hR2 (by omega) (by omega)) (fun hn => absurd rfl hn)
set_option maxRecDepth 20000 in
theorem lc_value (hk : Ok K cL_law 4 RL w2_L_law room_1) (hX : va_X b L xs (ks K) (ks K).heap) (hbl : b < (ks K).heap.size) (hbA : ¬ kA K b) (hC : CW (kG K) A cell vals N R w ms wx) (hR : RW (kG K) o B cell vals N R w ms wy) (hin : ∀ j : Int32, 0 < j → j < 6 → vp_in (x + j) L) (hce : ce + 5820 ≤ 600000) (hsl : sl + 26400 ≤ 7302249) (ct : ∀ (u v : va_W) (cell : Nat → Nat → Nat) (vals : Nat → Nat) (N R w ms ce1 sl1 : Nat), CW (kG K) A cell vals N R w ms u → RW (kG K) o B cell vals N R w ms v → ce1 ≤ ce + 820 → sl1 ≤ sl + 10400 → V K 4 (u ++ (v ++ wz)) ce1 sl1 811 [(0, .ref b), (1, .ref (A 17)), (2, .ref o), (3, .int x)] []) : V K 4 (wx ++ (wy ++ wz)) ce sl 250 [(0, .ref b), (1, .ref (A 17)), (2, .ref o), (3, .int x)] [] := by
  obtain ⟨r, cell2, vals2, N2, R2, w2, ms2, ⟨y, rfl⟩, h1, h2⟩ := jn_value (l := kl K) (G := kG K) (A := A) (o := o) (B := B) hC hR (xs (x + 1).toNatClampNeg) (xs (x + 2).toNatClampNeg)
  obtain ⟨fs1, hm1⟩ := hC.mem
  obtain ⟨fs2, hm2⟩ := hR.mem
  refine v_aload_n hk dL_law_250 rfl ?_
  refine v_aload_n hk dL_law_251 rfl ?_
  refine v_iload_n hk dL_law_252 rfl ?_
  refine v_iconst (v := 1) hk dL_law_253 (by decide) ?_
  refine v_iadd hk dL_law_254 ?_
  refine v_sld hk hX hbl hbA dL_law_255 (hin 1 (by decide) (by decide)) ?_
  refine v_aload_n hk dL_law_256 rfl ?_
  refine v_iload_n hk dL_law_257 rfl ?_
  refine v_iconst (v := 2) hk dL_law_258 (by decide) ?_
  refine v_iadd hk dL_law_259 ?_
  refine v_sld hk hX hbl hbA dL_law_260 (hin 2 (by decide) (by decide)) ?_
  refine v_callX (n := 2) (st := []) (T := TX10) (N := 6) hk dL_law_261 h1 rfl gd_L_law_X10_value rfl (by decide +kernel) ⟨Nat.le_of_ble_eq_true rfl, Nat.le_of_ble_eq_true rfl⟩ ⟨show ce + 5000 ≤ 600000 by omega, show sl + 16000 ≤ 7302249 by omega⟩ rfl rfl (Nat.le_of_ble_eq_true rfl) (List.mem_append_left _ hm1) rfl List.perm_append_comm ?_
  rintro _ u ce1 sl1 ⟨rfl, hC2⟩ hc1 hs1
  refine v_aload_n hk dL_law_264 rfl ?_
  refine v_aload_n hk dL_law_265 rfl ?_
  refine v_iload_n hk dL_law_266 rfl ?_
  refine v_iconst (v := 1) hk dL_law_267 (by decide) ?_
  refine v_iadd hk dL_law_268 ?_
  refine v_sld hk hX hbl hbA dL_law_269 (hin 1 (by decide) (by decide)) ?_
  refine v_aload_n hk dL_law_270 rfl ?_
  refine v_iload_n hk dL_law_271 rfl ?_
  refine v_iconst (v := 2) hk dL_law_272 (by decide) ?_
  refine v_iadd hk dL_law_273 ?_
  refine v_sld hk hX hbl hbA dL_law_274 (hin 2 (by decide) (by decide)) ?_
  refine v_callX (n := 2) (st := [.int y]) (T := TX11) (N := 39) hk dL_law_275 h2 rfl gd_L_law_X11_value rfl (by decide +kernel) ⟨Nat.le_of_ble_eq_true rfl, Nat.le_of_ble_eq_true rfl⟩ ⟨show ce1 + 5000 ≤ 600000 by omega, show sl1 + 16000 ≤ 7302249 by omega⟩ rfl rfl (Nat.le_of_ble_eq_true rfl) (List.mem_append_left _ (List.mem_append_left _ hm2)) rfl pm3 ?_
  rintro _ v ce2 sl2 ⟨rfl, hR2⟩ hc2 hs2
  refine v_lperm pm4 ?_
  exact v_icmp_eq (tgt := 811) hk dL_law_278 (by decide) (fun _ => ct u v cell2 vals2 N2 R2 w2 ms2 ce2 sl2 hC2 hR2 (by omega) (by omega)) (fun hn => absurd rfl hn)
set_option maxRecDepth 20000 in
theorem lc_set (hk : Ok K cL_law 4 RL w2_L_law room_1) (hX : va_X b L xs (ks K) (ks K).heap) (hbl : b < (ks K).heap.size) (hbA : ¬ kA K b) (hC : CW (kG K) A cell vals N R w ms wx) (hR : RW (kG K) o B cell vals N R w ms wy) (hin : ∀ j : Int32, 0 < j → j < 6 → vp_in (x + j) L) (hce : ce + 5820 ≤ 600000) (hsl : sl + 26400 ≤ 7302249) (ct : ∀ (u v : va_W) (cell : Nat → Nat → Nat) (vals : Nat → Nat) (N R w ms ce1 sl1 : Nat), CW (kG K) A cell vals N R w ms u → RW (kG K) o B cell vals N R w ms v → ce1 ≤ ce + 820 → sl1 ≤ sl + 10400 → V K 4 (u ++ (v ++ wz)) ce1 sl1 811 [(0, .ref b), (1, .ref (A 17)), (2, .ref o), (3, .int x)] []) : V K 4 (wx ++ (wy ++ wz)) ce sl 283 [(0, .ref b), (1, .ref (A 17)), (2, .ref o), (3, .int x)] [] := by
  obtain ⟨r, cell2, vals2, N2, R2, w2, ms2, ⟨y, rfl⟩, h1, h2⟩ := jn_set (l := kl K) (G := kG K) (A := A) (o := o) (B := B) hC hR (xs (x + 1).toNatClampNeg) (xs (x + 2).toNatClampNeg)
  obtain ⟨fs1, hm1⟩ := hC.mem
  obtain ⟨fs2, hm2⟩ := hR.mem
  refine v_aload_n hk dL_law_283 rfl ?_
  refine v_aload_n hk dL_law_284 rfl ?_
  refine v_iload_n hk dL_law_285 rfl ?_
  refine v_iconst (v := 1) hk dL_law_286 (by decide) ?_
  refine v_iadd hk dL_law_287 ?_
  refine v_sld hk hX hbl hbA dL_law_288 (hin 1 (by decide) (by decide)) ?_
  refine v_aload_n hk dL_law_289 rfl ?_
  refine v_iload_n hk dL_law_290 rfl ?_
  refine v_iconst (v := 2) hk dL_law_291 (by decide) ?_
  refine v_iadd hk dL_law_292 ?_
  refine v_sld hk hX hbl hbA dL_law_293 (hin 2 (by decide) (by decide)) ?_
  refine v_callX (n := 2) (st := []) (T := TX10) (N := 6) hk dL_law_294 h1 rfl gd_L_law_X10_set rfl (by decide +kernel) ⟨Nat.le_of_ble_eq_true rfl, Nat.le_of_ble_eq_true rfl⟩ ⟨show ce + 5000 ≤ 600000 by omega, show sl + 16000 ≤ 7302249 by omega⟩ rfl rfl (Nat.le_of_ble_eq_true rfl) (List.mem_append_left _ hm1) rfl List.perm_append_comm ?_
  rintro _ u ce1 sl1 ⟨rfl, hC2⟩ hc1 hs1
  refine v_aload_n hk dL_law_297 rfl ?_
  refine v_aload_n hk dL_law_298 rfl ?_
  refine v_iload_n hk dL_law_299 rfl ?_
  refine v_iconst (v := 1) hk dL_law_300 (by decide) ?_
  refine v_iadd hk dL_law_301 ?_
  refine v_sld hk hX hbl hbA dL_law_302 (hin 1 (by decide) (by decide)) ?_
  refine v_aload_n hk dL_law_303 rfl ?_
  refine v_iload_n hk dL_law_304 rfl ?_
  refine v_iconst (v := 2) hk dL_law_305 (by decide) ?_
  refine v_iadd hk dL_law_306 ?_
  refine v_sld hk hX hbl hbA dL_law_307 (hin 2 (by decide) (by decide)) ?_
  refine v_callX (n := 2) (st := [.int y]) (T := TX11) (N := 39) hk dL_law_308 h2 rfl gd_L_law_X11_set rfl (by decide +kernel) ⟨Nat.le_of_ble_eq_true rfl, Nat.le_of_ble_eq_true rfl⟩ ⟨show ce1 + 5000 ≤ 600000 by omega, show sl1 + 16000 ≤ 7302249 by omega⟩ rfl rfl (Nat.le_of_ble_eq_true rfl) (List.mem_append_left _ (List.mem_append_left _ hm2)) rfl pm3 ?_
  rintro _ v ce2 sl2 ⟨rfl, hR2⟩ hc2 hs2
  refine v_lperm pm4 ?_
  exact v_icmp_eq (tgt := 811) hk dL_law_311 (by decide) (fun _ => ct u v cell2 vals2 N2 R2 w2 ms2 ce2 sl2 hC2 hR2 (by omega) (by omega)) (fun hn => absurd rfl hn)
set_option maxRecDepth 20000 in
theorem lc_about (hk : Ok K cL_law 4 RL w2_L_law room_1) (hX : va_X b L xs (ks K) (ks K).heap) (hbl : b < (ks K).heap.size) (hbA : ¬ kA K b) (hC : CW (kG K) A cell vals N R w ms wx) (hR : RW (kG K) o B cell vals N R w ms wy) (hin : ∀ j : Int32, 0 < j → j < 6 → vp_in (x + j) L) (hce : ce + 5820 ≤ 600000) (hsl : sl + 26400 ≤ 7302249) (ct : ∀ (u v : va_W) (cell : Nat → Nat → Nat) (vals : Nat → Nat) (N R w ms ce1 sl1 : Nat), CW (kG K) A cell vals N R w ms u → RW (kG K) o B cell vals N R w ms v → ce1 ≤ ce + 820 → sl1 ≤ sl + 10400 → V K 4 (u ++ (v ++ wz)) ce1 sl1 811 [(0, .ref b), (1, .ref (A 17)), (2, .ref o), (3, .int x)] []) : V K 4 (wx ++ (wy ++ wz)) ce sl 316 [(0, .ref b), (1, .ref (A 17)), (2, .ref o), (3, .int x)] [] := by
  obtain ⟨r, cell2, vals2, N2, R2, w2, ms2, ⟨y, rfl⟩, h1, h2⟩ := jn_about (l := kl K) (G := kG K) (A := A) (o := o) (B := B) hC hR (xs (x + 1).toNatClampNeg)
  obtain ⟨fs1, hm1⟩ := hC.mem
  obtain ⟨fs2, hm2⟩ := hR.mem
  refine v_aload_n hk dL_law_316 rfl ?_
  refine v_aload_n hk dL_law_317 rfl ?_
  refine v_iload_n hk dL_law_318 rfl ?_
  refine v_iconst (v := 1) hk dL_law_319 (by decide) ?_
  refine v_iadd hk dL_law_320 ?_
  refine v_sld hk hX hbl hbA dL_law_321 (hin 1 (by decide) (by decide)) ?_
  refine v_callX (n := 1) (st := []) (T := TX10) (N := 6) hk dL_law_322 h1 rfl gd_L_law_X10_about rfl (by decide +kernel) ⟨Nat.le_of_ble_eq_true rfl, Nat.le_of_ble_eq_true rfl⟩ ⟨show ce + 5000 ≤ 600000 by omega, show sl + 16000 ≤ 7302249 by omega⟩ rfl rfl (Nat.le_of_ble_eq_true rfl) (List.mem_append_left _ hm1) rfl List.perm_append_comm ?_
  rintro _ u ce1 sl1 ⟨rfl, hC2⟩ hc1 hs1
  refine v_aload_n hk dL_law_325 rfl ?_
  refine v_aload_n hk dL_law_326 rfl ?_
  refine v_iload_n hk dL_law_327 rfl ?_
  refine v_iconst (v := 1) hk dL_law_328 (by decide) ?_
  refine v_iadd hk dL_law_329 ?_
  refine v_sld hk hX hbl hbA dL_law_330 (hin 1 (by decide) (by decide)) ?_
  refine v_callX (n := 1) (st := [.int y]) (T := TX11) (N := 39) hk dL_law_331 h2 rfl gd_L_law_X11_about rfl (by decide +kernel) ⟨Nat.le_of_ble_eq_true rfl, Nat.le_of_ble_eq_true rfl⟩ ⟨show ce1 + 5000 ≤ 600000 by omega, show sl1 + 16000 ≤ 7302249 by omega⟩ rfl rfl (Nat.le_of_ble_eq_true rfl) (List.mem_append_left _ (List.mem_append_left _ hm2)) rfl pm3 ?_
  rintro _ v ce2 sl2 ⟨rfl, hR2⟩ hc2 hs2
  refine v_lperm pm4 ?_
  exact v_icmp_eq (tgt := 811) hk dL_law_334 (by decide) (fun _ => ct u v cell2 vals2 N2 R2 w2 ms2 ce2 sl2 hC2 hR2 (by omega) (by omega)) (fun hn => absurd rfl hn)
set_option maxRecDepth 20000 in
theorem lc_isGraph (hk : Ok K cL_law 4 RL w2_L_law room_1) (hX : va_X b L xs (ks K) (ks K).heap) (hbl : b < (ks K).heap.size) (hbA : ¬ kA K b) (hC : CW (kG K) A cell vals N R w ms wx) (hR : RW (kG K) o B cell vals N R w ms wy) (hin : ∀ j : Int32, 0 < j → j < 6 → vp_in (x + j) L) (hce : ce + 5820 ≤ 600000) (hsl : sl + 26400 ≤ 7302249) (ct : ∀ (u v : va_W) (cell : Nat → Nat → Nat) (vals : Nat → Nat) (N R w ms ce1 sl1 : Nat), CW (kG K) A cell vals N R w ms u → RW (kG K) o B cell vals N R w ms v → ce1 ≤ ce + 820 → sl1 ≤ sl + 10400 → V K 4 (u ++ (v ++ wz)) ce1 sl1 811 [(0, .ref b), (1, .ref (A 17)), (2, .ref o), (3, .int x)] []) : V K 4 (wx ++ (wy ++ wz)) ce sl 339 [(0, .ref b), (1, .ref (A 17)), (2, .ref o), (3, .int x)] [] := by
  obtain ⟨r, cell2, vals2, N2, R2, w2, ms2, ⟨y, rfl⟩, h1, h2⟩ := jn_isGraph (l := kl K) (G := kG K) (A := A) (o := o) (B := B) hC hR (xs (x + 1).toNatClampNeg)
  obtain ⟨fs1, hm1⟩ := hC.mem
  obtain ⟨fs2, hm2⟩ := hR.mem
  refine v_aload_n hk dL_law_339 rfl ?_
  refine v_aload_n hk dL_law_340 rfl ?_
  refine v_iload_n hk dL_law_341 rfl ?_
  refine v_iconst (v := 1) hk dL_law_342 (by decide) ?_
  refine v_iadd hk dL_law_343 ?_
  refine v_sld hk hX hbl hbA dL_law_344 (hin 1 (by decide) (by decide)) ?_
  refine v_callX (n := 1) (st := []) (T := TX10) (N := 6) hk dL_law_345 h1 rfl gd_L_law_X10_isGraph rfl (by decide +kernel) ⟨Nat.le_of_ble_eq_true rfl, Nat.le_of_ble_eq_true rfl⟩ ⟨show ce + 5000 ≤ 600000 by omega, show sl + 16000 ≤ 7302249 by omega⟩ rfl rfl (Nat.le_of_ble_eq_true rfl) (List.mem_append_left _ hm1) rfl List.perm_append_comm ?_
  rintro _ u ce1 sl1 ⟨rfl, hC2⟩ hc1 hs1
  refine v_aload_n hk dL_law_348 rfl ?_
  refine v_aload_n hk dL_law_349 rfl ?_
  refine v_iload_n hk dL_law_350 rfl ?_
  refine v_iconst (v := 1) hk dL_law_351 (by decide) ?_
  refine v_iadd hk dL_law_352 ?_
  refine v_sld hk hX hbl hbA dL_law_353 (hin 1 (by decide) (by decide)) ?_
  refine v_callX (n := 1) (st := [.int y]) (T := TX11) (N := 39) hk dL_law_354 h2 rfl gd_L_law_X11_isGraph rfl (by decide +kernel) ⟨Nat.le_of_ble_eq_true rfl, Nat.le_of_ble_eq_true rfl⟩ ⟨show ce1 + 5000 ≤ 600000 by omega, show sl1 + 16000 ≤ 7302249 by omega⟩ rfl rfl (Nat.le_of_ble_eq_true rfl) (List.mem_append_left _ (List.mem_append_left _ hm2)) rfl pm3 ?_
  rintro _ v ce2 sl2 ⟨rfl, hR2⟩ hc2 hs2
  refine v_lperm pm4 ?_
  exact v_icmp_eq (tgt := 811) hk dL_law_357 (by decide) (fun _ => ct u v cell2 vals2 N2 R2 w2 ms2 ce2 sl2 hC2 hR2 (by omega) (by omega)) (fun hn => absurd rfl hn)
set_option maxRecDepth 20000 in
theorem lc_order (hk : Ok K cL_law 4 RL w2_L_law room_1) (hX : va_X b L xs (ks K) (ks K).heap) (hbl : b < (ks K).heap.size) (hbA : ¬ kA K b) (hC : CW (kG K) A cell vals N R w ms wx) (hR : RW (kG K) o B cell vals N R w ms wy) (hin : ∀ j : Int32, 0 < j → j < 6 → vp_in (x + j) L) (hce : ce + 5820 ≤ 600000) (hsl : sl + 26400 ≤ 7302249) (ct : ∀ (u v : va_W) (cell : Nat → Nat → Nat) (vals : Nat → Nat) (N R w ms ce1 sl1 : Nat), CW (kG K) A cell vals N R w ms u → RW (kG K) o B cell vals N R w ms v → ce1 ≤ ce + 820 → sl1 ≤ sl + 10400 → V K 4 (u ++ (v ++ wz)) ce1 sl1 811 [(0, .ref b), (1, .ref (A 17)), (2, .ref o), (3, .int x)] []) : V K 4 (wx ++ (wy ++ wz)) ce sl 362 [(0, .ref b), (1, .ref (A 17)), (2, .ref o), (3, .int x)] [] := by
  obtain ⟨r, cell2, vals2, N2, R2, w2, ms2, ⟨y, rfl⟩, h1, h2⟩ := jn_order (l := kl K) (G := kG K) (A := A) (o := o) (B := B) hC hR (xs (x + 1).toNatClampNeg) (xs (x + 2).toNatClampNeg)
  obtain ⟨fs1, hm1⟩ := hC.mem
  obtain ⟨fs2, hm2⟩ := hR.mem
  refine v_aload_n hk dL_law_362 rfl ?_
  refine v_aload_n hk dL_law_363 rfl ?_
  refine v_iload_n hk dL_law_364 rfl ?_
  refine v_iconst (v := 1) hk dL_law_365 (by decide) ?_
  refine v_iadd hk dL_law_366 ?_
  refine v_sld hk hX hbl hbA dL_law_367 (hin 1 (by decide) (by decide)) ?_
  refine v_aload_n hk dL_law_368 rfl ?_
  refine v_iload_n hk dL_law_369 rfl ?_
  refine v_iconst (v := 2) hk dL_law_370 (by decide) ?_
  refine v_iadd hk dL_law_371 ?_
  refine v_sld hk hX hbl hbA dL_law_372 (hin 2 (by decide) (by decide)) ?_
  refine v_callX (n := 2) (st := []) (T := TX10) (N := 6) hk dL_law_373 h1 rfl gd_L_law_X10_order rfl (by decide +kernel) ⟨Nat.le_of_ble_eq_true rfl, Nat.le_of_ble_eq_true rfl⟩ ⟨show ce + 5000 ≤ 600000 by omega, show sl + 16000 ≤ 7302249 by omega⟩ rfl rfl (Nat.le_of_ble_eq_true rfl) (List.mem_append_left _ hm1) rfl List.perm_append_comm ?_
  rintro _ u ce1 sl1 ⟨rfl, hC2⟩ hc1 hs1
  refine v_aload_n hk dL_law_376 rfl ?_
  refine v_aload_n hk dL_law_377 rfl ?_
  refine v_iload_n hk dL_law_378 rfl ?_
  refine v_iconst (v := 1) hk dL_law_379 (by decide) ?_
  refine v_iadd hk dL_law_380 ?_
  refine v_sld hk hX hbl hbA dL_law_381 (hin 1 (by decide) (by decide)) ?_
  refine v_aload_n hk dL_law_382 rfl ?_
  refine v_iload_n hk dL_law_383 rfl ?_
  refine v_iconst (v := 2) hk dL_law_384 (by decide) ?_
  refine v_iadd hk dL_law_385 ?_
  refine v_sld hk hX hbl hbA dL_law_386 (hin 2 (by decide) (by decide)) ?_
  refine v_callX (n := 2) (st := [.int y]) (T := TX11) (N := 39) hk dL_law_387 h2 rfl gd_L_law_X11_order rfl (by decide +kernel) ⟨Nat.le_of_ble_eq_true rfl, Nat.le_of_ble_eq_true rfl⟩ ⟨show ce1 + 5000 ≤ 600000 by omega, show sl1 + 16000 ≤ 7302249 by omega⟩ rfl rfl (Nat.le_of_ble_eq_true rfl) (List.mem_append_left _ (List.mem_append_left _ hm2)) rfl pm3 ?_
  rintro _ v ce2 sl2 ⟨rfl, hR2⟩ hc2 hs2
  refine v_lperm pm4 ?_
  exact v_icmp_eq (tgt := 811) hk dL_law_390 (by decide) (fun _ => ct u v cell2 vals2 N2 R2 w2 ms2 ce2 sl2 hC2 hR2 (by omega) (by omega)) (fun hn => absurd rfl hn)
set_option maxRecDepth 20000 in
theorem lc_size (hk : Ok K cL_law 4 RL w2_L_law room_1) (hX : va_X b L xs (ks K) (ks K).heap) (hbl : b < (ks K).heap.size) (hbA : ¬ kA K b) (hC : CW (kG K) A cell vals N R w ms wx) (hR : RW (kG K) o B cell vals N R w ms wy) (hin : ∀ j : Int32, 0 < j → j < 6 → vp_in (x + j) L) (hce : ce + 5820 ≤ 600000) (hsl : sl + 26400 ≤ 7302249) (ct : ∀ (u v : va_W) (cell : Nat → Nat → Nat) (vals : Nat → Nat) (N R w ms ce1 sl1 : Nat), CW (kG K) A cell vals N R w ms u → RW (kG K) o B cell vals N R w ms v → ce1 ≤ ce + 820 → sl1 ≤ sl + 10400 → V K 4 (u ++ (v ++ wz)) ce1 sl1 811 [(0, .ref b), (1, .ref (A 17)), (2, .ref o), (3, .int x)] []) : V K 4 (wx ++ (wy ++ wz)) ce sl 395 [(0, .ref b), (1, .ref (A 17)), (2, .ref o), (3, .int x)] [] := by
  obtain ⟨r, cell2, vals2, N2, R2, w2, ms2, ⟨y, rfl⟩, h1, h2⟩ := jn_size (l := kl K) (G := kG K) (A := A) (o := o) (B := B) hC hR (xs (x + 1).toNatClampNeg) (xs (x + 2).toNatClampNeg)
  obtain ⟨fs1, hm1⟩ := hC.mem
  obtain ⟨fs2, hm2⟩ := hR.mem
  refine v_aload_n hk dL_law_395 rfl ?_
  refine v_aload_n hk dL_law_396 rfl ?_
  refine v_iload_n hk dL_law_397 rfl ?_
  refine v_iconst (v := 1) hk dL_law_398 (by decide) ?_
  refine v_iadd hk dL_law_399 ?_
  refine v_sld hk hX hbl hbA dL_law_400 (hin 1 (by decide) (by decide)) ?_
  refine v_aload_n hk dL_law_401 rfl ?_
  refine v_iload_n hk dL_law_402 rfl ?_
  refine v_iconst (v := 2) hk dL_law_403 (by decide) ?_
  refine v_iadd hk dL_law_404 ?_
  refine v_sld hk hX hbl hbA dL_law_405 (hin 2 (by decide) (by decide)) ?_
  refine v_callX (n := 2) (st := []) (T := TX10) (N := 6) hk dL_law_406 h1 rfl gd_L_law_X10_size rfl (by decide +kernel) ⟨Nat.le_of_ble_eq_true rfl, Nat.le_of_ble_eq_true rfl⟩ ⟨show ce + 5000 ≤ 600000 by omega, show sl + 16000 ≤ 7302249 by omega⟩ rfl rfl (Nat.le_of_ble_eq_true rfl) (List.mem_append_left _ hm1) rfl List.perm_append_comm ?_
  rintro _ u ce1 sl1 ⟨rfl, hC2⟩ hc1 hs1
  refine v_aload_n hk dL_law_409 rfl ?_
  refine v_aload_n hk dL_law_410 rfl ?_
  refine v_iload_n hk dL_law_411 rfl ?_
  refine v_iconst (v := 1) hk dL_law_412 (by decide) ?_
  refine v_iadd hk dL_law_413 ?_
  refine v_sld hk hX hbl hbA dL_law_414 (hin 1 (by decide) (by decide)) ?_
  refine v_aload_n hk dL_law_415 rfl ?_
  refine v_iload_n hk dL_law_416 rfl ?_
  refine v_iconst (v := 2) hk dL_law_417 (by decide) ?_
  refine v_iadd hk dL_law_418 ?_
  refine v_sld hk hX hbl hbA dL_law_419 (hin 2 (by decide) (by decide)) ?_
  refine v_callX (n := 2) (st := [.int y]) (T := TX11) (N := 39) hk dL_law_420 h2 rfl gd_L_law_X11_size rfl (by decide +kernel) ⟨Nat.le_of_ble_eq_true rfl, Nat.le_of_ble_eq_true rfl⟩ ⟨show ce1 + 5000 ≤ 600000 by omega, show sl1 + 16000 ≤ 7302249 by omega⟩ rfl rfl (Nat.le_of_ble_eq_true rfl) (List.mem_append_left _ (List.mem_append_left _ hm2)) rfl pm3 ?_
  rintro _ v ce2 sl2 ⟨rfl, hR2⟩ hc2 hs2
  refine v_lperm pm4 ?_
  exact v_icmp_eq (tgt := 811) hk dL_law_423 (by decide) (fun _ => ct u v cell2 vals2 N2 R2 w2 ms2 ce2 sl2 hC2 hR2 (by omega) (by omega)) (fun hn => absurd rfl hn)
set_option maxRecDepth 20000 in
theorem lc_word (hk : Ok K cL_law 4 RL w2_L_law room_1) (hX : va_X b L xs (ks K) (ks K).heap) (hbl : b < (ks K).heap.size) (hbA : ¬ kA K b) (hC : CW (kG K) A cell vals N R w ms wx) (hR : RW (kG K) o B cell vals N R w ms wy) (hin : ∀ j : Int32, 0 < j → j < 6 → vp_in (x + j) L) (hce : ce + 5820 ≤ 600000) (hsl : sl + 26400 ≤ 7302249) (ct : ∀ (u v : va_W) (cell : Nat → Nat → Nat) (vals : Nat → Nat) (N R w ms ce1 sl1 : Nat), CW (kG K) A cell vals N R w ms u → RW (kG K) o B cell vals N R w ms v → ce1 ≤ ce + 820 → sl1 ≤ sl + 10400 → V K 4 (u ++ (v ++ wz)) ce1 sl1 811 [(0, .ref b), (1, .ref (A 17)), (2, .ref o), (3, .int x)] []) : V K 4 (wx ++ (wy ++ wz)) ce sl 428 [(0, .ref b), (1, .ref (A 17)), (2, .ref o), (3, .int x)] [] := by
  obtain ⟨r, cell2, vals2, N2, R2, w2, ms2, ⟨y, rfl⟩, h1, h2⟩ := jn_word (l := kl K) (G := kG K) (A := A) (o := o) (B := B) hC hR (xs (x + 1).toNatClampNeg) (xs (x + 2).toNatClampNeg) (xs (x + 3).toNatClampNeg)
  obtain ⟨fs1, hm1⟩ := hC.mem
  obtain ⟨fs2, hm2⟩ := hR.mem
  refine v_aload_n hk dL_law_428 rfl ?_
  refine v_aload_n hk dL_law_429 rfl ?_
  refine v_iload_n hk dL_law_430 rfl ?_
  refine v_iconst (v := 1) hk dL_law_431 (by decide) ?_
  refine v_iadd hk dL_law_432 ?_
  refine v_sld hk hX hbl hbA dL_law_433 (hin 1 (by decide) (by decide)) ?_
  refine v_aload_n hk dL_law_434 rfl ?_
  refine v_iload_n hk dL_law_435 rfl ?_
  refine v_iconst (v := 2) hk dL_law_436 (by decide) ?_
  refine v_iadd hk dL_law_437 ?_
  refine v_sld hk hX hbl hbA dL_law_438 (hin 2 (by decide) (by decide)) ?_
  refine v_aload_n hk dL_law_439 rfl ?_
  refine v_iload_n hk dL_law_440 rfl ?_
  refine v_iconst (v := 3) hk dL_law_441 (by decide) ?_
  refine v_iadd hk dL_law_442 ?_
  refine v_sld hk hX hbl hbA dL_law_443 (hin 3 (by decide) (by decide)) ?_
  refine v_callX (n := 3) (st := []) (T := TX10) (N := 6) hk dL_law_444 h1 rfl gd_L_law_X10_word rfl (by decide +kernel) ⟨Nat.le_of_ble_eq_true rfl, Nat.le_of_ble_eq_true rfl⟩ ⟨show ce + 5000 ≤ 600000 by omega, show sl + 16000 ≤ 7302249 by omega⟩ rfl rfl (Nat.le_of_ble_eq_true rfl) (List.mem_append_left _ hm1) rfl List.perm_append_comm ?_
  rintro _ u ce1 sl1 ⟨rfl, hC2⟩ hc1 hs1
  refine v_aload_n hk dL_law_447 rfl ?_
  refine v_aload_n hk dL_law_448 rfl ?_
  refine v_iload_n hk dL_law_449 rfl ?_
  refine v_iconst (v := 1) hk dL_law_450 (by decide) ?_
  refine v_iadd hk dL_law_451 ?_
  refine v_sld hk hX hbl hbA dL_law_452 (hin 1 (by decide) (by decide)) ?_
  refine v_aload_n hk dL_law_453 rfl ?_
  refine v_iload_n hk dL_law_454 rfl ?_
  refine v_iconst (v := 2) hk dL_law_455 (by decide) ?_
  refine v_iadd hk dL_law_456 ?_
  refine v_sld hk hX hbl hbA dL_law_457 (hin 2 (by decide) (by decide)) ?_
  refine v_aload_n hk dL_law_458 rfl ?_
  refine v_iload_n hk dL_law_459 rfl ?_
  refine v_iconst (v := 3) hk dL_law_460 (by decide) ?_
  refine v_iadd hk dL_law_461 ?_
  refine v_sld hk hX hbl hbA dL_law_462 (hin 3 (by decide) (by decide)) ?_
  refine v_callX (n := 3) (st := [.long y]) (T := TX11) (N := 39) hk dL_law_463 h2 rfl gd_L_law_X11_word rfl (by decide +kernel) ⟨Nat.le_of_ble_eq_true rfl, Nat.le_of_ble_eq_true rfl⟩ ⟨show ce1 + 5000 ≤ 600000 by omega, show sl1 + 16000 ≤ 7302249 by omega⟩ rfl rfl (Nat.le_of_ble_eq_true rfl) (List.mem_append_left _ (List.mem_append_left _ hm2)) rfl pm3 ?_
  rintro _ v ce2 sl2 ⟨rfl, hR2⟩ hc2 hs2
  refine v_lperm pm4 ?_
  refine v_lcmp hk dL_law_466 ?_
  exact v_if_eq (tgt := 811) hk dL_law_467 (by decide) (fun _ => ct u v cell2 vals2 N2 R2 w2 ms2 ce2 sl2 hC2 hR2 (by omega) (by omega)) (fun hn => absurd (lgc_self y) hn)
set_option maxRecDepth 20000 in
theorem lc_compare (hk : Ok K cL_law 4 RL w2_L_law room_1) (hX : va_X b L xs (ks K) (ks K).heap) (hbl : b < (ks K).heap.size) (hbA : ¬ kA K b) (hC : CW (kG K) A cell vals N R w ms wx) (hR : RW (kG K) o B cell vals N R w ms wy) (hin : ∀ j : Int32, 0 < j → j < 6 → vp_in (x + j) L) (hce : ce + 5820 ≤ 600000) (hsl : sl + 26400 ≤ 7302249) (ct : ∀ (u v : va_W) (cell : Nat → Nat → Nat) (vals : Nat → Nat) (N R w ms ce1 sl1 : Nat), CW (kG K) A cell vals N R w ms u → RW (kG K) o B cell vals N R w ms v → ce1 ≤ ce + 820 → sl1 ≤ sl + 10400 → V K 4 (u ++ (v ++ wz)) ce1 sl1 811 [(0, .ref b), (1, .ref (A 17)), (2, .ref o), (3, .int x)] []) : V K 4 (wx ++ (wy ++ wz)) ce sl 472 [(0, .ref b), (1, .ref (A 17)), (2, .ref o), (3, .int x)] [] := by
  obtain ⟨r, cell2, vals2, N2, R2, w2, ms2, ⟨y, rfl⟩, h1, h2⟩ := jn_compare (l := kl K) (G := kG K) (A := A) (o := o) (B := B) hC hR (xs (x + 1).toNatClampNeg) (xs (x + 2).toNatClampNeg)
  obtain ⟨fs1, hm1⟩ := hC.mem
  obtain ⟨fs2, hm2⟩ := hR.mem
  refine v_aload_n hk dL_law_472 rfl ?_
  refine v_aload_n hk dL_law_473 rfl ?_
  refine v_iload_n hk dL_law_474 rfl ?_
  refine v_iconst (v := 1) hk dL_law_475 (by decide) ?_
  refine v_iadd hk dL_law_476 ?_
  refine v_sld hk hX hbl hbA dL_law_477 (hin 1 (by decide) (by decide)) ?_
  refine v_aload_n hk dL_law_478 rfl ?_
  refine v_iload_n hk dL_law_479 rfl ?_
  refine v_iconst (v := 2) hk dL_law_480 (by decide) ?_
  refine v_iadd hk dL_law_481 ?_
  refine v_sld hk hX hbl hbA dL_law_482 (hin 2 (by decide) (by decide)) ?_
  refine v_callX (n := 2) (st := []) (T := TX10) (N := 6) hk dL_law_483 h1 rfl gd_L_law_X10_compare rfl (by decide +kernel) ⟨Nat.le_of_ble_eq_true rfl, Nat.le_of_ble_eq_true rfl⟩ ⟨show ce + 5000 ≤ 600000 by omega, show sl + 16000 ≤ 7302249 by omega⟩ rfl rfl (Nat.le_of_ble_eq_true rfl) (List.mem_append_left _ hm1) rfl List.perm_append_comm ?_
  rintro _ u ce1 sl1 ⟨rfl, hC2⟩ hc1 hs1
  refine v_aload_n hk dL_law_486 rfl ?_
  refine v_aload_n hk dL_law_487 rfl ?_
  refine v_iload_n hk dL_law_488 rfl ?_
  refine v_iconst (v := 1) hk dL_law_489 (by decide) ?_
  refine v_iadd hk dL_law_490 ?_
  refine v_sld hk hX hbl hbA dL_law_491 (hin 1 (by decide) (by decide)) ?_
  refine v_aload_n hk dL_law_492 rfl ?_
  refine v_iload_n hk dL_law_493 rfl ?_
  refine v_iconst (v := 2) hk dL_law_494 (by decide) ?_
  refine v_iadd hk dL_law_495 ?_
  refine v_sld hk hX hbl hbA dL_law_496 (hin 2 (by decide) (by decide)) ?_
  refine v_callX (n := 2) (st := [.int y]) (T := TX11) (N := 39) hk dL_law_497 h2 rfl gd_L_law_X11_compare rfl (by decide +kernel) ⟨Nat.le_of_ble_eq_true rfl, Nat.le_of_ble_eq_true rfl⟩ ⟨show ce1 + 5000 ≤ 600000 by omega, show sl1 + 16000 ≤ 7302249 by omega⟩ rfl rfl (Nat.le_of_ble_eq_true rfl) (List.mem_append_left _ (List.mem_append_left _ hm2)) rfl pm3 ?_
  rintro _ v ce2 sl2 ⟨rfl, hR2⟩ hc2 hs2
  refine v_lperm pm4 ?_
  exact v_icmp_eq (tgt := 811) hk dL_law_500 (by decide) (fun _ => ct u v cell2 vals2 N2 R2 w2 ms2 ce2 sl2 hC2 hR2 (by omega) (by omega)) (fun hn => absurd rfl hn)
set_option maxRecDepth 20000 in
theorem lc_parents (hk : Ok K cL_law 4 RL w2_L_law room_1) (hX : va_X b L xs (ks K) (ks K).heap) (hbl : b < (ks K).heap.size) (hbA : ¬ kA K b) (hC : CW (kG K) A cell vals N R w ms wx) (hR : RW (kG K) o B cell vals N R w ms wy) (hin : ∀ j : Int32, 0 < j → j < 6 → vp_in (x + j) L) (hce : ce + 5820 ≤ 600000) (hsl : sl + 26400 ≤ 7302249) (ct : ∀ (u v : va_W) (cell : Nat → Nat → Nat) (vals : Nat → Nat) (N R w ms ce1 sl1 : Nat), CW (kG K) A cell vals N R w ms u → RW (kG K) o B cell vals N R w ms v → ce1 ≤ ce + 820 → sl1 ≤ sl + 10400 → V K 4 (u ++ (v ++ wz)) ce1 sl1 811 [(0, .ref b), (1, .ref (A 17)), (2, .ref o), (3, .int x)] []) : V K 4 (wx ++ (wy ++ wz)) ce sl 505 [(0, .ref b), (1, .ref (A 17)), (2, .ref o), (3, .int x)] [] := by
  obtain ⟨r, cell2, vals2, N2, R2, w2, ms2, ⟨y, rfl⟩, h1, h2⟩ := jn_parents (l := kl K) (G := kG K) (A := A) (o := o) (B := B) hC hR (xs (x + 1).toNatClampNeg) (xs (x + 2).toNatClampNeg)
  obtain ⟨fs1, hm1⟩ := hC.mem
  obtain ⟨fs2, hm2⟩ := hR.mem
  refine v_aload_n hk dL_law_505 rfl ?_
  refine v_aload_n hk dL_law_506 rfl ?_
  refine v_iload_n hk dL_law_507 rfl ?_
  refine v_iconst (v := 1) hk dL_law_508 (by decide) ?_
  refine v_iadd hk dL_law_509 ?_
  refine v_sld hk hX hbl hbA dL_law_510 (hin 1 (by decide) (by decide)) ?_
  refine v_aload_n hk dL_law_511 rfl ?_
  refine v_iload_n hk dL_law_512 rfl ?_
  refine v_iconst (v := 2) hk dL_law_513 (by decide) ?_
  refine v_iadd hk dL_law_514 ?_
  refine v_sld hk hX hbl hbA dL_law_515 (hin 2 (by decide) (by decide)) ?_
  refine v_callX (n := 2) (st := []) (T := TX10) (N := 6) hk dL_law_516 h1 rfl gd_L_law_X10_parents rfl (by decide +kernel) ⟨Nat.le_of_ble_eq_true rfl, Nat.le_of_ble_eq_true rfl⟩ ⟨show ce + 5000 ≤ 600000 by omega, show sl + 16000 ≤ 7302249 by omega⟩ rfl rfl (Nat.le_of_ble_eq_true rfl) (List.mem_append_left _ hm1) rfl List.perm_append_comm ?_
  rintro _ u ce1 sl1 ⟨rfl, hC2⟩ hc1 hs1
  refine v_aload_n hk dL_law_519 rfl ?_
  refine v_aload_n hk dL_law_520 rfl ?_
  refine v_iload_n hk dL_law_521 rfl ?_
  refine v_iconst (v := 1) hk dL_law_522 (by decide) ?_
  refine v_iadd hk dL_law_523 ?_
  refine v_sld hk hX hbl hbA dL_law_524 (hin 1 (by decide) (by decide)) ?_
  refine v_aload_n hk dL_law_525 rfl ?_
  refine v_iload_n hk dL_law_526 rfl ?_
  refine v_iconst (v := 2) hk dL_law_527 (by decide) ?_
  refine v_iadd hk dL_law_528 ?_
  refine v_sld hk hX hbl hbA dL_law_529 (hin 2 (by decide) (by decide)) ?_
  refine v_callX (n := 2) (st := [.int y]) (T := TX11) (N := 39) hk dL_law_530 h2 rfl gd_L_law_X11_parents rfl (by decide +kernel) ⟨Nat.le_of_ble_eq_true rfl, Nat.le_of_ble_eq_true rfl⟩ ⟨show ce1 + 5000 ≤ 600000 by omega, show sl1 + 16000 ≤ 7302249 by omega⟩ rfl rfl (Nat.le_of_ble_eq_true rfl) (List.mem_append_left _ (List.mem_append_left _ hm2)) rfl pm3 ?_
  rintro _ v ce2 sl2 ⟨rfl, hR2⟩ hc2 hs2
  refine v_lperm pm4 ?_
  exact v_icmp_eq (tgt := 811) hk dL_law_533 (by decide) (fun _ => ct u v cell2 vals2 N2 R2 w2 ms2 ce2 sl2 hC2 hR2 (by omega) (by omega)) (fun hn => absurd rfl hn)
set_option maxRecDepth 20000 in
theorem lc_best (hk : Ok K cL_law 4 RL w2_L_law room_1) (hX : va_X b L xs (ks K) (ks K).heap) (hbl : b < (ks K).heap.size) (hbA : ¬ kA K b) (hC : CW (kG K) A cell vals N R w ms wx) (hR : RW (kG K) o B cell vals N R w ms wy) (hin : ∀ j : Int32, 0 < j → j < 6 → vp_in (x + j) L) (hce : ce + 5820 ≤ 600000) (hsl : sl + 26400 ≤ 7302249) (ct : ∀ (u v : va_W) (cell : Nat → Nat → Nat) (vals : Nat → Nat) (N R w ms ce1 sl1 : Nat), CW (kG K) A cell vals N R w ms u → RW (kG K) o B cell vals N R w ms v → ce1 ≤ ce + 820 → sl1 ≤ sl + 10400 → V K 4 (u ++ (v ++ wz)) ce1 sl1 811 [(0, .ref b), (1, .ref (A 17)), (2, .ref o), (3, .int x)] []) : V K 4 (wx ++ (wy ++ wz)) ce sl 538 [(0, .ref b), (1, .ref (A 17)), (2, .ref o), (3, .int x)] [] := by
  obtain ⟨r, cell2, vals2, N2, R2, w2, ms2, ⟨y, rfl⟩, h1, h2⟩ := jn_best (l := kl K) (G := kG K) (A := A) (o := o) (B := B) hC hR
  obtain ⟨fs1, hm1⟩ := hC.mem
  obtain ⟨fs2, hm2⟩ := hR.mem
  refine v_aload_n hk dL_law_538 rfl ?_
  refine v_callX (n := 0) (st := []) (T := TX10) (N := 6) hk dL_law_539 h1 rfl gd_L_law_X10_best rfl (by decide +kernel) ⟨Nat.le_of_ble_eq_true rfl, Nat.le_of_ble_eq_true rfl⟩ ⟨show ce + 5000 ≤ 600000 by omega, show sl + 16000 ≤ 7302249 by omega⟩ rfl rfl (Nat.le_of_ble_eq_true rfl) (List.mem_append_left _ hm1) rfl List.perm_append_comm ?_
  rintro _ u ce1 sl1 ⟨rfl, hC2⟩ hc1 hs1
  refine v_aload_n hk dL_law_542 rfl ?_
  refine v_callX (n := 0) (st := [.int y]) (T := TX11) (N := 39) hk dL_law_543 h2 rfl gd_L_law_X11_best rfl (by decide +kernel) ⟨Nat.le_of_ble_eq_true rfl, Nat.le_of_ble_eq_true rfl⟩ ⟨show ce1 + 5000 ≤ 600000 by omega, show sl1 + 16000 ≤ 7302249 by omega⟩ rfl rfl (Nat.le_of_ble_eq_true rfl) (List.mem_append_left _ (List.mem_append_left _ hm2)) rfl pm3 ?_
  rintro _ v ce2 sl2 ⟨rfl, hR2⟩ hc2 hs2
  refine v_lperm pm4 ?_
  exact v_icmp_eq (tgt := 811) hk dL_law_546 (by decide) (fun _ => ct u v cell2 vals2 N2 R2 w2 ms2 ce2 sl2 hC2 hR2 (by omega) (by omega)) (fun hn => absurd rfl hn)
set_option maxRecDepth 20000 in
theorem lc_climb (hk : Ok K cL_law 4 RL w2_L_law room_1) (hX : va_X b L xs (ks K) (ks K).heap) (hbl : b < (ks K).heap.size) (hbA : ¬ kA K b) (hC : CW (kG K) A cell vals N R w ms wx) (hR : RW (kG K) o B cell vals N R w ms wy) (hin : ∀ j : Int32, 0 < j → j < 6 → vp_in (x + j) L) (hce : ce + 5820 ≤ 600000) (hsl : sl + 26400 ≤ 7302249) (ct : ∀ (u v : va_W) (cell : Nat → Nat → Nat) (vals : Nat → Nat) (N R w ms ce1 sl1 : Nat), CW (kG K) A cell vals N R w ms u → RW (kG K) o B cell vals N R w ms v → ce1 ≤ ce + 820 → sl1 ≤ sl + 10400 → V K 4 (u ++ (v ++ wz)) ce1 sl1 811 [(0, .ref b), (1, .ref (A 17)), (2, .ref o), (3, .int x)] []) : V K 4 (wx ++ (wy ++ wz)) ce sl 551 [(0, .ref b), (1, .ref (A 17)), (2, .ref o), (3, .int x)] [] := by
  obtain ⟨r, cell2, vals2, N2, R2, w2, ms2, ⟨y, rfl⟩, h1, h2⟩ := jn_climb (l := kl K) (G := kG K) (A := A) (o := o) (B := B) hC hR (xs (x + 1).toNatClampNeg) (xs (x + 2).toNatClampNeg)
  obtain ⟨fs1, hm1⟩ := hC.mem
  obtain ⟨fs2, hm2⟩ := hR.mem
  refine v_aload_n hk dL_law_551 rfl ?_
  refine v_aload_n hk dL_law_552 rfl ?_
  refine v_iload_n hk dL_law_553 rfl ?_
  refine v_iconst (v := 1) hk dL_law_554 (by decide) ?_
  refine v_iadd hk dL_law_555 ?_
  refine v_sld hk hX hbl hbA dL_law_556 (hin 1 (by decide) (by decide)) ?_
  refine v_aload_n hk dL_law_557 rfl ?_
  refine v_iload_n hk dL_law_558 rfl ?_
  refine v_iconst (v := 2) hk dL_law_559 (by decide) ?_
  refine v_iadd hk dL_law_560 ?_
  refine v_sld hk hX hbl hbA dL_law_561 (hin 2 (by decide) (by decide)) ?_
  refine v_callX (n := 2) (st := []) (T := TX10) (N := 6) hk dL_law_562 h1 rfl gd_L_law_X10_climb rfl (by decide +kernel) ⟨Nat.le_of_ble_eq_true rfl, Nat.le_of_ble_eq_true rfl⟩ ⟨show ce + 5000 ≤ 600000 by omega, show sl + 16000 ≤ 7302249 by omega⟩ rfl rfl (Nat.le_of_ble_eq_true rfl) (List.mem_append_left _ hm1) rfl List.perm_append_comm ?_
  rintro _ u ce1 sl1 ⟨rfl, hC2⟩ hc1 hs1
  refine v_aload_n hk dL_law_565 rfl ?_
  refine v_aload_n hk dL_law_566 rfl ?_
  refine v_iload_n hk dL_law_567 rfl ?_
  refine v_iconst (v := 1) hk dL_law_568 (by decide) ?_
  refine v_iadd hk dL_law_569 ?_
  refine v_sld hk hX hbl hbA dL_law_570 (hin 1 (by decide) (by decide)) ?_
  refine v_aload_n hk dL_law_571 rfl ?_
  refine v_iload_n hk dL_law_572 rfl ?_
  refine v_iconst (v := 2) hk dL_law_573 (by decide) ?_
  refine v_iadd hk dL_law_574 ?_
  refine v_sld hk hX hbl hbA dL_law_575 (hin 2 (by decide) (by decide)) ?_
  refine v_callX (n := 2) (st := [.int y]) (T := TX11) (N := 39) hk dL_law_576 h2 rfl gd_L_law_X11_climb rfl (by decide +kernel) ⟨Nat.le_of_ble_eq_true rfl, Nat.le_of_ble_eq_true rfl⟩ ⟨show ce1 + 5000 ≤ 600000 by omega, show sl1 + 16000 ≤ 7302249 by omega⟩ rfl rfl (Nat.le_of_ble_eq_true rfl) (List.mem_append_left _ (List.mem_append_left _ hm2)) rfl pm3 ?_
  rintro _ v ce2 sl2 ⟨rfl, hR2⟩ hc2 hs2
  refine v_lperm pm4 ?_
  exact v_icmp_eq (tgt := 811) hk dL_law_579 (by decide) (fun _ => ct u v cell2 vals2 N2 R2 w2 ms2 ce2 sl2 hC2 hR2 (by omega) (by omega)) (fun hn => absurd rfl hn)
set_option maxRecDepth 20000 in
theorem lc_alike (hk : Ok K cL_law 4 RL w2_L_law room_1) (hX : va_X b L xs (ks K) (ks K).heap) (hbl : b < (ks K).heap.size) (hbA : ¬ kA K b) (hC : CW (kG K) A cell vals N R w ms wx) (hR : RW (kG K) o B cell vals N R w ms wy) (hin : ∀ j : Int32, 0 < j → j < 6 → vp_in (x + j) L) (hce : ce + 5820 ≤ 600000) (hsl : sl + 26400 ≤ 7302249) (ct : ∀ (u v : va_W) (cell : Nat → Nat → Nat) (vals : Nat → Nat) (N R w ms ce1 sl1 : Nat), CW (kG K) A cell vals N R w ms u → RW (kG K) o B cell vals N R w ms v → ce1 ≤ ce + 820 → sl1 ≤ sl + 10400 → V K 4 (u ++ (v ++ wz)) ce1 sl1 811 [(0, .ref b), (1, .ref (A 17)), (2, .ref o), (3, .int x)] []) : V K 4 (wx ++ (wy ++ wz)) ce sl 584 [(0, .ref b), (1, .ref (A 17)), (2, .ref o), (3, .int x)] [] := by
  obtain ⟨r, cell2, vals2, N2, R2, w2, ms2, ⟨y, rfl⟩, h1, h2⟩ := jn_alike (l := kl K) (G := kG K) (A := A) (o := o) (B := B) hC hR (xs (x + 1).toNatClampNeg) (xs (x + 2).toNatClampNeg)
  obtain ⟨fs1, hm1⟩ := hC.mem
  obtain ⟨fs2, hm2⟩ := hR.mem
  refine v_aload_n hk dL_law_584 rfl ?_
  refine v_aload_n hk dL_law_585 rfl ?_
  refine v_iload_n hk dL_law_586 rfl ?_
  refine v_iconst (v := 1) hk dL_law_587 (by decide) ?_
  refine v_iadd hk dL_law_588 ?_
  refine v_sld hk hX hbl hbA dL_law_589 (hin 1 (by decide) (by decide)) ?_
  refine v_aload_n hk dL_law_590 rfl ?_
  refine v_iload_n hk dL_law_591 rfl ?_
  refine v_iconst (v := 2) hk dL_law_592 (by decide) ?_
  refine v_iadd hk dL_law_593 ?_
  refine v_sld hk hX hbl hbA dL_law_594 (hin 2 (by decide) (by decide)) ?_
  refine v_callX (n := 2) (st := []) (T := TX10) (N := 6) hk dL_law_595 h1 rfl gd_L_law_X10_alike rfl (by decide +kernel) ⟨Nat.le_of_ble_eq_true rfl, Nat.le_of_ble_eq_true rfl⟩ ⟨show ce + 5000 ≤ 600000 by omega, show sl + 16000 ≤ 7302249 by omega⟩ rfl rfl (Nat.le_of_ble_eq_true rfl) (List.mem_append_left _ hm1) rfl List.perm_append_comm ?_
  rintro _ u ce1 sl1 ⟨rfl, hC2⟩ hc1 hs1
  refine v_aload_n hk dL_law_598 rfl ?_
  refine v_aload_n hk dL_law_599 rfl ?_
  refine v_iload_n hk dL_law_600 rfl ?_
  refine v_iconst (v := 1) hk dL_law_601 (by decide) ?_
  refine v_iadd hk dL_law_602 ?_
  refine v_sld hk hX hbl hbA dL_law_603 (hin 1 (by decide) (by decide)) ?_
  refine v_aload_n hk dL_law_604 rfl ?_
  refine v_iload_n hk dL_law_605 rfl ?_
  refine v_iconst (v := 2) hk dL_law_606 (by decide) ?_
  refine v_iadd hk dL_law_607 ?_
  refine v_sld hk hX hbl hbA dL_law_608 (hin 2 (by decide) (by decide)) ?_
  refine v_callX (n := 2) (st := [.int y]) (T := TX11) (N := 39) hk dL_law_609 h2 rfl gd_L_law_X11_alike rfl (by decide +kernel) ⟨Nat.le_of_ble_eq_true rfl, Nat.le_of_ble_eq_true rfl⟩ ⟨show ce1 + 5000 ≤ 600000 by omega, show sl1 + 16000 ≤ 7302249 by omega⟩ rfl rfl (Nat.le_of_ble_eq_true rfl) (List.mem_append_left _ (List.mem_append_left _ hm2)) rfl pm3 ?_
  rintro _ v ce2 sl2 ⟨rfl, hR2⟩ hc2 hs2
  refine v_lperm pm4 ?_
  exact v_icmp_eq (tgt := 811) hk dL_law_612 (by decide) (fun _ => ct u v cell2 vals2 N2 R2 w2 ms2 ce2 sl2 hC2 hR2 (by omega) (by omega)) (fun hn => absurd rfl hn)
set_option maxRecDepth 20000 in
theorem lc_kin (hk : Ok K cL_law 4 RL w2_L_law room_1) (hX : va_X b L xs (ks K) (ks K).heap) (hbl : b < (ks K).heap.size) (hbA : ¬ kA K b) (hC : CW (kG K) A cell vals N R w ms wx) (hR : RW (kG K) o B cell vals N R w ms wy) (hin : ∀ j : Int32, 0 < j → j < 6 → vp_in (x + j) L) (hce : ce + 5820 ≤ 600000) (hsl : sl + 26400 ≤ 7302249) (ct : ∀ (u v : va_W) (cell : Nat → Nat → Nat) (vals : Nat → Nat) (N R w ms ce1 sl1 : Nat), CW (kG K) A cell vals N R w ms u → RW (kG K) o B cell vals N R w ms v → ce1 ≤ ce + 820 → sl1 ≤ sl + 10400 → V K 4 (u ++ (v ++ wz)) ce1 sl1 811 [(0, .ref b), (1, .ref (A 17)), (2, .ref o), (3, .int x)] []) : V K 4 (wx ++ (wy ++ wz)) ce sl 617 [(0, .ref b), (1, .ref (A 17)), (2, .ref o), (3, .int x)] [] := by
  obtain ⟨r, cell2, vals2, N2, R2, w2, ms2, ⟨y, rfl⟩, h1, h2⟩ := jn_kin (l := kl K) (G := kG K) (A := A) (o := o) (B := B) hC hR (xs (x + 1).toNatClampNeg) (xs (x + 2).toNatClampNeg)
  obtain ⟨fs1, hm1⟩ := hC.mem
  obtain ⟨fs2, hm2⟩ := hR.mem
  refine v_aload_n hk dL_law_617 rfl ?_
  refine v_aload_n hk dL_law_618 rfl ?_
  refine v_iload_n hk dL_law_619 rfl ?_
  refine v_iconst (v := 1) hk dL_law_620 (by decide) ?_
  refine v_iadd hk dL_law_621 ?_
  refine v_sld hk hX hbl hbA dL_law_622 (hin 1 (by decide) (by decide)) ?_
  refine v_aload_n hk dL_law_623 rfl ?_
  refine v_iload_n hk dL_law_624 rfl ?_
  refine v_iconst (v := 2) hk dL_law_625 (by decide) ?_
  refine v_iadd hk dL_law_626 ?_
  refine v_sld hk hX hbl hbA dL_law_627 (hin 2 (by decide) (by decide)) ?_
  refine v_callX (n := 2) (st := []) (T := TX10) (N := 6) hk dL_law_628 h1 rfl gd_L_law_X10_kin rfl (by decide +kernel) ⟨Nat.le_of_ble_eq_true rfl, Nat.le_of_ble_eq_true rfl⟩ ⟨show ce + 5000 ≤ 600000 by omega, show sl + 16000 ≤ 7302249 by omega⟩ rfl rfl (Nat.le_of_ble_eq_true rfl) (List.mem_append_left _ hm1) rfl List.perm_append_comm ?_
  rintro _ u ce1 sl1 ⟨rfl, hC2⟩ hc1 hs1
  refine v_aload_n hk dL_law_631 rfl ?_
  refine v_aload_n hk dL_law_632 rfl ?_
  refine v_iload_n hk dL_law_633 rfl ?_
  refine v_iconst (v := 1) hk dL_law_634 (by decide) ?_
  refine v_iadd hk dL_law_635 ?_
  refine v_sld hk hX hbl hbA dL_law_636 (hin 1 (by decide) (by decide)) ?_
  refine v_aload_n hk dL_law_637 rfl ?_
  refine v_iload_n hk dL_law_638 rfl ?_
  refine v_iconst (v := 2) hk dL_law_639 (by decide) ?_
  refine v_iadd hk dL_law_640 ?_
  refine v_sld hk hX hbl hbA dL_law_641 (hin 2 (by decide) (by decide)) ?_
  refine v_callX (n := 2) (st := [.int y]) (T := TX11) (N := 39) hk dL_law_642 h2 rfl gd_L_law_X11_kin rfl (by decide +kernel) ⟨Nat.le_of_ble_eq_true rfl, Nat.le_of_ble_eq_true rfl⟩ ⟨show ce1 + 5000 ≤ 600000 by omega, show sl1 + 16000 ≤ 7302249 by omega⟩ rfl rfl (Nat.le_of_ble_eq_true rfl) (List.mem_append_left _ (List.mem_append_left _ hm2)) rfl pm3 ?_
  rintro _ v ce2 sl2 ⟨rfl, hR2⟩ hc2 hs2
  refine v_lperm pm4 ?_
  exact v_icmp_eq (tgt := 811) hk dL_law_645 (by decide) (fun _ => ct u v cell2 vals2 N2 R2 w2 ms2 ce2 sl2 hC2 hR2 (by omega) (by omega)) (fun hn => absurd rfl hn)
set_option maxRecDepth 20000 in
theorem lc_shareSize (hk : Ok K cL_law 4 RL w2_L_law room_1) (hX : va_X b L xs (ks K) (ks K).heap) (hbl : b < (ks K).heap.size) (hbA : ¬ kA K b) (hC : CW (kG K) A cell vals N R w ms wx) (hR : RW (kG K) o B cell vals N R w ms wy) (hin : ∀ j : Int32, 0 < j → j < 6 → vp_in (x + j) L) (hce : ce + 5820 ≤ 600000) (hsl : sl + 26400 ≤ 7302249) (ct : ∀ (u v : va_W) (cell : Nat → Nat → Nat) (vals : Nat → Nat) (N R w ms ce1 sl1 : Nat), CW (kG K) A cell vals N R w ms u → RW (kG K) o B cell vals N R w ms v → ce1 ≤ ce + 820 → sl1 ≤ sl + 10400 → V K 4 (u ++ (v ++ wz)) ce1 sl1 811 [(0, .ref b), (1, .ref (A 17)), (2, .ref o), (3, .int x)] []) : V K 4 (wx ++ (wy ++ wz)) ce sl 650 [(0, .ref b), (1, .ref (A 17)), (2, .ref o), (3, .int x)] [] := by
  obtain ⟨r, cell2, vals2, N2, R2, w2, ms2, ⟨y, rfl⟩, h1, h2⟩ := jn_shareSize (l := kl K) (G := kG K) (A := A) (o := o) (B := B) hC hR (xs (x + 1).toNatClampNeg) (xs (x + 2).toNatClampNeg) (xs (x + 3).toNatClampNeg)
  obtain ⟨fs1, hm1⟩ := hC.mem
  obtain ⟨fs2, hm2⟩ := hR.mem
  refine v_aload_n hk dL_law_650 rfl ?_
  refine v_aload_n hk dL_law_651 rfl ?_
  refine v_iload_n hk dL_law_652 rfl ?_
  refine v_iconst (v := 1) hk dL_law_653 (by decide) ?_
  refine v_iadd hk dL_law_654 ?_
  refine v_sld hk hX hbl hbA dL_law_655 (hin 1 (by decide) (by decide)) ?_
  refine v_aload_n hk dL_law_656 rfl ?_
  refine v_iload_n hk dL_law_657 rfl ?_
  refine v_iconst (v := 2) hk dL_law_658 (by decide) ?_
  refine v_iadd hk dL_law_659 ?_
  refine v_sld hk hX hbl hbA dL_law_660 (hin 2 (by decide) (by decide)) ?_
  refine v_aload_n hk dL_law_661 rfl ?_
  refine v_iload_n hk dL_law_662 rfl ?_
  refine v_iconst (v := 3) hk dL_law_663 (by decide) ?_
  refine v_iadd hk dL_law_664 ?_
  refine v_sld hk hX hbl hbA dL_law_665 (hin 3 (by decide) (by decide)) ?_
  refine v_callX (n := 3) (st := []) (T := TX10) (N := 6) hk dL_law_666 h1 rfl gd_L_law_X10_shareSize rfl (by decide +kernel) ⟨Nat.le_of_ble_eq_true rfl, Nat.le_of_ble_eq_true rfl⟩ ⟨show ce + 5000 ≤ 600000 by omega, show sl + 16000 ≤ 7302249 by omega⟩ rfl rfl (Nat.le_of_ble_eq_true rfl) (List.mem_append_left _ hm1) rfl List.perm_append_comm ?_
  rintro _ u ce1 sl1 ⟨rfl, hC2⟩ hc1 hs1
  refine v_aload_n hk dL_law_669 rfl ?_
  refine v_aload_n hk dL_law_670 rfl ?_
  refine v_iload_n hk dL_law_671 rfl ?_
  refine v_iconst (v := 1) hk dL_law_672 (by decide) ?_
  refine v_iadd hk dL_law_673 ?_
  refine v_sld hk hX hbl hbA dL_law_674 (hin 1 (by decide) (by decide)) ?_
  refine v_aload_n hk dL_law_675 rfl ?_
  refine v_iload_n hk dL_law_676 rfl ?_
  refine v_iconst (v := 2) hk dL_law_677 (by decide) ?_
  refine v_iadd hk dL_law_678 ?_
  refine v_sld hk hX hbl hbA dL_law_679 (hin 2 (by decide) (by decide)) ?_
  refine v_aload_n hk dL_law_680 rfl ?_
  refine v_iload_n hk dL_law_681 rfl ?_
  refine v_iconst (v := 3) hk dL_law_682 (by decide) ?_
  refine v_iadd hk dL_law_683 ?_
  refine v_sld hk hX hbl hbA dL_law_684 (hin 3 (by decide) (by decide)) ?_
  refine v_callX (n := 3) (st := [.int y]) (T := TX11) (N := 39) hk dL_law_685 h2 rfl gd_L_law_X11_shareSize rfl (by decide +kernel) ⟨Nat.le_of_ble_eq_true rfl, Nat.le_of_ble_eq_true rfl⟩ ⟨show ce1 + 5000 ≤ 600000 by omega, show sl1 + 16000 ≤ 7302249 by omega⟩ rfl rfl (Nat.le_of_ble_eq_true rfl) (List.mem_append_left _ (List.mem_append_left _ hm2)) rfl pm3 ?_
  rintro _ v ce2 sl2 ⟨rfl, hR2⟩ hc2 hs2
  refine v_lperm pm4 ?_
  exact v_icmp_eq (tgt := 811) hk dL_law_688 (by decide) (fun _ => ct u v cell2 vals2 N2 R2 w2 ms2 ce2 sl2 hC2 hR2 (by omega) (by omega)) (fun hn => absurd rfl hn)
set_option maxRecDepth 20000 in
theorem lc_shareWord (hk : Ok K cL_law 4 RL w2_L_law room_1) (hX : va_X b L xs (ks K) (ks K).heap) (hbl : b < (ks K).heap.size) (hbA : ¬ kA K b) (hC : CW (kG K) A cell vals N R w ms wx) (hR : RW (kG K) o B cell vals N R w ms wy) (hin : ∀ j : Int32, 0 < j → j < 6 → vp_in (x + j) L) (hce : ce + 5820 ≤ 600000) (hsl : sl + 26400 ≤ 7302249) (ct : ∀ (u v : va_W) (cell : Nat → Nat → Nat) (vals : Nat → Nat) (N R w ms ce1 sl1 : Nat), CW (kG K) A cell vals N R w ms u → RW (kG K) o B cell vals N R w ms v → ce1 ≤ ce + 820 → sl1 ≤ sl + 10400 → V K 4 (u ++ (v ++ wz)) ce1 sl1 811 [(0, .ref b), (1, .ref (A 17)), (2, .ref o), (3, .int x)] []) : V K 4 (wx ++ (wy ++ wz)) ce sl 693 [(0, .ref b), (1, .ref (A 17)), (2, .ref o), (3, .int x)] [] := by
  obtain ⟨r, cell2, vals2, N2, R2, w2, ms2, ⟨y, rfl⟩, h1, h2⟩ := jn_shareWord (l := kl K) (G := kG K) (A := A) (o := o) (B := B) hC hR (xs (x + 1).toNatClampNeg) (xs (x + 2).toNatClampNeg) (xs (x + 3).toNatClampNeg) (xs (x + 4).toNatClampNeg)
  obtain ⟨fs1, hm1⟩ := hC.mem
  obtain ⟨fs2, hm2⟩ := hR.mem
  refine v_aload_n hk dL_law_693 rfl ?_
  refine v_aload_n hk dL_law_694 rfl ?_
  refine v_iload_n hk dL_law_695 rfl ?_
  refine v_iconst (v := 1) hk dL_law_696 (by decide) ?_
  refine v_iadd hk dL_law_697 ?_
  refine v_sld hk hX hbl hbA dL_law_698 (hin 1 (by decide) (by decide)) ?_
  refine v_aload_n hk dL_law_699 rfl ?_
  refine v_iload_n hk dL_law_700 rfl ?_
  refine v_iconst (v := 2) hk dL_law_701 (by decide) ?_
  refine v_iadd hk dL_law_702 ?_
  refine v_sld hk hX hbl hbA dL_law_703 (hin 2 (by decide) (by decide)) ?_
  refine v_aload_n hk dL_law_704 rfl ?_
  refine v_iload_n hk dL_law_705 rfl ?_
  refine v_iconst (v := 3) hk dL_law_706 (by decide) ?_
  refine v_iadd hk dL_law_707 ?_
  refine v_sld hk hX hbl hbA dL_law_708 (hin 3 (by decide) (by decide)) ?_
  refine v_aload_n hk dL_law_709 rfl ?_
  refine v_iload_n hk dL_law_710 rfl ?_
  refine v_iconst (v := 4) hk dL_law_711 (by decide) ?_
  refine v_iadd hk dL_law_712 ?_
  refine v_sld hk hX hbl hbA dL_law_713 (hin 4 (by decide) (by decide)) ?_
  refine v_callX (n := 4) (st := []) (T := TX10) (N := 6) hk dL_law_714 h1 rfl gd_L_law_X10_shareWord rfl (by decide +kernel) ⟨Nat.le_of_ble_eq_true rfl, Nat.le_of_ble_eq_true rfl⟩ ⟨show ce + 5000 ≤ 600000 by omega, show sl + 16000 ≤ 7302249 by omega⟩ rfl rfl (Nat.le_of_ble_eq_true rfl) (List.mem_append_left _ hm1) rfl List.perm_append_comm ?_
  rintro _ u ce1 sl1 ⟨rfl, hC2⟩ hc1 hs1
  refine v_aload_n hk dL_law_717 rfl ?_
  refine v_aload_n hk dL_law_718 rfl ?_
  refine v_iload_n hk dL_law_719 rfl ?_
  refine v_iconst (v := 1) hk dL_law_720 (by decide) ?_
  refine v_iadd hk dL_law_721 ?_
  refine v_sld hk hX hbl hbA dL_law_722 (hin 1 (by decide) (by decide)) ?_
  refine v_aload_n hk dL_law_723 rfl ?_
  refine v_iload_n hk dL_law_724 rfl ?_
  refine v_iconst (v := 2) hk dL_law_725 (by decide) ?_
  refine v_iadd hk dL_law_726 ?_
  refine v_sld hk hX hbl hbA dL_law_727 (hin 2 (by decide) (by decide)) ?_
  refine v_aload_n hk dL_law_728 rfl ?_
  refine v_iload_n hk dL_law_729 rfl ?_
  refine v_iconst (v := 3) hk dL_law_730 (by decide) ?_
  refine v_iadd hk dL_law_731 ?_
  refine v_sld hk hX hbl hbA dL_law_732 (hin 3 (by decide) (by decide)) ?_
  refine v_aload_n hk dL_law_733 rfl ?_
  refine v_iload_n hk dL_law_734 rfl ?_
  refine v_iconst (v := 4) hk dL_law_735 (by decide) ?_
  refine v_iadd hk dL_law_736 ?_
  refine v_sld hk hX hbl hbA dL_law_737 (hin 4 (by decide) (by decide)) ?_
  refine v_callX (n := 4) (st := [.long y]) (T := TX11) (N := 39) hk dL_law_738 h2 rfl gd_L_law_X11_shareWord rfl (by decide +kernel) ⟨Nat.le_of_ble_eq_true rfl, Nat.le_of_ble_eq_true rfl⟩ ⟨show ce1 + 5000 ≤ 600000 by omega, show sl1 + 16000 ≤ 7302249 by omega⟩ rfl rfl (Nat.le_of_ble_eq_true rfl) (List.mem_append_left _ (List.mem_append_left _ hm2)) rfl pm3 ?_
  rintro _ v ce2 sl2 ⟨rfl, hR2⟩ hc2 hs2
  refine v_lperm pm4 ?_
  refine v_lcmp hk dL_law_741 ?_
  exact v_if_eq (tgt := 811) hk dL_law_742 (by decide) (fun _ => ct u v cell2 vals2 N2 R2 w2 ms2 ce2 sl2 hC2 hR2 (by omega) (by omega)) (fun hn => absurd (lgc_self y) hn)
set_option maxRecDepth 20000 in
theorem lc_test (hk : Ok K cL_law 4 RL w2_L_law room_1) (hX : va_X b L xs (ks K) (ks K).heap) (hbl : b < (ks K).heap.size) (hbA : ¬ kA K b) (hC : CW (kG K) A cell vals N R w ms wx) (hR : RW (kG K) o B cell vals N R w ms wy) (hin : ∀ j : Int32, 0 < j → j < 6 → vp_in (x + j) L) (hce : ce + 5820 ≤ 600000) (hsl : sl + 26400 ≤ 7302249) (ct : ∀ (u v : va_W) (cell : Nat → Nat → Nat) (vals : Nat → Nat) (N R w ms ce1 sl1 : Nat), CW (kG K) A cell vals N R w ms u → RW (kG K) o B cell vals N R w ms v → ce1 ≤ ce + 820 → sl1 ≤ sl + 10400 → V K 4 (u ++ (v ++ wz)) ce1 sl1 811 [(0, .ref b), (1, .ref (A 17)), (2, .ref o), (3, .int x)] []) : V K 4 (wx ++ (wy ++ wz)) ce sl 747 [(0, .ref b), (1, .ref (A 17)), (2, .ref o), (3, .int x)] [] := by
  obtain ⟨r, cell2, vals2, N2, R2, w2, ms2, ⟨y, rfl⟩, h1, h2⟩ := jn_test (l := kl K) (G := kG K) (A := A) (o := o) (B := B) hC hR (xs (x + 1).toNatClampNeg) (xs (x + 2).toNatClampNeg) (xs (x + 3).toNatClampNeg) (xs (x + 4).toNatClampNeg) (xs (x + 5).toNatClampNeg)
  obtain ⟨fs1, hm1⟩ := hC.mem
  obtain ⟨fs2, hm2⟩ := hR.mem
  refine v_aload_n hk dL_law_747 rfl ?_
  refine v_aload_n hk dL_law_748 rfl ?_
  refine v_iload_n hk dL_law_749 rfl ?_
  refine v_iconst (v := 1) hk dL_law_750 (by decide) ?_
  refine v_iadd hk dL_law_751 ?_
  refine v_sld hk hX hbl hbA dL_law_752 (hin 1 (by decide) (by decide)) ?_
  refine v_aload_n hk dL_law_753 rfl ?_
  refine v_iload_n hk dL_law_754 rfl ?_
  refine v_iconst (v := 2) hk dL_law_755 (by decide) ?_
  refine v_iadd hk dL_law_756 ?_
  refine v_sld hk hX hbl hbA dL_law_757 (hin 2 (by decide) (by decide)) ?_
  refine v_aload_n hk dL_law_758 rfl ?_
  refine v_iload_n hk dL_law_759 rfl ?_
  refine v_iconst (v := 3) hk dL_law_760 (by decide) ?_
  refine v_iadd hk dL_law_761 ?_
  refine v_sld hk hX hbl hbA dL_law_762 (hin 3 (by decide) (by decide)) ?_
  refine v_aload_n hk dL_law_763 rfl ?_
  refine v_iload_n hk dL_law_764 rfl ?_
  refine v_iconst (v := 4) hk dL_law_765 (by decide) ?_
  refine v_iadd hk dL_law_766 ?_
  refine v_sld hk hX hbl hbA dL_law_767 (hin 4 (by decide) (by decide)) ?_
  refine v_aload_n hk dL_law_768 rfl ?_
  refine v_iload_n hk dL_law_769 rfl ?_
  refine v_iconst (v := 5) hk dL_law_770 (by decide) ?_
  refine v_iadd hk dL_law_771 ?_
  refine v_sld hk hX hbl hbA dL_law_772 (hin 5 (by decide) (by decide)) ?_
  refine v_callX (n := 5) (st := []) (T := TX10) (N := 6) hk dL_law_773 h1 rfl gd_L_law_X10_test rfl (by decide +kernel) ⟨Nat.le_of_ble_eq_true rfl, Nat.le_of_ble_eq_true rfl⟩ ⟨show ce + 5000 ≤ 600000 by omega, show sl + 16000 ≤ 7302249 by omega⟩ rfl rfl (Nat.le_of_ble_eq_true rfl) (List.mem_append_left _ hm1) rfl List.perm_append_comm ?_
  rintro _ u ce1 sl1 ⟨rfl, hC2⟩ hc1 hs1
  refine v_aload_n hk dL_law_776 rfl ?_
  refine v_aload_n hk dL_law_777 rfl ?_
  refine v_iload_n hk dL_law_778 rfl ?_
  refine v_iconst (v := 1) hk dL_law_779 (by decide) ?_
  refine v_iadd hk dL_law_780 ?_
  refine v_sld hk hX hbl hbA dL_law_781 (hin 1 (by decide) (by decide)) ?_
  refine v_aload_n hk dL_law_782 rfl ?_
  refine v_iload_n hk dL_law_783 rfl ?_
  refine v_iconst (v := 2) hk dL_law_784 (by decide) ?_
  refine v_iadd hk dL_law_785 ?_
  refine v_sld hk hX hbl hbA dL_law_786 (hin 2 (by decide) (by decide)) ?_
  refine v_aload_n hk dL_law_787 rfl ?_
  refine v_iload_n hk dL_law_788 rfl ?_
  refine v_iconst (v := 3) hk dL_law_789 (by decide) ?_
  refine v_iadd hk dL_law_790 ?_
  refine v_sld hk hX hbl hbA dL_law_791 (hin 3 (by decide) (by decide)) ?_
  refine v_aload_n hk dL_law_792 rfl ?_
  refine v_iload_n hk dL_law_793 rfl ?_
  refine v_iconst (v := 4) hk dL_law_794 (by decide) ?_
  refine v_iadd hk dL_law_795 ?_
  refine v_sld hk hX hbl hbA dL_law_796 (hin 4 (by decide) (by decide)) ?_
  refine v_aload_n hk dL_law_797 rfl ?_
  refine v_iload_n hk dL_law_798 rfl ?_
  refine v_iconst (v := 5) hk dL_law_799 (by decide) ?_
  refine v_iadd hk dL_law_800 ?_
  refine v_sld hk hX hbl hbA dL_law_801 (hin 5 (by decide) (by decide)) ?_
  refine v_callX (n := 5) (st := [.long y]) (T := TX11) (N := 39) hk dL_law_802 h2 rfl gd_L_law_X11_test rfl (by decide +kernel) ⟨Nat.le_of_ble_eq_true rfl, Nat.le_of_ble_eq_true rfl⟩ ⟨show ce1 + 5000 ≤ 600000 by omega, show sl1 + 16000 ≤ 7302249 by omega⟩ rfl rfl (Nat.le_of_ble_eq_true rfl) (List.mem_append_left _ (List.mem_append_left _ hm2)) rfl pm3 ?_
  rintro _ v ce2 sl2 ⟨rfl, hR2⟩ hc2 hs2
  refine v_lperm pm4 ?_
  refine v_lcmp hk dL_law_805 ?_
  exact v_if_eq (tgt := 811) hk dL_law_806 (by decide) (fun _ => ct u v cell2 vals2 N2 R2 w2 ms2 ce2 sl2 hC2 hR2 (by omega) (by omega)) (fun hn => absurd (lgc_self y) hn)
end LC
