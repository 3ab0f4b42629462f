/-! THE CLAIM OUT OF ONE WALK OF THE LAW'S BODY. Your part is whole_start (and what it stands on); all else here is the same for every law, but numbers. -/
def R_law : String := "DewBaronLaw"
def lw_P (b : Addr) (xs : List Int32) (args : Array Value) (s : State) : Prop := args = #[.ref b] ∧ s.IntsAt b xs ∧ xs.length ≤ 3072 ∧ (Jvm.Cond.and given_1 narrow_1).before args s = true
def lw_Q (_ : Array Value) (s : State) (o : Outcome) (t : State) : Prop := o = .returned (some (.int 1)) ∧ Framed s o t [] 600000 7302250
def lw_Z (below : List Frame) (a : Array Value) (s : State) : State → Prop := fun t => ∃ o, t.status = .running ∧ Ended t below o ∧ lw_Q a s o t
/-- the law's own end, with 1 on the stack, nothing written that was there before, its room as the claim has it -/
theorem lw_ret {p : Program} {l : Launch} {e : Env} {s : State} {m : MethodId} {below : List Frame} {meth : Method} {c : Code} {b : Nat} (hx : p.tables.exec = Jvm.exec) (hb : c.code = code) (hr : meth.sig.returnType = ret) (hlocks : meth.locks = false) {pc : Nat} {H : Heap} {ls : Array Slot} (hdg : decode code pc = .ok (.ireturn, 1)) : W p l e room_1 s m #[Value.ref b] below meth c H [] 600000 7302250 (lw_Z below #[Value.ref b] s) (F0 m pc ls [.int 1]) := by
  intro T hT X
  obtain ⟨fs, hret, hrun, hended, hW, hframe⟩ := X.leave (v := some (.int 1)) (hlocks := hlocks) (fun h => by rw [hr] at h; cases h)
  have hmeth' : T.vm.method? m = some meth := X.method'
  refine ⟨T.setFrames fs, ?_, .returned (some (.int 1)), hrun, hended, rfl, ⟨_, rfl⟩, hW, hframe⟩
  jvm_step X.here [X.here.top, hx, hb, hdg, hmeth', hr, ret, narrow_b1]
  (try refine ⟨rfl, ?_⟩); (try refine ⟨rfl, ?_⟩)
  first | (intro acts; rw [hret _ acts rfl rfl rfl]) | rw [hret _ _ rfl rfl rfl]
  exact Steps.refl _
/-- what holds at the law's entry: the machine, the code, the tables' words (any of lw_tbl by 'hts w (by decide +kernel)'), the script of L ints xs at the cell b, what the Statement gives of the start (any of its parts by flat_of_before) -/
def lw_At (p : Program) (s : State) (m : MethodId) (meth : Method) (c : Code) (b L : Nat) (xs : Nat → Int32) : Prop :=
  p.tables.exec = Jvm.exec ∧ c.code = code ∧ meth.sig.returnType = ret ∧ c.maxLocals = 4 ∧ s.vm.findClass R_law = some m.cls ∧ (∀ w ∈ lw_tbl, w.before #[Value.ref b] s = true) ∧ va_X b L xs s s.heap ∧ b < s.heap.size ∧ meth.locks = false ∧ (Jvm.Cond.and given_1 narrow_1).before #[Value.ref b] s = true
/-- the script, and the law's end -/
def SX (g : Gm) (w : Wd) (xs : Nat → Int) (LL : Nat) : Prop := va_X (wA w 1000) LL (fun j => Int32.ofInt (xs j)) (gs g) (gs g).heap ∧ wA w 1000 < (gs g).heap.size ∧ wB w = (gs g).heap.size ∧ LL ≤ 3072 ∧ (∀ j, inI (xs j)) ∧ ga g = #[Value.ref (wA w 1000)]
def JL (g : Gm) (w : Wd) (pc : Nat) (l3 : Int) (m : Mem) : Prop := Jd g w 4 room_1 (lw_Z (gb g) #[Value.ref (wA w 1000)] (gs g)) pc [some (vR 1000), some (vR 3), some (vR 264), some (vI l3)] [] 312 m 600000 7302250
section JLW
variable {g : Gm} {w : Wd} {own : String} {cc : ByteArray} {nL : Nat} {rt : Option FieldType} {R : Room} {Q : State → Prop} {pc : Nat} {ls : List (Option V)} {st : List V} {n : Nat} {m : Mem} {cs sl : Nat} {α : Type} {out : α} {xs : Nat → Int} {LL : Nat}
theorem j_slen (C : Cx g w own cc nL rt) (SC : SX g w xs LL) (d : decode cc pc = .ok (.arraylength, 1)) (kk : Jd g w nL R Q (pc + 1) ls (vI (LL : Int) :: st) n m cs sl) : Jd g w nL R Q pc ls (vR 1000 :: st) n m cs sl := by
  intro H locs la hR hS hl ho hs
  obtain ⟨s1, s2, s3, s4, s5, s6⟩ := SC
  exact va_slen C.1 C.2.1 s1 s2 (by unfold aw; omega) hS d (kk H locs la hR hS hl ho ⟨by show inI _; unfold inI; omega, hs.2⟩)
theorem j_sld (C : Cx g w own cc nL rt) (SC : SX g w xs LL) {i : Int} {K : Int → Option α} (d : decode cc pc = .ok (.iaload, 1)) (h : (sld xs LL i).bind K = some out) (kk : ∀ v, K v = some out → Jd g w nL R Q (pc + 1) ls (vI v :: st) n m cs sl) : Jd g w nL R Q pc ls (vI i :: vR 1000 :: st) n m cs sl := by
  intro H locs la hR hS hl ho hs
  obtain ⟨s1, s2, s3, s4, s5, s6⟩ := SC
  unfold sld at h
  by_cases q : 0 ≤ i ∧ i < LL
  · rw [if_pos q] at h
    refine va_sld C.1 C.2.1 s1 s2 (by unfold aw; omega) hS (in_of hs.1 q.1 q.2) d ?_
    rw [natI hs.1]
    exact kk _ h H locs la hR hS hl ho ⟨s5 _, hs.2.2⟩
  · rw [if_neg q] at h; cases h
theorem j_cLI (C : Cx g w own cc nL rt) {idx k maxL lv' ci N : Nat} {y : MethodName} {bytes : ByteArray} {ret' : Option FieldType} {a : Nat} {As : List V} {x : Int} {m' : Mem} {Cn : String} {T : u_T} {ty : Nat → FieldType} {st0 : List V}
    (d : decode cc pc = .ok (.invokevirtual idx, 3)) (L : VL own idx y bytes maxL ret' k) (F : CF ci Cn T N ty) (hcn : Cn = y.cls) (hK : shK a = ci + 10) (hct : CT y bytes maxL ret' lv' 0 0 (vR a :: As) 312 m (some (vI x)) 312 m')
    (hfr : lv' + 1 ≤ 2048) (hlo : 64 * lv' + 64 ≤ 84000) (hk : As.length = k) (hst0 : st0 = As.reverse ++ vR a :: st) (hcat : (st.map vcat).sum ≤ 8)
    (kk : Jd g w nL room_1 Q (pc + 3) ls (vI x :: st) 312 m' 600000 7302250) : Jd g w nL room_1 Q pc ls st0 312 m 600000 7302250 := by
  intro H locs la hRel hS hl ho hs
  subst hst0; subst hcn
  obtain ⟨l1, l2, l3, l4, l5, l6, l7⟩ := L
  have hPo := hRel.one (shK_dyn (by omega)) (le312 hK) (by omega) (ent_obj (w := w) (m a) hK)
  obtain ⟨hsA, hsB⟩ := okS_split hs
  have cw : CallW room_1 (gs g) (ga g) own y.cls idx y bytes maxL ret' (Cond.code y bytes maxL ret' :: tb) (rmL lv' 0 0) 0 0 k :=
    ⟨callB_of k C.2.2.2.2.1 (gd_cons l5) rfl rfl rfl (C.tbl l4) (C.tbl l1) l6 ⟨hfr, by show 8 + (maxL + 11) + 64 * lv' ≤ 84000; omega⟩, C.tbl l2, C.tbl l3⟩
  exact j_run (m' := m') (n' := 312) (r := some (vI x)) (mc := 0) (ms := 0) (a := (Value.ref (wA w a) :: As.map (cv w)).toArray) (va_runV (As := As.map (cv w)) (rest := st.map (cv w)) (nL := nL) (Ts := tb) (own := own) ⟨C.1, C.2.1, C.2.2.1, C.2.2.2.1, C.2.2.2.2.1⟩ (hct (gl g) w) cw
    ⟨blindW w _ 312 m, va_recv (q0 := 0) C.k hPo F.1 rfl, fun U hU hW => ⟨rfl, C.rs.moved hW hS hU, by rw [hU]; exact hRel, ⟨trivial, okS_rev hsA⟩⟩⟩ rfl (by simpa using hk) hl.1 (by simp [cv]) (cat_sum hcat) d ⟨Nat.le_refl 600000, Nat.le_refl 7302250⟩) hS hl ho hsB.2 kk
theorem j_lend (C : Cx g w RL cL_law 4 ret) (SC : SX g w xs LL) (d : decode cL_law pc = .ok (.ireturn, 1)) : Jd g w 4 room_1 (lw_Z (gb g) #[Value.ref (wA w 1000)] (gs g)) pc ls [vI 1] 312 m 600000 7302250 := by
  intro H locs la hRel hS hl ho hs
  obtain ⟨s1, s2, s3, s4, s5, s6⟩ := SC
  rw [s6]
  refine va_forget (fun q hq => by have := hS.2.2 q hq; unfold aw at this; omega) ?_
  exact lw_ret C.1 C.2.1 C.2.2.2.2.2.2.1 C.2.2.2.2.2.1 d
end JLW
theorem dL_law_0 : decode cL_law 0 = .ok (.new 7, 3) := by decide +kernel
theorem dL_law_3 : decode cL_law 3 = .ok (.dup, 1) := by decide +kernel
theorem dL_law_4 : decode cL_law 4 = .ok (.invokespecial 9, 3) := by decide +kernel
theorem dL_law_7 : decode cL_law 7 = .ok (.astore_n 1, 1) := by decide +kernel
theorem dL_law_8 : decode cL_law 8 = .ok (.new 10, 3) := by decide +kernel
theorem dL_law_11 : decode cL_law 11 = .ok (.dup, 1) := by decide +kernel
theorem dL_law_12 : decode cL_law 12 = .ok (.invokespecial 12, 3) := by decide +kernel
theorem dL_law_15 : decode cL_law 15 = .ok (.astore_n 2, 1) := by decide +kernel
theorem dL_law_16 : decode cL_law 16 = .ok (.iconst 0, 1) := by decide +kernel
theorem dL_law_17 : decode cL_law 17 = .ok (.istore_n 3, 1) := by decide +kernel
theorem dL_law_18 : decode cL_law 18 = .ok (.iload_n 3, 1) := by decide +kernel
theorem dL_law_19 : decode cL_law 19 = .ok (.aload_n 0, 1) := by decide +kernel
theorem dL_law_20 : decode cL_law 20 = .ok (.arraylength, 1) := by decide +kernel
theorem dL_law_21 : decode cL_law 21 = .ok (.bipush 6, 2) := by decide +kernel
theorem dL_law_23 : decode cL_law 23 = .ok (.isub, 1) := by decide +kernel
theorem dL_law_24 : decode cL_law 24 = .ok (.if_icmp .gt 1047, 3) := by decide +kernel
theorem dL_law_27 : decode cL_law 27 = .ok (.aload_n 0, 1) := by decide +kernel
theorem dL_law_28 : decode cL_law 28 = .ok (.iload_n 3, 1) := by decide +kernel
theorem dL_law_29 : decode cL_law 29 = .ok (.iaload, 1) := by decide +kernel
theorem dL_law_30 : decode cL_law 30 = .ok (.bipush 63, 2) := by decide +kernel
theorem dL_law_32 : decode cL_law 32 = .ok (.iand, 1) := by decide +kernel
theorem dL_law_33 : decode cL_law 33 = .ok (.tableswitch 1032 0 32 #[147, 210, 233, 246, 269, 292, 335, 368, 401, 434, 457, 490, 533, 556, 589, 638, 651, 674, 687, 710, 733, 746, 779, 812, 845, 868, 901, 914, 937, 960, 973, 996, 1009], 147) := by decide +kernel
theorem dL_law_180 : decode cL_law 180 = .ok (.aload_n 1, 1) := by decide +kernel
theorem dL_law_181 : decode cL_law 181 = .ok (.aload_n 0, 1) := by decide +kernel
theorem dL_law_182 : decode cL_law 182 = .ok (.iload_n 3, 1) := by decide +kernel
theorem dL_law_183 : decode cL_law 183 = .ok (.iconst 1, 1) := by decide +kernel
theorem dL_law_184 : decode cL_law 184 = .ok (.iadd, 1) := by decide +kernel
theorem dL_law_185 : decode cL_law 185 = .ok (.iaload, 1) := by decide +kernel
theorem dL_law_186 : decode cL_law 186 = .ok (.aload_n 0, 1) := by decide +kernel
theorem dL_law_187 : decode cL_law 187 = .ok (.iload_n 3, 1) := by decide +kernel
theorem dL_law_188 : decode cL_law 188 = .ok (.iconst 2, 1) := by decide +kernel
theorem dL_law_189 : decode cL_law 189 = .ok (.iadd, 1) := by decide +kernel
theorem dL_law_190 : decode cL_law 190 = .ok (.iaload, 1) := by decide +kernel
theorem dL_law_191 : decode cL_law 191 = .ok (.aload_n 0, 1) := by decide +kernel
theorem dL_law_192 : decode cL_law 192 = .ok (.iload_n 3, 1) := by decide +kernel
theorem dL_law_193 : decode cL_law 193 = .ok (.iconst 3, 1) := by decide +kernel
theorem dL_law_194 : decode cL_law 194 = .ok (.iadd, 1) := by decide +kernel
theorem dL_law_195 : decode cL_law 195 = .ok (.iaload, 1) := by decide +kernel
theorem dL_law_196 : decode cL_law 196 = .ok (.aload_n 0, 1) := by decide +kernel
theorem dL_law_197 : decode cL_law 197 = .ok (.iload_n 3, 1) := by decide +kernel
theorem dL_law_198 : decode cL_law 198 = .ok (.iconst 4, 1) := by decide +kernel
theorem dL_law_199 : decode cL_law 199 = .ok (.iadd, 1) := by decide +kernel
theorem dL_law_200 : decode cL_law 200 = .ok (.iaload, 1) := by decide +kernel
theorem dL_law_201 : decode cL_law 201 = .ok (.aload_n 0, 1) := by decide +kernel
theorem dL_law_202 : decode cL_law 202 = .ok (.iload_n 3, 1) := by decide +kernel
theorem dL_law_203 : decode cL_law 203 = .ok (.iconst 5, 1) := by decide +kernel
theorem dL_law_204 : decode cL_law 204 = .ok (.iadd, 1) := by decide +kernel
theorem dL_law_205 : decode cL_law 205 = .ok (.iaload, 1) := by decide +kernel
theorem dL_law_206 : decode cL_law 206 = .ok (.invokevirtual 13, 3) := by decide +kernel
theorem dL_law_209 : decode cL_law 209 = .ok (.aload_n 2, 1) := by decide +kernel
theorem dL_law_210 : decode cL_law 210 = .ok (.aload_n 0, 1) := by decide +kernel
theorem dL_law_211 : decode cL_law 211 = .ok (.iload_n 3, 1) := by decide +kernel
theorem dL_law_212 : decode cL_law 212 = .ok (.iconst 1, 1) := by decide +kernel
theorem dL_law_213 : decode cL_law 213 = .ok (.iadd, 1) := by decide +kernel
theorem dL_law_214 : decode cL_law 214 = .ok (.iaload, 1) := by decide +kernel
theorem dL_law_215 : decode cL_law 215 = .ok (.aload_n 0, 1) := by decide +kernel
theorem dL_law_216 : decode cL_law 216 = .ok (.iload_n 3, 1) := by decide +kernel
theorem dL_law_217 : decode cL_law 217 = .ok (.iconst 2, 1) := by decide +kernel
theorem dL_law_218 : decode cL_law 218 = .ok (.iadd, 1) := by decide +kernel
theorem dL_law_219 : decode cL_law 219 = .ok (.iaload, 1) := by decide +kernel
theorem dL_law_220 : decode cL_law 220 = .ok (.aload_n 0, 1) := by decide +kernel
theorem dL_law_221 : decode cL_law 221 = .ok (.iload_n 3, 1) := by decide +kernel
theorem dL_law_222 : decode cL_law 222 = .ok (.iconst 3, 1) := by decide +kernel
theorem dL_law_223 : decode cL_law 223 = .ok (.iadd, 1) := by decide +kernel
theorem dL_law_224 : decode cL_law 224 = .ok (.iaload, 1) := by decide +kernel
theorem dL_law_225 : decode cL_law 225 = .ok (.aload_n 0, 1) := by decide +kernel
theorem dL_law_226 : decode cL_law 226 = .ok (.iload_n 3, 1) := by decide +kernel
theorem dL_law_227 : decode cL_law 227 = .ok (.iconst 4, 1) := by decide +kernel
theorem dL_law_228 : decode cL_law 228 = .ok (.iadd, 1) := by decide +kernel
theorem dL_law_229 : decode cL_law 229 = .ok (.iaload, 1) := by decide +kernel
theorem dL_law_230 : decode cL_law 230 = .ok (.aload_n 0, 1) := by decide +kernel
theorem dL_law_231 : decode cL_law 231 = .ok (.iload_n 3, 1) := by decide +kernel
theorem dL_law_232 : decode cL_law 232 = .ok (.iconst 5, 1) := by decide +kernel
theorem dL_law_233 : decode cL_law 233 = .ok (.iadd, 1) := by decide +kernel
theorem dL_law_234 : decode cL_law 234 = .ok (.iaload, 1) := by decide +kernel
theorem dL_law_235 : decode cL_law 235 = .ok (.invokevirtual 17, 3) := by decide +kernel
theorem dL_law_238 : decode cL_law 238 = .ok (.if_icmp .eq 827, 3) := by decide +kernel
theorem dL_law_241 : decode cL_law 241 = .ok (.iconst 0, 1) := by decide +kernel
theorem dL_law_242 : decode cL_law 242 = .ok (.ireturn, 1) := by decide +kernel
theorem dL_law_243 : decode cL_law 243 = .ok (.aload_n 1, 1) := by decide +kernel
theorem dL_law_244 : decode cL_law 244 = .ok (.aload_n 0, 1) := by decide +kernel
theorem dL_law_245 : decode cL_law 245 = .ok (.iload_n 3, 1) := by decide +kernel
theorem dL_law_246 : decode cL_law 246 = .ok (.iconst 1, 1) := by decide +kernel
theorem dL_law_247 : decode cL_law 247 = .ok (.iadd, 1) := by decide +kernel
theorem dL_law_248 : decode cL_law 248 = .ok (.iaload, 1) := by decide +kernel
theorem dL_law_249 : decode cL_law 249 = .ok (.invokevirtual 18, 3) := by decide +kernel
theorem dL_law_252 : decode cL_law 252 = .ok (.aload_n 2, 1) := by decide +kernel
theorem dL_law_253 : decode cL_law 253 = .ok (.aload_n 0, 1) := by decide +kernel
theorem dL_law_254 : decode cL_law 254 = .ok (.iload_n 3, 1) := by decide +kernel
theorem dL_law_255 : decode cL_law 255 = .ok (.iconst 1, 1) := by decide +kernel
theorem dL_law_256 : decode cL_law 256 = .ok (.iadd, 1) := by decide +kernel
theorem dL_law_257 : decode cL_law 257 = .ok (.iaload, 1) := by decide +kernel
theorem dL_law_258 : decode cL_law 258 = .ok (.invokevirtual 22, 3) := by decide +kernel
theorem dL_law_261 : decode cL_law 261 = .ok (.if_icmp .eq 804, 3) := by decide +kernel
theorem dL_law_264 : decode cL_law 264 = .ok (.iconst 0, 1) := by decide +kernel
theorem dL_law_265 : decode cL_law 265 = .ok (.ireturn, 1) := by decide +kernel
theorem dL_law_266 : decode cL_law 266 = .ok (.aload_n 1, 1) := by decide +kernel
theorem dL_law_267 : decode cL_law 267 = .ok (.invokevirtual 23, 3) := by decide +kernel
theorem dL_law_270 : decode cL_law 270 = .ok (.aload_n 2, 1) := by decide +kernel
theorem dL_law_271 : decode cL_law 271 = .ok (.invokevirtual 27, 3) := by decide +kernel
theorem dL_law_274 : decode cL_law 274 = .ok (.if_icmp .eq 791, 3) := by decide +kernel
theorem dL_law_277 : decode cL_law 277 = .ok (.iconst 0, 1) := by decide +kernel
theorem dL_law_278 : decode cL_law 278 = .ok (.ireturn, 1) := by decide +kernel
theorem dL_law_279 : decode cL_law 279 = .ok (.aload_n 1, 1) := by decide +kernel
theorem dL_law_280 : decode cL_law 280 = .ok (.aload_n 0, 1) := by decide +kernel
theorem dL_law_281 : decode cL_law 281 = .ok (.iload_n 3, 1) := by decide +kernel
theorem dL_law_282 : decode cL_law 282 = .ok (.iconst 1, 1) := by decide +kernel
theorem dL_law_283 : decode cL_law 283 = .ok (.iadd, 1) := by decide +kernel
theorem dL_law_284 : decode cL_law 284 = .ok (.iaload, 1) := by decide +kernel
theorem dL_law_285 : decode cL_law 285 = .ok (.invokevirtual 28, 3) := by decide +kernel
theorem dL_law_288 : decode cL_law 288 = .ok (.aload_n 2, 1) := by decide +kernel
theorem dL_law_289 : decode cL_law 289 = .ok (.aload_n 0, 1) := by decide +kernel
theorem dL_law_290 : decode cL_law 290 = .ok (.iload_n 3, 1) := by decide +kernel
theorem dL_law_291 : decode cL_law 291 = .ok (.iconst 1, 1) := by decide +kernel
theorem dL_law_292 : decode cL_law 292 = .ok (.iadd, 1) := by decide +kernel
theorem dL_law_293 : decode cL_law 293 = .ok (.iaload, 1) := by decide +kernel
theorem dL_law_294 : decode cL_law 294 = .ok (.invokevirtual 32, 3) := by decide +kernel
theorem dL_law_297 : decode cL_law 297 = .ok (.if_icmp .eq 768, 3) := by decide +kernel
theorem dL_law_300 : decode cL_law 300 = .ok (.iconst 0, 1) := by decide +kernel
theorem dL_law_301 : decode cL_law 301 = .ok (.ireturn, 1) := by decide +kernel
theorem dL_law_302 : decode cL_law 302 = .ok (.aload_n 1, 1) := by decide +kernel
theorem dL_law_303 : decode cL_law 303 = .ok (.aload_n 0, 1) := by decide +kernel
theorem dL_law_304 : decode cL_law 304 = .ok (.iload_n 3, 1) := by decide +kernel
theorem dL_law_305 : decode cL_law 305 = .ok (.iconst 1, 1) := by decide +kernel
theorem dL_law_306 : decode cL_law 306 = .ok (.iadd, 1) := by decide +kernel
theorem dL_law_307 : decode cL_law 307 = .ok (.iaload, 1) := by decide +kernel
theorem dL_law_308 : decode cL_law 308 = .ok (.invokevirtual 33, 3) := by decide +kernel
theorem dL_law_311 : decode cL_law 311 = .ok (.aload_n 2, 1) := by decide +kernel
theorem dL_law_312 : decode cL_law 312 = .ok (.aload_n 0, 1) := by decide +kernel
theorem dL_law_313 : decode cL_law 313 = .ok (.iload_n 3, 1) := by decide +kernel
theorem dL_law_314 : decode cL_law 314 = .ok (.iconst 1, 1) := by decide +kernel
theorem dL_law_315 : decode cL_law 315 = .ok (.iadd, 1) := by decide +kernel
theorem dL_law_316 : decode cL_law 316 = .ok (.iaload, 1) := by decide +kernel
theorem dL_law_317 : decode cL_law 317 = .ok (.invokevirtual 36, 3) := by decide +kernel
theorem dL_law_320 : decode cL_law 320 = .ok (.if_icmp .eq 745, 3) := by decide +kernel
theorem dL_law_323 : decode cL_law 323 = .ok (.iconst 0, 1) := by decide +kernel
theorem dL_law_324 : decode cL_law 324 = .ok (.ireturn, 1) := by decide +kernel
theorem dL_law_325 : decode cL_law 325 = .ok (.aload_n 1, 1) := by decide +kernel
theorem dL_law_326 : decode cL_law 326 = .ok (.aload_n 0, 1) := by decide +kernel
theorem dL_law_327 : decode cL_law 327 = .ok (.iload_n 3, 1) := by decide +kernel
theorem dL_law_328 : decode cL_law 328 = .ok (.iconst 1, 1) := by decide +kernel
theorem dL_law_329 : decode cL_law 329 = .ok (.iadd, 1) := by decide +kernel
theorem dL_law_330 : decode cL_law 330 = .ok (.iaload, 1) := by decide +kernel
theorem dL_law_331 : decode cL_law 331 = .ok (.aload_n 0, 1) := by decide +kernel
theorem dL_law_332 : decode cL_law 332 = .ok (.iload_n 3, 1) := by decide +kernel
theorem dL_law_333 : decode cL_law 333 = .ok (.iconst 2, 1) := by decide +kernel
theorem dL_law_334 : decode cL_law 334 = .ok (.iadd, 1) := by decide +kernel
theorem dL_law_335 : decode cL_law 335 = .ok (.iaload, 1) := by decide +kernel
theorem dL_law_336 : decode cL_law 336 = .ok (.aload_n 0, 1) := by decide +kernel
theorem dL_law_337 : decode cL_law 337 = .ok (.iload_n 3, 1) := by decide +kernel
theorem dL_law_338 : decode cL_law 338 = .ok (.iconst 3, 1) := by decide +kernel
theorem dL_law_339 : decode cL_law 339 = .ok (.iadd, 1) := by decide +kernel
theorem dL_law_340 : decode cL_law 340 = .ok (.iaload, 1) := by decide +kernel
theorem dL_law_341 : decode cL_law 341 = .ok (.invokevirtual 37, 3) := by decide +kernel
theorem dL_law_344 : decode cL_law 344 = .ok (.aload_n 2, 1) := by decide +kernel
theorem dL_law_345 : decode cL_law 345 = .ok (.aload_n 0, 1) := by decide +kernel
theorem dL_law_346 : decode cL_law 346 = .ok (.iload_n 3, 1) := by decide +kernel
theorem dL_law_347 : decode cL_law 347 = .ok (.iconst 1, 1) := by decide +kernel
theorem dL_law_348 : decode cL_law 348 = .ok (.iadd, 1) := by decide +kernel
theorem dL_law_349 : decode cL_law 349 = .ok (.iaload, 1) := by decide +kernel
theorem dL_law_350 : decode cL_law 350 = .ok (.aload_n 0, 1) := by decide +kernel
theorem dL_law_351 : decode cL_law 351 = .ok (.iload_n 3, 1) := by decide +kernel
theorem dL_law_352 : decode cL_law 352 = .ok (.iconst 2, 1) := by decide +kernel
theorem dL_law_353 : decode cL_law 353 = .ok (.iadd, 1) := by decide +kernel
theorem dL_law_354 : decode cL_law 354 = .ok (.iaload, 1) := by decide +kernel
theorem dL_law_355 : decode cL_law 355 = .ok (.aload_n 0, 1) := by decide +kernel
theorem dL_law_356 : decode cL_law 356 = .ok (.iload_n 3, 1) := by decide +kernel
theorem dL_law_357 : decode cL_law 357 = .ok (.iconst 3, 1) := by decide +kernel
theorem dL_law_358 : decode cL_law 358 = .ok (.iadd, 1) := by decide +kernel
theorem dL_law_359 : decode cL_law 359 = .ok (.iaload, 1) := by decide +kernel
theorem dL_law_360 : decode cL_law 360 = .ok (.invokevirtual 41, 3) := by decide +kernel
theorem dL_law_363 : decode cL_law 363 = .ok (.if_icmp .eq 702, 3) := by decide +kernel
theorem dL_law_366 : decode cL_law 366 = .ok (.iconst 0, 1) := by decide +kernel
theorem dL_law_367 : decode cL_law 367 = .ok (.ireturn, 1) := by decide +kernel
theorem dL_law_368 : decode cL_law 368 = .ok (.aload_n 1, 1) := by decide +kernel
theorem dL_law_369 : decode cL_law 369 = .ok (.aload_n 0, 1) := by decide +kernel
theorem dL_law_370 : decode cL_law 370 = .ok (.iload_n 3, 1) := by decide +kernel
theorem dL_law_371 : decode cL_law 371 = .ok (.iconst 1, 1) := by decide +kernel
theorem dL_law_372 : decode cL_law 372 = .ok (.iadd, 1) := by decide +kernel
theorem dL_law_373 : decode cL_law 373 = .ok (.iaload, 1) := by decide +kernel
theorem dL_law_374 : decode cL_law 374 = .ok (.aload_n 0, 1) := by decide +kernel
theorem dL_law_375 : decode cL_law 375 = .ok (.iload_n 3, 1) := by decide +kernel
theorem dL_law_376 : decode cL_law 376 = .ok (.iconst 2, 1) := by decide +kernel
theorem dL_law_377 : decode cL_law 377 = .ok (.iadd, 1) := by decide +kernel
theorem dL_law_378 : decode cL_law 378 = .ok (.iaload, 1) := by decide +kernel
theorem dL_law_379 : decode cL_law 379 = .ok (.invokevirtual 42, 3) := by decide +kernel
theorem dL_law_382 : decode cL_law 382 = .ok (.aload_n 2, 1) := by decide +kernel
theorem dL_law_383 : decode cL_law 383 = .ok (.aload_n 0, 1) := by decide +kernel
theorem dL_law_384 : decode cL_law 384 = .ok (.iload_n 3, 1) := by decide +kernel
theorem dL_law_385 : decode cL_law 385 = .ok (.iconst 1, 1) := by decide +kernel
theorem dL_law_386 : decode cL_law 386 = .ok (.iadd, 1) := by decide +kernel
theorem dL_law_387 : decode cL_law 387 = .ok (.iaload, 1) := by decide +kernel
theorem dL_law_388 : decode cL_law 388 = .ok (.aload_n 0, 1) := by decide +kernel
theorem dL_law_389 : decode cL_law 389 = .ok (.iload_n 3, 1) := by decide +kernel
theorem dL_law_390 : decode cL_law 390 = .ok (.iconst 2, 1) := by decide +kernel
theorem dL_law_391 : decode cL_law 391 = .ok (.iadd, 1) := by decide +kernel
theorem dL_law_392 : decode cL_law 392 = .ok (.iaload, 1) := by decide +kernel
theorem dL_law_393 : decode cL_law 393 = .ok (.invokevirtual 46, 3) := by decide +kernel
theorem dL_law_396 : decode cL_law 396 = .ok (.if_icmp .eq 669, 3) := by decide +kernel
theorem dL_law_399 : decode cL_law 399 = .ok (.iconst 0, 1) := by decide +kernel
theorem dL_law_400 : decode cL_law 400 = .ok (.ireturn, 1) := by decide +kernel
theorem dL_law_401 : decode cL_law 401 = .ok (.aload_n 1, 1) := by decide +kernel
theorem dL_law_402 : decode cL_law 402 = .ok (.aload_n 0, 1) := by decide +kernel
theorem dL_law_403 : decode cL_law 403 = .ok (.iload_n 3, 1) := by decide +kernel
theorem dL_law_404 : decode cL_law 404 = .ok (.iconst 1, 1) := by decide +kernel
theorem dL_law_405 : decode cL_law 405 = .ok (.iadd, 1) := by decide +kernel
theorem dL_law_406 : decode cL_law 406 = .ok (.iaload, 1) := by decide +kernel
theorem dL_law_407 : decode cL_law 407 = .ok (.aload_n 0, 1) := by decide +kernel
theorem dL_law_408 : decode cL_law 408 = .ok (.iload_n 3, 1) := by decide +kernel
theorem dL_law_409 : decode cL_law 409 = .ok (.iconst 2, 1) := by decide +kernel
theorem dL_law_410 : decode cL_law 410 = .ok (.iadd, 1) := by decide +kernel
theorem dL_law_411 : decode cL_law 411 = .ok (.iaload, 1) := by decide +kernel
theorem dL_law_412 : decode cL_law 412 = .ok (.invokevirtual 47, 3) := by decide +kernel
theorem dL_law_415 : decode cL_law 415 = .ok (.aload_n 2, 1) := by decide +kernel
theorem dL_law_416 : decode cL_law 416 = .ok (.aload_n 0, 1) := by decide +kernel
theorem dL_law_417 : decode cL_law 417 = .ok (.iload_n 3, 1) := by decide +kernel
theorem dL_law_418 : decode cL_law 418 = .ok (.iconst 1, 1) := by decide +kernel
theorem dL_law_419 : decode cL_law 419 = .ok (.iadd, 1) := by decide +kernel
theorem dL_law_420 : decode cL_law 420 = .ok (.iaload, 1) := by decide +kernel
theorem dL_law_421 : decode cL_law 421 = .ok (.aload_n 0, 1) := by decide +kernel
theorem dL_law_422 : decode cL_law 422 = .ok (.iload_n 3, 1) := by decide +kernel
theorem dL_law_423 : decode cL_law 423 = .ok (.iconst 2, 1) := by decide +kernel
theorem dL_law_424 : decode cL_law 424 = .ok (.iadd, 1) := by decide +kernel
theorem dL_law_425 : decode cL_law 425 = .ok (.iaload, 1) := by decide +kernel
theorem dL_law_426 : decode cL_law 426 = .ok (.invokevirtual 50, 3) := by decide +kernel
theorem dL_law_429 : decode cL_law 429 = .ok (.if_icmp .eq 636, 3) := by decide +kernel
theorem dL_law_432 : decode cL_law 432 = .ok (.iconst 0, 1) := by decide +kernel
theorem dL_law_433 : decode cL_law 433 = .ok (.ireturn, 1) := by decide +kernel
theorem dL_law_434 : decode cL_law 434 = .ok (.aload_n 1, 1) := by decide +kernel
theorem dL_law_435 : decode cL_law 435 = .ok (.aload_n 0, 1) := by decide +kernel
theorem dL_law_436 : decode cL_law 436 = .ok (.iload_n 3, 1) := by decide +kernel
theorem dL_law_437 : decode cL_law 437 = .ok (.iconst 1, 1) := by decide +kernel
theorem dL_law_438 : decode cL_law 438 = .ok (.iadd, 1) := by decide +kernel
theorem dL_law_439 : decode cL_law 439 = .ok (.iaload, 1) := by decide +kernel
theorem dL_law_440 : decode cL_law 440 = .ok (.aload_n 0, 1) := by decide +kernel
theorem dL_law_441 : decode cL_law 441 = .ok (.iload_n 3, 1) := by decide +kernel
theorem dL_law_442 : decode cL_law 442 = .ok (.iconst 2, 1) := by decide +kernel
theorem dL_law_443 : decode cL_law 443 = .ok (.iadd, 1) := by decide +kernel
theorem dL_law_444 : decode cL_law 444 = .ok (.iaload, 1) := by decide +kernel
theorem dL_law_445 : decode cL_law 445 = .ok (.invokevirtual 51, 3) := by decide +kernel
theorem dL_law_448 : decode cL_law 448 = .ok (.aload_n 2, 1) := by decide +kernel
theorem dL_law_449 : decode cL_law 449 = .ok (.aload_n 0, 1) := by decide +kernel
theorem dL_law_450 : decode cL_law 450 = .ok (.iload_n 3, 1) := by decide +kernel
theorem dL_law_451 : decode cL_law 451 = .ok (.iconst 1, 1) := by decide +kernel
theorem dL_law_452 : decode cL_law 452 = .ok (.iadd, 1) := by decide +kernel
theorem dL_law_453 : decode cL_law 453 = .ok (.iaload, 1) := by decide +kernel
theorem dL_law_454 : decode cL_law 454 = .ok (.aload_n 0, 1) := by decide +kernel
theorem dL_law_455 : decode cL_law 455 = .ok (.iload_n 3, 1) := by decide +kernel
theorem dL_law_456 : decode cL_law 456 = .ok (.iconst 2, 1) := by decide +kernel
theorem dL_law_457 : decode cL_law 457 = .ok (.iadd, 1) := by decide +kernel
theorem dL_law_458 : decode cL_law 458 = .ok (.iaload, 1) := by decide +kernel
theorem dL_law_459 : decode cL_law 459 = .ok (.invokevirtual 54, 3) := by decide +kernel
theorem dL_law_462 : decode cL_law 462 = .ok (.if_icmp .eq 603, 3) := by decide +kernel
theorem dL_law_465 : decode cL_law 465 = .ok (.iconst 0, 1) := by decide +kernel
theorem dL_law_466 : decode cL_law 466 = .ok (.ireturn, 1) := by decide +kernel
theorem dL_law_467 : decode cL_law 467 = .ok (.aload_n 1, 1) := by decide +kernel
theorem dL_law_468 : decode cL_law 468 = .ok (.aload_n 0, 1) := by decide +kernel
theorem dL_law_469 : decode cL_law 469 = .ok (.iload_n 3, 1) := by decide +kernel
theorem dL_law_470 : decode cL_law 470 = .ok (.iconst 1, 1) := by decide +kernel
theorem dL_law_471 : decode cL_law 471 = .ok (.iadd, 1) := by decide +kernel
theorem dL_law_472 : decode cL_law 472 = .ok (.iaload, 1) := by decide +kernel
theorem dL_law_473 : decode cL_law 473 = .ok (.invokevirtual 55, 3) := by decide +kernel
theorem dL_law_476 : decode cL_law 476 = .ok (.aload_n 2, 1) := by decide +kernel
theorem dL_law_477 : decode cL_law 477 = .ok (.aload_n 0, 1) := by decide +kernel
theorem dL_law_478 : decode cL_law 478 = .ok (.iload_n 3, 1) := by decide +kernel
theorem dL_law_479 : decode cL_law 479 = .ok (.iconst 1, 1) := by decide +kernel
theorem dL_law_480 : decode cL_law 480 = .ok (.iadd, 1) := by decide +kernel
theorem dL_law_481 : decode cL_law 481 = .ok (.iaload, 1) := by decide +kernel
theorem dL_law_482 : decode cL_law 482 = .ok (.invokevirtual 58, 3) := by decide +kernel
theorem dL_law_485 : decode cL_law 485 = .ok (.if_icmp .eq 580, 3) := by decide +kernel
theorem dL_law_488 : decode cL_law 488 = .ok (.iconst 0, 1) := by decide +kernel
theorem dL_law_489 : decode cL_law 489 = .ok (.ireturn, 1) := by decide +kernel
theorem dL_law_490 : decode cL_law 490 = .ok (.aload_n 1, 1) := by decide +kernel
theorem dL_law_491 : decode cL_law 491 = .ok (.aload_n 0, 1) := by decide +kernel
theorem dL_law_492 : decode cL_law 492 = .ok (.iload_n 3, 1) := by decide +kernel
theorem dL_law_493 : decode cL_law 493 = .ok (.iconst 1, 1) := by decide +kernel
theorem dL_law_494 : decode cL_law 494 = .ok (.iadd, 1) := by decide +kernel
theorem dL_law_495 : decode cL_law 495 = .ok (.iaload, 1) := by decide +kernel
theorem dL_law_496 : decode cL_law 496 = .ok (.aload_n 0, 1) := by decide +kernel
theorem dL_law_497 : decode cL_law 497 = .ok (.iload_n 3, 1) := by decide +kernel
theorem dL_law_498 : decode cL_law 498 = .ok (.iconst 2, 1) := by decide +kernel
theorem dL_law_499 : decode cL_law 499 = .ok (.iadd, 1) := by decide +kernel
theorem dL_law_500 : decode cL_law 500 = .ok (.iaload, 1) := by decide +kernel
theorem dL_law_501 : decode cL_law 501 = .ok (.invokevirtual 59, 3) := by decide +kernel
theorem dL_law_504 : decode cL_law 504 = .ok (.aload_n 2, 1) := by decide +kernel
theorem dL_law_505 : decode cL_law 505 = .ok (.aload_n 0, 1) := by decide +kernel
theorem dL_law_506 : decode cL_law 506 = .ok (.iload_n 3, 1) := by decide +kernel
theorem dL_law_507 : decode cL_law 507 = .ok (.iconst 1, 1) := by decide +kernel
theorem dL_law_508 : decode cL_law 508 = .ok (.iadd, 1) := by decide +kernel
theorem dL_law_509 : decode cL_law 509 = .ok (.iaload, 1) := by decide +kernel
theorem dL_law_510 : decode cL_law 510 = .ok (.aload_n 0, 1) := by decide +kernel
theorem dL_law_511 : decode cL_law 511 = .ok (.iload_n 3, 1) := by decide +kernel
theorem dL_law_512 : decode cL_law 512 = .ok (.iconst 2, 1) := by decide +kernel
theorem dL_law_513 : decode cL_law 513 = .ok (.iadd, 1) := by decide +kernel
theorem dL_law_514 : decode cL_law 514 = .ok (.iaload, 1) := by decide +kernel
theorem dL_law_515 : decode cL_law 515 = .ok (.invokevirtual 62, 3) := by decide +kernel
theorem dL_law_518 : decode cL_law 518 = .ok (.if_icmp .eq 547, 3) := by decide +kernel
theorem dL_law_521 : decode cL_law 521 = .ok (.iconst 0, 1) := by decide +kernel
theorem dL_law_522 : decode cL_law 522 = .ok (.ireturn, 1) := by decide +kernel
theorem dL_law_523 : decode cL_law 523 = .ok (.aload_n 1, 1) := by decide +kernel
theorem dL_law_524 : decode cL_law 524 = .ok (.aload_n 0, 1) := by decide +kernel
theorem dL_law_525 : decode cL_law 525 = .ok (.iload_n 3, 1) := by decide +kernel
theorem dL_law_526 : decode cL_law 526 = .ok (.iconst 1, 1) := by decide +kernel
theorem dL_law_527 : decode cL_law 527 = .ok (.iadd, 1) := by decide +kernel
theorem dL_law_528 : decode cL_law 528 = .ok (.iaload, 1) := by decide +kernel
theorem dL_law_529 : decode cL_law 529 = .ok (.aload_n 0, 1) := by decide +kernel
theorem dL_law_530 : decode cL_law 530 = .ok (.iload_n 3, 1) := by decide +kernel
theorem dL_law_531 : decode cL_law 531 = .ok (.iconst 2, 1) := by decide +kernel
theorem dL_law_532 : decode cL_law 532 = .ok (.iadd, 1) := by decide +kernel
theorem dL_law_533 : decode cL_law 533 = .ok (.iaload, 1) := by decide +kernel
theorem dL_law_534 : decode cL_law 534 = .ok (.aload_n 0, 1) := by decide +kernel
theorem dL_law_535 : decode cL_law 535 = .ok (.iload_n 3, 1) := by decide +kernel
theorem dL_law_536 : decode cL_law 536 = .ok (.iconst 3, 1) := by decide +kernel
theorem dL_law_537 : decode cL_law 537 = .ok (.iadd, 1) := by decide +kernel
theorem dL_law_538 : decode cL_law 538 = .ok (.iaload, 1) := by decide +kernel
theorem dL_law_539 : decode cL_law 539 = .ok (.invokevirtual 63, 3) := by decide +kernel
theorem dL_law_542 : decode cL_law 542 = .ok (.aload_n 2, 1) := by decide +kernel
theorem dL_law_543 : decode cL_law 543 = .ok (.aload_n 0, 1) := by decide +kernel
theorem dL_law_544 : decode cL_law 544 = .ok (.iload_n 3, 1) := by decide +kernel
theorem dL_law_545 : decode cL_law 545 = .ok (.iconst 1, 1) := by decide +kernel
theorem dL_law_546 : decode cL_law 546 = .ok (.iadd, 1) := by decide +kernel
theorem dL_law_547 : decode cL_law 547 = .ok (.iaload, 1) := by decide +kernel
theorem dL_law_548 : decode cL_law 548 = .ok (.aload_n 0, 1) := by decide +kernel
theorem dL_law_549 : decode cL_law 549 = .ok (.iload_n 3, 1) := by decide +kernel
theorem dL_law_550 : decode cL_law 550 = .ok (.iconst 2, 1) := by decide +kernel
theorem dL_law_551 : decode cL_law 551 = .ok (.iadd, 1) := by decide +kernel
theorem dL_law_552 : decode cL_law 552 = .ok (.iaload, 1) := by decide +kernel
theorem dL_law_553 : decode cL_law 553 = .ok (.aload_n 0, 1) := by decide +kernel
theorem dL_law_554 : decode cL_law 554 = .ok (.iload_n 3, 1) := by decide +kernel
theorem dL_law_555 : decode cL_law 555 = .ok (.iconst 3, 1) := by decide +kernel
theorem dL_law_556 : decode cL_law 556 = .ok (.iadd, 1) := by decide +kernel
theorem dL_law_557 : decode cL_law 557 = .ok (.iaload, 1) := by decide +kernel
theorem dL_law_558 : decode cL_law 558 = .ok (.invokevirtual 66, 3) := by decide +kernel
theorem dL_law_561 : decode cL_law 561 = .ok (.if_icmp .eq 504, 3) := by decide +kernel
theorem dL_law_564 : decode cL_law 564 = .ok (.iconst 0, 1) := by decide +kernel
theorem dL_law_565 : decode cL_law 565 = .ok (.ireturn, 1) := by decide +kernel
theorem dL_law_566 : decode cL_law 566 = .ok (.aload_n 1, 1) := by decide +kernel
theorem dL_law_567 : decode cL_law 567 = .ok (.aload_n 0, 1) := by decide +kernel
theorem dL_law_568 : decode cL_law 568 = .ok (.iload_n 3, 1) := by decide +kernel
theorem dL_law_569 : decode cL_law 569 = .ok (.iconst 1, 1) := by decide +kernel
theorem dL_law_570 : decode cL_law 570 = .ok (.iadd, 1) := by decide +kernel
theorem dL_law_571 : decode cL_law 571 = .ok (.iaload, 1) := by decide +kernel
theorem dL_law_572 : decode cL_law 572 = .ok (.invokevirtual 67, 3) := by decide +kernel
theorem dL_law_575 : decode cL_law 575 = .ok (.aload_n 2, 1) := by decide +kernel
theorem dL_law_576 : decode cL_law 576 = .ok (.aload_n 0, 1) := by decide +kernel
theorem dL_law_577 : decode cL_law 577 = .ok (.iload_n 3, 1) := by decide +kernel
theorem dL_law_578 : decode cL_law 578 = .ok (.iconst 1, 1) := by decide +kernel
theorem dL_law_579 : decode cL_law 579 = .ok (.iadd, 1) := by decide +kernel
theorem dL_law_580 : decode cL_law 580 = .ok (.iaload, 1) := by decide +kernel
theorem dL_law_581 : decode cL_law 581 = .ok (.invokevirtual 70, 3) := by decide +kernel
theorem dL_law_584 : decode cL_law 584 = .ok (.if_icmp .eq 481, 3) := by decide +kernel
theorem dL_law_587 : decode cL_law 587 = .ok (.iconst 0, 1) := by decide +kernel
theorem dL_law_588 : decode cL_law 588 = .ok (.ireturn, 1) := by decide +kernel
theorem dL_law_589 : decode cL_law 589 = .ok (.aload_n 1, 1) := by decide +kernel
theorem dL_law_590 : decode cL_law 590 = .ok (.aload_n 0, 1) := by decide +kernel
theorem dL_law_591 : decode cL_law 591 = .ok (.iload_n 3, 1) := by decide +kernel
theorem dL_law_592 : decode cL_law 592 = .ok (.iconst 1, 1) := by decide +kernel
theorem dL_law_593 : decode cL_law 593 = .ok (.iadd, 1) := by decide +kernel
theorem dL_law_594 : decode cL_law 594 = .ok (.iaload, 1) := by decide +kernel
theorem dL_law_595 : decode cL_law 595 = .ok (.aload_n 0, 1) := by decide +kernel
theorem dL_law_596 : decode cL_law 596 = .ok (.iload_n 3, 1) := by decide +kernel
theorem dL_law_597 : decode cL_law 597 = .ok (.iconst 2, 1) := by decide +kernel
theorem dL_law_598 : decode cL_law 598 = .ok (.iadd, 1) := by decide +kernel
theorem dL_law_599 : decode cL_law 599 = .ok (.iaload, 1) := by decide +kernel
theorem dL_law_600 : decode cL_law 600 = .ok (.invokevirtual 71, 3) := by decide +kernel
theorem dL_law_603 : decode cL_law 603 = .ok (.aload_n 2, 1) := by decide +kernel
theorem dL_law_604 : decode cL_law 604 = .ok (.aload_n 0, 1) := by decide +kernel
theorem dL_law_605 : decode cL_law 605 = .ok (.iload_n 3, 1) := by decide +kernel
theorem dL_law_606 : decode cL_law 606 = .ok (.iconst 1, 1) := by decide +kernel
theorem dL_law_607 : decode cL_law 607 = .ok (.iadd, 1) := by decide +kernel
theorem dL_law_608 : decode cL_law 608 = .ok (.iaload, 1) := by decide +kernel
theorem dL_law_609 : decode cL_law 609 = .ok (.aload_n 0, 1) := by decide +kernel
theorem dL_law_610 : decode cL_law 610 = .ok (.iload_n 3, 1) := by decide +kernel
theorem dL_law_611 : decode cL_law 611 = .ok (.iconst 2, 1) := by decide +kernel
theorem dL_law_612 : decode cL_law 612 = .ok (.iadd, 1) := by decide +kernel
theorem dL_law_613 : decode cL_law 613 = .ok (.iaload, 1) := by decide +kernel
theorem dL_law_614 : decode cL_law 614 = .ok (.invokevirtual 75, 3) := by decide +kernel
theorem dL_law_617 : decode cL_law 617 = .ok (.if_icmp .eq 448, 3) := by decide +kernel
theorem dL_law_620 : decode cL_law 620 = .ok (.iconst 0, 1) := by decide +kernel
theorem dL_law_621 : decode cL_law 621 = .ok (.ireturn, 1) := by decide +kernel
theorem dL_law_622 : decode cL_law 622 = .ok (.aload_n 1, 1) := by decide +kernel
theorem dL_law_623 : decode cL_law 623 = .ok (.aload_n 0, 1) := by decide +kernel
theorem dL_law_624 : decode cL_law 624 = .ok (.iload_n 3, 1) := by decide +kernel
theorem dL_law_625 : decode cL_law 625 = .ok (.iconst 1, 1) := by decide +kernel
theorem dL_law_626 : decode cL_law 626 = .ok (.iadd, 1) := by decide +kernel
theorem dL_law_627 : decode cL_law 627 = .ok (.iaload, 1) := by decide +kernel
theorem dL_law_628 : decode cL_law 628 = .ok (.aload_n 0, 1) := by decide +kernel
theorem dL_law_629 : decode cL_law 629 = .ok (.iload_n 3, 1) := by decide +kernel
theorem dL_law_630 : decode cL_law 630 = .ok (.iconst 2, 1) := by decide +kernel
theorem dL_law_631 : decode cL_law 631 = .ok (.iadd, 1) := by decide +kernel
theorem dL_law_632 : decode cL_law 632 = .ok (.iaload, 1) := by decide +kernel
theorem dL_law_633 : decode cL_law 633 = .ok (.ifCond .eq 7, 3) := by decide +kernel
theorem dL_law_636 : decode cL_law 636 = .ok (.iconst 1, 1) := by decide +kernel
theorem dL_law_637 : decode cL_law 637 = .ok (.goto 4, 3) := by decide +kernel
theorem dL_law_640 : decode cL_law 640 = .ok (.iconst 0, 1) := by decide +kernel
theorem dL_law_641 : decode cL_law 641 = .ok (.invokevirtual 76, 3) := by decide +kernel
theorem dL_law_644 : decode cL_law 644 = .ok (.aload_n 2, 1) := by decide +kernel
theorem dL_law_645 : decode cL_law 645 = .ok (.aload_n 0, 1) := by decide +kernel
theorem dL_law_646 : decode cL_law 646 = .ok (.iload_n 3, 1) := by decide +kernel
theorem dL_law_647 : decode cL_law 647 = .ok (.iconst 1, 1) := by decide +kernel
theorem dL_law_648 : decode cL_law 648 = .ok (.iadd, 1) := by decide +kernel
theorem dL_law_649 : decode cL_law 649 = .ok (.iaload, 1) := by decide +kernel
theorem dL_law_650 : decode cL_law 650 = .ok (.aload_n 0, 1) := by decide +kernel
theorem dL_law_651 : decode cL_law 651 = .ok (.iload_n 3, 1) := by decide +kernel
theorem dL_law_652 : decode cL_law 652 = .ok (.iconst 2, 1) := by decide +kernel
theorem dL_law_653 : decode cL_law 653 = .ok (.iadd, 1) := by decide +kernel
theorem dL_law_654 : decode cL_law 654 = .ok (.iaload, 1) := by decide +kernel
theorem dL_law_655 : decode cL_law 655 = .ok (.ifCond .eq 7, 3) := by decide +kernel
theorem dL_law_658 : decode cL_law 658 = .ok (.iconst 1, 1) := by decide +kernel
theorem dL_law_659 : decode cL_law 659 = .ok (.goto 4, 3) := by decide +kernel
theorem dL_law_662 : decode cL_law 662 = .ok (.iconst 0, 1) := by decide +kernel
theorem dL_law_663 : decode cL_law 663 = .ok (.invokevirtual 80, 3) := by decide +kernel
theorem dL_law_666 : decode cL_law 666 = .ok (.if_icmp .eq 399, 3) := by decide +kernel
theorem dL_law_669 : decode cL_law 669 = .ok (.iconst 0, 1) := by decide +kernel
theorem dL_law_670 : decode cL_law 670 = .ok (.ireturn, 1) := by decide +kernel
theorem dL_law_671 : decode cL_law 671 = .ok (.aload_n 1, 1) := by decide +kernel
theorem dL_law_672 : decode cL_law 672 = .ok (.invokevirtual 81, 3) := by decide +kernel
theorem dL_law_675 : decode cL_law 675 = .ok (.aload_n 2, 1) := by decide +kernel
theorem dL_law_676 : decode cL_law 676 = .ok (.invokevirtual 84, 3) := by decide +kernel
theorem dL_law_679 : decode cL_law 679 = .ok (.if_icmp .eq 386, 3) := by decide +kernel
theorem dL_law_682 : decode cL_law 682 = .ok (.iconst 0, 1) := by decide +kernel
theorem dL_law_683 : decode cL_law 683 = .ok (.ireturn, 1) := by decide +kernel
theorem dL_law_684 : decode cL_law 684 = .ok (.aload_n 1, 1) := by decide +kernel
theorem dL_law_685 : decode cL_law 685 = .ok (.aload_n 0, 1) := by decide +kernel
theorem dL_law_686 : decode cL_law 686 = .ok (.iload_n 3, 1) := by decide +kernel
theorem dL_law_687 : decode cL_law 687 = .ok (.iconst 1, 1) := by decide +kernel
theorem dL_law_688 : decode cL_law 688 = .ok (.iadd, 1) := by decide +kernel
theorem dL_law_689 : decode cL_law 689 = .ok (.iaload, 1) := by decide +kernel
theorem dL_law_690 : decode cL_law 690 = .ok (.invokevirtual 85, 3) := by decide +kernel
theorem dL_law_693 : decode cL_law 693 = .ok (.aload_n 2, 1) := by decide +kernel
theorem dL_law_694 : decode cL_law 694 = .ok (.aload_n 0, 1) := by decide +kernel
theorem dL_law_695 : decode cL_law 695 = .ok (.iload_n 3, 1) := by decide +kernel
theorem dL_law_696 : decode cL_law 696 = .ok (.iconst 1, 1) := by decide +kernel
theorem dL_law_697 : decode cL_law 697 = .ok (.iadd, 1) := by decide +kernel
theorem dL_law_698 : decode cL_law 698 = .ok (.iaload, 1) := by decide +kernel
theorem dL_law_699 : decode cL_law 699 = .ok (.invokevirtual 88, 3) := by decide +kernel
theorem dL_law_702 : decode cL_law 702 = .ok (.if_icmp .eq 363, 3) := by decide +kernel
theorem dL_law_705 : decode cL_law 705 = .ok (.iconst 0, 1) := by decide +kernel
theorem dL_law_706 : decode cL_law 706 = .ok (.ireturn, 1) := by decide +kernel
theorem dL_law_707 : decode cL_law 707 = .ok (.aload_n 1, 1) := by decide +kernel
theorem dL_law_708 : decode cL_law 708 = .ok (.invokevirtual 89, 3) := by decide +kernel
theorem dL_law_711 : decode cL_law 711 = .ok (.aload_n 2, 1) := by decide +kernel
theorem dL_law_712 : decode cL_law 712 = .ok (.invokevirtual 93, 3) := by decide +kernel
theorem dL_law_715 : decode cL_law 715 = .ok (.if_icmp .eq 350, 3) := by decide +kernel
theorem dL_law_718 : decode cL_law 718 = .ok (.iconst 0, 1) := by decide +kernel
theorem dL_law_719 : decode cL_law 719 = .ok (.ireturn, 1) := by decide +kernel
theorem dL_law_720 : decode cL_law 720 = .ok (.aload_n 1, 1) := by decide +kernel
theorem dL_law_721 : decode cL_law 721 = .ok (.aload_n 0, 1) := by decide +kernel
theorem dL_law_722 : decode cL_law 722 = .ok (.iload_n 3, 1) := by decide +kernel
theorem dL_law_723 : decode cL_law 723 = .ok (.iconst 1, 1) := by decide +kernel
theorem dL_law_724 : decode cL_law 724 = .ok (.iadd, 1) := by decide +kernel
theorem dL_law_725 : decode cL_law 725 = .ok (.iaload, 1) := by decide +kernel
theorem dL_law_726 : decode cL_law 726 = .ok (.invokevirtual 94, 3) := by decide +kernel
theorem dL_law_729 : decode cL_law 729 = .ok (.aload_n 2, 1) := by decide +kernel
theorem dL_law_730 : decode cL_law 730 = .ok (.aload_n 0, 1) := by decide +kernel
theorem dL_law_731 : decode cL_law 731 = .ok (.iload_n 3, 1) := by decide +kernel
theorem dL_law_732 : decode cL_law 732 = .ok (.iconst 1, 1) := by decide +kernel
theorem dL_law_733 : decode cL_law 733 = .ok (.iadd, 1) := by decide +kernel
theorem dL_law_734 : decode cL_law 734 = .ok (.iaload, 1) := by decide +kernel
theorem dL_law_735 : decode cL_law 735 = .ok (.invokevirtual 97, 3) := by decide +kernel
theorem dL_law_738 : decode cL_law 738 = .ok (.if_icmp .eq 327, 3) := by decide +kernel
theorem dL_law_741 : decode cL_law 741 = .ok (.iconst 0, 1) := by decide +kernel
theorem dL_law_742 : decode cL_law 742 = .ok (.ireturn, 1) := by decide +kernel
theorem dL_law_743 : decode cL_law 743 = .ok (.aload_n 1, 1) := by decide +kernel
theorem dL_law_744 : decode cL_law 744 = .ok (.aload_n 0, 1) := by decide +kernel
theorem dL_law_745 : decode cL_law 745 = .ok (.iload_n 3, 1) := by decide +kernel
theorem dL_law_746 : decode cL_law 746 = .ok (.iconst 1, 1) := by decide +kernel
theorem dL_law_747 : decode cL_law 747 = .ok (.iadd, 1) := by decide +kernel
theorem dL_law_748 : decode cL_law 748 = .ok (.iaload, 1) := by decide +kernel
theorem dL_law_749 : decode cL_law 749 = .ok (.invokevirtual 98, 3) := by decide +kernel
theorem dL_law_752 : decode cL_law 752 = .ok (.aload_n 2, 1) := by decide +kernel
theorem dL_law_753 : decode cL_law 753 = .ok (.aload_n 0, 1) := by decide +kernel
theorem dL_law_754 : decode cL_law 754 = .ok (.iload_n 3, 1) := by decide +kernel
theorem dL_law_755 : decode cL_law 755 = .ok (.iconst 1, 1) := by decide +kernel
theorem dL_law_756 : decode cL_law 756 = .ok (.iadd, 1) := by decide +kernel
theorem dL_law_757 : decode cL_law 757 = .ok (.iaload, 1) := by decide +kernel
theorem dL_law_758 : decode cL_law 758 = .ok (.invokevirtual 101, 3) := by decide +kernel
theorem dL_law_761 : decode cL_law 761 = .ok (.if_icmp .eq 304, 3) := by decide +kernel
theorem dL_law_764 : decode cL_law 764 = .ok (.iconst 0, 1) := by decide +kernel
theorem dL_law_765 : decode cL_law 765 = .ok (.ireturn, 1) := by decide +kernel
theorem dL_law_766 : decode cL_law 766 = .ok (.aload_n 1, 1) := by decide +kernel
theorem dL_law_767 : decode cL_law 767 = .ok (.invokevirtual 102, 3) := by decide +kernel
theorem dL_law_770 : decode cL_law 770 = .ok (.aload_n 2, 1) := by decide +kernel
theorem dL_law_771 : decode cL_law 771 = .ok (.invokevirtual 105, 3) := by decide +kernel
theorem dL_law_774 : decode cL_law 774 = .ok (.if_icmp .eq 291, 3) := by decide +kernel
theorem dL_law_777 : decode cL_law 777 = .ok (.iconst 0, 1) := by decide +kernel
theorem dL_law_778 : decode cL_law 778 = .ok (.ireturn, 1) := by decide +kernel
theorem dL_law_779 : decode cL_law 779 = .ok (.aload_n 1, 1) := by decide +kernel
theorem dL_law_780 : decode cL_law 780 = .ok (.aload_n 0, 1) := by decide +kernel
theorem dL_law_781 : decode cL_law 781 = .ok (.iload_n 3, 1) := by decide +kernel
theorem dL_law_782 : decode cL_law 782 = .ok (.iconst 1, 1) := by decide +kernel
theorem dL_law_783 : decode cL_law 783 = .ok (.iadd, 1) := by decide +kernel
theorem dL_law_784 : decode cL_law 784 = .ok (.iaload, 1) := by decide +kernel
theorem dL_law_785 : decode cL_law 785 = .ok (.aload_n 0, 1) := by decide +kernel
theorem dL_law_786 : decode cL_law 786 = .ok (.iload_n 3, 1) := by decide +kernel
theorem dL_law_787 : decode cL_law 787 = .ok (.iconst 2, 1) := by decide +kernel
theorem dL_law_788 : decode cL_law 788 = .ok (.iadd, 1) := by decide +kernel
theorem dL_law_789 : decode cL_law 789 = .ok (.iaload, 1) := by decide +kernel
theorem dL_law_790 : decode cL_law 790 = .ok (.invokevirtual 106, 3) := by decide +kernel
theorem dL_law_793 : decode cL_law 793 = .ok (.aload_n 2, 1) := by decide +kernel
theorem dL_law_794 : decode cL_law 794 = .ok (.aload_n 0, 1) := by decide +kernel
theorem dL_law_795 : decode cL_law 795 = .ok (.iload_n 3, 1) := by decide +kernel
theorem dL_law_796 : decode cL_law 796 = .ok (.iconst 1, 1) := by decide +kernel
theorem dL_law_797 : decode cL_law 797 = .ok (.iadd, 1) := by decide +kernel
theorem dL_law_798 : decode cL_law 798 = .ok (.iaload, 1) := by decide +kernel
theorem dL_law_799 : decode cL_law 799 = .ok (.aload_n 0, 1) := by decide +kernel
theorem dL_law_800 : decode cL_law 800 = .ok (.iload_n 3, 1) := by decide +kernel
theorem dL_law_801 : decode cL_law 801 = .ok (.iconst 2, 1) := by decide +kernel
theorem dL_law_802 : decode cL_law 802 = .ok (.iadd, 1) := by decide +kernel
theorem dL_law_803 : decode cL_law 803 = .ok (.iaload, 1) := by decide +kernel
theorem dL_law_804 : decode cL_law 804 = .ok (.invokevirtual 109, 3) := by decide +kernel
theorem dL_law_807 : decode cL_law 807 = .ok (.if_icmp .eq 258, 3) := by decide +kernel
theorem dL_law_810 : decode cL_law 810 = .ok (.iconst 0, 1) := by decide +kernel
theorem dL_law_811 : decode cL_law 811 = .ok (.ireturn, 1) := by decide +kernel
theorem dL_law_812 : decode cL_law 812 = .ok (.aload_n 1, 1) := by decide +kernel
theorem dL_law_813 : decode cL_law 813 = .ok (.aload_n 0, 1) := by decide +kernel
theorem dL_law_814 : decode cL_law 814 = .ok (.iload_n 3, 1) := by decide +kernel
theorem dL_law_815 : decode cL_law 815 = .ok (.iconst 1, 1) := by decide +kernel
theorem dL_law_816 : decode cL_law 816 = .ok (.iadd, 1) := by decide +kernel
theorem dL_law_817 : decode cL_law 817 = .ok (.iaload, 1) := by decide +kernel
theorem dL_law_818 : decode cL_law 818 = .ok (.aload_n 0, 1) := by decide +kernel
theorem dL_law_819 : decode cL_law 819 = .ok (.iload_n 3, 1) := by decide +kernel
theorem dL_law_820 : decode cL_law 820 = .ok (.iconst 2, 1) := by decide +kernel
theorem dL_law_821 : decode cL_law 821 = .ok (.iadd, 1) := by decide +kernel
theorem dL_law_822 : decode cL_law 822 = .ok (.iaload, 1) := by decide +kernel
theorem dL_law_823 : decode cL_law 823 = .ok (.invokevirtual 110, 3) := by decide +kernel
theorem dL_law_826 : decode cL_law 826 = .ok (.aload_n 2, 1) := by decide +kernel
theorem dL_law_827 : decode cL_law 827 = .ok (.aload_n 0, 1) := by decide +kernel
theorem dL_law_828 : decode cL_law 828 = .ok (.iload_n 3, 1) := by decide +kernel
theorem dL_law_829 : decode cL_law 829 = .ok (.iconst 1, 1) := by decide +kernel
theorem dL_law_830 : decode cL_law 830 = .ok (.iadd, 1) := by decide +kernel
theorem dL_law_831 : decode cL_law 831 = .ok (.iaload, 1) := by decide +kernel
theorem dL_law_832 : decode cL_law 832 = .ok (.aload_n 0, 1) := by decide +kernel
theorem dL_law_833 : decode cL_law 833 = .ok (.iload_n 3, 1) := by decide +kernel
theorem dL_law_834 : decode cL_law 834 = .ok (.iconst 2, 1) := by decide +kernel
theorem dL_law_835 : decode cL_law 835 = .ok (.iadd, 1) := by decide +kernel
theorem dL_law_836 : decode cL_law 836 = .ok (.iaload, 1) := by decide +kernel
theorem dL_law_837 : decode cL_law 837 = .ok (.invokevirtual 113, 3) := by decide +kernel
theorem dL_law_840 : decode cL_law 840 = .ok (.if_icmp .eq 225, 3) := by decide +kernel
theorem dL_law_843 : decode cL_law 843 = .ok (.iconst 0, 1) := by decide +kernel
theorem dL_law_844 : decode cL_law 844 = .ok (.ireturn, 1) := by decide +kernel
theorem dL_law_845 : decode cL_law 845 = .ok (.aload_n 1, 1) := by decide +kernel
theorem dL_law_846 : decode cL_law 846 = .ok (.aload_n 0, 1) := by decide +kernel
theorem dL_law_847 : decode cL_law 847 = .ok (.iload_n 3, 1) := by decide +kernel
theorem dL_law_848 : decode cL_law 848 = .ok (.iconst 1, 1) := by decide +kernel
theorem dL_law_849 : decode cL_law 849 = .ok (.iadd, 1) := by decide +kernel
theorem dL_law_850 : decode cL_law 850 = .ok (.iaload, 1) := by decide +kernel
theorem dL_law_851 : decode cL_law 851 = .ok (.aload_n 0, 1) := by decide +kernel
theorem dL_law_852 : decode cL_law 852 = .ok (.iload_n 3, 1) := by decide +kernel
theorem dL_law_853 : decode cL_law 853 = .ok (.iconst 2, 1) := by decide +kernel
theorem dL_law_854 : decode cL_law 854 = .ok (.iadd, 1) := by decide +kernel
theorem dL_law_855 : decode cL_law 855 = .ok (.iaload, 1) := by decide +kernel
theorem dL_law_856 : decode cL_law 856 = .ok (.invokevirtual 114, 3) := by decide +kernel
theorem dL_law_859 : decode cL_law 859 = .ok (.aload_n 2, 1) := by decide +kernel
theorem dL_law_860 : decode cL_law 860 = .ok (.aload_n 0, 1) := by decide +kernel
theorem dL_law_861 : decode cL_law 861 = .ok (.iload_n 3, 1) := by decide +kernel
theorem dL_law_862 : decode cL_law 862 = .ok (.iconst 1, 1) := by decide +kernel
theorem dL_law_863 : decode cL_law 863 = .ok (.iadd, 1) := by decide +kernel
theorem dL_law_864 : decode cL_law 864 = .ok (.iaload, 1) := by decide +kernel
theorem dL_law_865 : decode cL_law 865 = .ok (.aload_n 0, 1) := by decide +kernel
theorem dL_law_866 : decode cL_law 866 = .ok (.iload_n 3, 1) := by decide +kernel
theorem dL_law_867 : decode cL_law 867 = .ok (.iconst 2, 1) := by decide +kernel
theorem dL_law_868 : decode cL_law 868 = .ok (.iadd, 1) := by decide +kernel
theorem dL_law_869 : decode cL_law 869 = .ok (.iaload, 1) := by decide +kernel
theorem dL_law_870 : decode cL_law 870 = .ok (.invokevirtual 117, 3) := by decide +kernel
theorem dL_law_873 : decode cL_law 873 = .ok (.if_icmp .eq 192, 3) := by decide +kernel
theorem dL_law_876 : decode cL_law 876 = .ok (.iconst 0, 1) := by decide +kernel
theorem dL_law_877 : decode cL_law 877 = .ok (.ireturn, 1) := by decide +kernel
theorem dL_law_878 : decode cL_law 878 = .ok (.aload_n 1, 1) := by decide +kernel
theorem dL_law_879 : decode cL_law 879 = .ok (.aload_n 0, 1) := by decide +kernel
theorem dL_law_880 : decode cL_law 880 = .ok (.iload_n 3, 1) := by decide +kernel
theorem dL_law_881 : decode cL_law 881 = .ok (.iconst 1, 1) := by decide +kernel
theorem dL_law_882 : decode cL_law 882 = .ok (.iadd, 1) := by decide +kernel
theorem dL_law_883 : decode cL_law 883 = .ok (.iaload, 1) := by decide +kernel
theorem dL_law_884 : decode cL_law 884 = .ok (.invokevirtual 118, 3) := by decide +kernel
theorem dL_law_887 : decode cL_law 887 = .ok (.aload_n 2, 1) := by decide +kernel
theorem dL_law_888 : decode cL_law 888 = .ok (.aload_n 0, 1) := by decide +kernel
theorem dL_law_889 : decode cL_law 889 = .ok (.iload_n 3, 1) := by decide +kernel
theorem dL_law_890 : decode cL_law 890 = .ok (.iconst 1, 1) := by decide +kernel
theorem dL_law_891 : decode cL_law 891 = .ok (.iadd, 1) := by decide +kernel
theorem dL_law_892 : decode cL_law 892 = .ok (.iaload, 1) := by decide +kernel
theorem dL_law_893 : decode cL_law 893 = .ok (.invokevirtual 121, 3) := by decide +kernel
theorem dL_law_896 : decode cL_law 896 = .ok (.if_icmp .eq 169, 3) := by decide +kernel
theorem dL_law_899 : decode cL_law 899 = .ok (.iconst 0, 1) := by decide +kernel
theorem dL_law_900 : decode cL_law 900 = .ok (.ireturn, 1) := by decide +kernel
theorem dL_law_901 : decode cL_law 901 = .ok (.aload_n 1, 1) := by decide +kernel
theorem dL_law_902 : decode cL_law 902 = .ok (.aload_n 0, 1) := by decide +kernel
theorem dL_law_903 : decode cL_law 903 = .ok (.iload_n 3, 1) := by decide +kernel
theorem dL_law_904 : decode cL_law 904 = .ok (.iconst 1, 1) := by decide +kernel
theorem dL_law_905 : decode cL_law 905 = .ok (.iadd, 1) := by decide +kernel
theorem dL_law_906 : decode cL_law 906 = .ok (.iaload, 1) := by decide +kernel
theorem dL_law_907 : decode cL_law 907 = .ok (.aload_n 0, 1) := by decide +kernel
theorem dL_law_908 : decode cL_law 908 = .ok (.iload_n 3, 1) := by decide +kernel
theorem dL_law_909 : decode cL_law 909 = .ok (.iconst 2, 1) := by decide +kernel
theorem dL_law_910 : decode cL_law 910 = .ok (.iadd, 1) := by decide +kernel
theorem dL_law_911 : decode cL_law 911 = .ok (.iaload, 1) := by decide +kernel
theorem dL_law_912 : decode cL_law 912 = .ok (.invokevirtual 122, 3) := by decide +kernel
theorem dL_law_915 : decode cL_law 915 = .ok (.aload_n 2, 1) := by decide +kernel
theorem dL_law_916 : decode cL_law 916 = .ok (.aload_n 0, 1) := by decide +kernel
theorem dL_law_917 : decode cL_law 917 = .ok (.iload_n 3, 1) := by decide +kernel
theorem dL_law_918 : decode cL_law 918 = .ok (.iconst 1, 1) := by decide +kernel
theorem dL_law_919 : decode cL_law 919 = .ok (.iadd, 1) := by decide +kernel
theorem dL_law_920 : decode cL_law 920 = .ok (.iaload, 1) := by decide +kernel
theorem dL_law_921 : decode cL_law 921 = .ok (.aload_n 0, 1) := by decide +kernel
theorem dL_law_922 : decode cL_law 922 = .ok (.iload_n 3, 1) := by decide +kernel
theorem dL_law_923 : decode cL_law 923 = .ok (.iconst 2, 1) := by decide +kernel
theorem dL_law_924 : decode cL_law 924 = .ok (.iadd, 1) := by decide +kernel
theorem dL_law_925 : decode cL_law 925 = .ok (.iaload, 1) := by decide +kernel
theorem dL_law_926 : decode cL_law 926 = .ok (.invokevirtual 125, 3) := by decide +kernel
theorem dL_law_929 : decode cL_law 929 = .ok (.if_icmp .eq 136, 3) := by decide +kernel
theorem dL_law_932 : decode cL_law 932 = .ok (.iconst 0, 1) := by decide +kernel
theorem dL_law_933 : decode cL_law 933 = .ok (.ireturn, 1) := by decide +kernel
theorem dL_law_934 : decode cL_law 934 = .ok (.aload_n 1, 1) := by decide +kernel
theorem dL_law_935 : decode cL_law 935 = .ok (.invokevirtual 126, 3) := by decide +kernel
theorem dL_law_938 : decode cL_law 938 = .ok (.aload_n 2, 1) := by decide +kernel
theorem dL_law_939 : decode cL_law 939 = .ok (.invokevirtual 129, 3) := by decide +kernel
theorem dL_law_942 : decode cL_law 942 = .ok (.if_icmp .eq 123, 3) := by decide +kernel
theorem dL_law_945 : decode cL_law 945 = .ok (.iconst 0, 1) := by decide +kernel
theorem dL_law_946 : decode cL_law 946 = .ok (.ireturn, 1) := by decide +kernel
theorem dL_law_947 : decode cL_law 947 = .ok (.aload_n 1, 1) := by decide +kernel
theorem dL_law_948 : decode cL_law 948 = .ok (.aload_n 0, 1) := by decide +kernel
theorem dL_law_949 : decode cL_law 949 = .ok (.iload_n 3, 1) := by decide +kernel
theorem dL_law_950 : decode cL_law 950 = .ok (.iconst 1, 1) := by decide +kernel
theorem dL_law_951 : decode cL_law 951 = .ok (.iadd, 1) := by decide +kernel
theorem dL_law_952 : decode cL_law 952 = .ok (.iaload, 1) := by decide +kernel
theorem dL_law_953 : decode cL_law 953 = .ok (.invokevirtual 130, 3) := by decide +kernel
theorem dL_law_956 : decode cL_law 956 = .ok (.aload_n 2, 1) := by decide +kernel
theorem dL_law_957 : decode cL_law 957 = .ok (.aload_n 0, 1) := by decide +kernel
theorem dL_law_958 : decode cL_law 958 = .ok (.iload_n 3, 1) := by decide +kernel
theorem dL_law_959 : decode cL_law 959 = .ok (.iconst 1, 1) := by decide +kernel
theorem dL_law_960 : decode cL_law 960 = .ok (.iadd, 1) := by decide +kernel
theorem dL_law_961 : decode cL_law 961 = .ok (.iaload, 1) := by decide +kernel
theorem dL_law_962 : decode cL_law 962 = .ok (.invokevirtual 133, 3) := by decide +kernel
theorem dL_law_965 : decode cL_law 965 = .ok (.if_icmp .eq 100, 3) := by decide +kernel
theorem dL_law_968 : decode cL_law 968 = .ok (.iconst 0, 1) := by decide +kernel
theorem dL_law_969 : decode cL_law 969 = .ok (.ireturn, 1) := by decide +kernel
theorem dL_law_970 : decode cL_law 970 = .ok (.aload_n 1, 1) := by decide +kernel
theorem dL_law_971 : decode cL_law 971 = .ok (.aload_n 0, 1) := by decide +kernel
theorem dL_law_972 : decode cL_law 972 = .ok (.iload_n 3, 1) := by decide +kernel
theorem dL_law_973 : decode cL_law 973 = .ok (.iconst 1, 1) := by decide +kernel
theorem dL_law_974 : decode cL_law 974 = .ok (.iadd, 1) := by decide +kernel
theorem dL_law_975 : decode cL_law 975 = .ok (.iaload, 1) := by decide +kernel
theorem dL_law_976 : decode cL_law 976 = .ok (.invokevirtual 134, 3) := by decide +kernel
theorem dL_law_979 : decode cL_law 979 = .ok (.aload_n 2, 1) := by decide +kernel
theorem dL_law_980 : decode cL_law 980 = .ok (.aload_n 0, 1) := by decide +kernel
theorem dL_law_981 : decode cL_law 981 = .ok (.iload_n 3, 1) := by decide +kernel
theorem dL_law_982 : decode cL_law 982 = .ok (.iconst 1, 1) := by decide +kernel
theorem dL_law_983 : decode cL_law 983 = .ok (.iadd, 1) := by decide +kernel
theorem dL_law_984 : decode cL_law 984 = .ok (.iaload, 1) := by decide +kernel
theorem dL_law_985 : decode cL_law 985 = .ok (.invokevirtual 137, 3) := by decide +kernel
theorem dL_law_988 : decode cL_law 988 = .ok (.if_icmp .eq 77, 3) := by decide +kernel
theorem dL_law_991 : decode cL_law 991 = .ok (.iconst 0, 1) := by decide +kernel
theorem dL_law_992 : decode cL_law 992 = .ok (.ireturn, 1) := by decide +kernel
theorem dL_law_993 : decode cL_law 993 = .ok (.aload_n 1, 1) := by decide +kernel
theorem dL_law_994 : decode cL_law 994 = .ok (.invokevirtual 138, 3) := by decide +kernel
theorem dL_law_997 : decode cL_law 997 = .ok (.aload_n 2, 1) := by decide +kernel
theorem dL_law_998 : decode cL_law 998 = .ok (.invokevirtual 141, 3) := by decide +kernel
theorem dL_law_1001 : decode cL_law 1001 = .ok (.if_icmp .eq 64, 3) := by decide +kernel
theorem dL_law_1004 : decode cL_law 1004 = .ok (.iconst 0, 1) := by decide +kernel
theorem dL_law_1005 : decode cL_law 1005 = .ok (.ireturn, 1) := by decide +kernel
theorem dL_law_1006 : decode cL_law 1006 = .ok (.aload_n 1, 1) := by decide +kernel
theorem dL_law_1007 : decode cL_law 1007 = .ok (.aload_n 0, 1) := by decide +kernel
theorem dL_law_1008 : decode cL_law 1008 = .ok (.iload_n 3, 1) := by decide +kernel
theorem dL_law_1009 : decode cL_law 1009 = .ok (.iconst 1, 1) := by decide +kernel
theorem dL_law_1010 : decode cL_law 1010 = .ok (.iadd, 1) := by decide +kernel
theorem dL_law_1011 : decode cL_law 1011 = .ok (.iaload, 1) := by decide +kernel
theorem dL_law_1012 : decode cL_law 1012 = .ok (.invokevirtual 142, 3) := by decide +kernel
theorem dL_law_1015 : decode cL_law 1015 = .ok (.aload_n 2, 1) := by decide +kernel
theorem dL_law_1016 : decode cL_law 1016 = .ok (.aload_n 0, 1) := by decide +kernel
theorem dL_law_1017 : decode cL_law 1017 = .ok (.iload_n 3, 1) := by decide +kernel
theorem dL_law_1018 : decode cL_law 1018 = .ok (.iconst 1, 1) := by decide +kernel
theorem dL_law_1019 : decode cL_law 1019 = .ok (.iadd, 1) := by decide +kernel
theorem dL_law_1020 : decode cL_law 1020 = .ok (.iaload, 1) := by decide +kernel
theorem dL_law_1021 : decode cL_law 1021 = .ok (.invokevirtual 145, 3) := by decide +kernel
theorem dL_law_1024 : decode cL_law 1024 = .ok (.if_icmp .eq 41, 3) := by decide +kernel
theorem dL_law_1027 : decode cL_law 1027 = .ok (.iconst 0, 1) := by decide +kernel
theorem dL_law_1028 : decode cL_law 1028 = .ok (.ireturn, 1) := by decide +kernel
theorem dL_law_1029 : decode cL_law 1029 = .ok (.aload_n 1, 1) := by decide +kernel
theorem dL_law_1030 : decode cL_law 1030 = .ok (.invokevirtual 146, 3) := by decide +kernel
theorem dL_law_1033 : decode cL_law 1033 = .ok (.aload_n 2, 1) := by decide +kernel
theorem dL_law_1034 : decode cL_law 1034 = .ok (.invokevirtual 149, 3) := by decide +kernel
theorem dL_law_1037 : decode cL_law 1037 = .ok (.if_icmp .eq 28, 3) := by decide +kernel
theorem dL_law_1040 : decode cL_law 1040 = .ok (.iconst 0, 1) := by decide +kernel
theorem dL_law_1041 : decode cL_law 1041 = .ok (.ireturn, 1) := by decide +kernel
theorem dL_law_1042 : decode cL_law 1042 = .ok (.aload_n 1, 1) := by decide +kernel
theorem dL_law_1043 : decode cL_law 1043 = .ok (.aload_n 0, 1) := by decide +kernel
theorem dL_law_1044 : decode cL_law 1044 = .ok (.iload_n 3, 1) := by decide +kernel
theorem dL_law_1045 : decode cL_law 1045 = .ok (.iconst 1, 1) := by decide +kernel
theorem dL_law_1046 : decode cL_law 1046 = .ok (.iadd, 1) := by decide +kernel
theorem dL_law_1047 : decode cL_law 1047 = .ok (.iaload, 1) := by decide +kernel
theorem dL_law_1048 : decode cL_law 1048 = .ok (.invokevirtual 150, 3) := by decide +kernel
theorem dL_law_1051 : decode cL_law 1051 = .ok (.aload_n 2, 1) := by decide +kernel
theorem dL_law_1052 : decode cL_law 1052 = .ok (.aload_n 0, 1) := by decide +kernel
theorem dL_law_1053 : decode cL_law 1053 = .ok (.iload_n 3, 1) := by decide +kernel
theorem dL_law_1054 : decode cL_law 1054 = .ok (.iconst 1, 1) := by decide +kernel
theorem dL_law_1055 : decode cL_law 1055 = .ok (.iadd, 1) := by decide +kernel
theorem dL_law_1056 : decode cL_law 1056 = .ok (.iaload, 1) := by decide +kernel
theorem dL_law_1057 : decode cL_law 1057 = .ok (.invokevirtual 153, 3) := by decide +kernel
theorem dL_law_1060 : decode cL_law 1060 = .ok (.if_icmp .eq 5, 3) := by decide +kernel
theorem dL_law_1063 : decode cL_law 1063 = .ok (.iconst 0, 1) := by decide +kernel
theorem dL_law_1064 : decode cL_law 1064 = .ok (.ireturn, 1) := by decide +kernel
theorem dL_law_1065 : decode cL_law 1065 = .ok (.iinc 3 6, 3) := by decide +kernel
theorem dL_law_1068 : decode cL_law 1068 = .ok (.goto (-1050), 3) := by decide +kernel
theorem dL_law_1071 : decode cL_law 1071 = .ok (.iconst 1, 1) := by decide +kernel
theorem dL_law_1072 : decode cL_law 1072 = .ok (.ireturn, 1) := by decide +kernel
theorem vl_L_13 : VL RL 13 yX10_feed cX10_feed 6 (some .int) 5 := ⟨tbi_3 (i := 45) rfl rfl, tbi_3 (i := 46) rfl rfl, tbi_3 (i := 47) rfl rfl, tbi_1 (i := 1) rfl rfl, tbi_3 (i := 48) rfl rfl, ⟨by decide +kernel, by decide +kernel, by decide +kernel⟩, by decide⟩
theorem vl_L_17 : VL RL 17 yX11_feed cX11_feed 6 (some .int) 5 := ⟨tbi_7 (i := 107) rfl rfl, tbi_7 (i := 108) rfl rfl, tbi_7 (i := 109) rfl rfl, tbi_1 (i := 16) rfl rfl, tbi_7 (i := 110) rfl rfl, ⟨by decide +kernel, by decide +kernel, by decide +kernel⟩, by decide⟩
theorem vl_L_18 : VL RL 18 yX10_end cX10_end 2 (some .boolean) 1 := ⟨tbi_3 (i := 57) rfl rfl, tbi_3 (i := 58) rfl rfl, tbi_3 (i := 59) rfl rfl, tbi_1 (i := 1) rfl rfl, tbi_3 (i := 60) rfl rfl, ⟨by decide +kernel, by decide +kernel, by decide +kernel⟩, by decide⟩
theorem vl_L_22 : VL RL 22 yX11_end cX11_end 2 (some .boolean) 1 := ⟨tbi_7 (i := 119) rfl rfl, tbi_7 (i := 120) rfl rfl, tbi_7 (i := 121) rfl rfl, tbi_1 (i := 16) rfl rfl, tbi_7 (i := 122) rfl rfl, ⟨by decide +kernel, by decide +kernel, by decide +kernel⟩, by decide⟩
theorem vl_L_23 : VL RL 23 yX10_island cX10_island 3 (some .int) 0 := ⟨tbi_3 (i := 61) rfl rfl, tbi_3 (i := 62) rfl rfl, tbi_3 (i := 63) rfl rfl, tbi_1 (i := 1) rfl rfl, tbi_3 (i := 64) rfl rfl, ⟨by decide +kernel, by decide +kernel, by decide +kernel⟩, by decide⟩
theorem vl_L_27 : VL RL 27 yX11_island cX11_island 2 (some .int) 0 := ⟨tbi_7 (i := 123) rfl rfl, tbi_7 (i := 124) rfl rfl, tbi_7 (i := 125) rfl rfl, tbi_1 (i := 16) rfl rfl, tbi_7 (i := 126) rfl rfl, ⟨by decide +kernel, by decide +kernel, by decide +kernel⟩, by decide⟩
theorem vl_L_28 : VL RL 28 yX10_fault cX10_fault 2 (some .int) 1 := ⟨tbi_4 (i := 85) rfl rfl, tbi_4 (i := 86) rfl rfl, tbi_4 (i := 87) rfl rfl, tbi_1 (i := 1) rfl rfl, tbi_4 (i := 88) rfl rfl, ⟨by decide +kernel, by decide +kernel, by decide +kernel⟩, by decide⟩
theorem vl_L_32 : VL RL 32 yX11_fault cX11_fault 2 (some .int) 1 := ⟨tbi_8 (i := 69) rfl rfl, tbi_8 (i := 70) rfl rfl, tbi_8 (i := 71) rfl rfl, tbi_1 (i := 16) rfl rfl, tbi_8 (i := 72) rfl rfl, ⟨by decide +kernel, by decide +kernel, by decide +kernel⟩, by decide⟩
theorem vl_L_33 : VL RL 33 yX10_has cX10_has 2 (some .int) 1 := ⟨tbi_4 (i := 89) rfl rfl, tbi_4 (i := 90) rfl rfl, tbi_4 (i := 91) rfl rfl, tbi_1 (i := 1) rfl rfl, tbi_4 (i := 92) rfl rfl, ⟨by decide +kernel, by decide +kernel, by decide +kernel⟩, by decide⟩
theorem vl_L_36 : VL RL 36 yX11_has cX11_has 4 (some .int) 1 := ⟨tbi_8 (i := 89) rfl rfl, tbi_8 (i := 90) rfl rfl, tbi_8 (i := 91) rfl rfl, tbi_1 (i := 16) rfl rfl, tbi_8 (i := 92) rfl rfl, ⟨by decide +kernel, by decide +kernel, by decide +kernel⟩, by decide⟩
theorem vl_L_37 : VL RL 37 yX10_letter cX10_letter 4 (some .int) 3 := ⟨tbi_4 (i := 95) rfl rfl, tbi_4 (i := 96) rfl rfl, tbi_4 (i := 97) rfl rfl, tbi_1 (i := 1) rfl rfl, tbi_4 (i := 98) rfl rfl, ⟨by decide +kernel, by decide +kernel, by decide +kernel⟩, by decide⟩
theorem vl_L_41 : VL RL 41 yX11_letter cX11_letter 9 (some .int) 3 := ⟨tbi_8 (i := 105) rfl rfl, tbi_8 (i := 106) rfl rfl, tbi_8 (i := 107) rfl rfl, tbi_1 (i := 16) rfl rfl, tbi_8 (i := 108) rfl rfl, ⟨by decide +kernel, by decide +kernel, by decide +kernel⟩, by decide⟩
theorem vl_L_42 : VL RL 42 yX10_cell cX10_cell 3 (some .int) 2 := ⟨tbi_4 (i := 110) rfl rfl, tbi_4 (i := 111) rfl rfl, tbi_4 (i := 112) rfl rfl, tbi_1 (i := 1) rfl rfl, tbi_4 (i := 113) rfl rfl, ⟨by decide +kernel, by decide +kernel, by decide +kernel⟩, by decide⟩
theorem vl_L_46 : VL RL 46 yX11_cell cX11_cell 3 (some .int) 2 := ⟨tbi_8 (i := 114) rfl rfl, tbi_8 (i := 115) rfl rfl, tbi_8 (i := 116) rfl rfl, tbi_1 (i := 16) rfl rfl, tbi_8 (i := 117) rfl rfl, ⟨by decide +kernel, by decide +kernel, by decide +kernel⟩, by decide⟩
theorem vl_L_47 : VL RL 47 yX10_thing cX10_thing 3 (some .int) 2 := ⟨tbi_4 (i := 128) rfl rfl, tbi_4 (i := 129) rfl rfl, tbi_4 (i := 130) rfl rfl, tbi_1 (i := 1) rfl rfl, tbi_4 (i := 131) rfl rfl, ⟨by decide +kernel, by decide +kernel, by decide +kernel⟩, by decide⟩
theorem vl_L_50 : VL RL 50 yX11_thing cX11_thing 3 (some .int) 2 := ⟨tbi_8 (i := 162) rfl rfl, tbi_8 (i := 163) rfl rfl, tbi_8 (i := 164) rfl rfl, tbi_1 (i := 16) rfl rfl, tbi_8 (i := 165) rfl rfl, ⟨by decide +kernel, by decide +kernel, by decide +kernel⟩, by decide⟩
theorem vl_L_51 : VL RL 51 yX10_cistern cX10_cistern 3 (some .int) 2 := ⟨tbi_4 (i := 230) rfl rfl, tbi_4 (i := 231) rfl rfl, tbi_4 (i := 232) rfl rfl, tbi_1 (i := 1) rfl rfl, tbi_4 (i := 233) rfl rfl, ⟨by decide +kernel, by decide +kernel, by decide +kernel⟩, by decide⟩
theorem vl_L_54 : VL RL 54 yX11_cistern cX11_cistern 5 (some .int) 2 := ⟨tbi_8 (i := 225) rfl rfl, tbi_8 (i := 226) rfl rfl, tbi_8 (i := 227) rfl rfl, tbi_1 (i := 16) rfl rfl, tbi_8 (i := 228) rfl rfl, ⟨by decide +kernel, by decide +kernel, by decide +kernel⟩, by decide⟩
theorem vl_L_55 : VL RL 55 yX10_sky cX10_sky 2 (some .int) 1 := ⟨tbi_4 (i := 239) rfl rfl, tbi_5 (i := 0) rfl rfl, tbi_5 (i := 1) rfl rfl, tbi_1 (i := 1) rfl rfl, tbi_5 (i := 2) rfl rfl, ⟨by decide +kernel, by decide +kernel, by decide +kernel⟩, by decide⟩
theorem vl_L_58 : VL RL 58 yX11_sky cX11_sky 2 (some .int) 1 := ⟨tbi_8 (i := 237) rfl rfl, tbi_8 (i := 238) rfl rfl, tbi_8 (i := 239) rfl rfl, tbi_1 (i := 16) rfl rfl, tbi_9 (i := 0) rfl rfl, ⟨by decide +kernel, by decide +kernel, by decide +kernel⟩, by decide⟩
theorem vl_L_59 : VL RL 59 yX10_cold cX10_cold 4 (some .int) 2 := ⟨tbi_5 (i := 6) rfl rfl, tbi_5 (i := 7) rfl rfl, tbi_5 (i := 8) rfl rfl, tbi_1 (i := 1) rfl rfl, tbi_5 (i := 9) rfl rfl, ⟨by decide +kernel, by decide +kernel, by decide +kernel⟩, by decide⟩
theorem vl_L_62 : VL RL 62 yX11_cold cX11_cold 3 (some .int) 2 := ⟨tbi_9 (i := 1) rfl rfl, tbi_9 (i := 2) rfl rfl, tbi_9 (i := 3) rfl rfl, tbi_1 (i := 16) rfl rfl, tbi_9 (i := 4) rfl rfl, ⟨by decide +kernel, by decide +kernel, by decide +kernel⟩, by decide⟩
theorem vl_L_63 : VL RL 63 yX10_dew cX10_dew 4 (some .int) 3 := ⟨tbi_5 (i := 11) rfl rfl, tbi_5 (i := 12) rfl rfl, tbi_5 (i := 13) rfl rfl, tbi_1 (i := 1) rfl rfl, tbi_5 (i := 14) rfl rfl, ⟨by decide +kernel, by decide +kernel, by decide +kernel⟩, by decide⟩
theorem vl_L_66 : VL RL 66 yX11_dew cX11_dew 5 (some .int) 3 := ⟨tbi_9 (i := 5) rfl rfl, tbi_9 (i := 6) rfl rfl, tbi_9 (i := 7) rfl rfl, tbi_1 (i := 16) rfl rfl, tbi_9 (i := 8) rfl rfl, ⟨by decide +kernel, by decide +kernel, by decide +kernel⟩, by decide⟩
theorem vl_L_67 : VL RL 67 yX10_whole cX10_whole 2 (some .int) 1 := ⟨tbi_5 (i := 15) rfl rfl, tbi_5 (i := 16) rfl rfl, tbi_5 (i := 17) rfl rfl, tbi_1 (i := 1) rfl rfl, tbi_5 (i := 18) rfl rfl, ⟨by decide +kernel, by decide +kernel, by decide +kernel⟩, by decide⟩
theorem vl_L_70 : VL RL 70 yX11_whole cX11_whole 9 (some .int) 1 := ⟨tbi_9 (i := 9) rfl rfl, tbi_9 (i := 10) rfl rfl, tbi_9 (i := 11) rfl rfl, tbi_1 (i := 16) rfl rfl, tbi_9 (i := 12) rfl rfl, ⟨by decide +kernel, by decide +kernel, by decide +kernel⟩, by decide⟩
theorem vl_L_71 : VL RL 71 yX10_hang cX10_hang 3 (some .boolean) 2 := ⟨tbi_5 (i := 51) rfl rfl, tbi_5 (i := 52) rfl rfl, tbi_5 (i := 53) rfl rfl, tbi_1 (i := 1) rfl rfl, tbi_5 (i := 54) rfl rfl, ⟨by decide +kernel, by decide +kernel, by decide +kernel⟩, by decide⟩
theorem vl_L_75 : VL RL 75 yX11_hang cX11_hang 4 (some .boolean) 2 := ⟨tbi_9 (i := 21) rfl rfl, tbi_9 (i := 22) rfl rfl, tbi_9 (i := 23) rfl rfl, tbi_1 (i := 16) rfl rfl, tbi_9 (i := 24) rfl rfl, ⟨by decide +kernel, by decide +kernel, by decide +kernel⟩, by decide⟩
theorem vl_L_76 : VL RL 76 yX10_wall cX10_wall 4 (some .boolean) 2 := ⟨tbi_5 (i := 66) rfl rfl, tbi_5 (i := 67) rfl rfl, tbi_5 (i := 68) rfl rfl, tbi_1 (i := 1) rfl rfl, tbi_5 (i := 69) rfl rfl, ⟨by decide +kernel, by decide +kernel, by decide +kernel⟩, by decide⟩
theorem vl_L_80 : VL RL 80 yX11_wall cX11_wall 4 (some .boolean) 2 := ⟨tbi_9 (i := 33) rfl rfl, tbi_9 (i := 34) rfl rfl, tbi_9 (i := 35) rfl rfl, tbi_1 (i := 16) rfl rfl, tbi_9 (i := 36) rfl rfl, ⟨by decide +kernel, by decide +kernel, by decide +kernel⟩, by decide⟩
theorem vl_L_81 : VL RL 81 yX10_night cX10_night 1 (some .int) 0 := ⟨tbi_5 (i := 71) rfl rfl, tbi_5 (i := 72) rfl rfl, tbi_5 (i := 73) rfl rfl, tbi_1 (i := 1) rfl rfl, tbi_5 (i := 74) rfl rfl, ⟨by decide +kernel, by decide +kernel, by decide +kernel⟩, by decide⟩
theorem vl_L_84 : VL RL 84 yX11_night cX11_night 1 (some .int) 0 := ⟨tbi_9 (i := 37) rfl rfl, tbi_9 (i := 38) rfl rfl, tbi_9 (i := 39) rfl rfl, tbi_1 (i := 16) rfl rfl, tbi_9 (i := 40) rfl rfl, ⟨by decide +kernel, by decide +kernel, by decide +kernel⟩, by decide⟩
theorem vl_L_85 : VL RL 85 yX10_nights cX10_nights 4 (some .int) 1 := ⟨tbi_5 (i := 89) rfl rfl, tbi_5 (i := 90) rfl rfl, tbi_5 (i := 91) rfl rfl, tbi_1 (i := 1) rfl rfl, tbi_5 (i := 92) rfl rfl, ⟨by decide +kernel, by decide +kernel, by decide +kernel⟩, by decide⟩
theorem vl_L_88 : VL RL 88 yX11_nights cX11_nights 5 (some .int) 1 := ⟨tbi_9 (i := 45) rfl rfl, tbi_9 (i := 46) rfl rfl, tbi_9 (i := 47) rfl rfl, tbi_1 (i := 16) rfl rfl, tbi_9 (i := 48) rfl rfl, ⟨by decide +kernel, by decide +kernel, by decide +kernel⟩, by decide⟩
theorem vl_L_89 : VL RL 89 yX10_undo cX10_undo 1 (some .boolean) 0 := ⟨tbi_5 (i := 104) rfl rfl, tbi_5 (i := 105) rfl rfl, tbi_5 (i := 106) rfl rfl, tbi_1 (i := 1) rfl rfl, tbi_5 (i := 107) rfl rfl, ⟨by decide +kernel, by decide +kernel, by decide +kernel⟩, by decide⟩
theorem vl_L_93 : VL RL 93 yX11_undo cX11_undo 1 (some .boolean) 0 := ⟨tbi_8 (i := 77) rfl rfl, tbi_8 (i := 78) rfl rfl, tbi_8 (i := 79) rfl rfl, tbi_1 (i := 16) rfl rfl, tbi_8 (i := 80) rfl rfl, ⟨by decide +kernel, by decide +kernel, by decide +kernel⟩, by decide⟩
theorem vl_L_94 : VL RL 94 yX10_seed cX10_seed 2 (some .boolean) 1 := ⟨tbi_5 (i := 112) rfl rfl, tbi_5 (i := 113) rfl rfl, tbi_5 (i := 114) rfl rfl, tbi_1 (i := 1) rfl rfl, tbi_5 (i := 115) rfl rfl, ⟨by decide +kernel, by decide +kernel, by decide +kernel⟩, by decide⟩
theorem vl_L_97 : VL RL 97 yX11_seed cX11_seed 2 (some .boolean) 1 := ⟨tbi_9 (i := 57) rfl rfl, tbi_9 (i := 58) rfl rfl, tbi_9 (i := 59) rfl rfl, tbi_1 (i := 16) rfl rfl, tbi_9 (i := 60) rfl rfl, ⟨by decide +kernel, by decide +kernel, by decide +kernel⟩, by decide⟩
theorem vl_L_98 : VL RL 98 yX10_order cX10_order 2 (some .int) 1 := ⟨tbi_5 (i := 116) rfl rfl, tbi_5 (i := 117) rfl rfl, tbi_5 (i := 118) rfl rfl, tbi_1 (i := 1) rfl rfl, tbi_5 (i := 119) rfl rfl, ⟨by decide +kernel, by decide +kernel, by decide +kernel⟩, by decide⟩
theorem vl_L_101 : VL RL 101 yX11_order cX11_order 7 (some .int) 1 := ⟨tbi_9 (i := 61) rfl rfl, tbi_9 (i := 62) rfl rfl, tbi_9 (i := 63) rfl rfl, tbi_1 (i := 16) rfl rfl, tbi_9 (i := 64) rfl rfl, ⟨by decide +kernel, by decide +kernel, by decide +kernel⟩, by decide⟩
theorem vl_L_102 : VL RL 102 yX10_wrung cX10_wrung 4 (some .int) 0 := ⟨tbi_5 (i := 157) rfl rfl, tbi_5 (i := 158) rfl rfl, tbi_5 (i := 159) rfl rfl, tbi_1 (i := 1) rfl rfl, tbi_5 (i := 160) rfl rfl, ⟨by decide +kernel, by decide +kernel, by decide +kernel⟩, by decide⟩
theorem vl_L_105 : VL RL 105 yX11_wrung cX11_wrung 5 (some .int) 0 := ⟨tbi_9 (i := 73) rfl rfl, tbi_9 (i := 74) rfl rfl, tbi_9 (i := 75) rfl rfl, tbi_1 (i := 16) rfl rfl, tbi_9 (i := 76) rfl rfl, ⟨by decide +kernel, by decide +kernel, by decide +kernel⟩, by decide⟩
theorem vl_L_106 : VL RL 106 yX10_alike cX10_alike 3 (some .int) 2 := ⟨tbi_5 (i := 166) rfl rfl, tbi_5 (i := 167) rfl rfl, tbi_5 (i := 168) rfl rfl, tbi_1 (i := 1) rfl rfl, tbi_5 (i := 169) rfl rfl, ⟨by decide +kernel, by decide +kernel, by decide +kernel⟩, by decide⟩
theorem vl_L_109 : VL RL 109 yX11_alike cX11_alike 7 (some .int) 2 := ⟨tbi_9 (i := 77) rfl rfl, tbi_9 (i := 78) rfl rfl, tbi_9 (i := 79) rfl rfl, tbi_1 (i := 16) rfl rfl, tbi_9 (i := 80) rfl rfl, ⟨by decide +kernel, by decide +kernel, by decide +kernel⟩, by decide⟩
theorem vl_L_110 : VL RL 110 yX10_linen cX10_linen 4 (some .int) 2 := ⟨tbi_5 (i := 209) rfl rfl, tbi_5 (i := 210) rfl rfl, tbi_5 (i := 211) rfl rfl, tbi_1 (i := 1) rfl rfl, tbi_5 (i := 212) rfl rfl, ⟨by decide +kernel, by decide +kernel, by decide +kernel⟩, by decide⟩
theorem vl_L_113 : VL RL 113 yX11_linen cX11_linen 7 (some .int) 2 := ⟨tbi_9 (i := 90) rfl rfl, tbi_9 (i := 91) rfl rfl, tbi_9 (i := 92) rfl rfl, tbi_1 (i := 16) rfl rfl, tbi_9 (i := 93) rfl rfl, ⟨by decide +kernel, by decide +kernel, by decide +kernel⟩, by decide⟩
theorem vl_L_114 : VL RL 114 yX10_down cX10_down 3 (some .int) 2 := ⟨tbi_5 (i := 222) rfl rfl, tbi_5 (i := 223) rfl rfl, tbi_5 (i := 224) rfl rfl, tbi_1 (i := 1) rfl rfl, tbi_5 (i := 225) rfl rfl, ⟨by decide +kernel, by decide +kernel, by decide +kernel⟩, by decide⟩
theorem vl_L_117 : VL RL 117 yX11_down cX11_down 3 (some .int) 2 := ⟨tbi_9 (i := 97) rfl rfl, tbi_9 (i := 98) rfl rfl, tbi_9 (i := 99) rfl rfl, tbi_1 (i := 16) rfl rfl, tbi_9 (i := 100) rfl rfl, ⟨by decide +kernel, by decide +kernel, by decide +kernel⟩, by decide⟩
theorem vl_L_118 : VL RL 118 yX10_best cX10_best 7 (some .int) 1 := ⟨tbi_5 (i := 235) rfl rfl, tbi_5 (i := 236) rfl rfl, tbi_5 (i := 237) rfl rfl, tbi_1 (i := 1) rfl rfl, tbi_5 (i := 238) rfl rfl, ⟨by decide +kernel, by decide +kernel, by decide +kernel⟩, by decide⟩
theorem vl_L_121 : VL RL 121 yX11_best cX11_best 6 (some .int) 1 := ⟨tbi_9 (i := 106) rfl rfl, tbi_9 (i := 107) rfl rfl, tbi_9 (i := 108) rfl rfl, tbi_1 (i := 16) rfl rfl, tbi_9 (i := 109) rfl rfl, ⟨by decide +kernel, by decide +kernel, by decide +kernel⟩, by decide⟩
theorem vl_L_122 : VL RL 122 yX10_votes cX10_votes 7 (some .int) 2 := ⟨tbi_5 (i := 239) rfl rfl, tbi_6 (i := 0) rfl rfl, tbi_6 (i := 1) rfl rfl, tbi_1 (i := 1) rfl rfl, tbi_6 (i := 2) rfl rfl, ⟨by decide +kernel, by decide +kernel, by decide +kernel⟩, by decide⟩
theorem vl_L_125 : VL RL 125 yX11_votes cX11_votes 6 (some .int) 2 := ⟨tbi_9 (i := 110) rfl rfl, tbi_9 (i := 111) rfl rfl, tbi_9 (i := 112) rfl rfl, tbi_1 (i := 16) rfl rfl, tbi_9 (i := 113) rfl rfl, ⟨by decide +kernel, by decide +kernel, by decide +kernel⟩, by decide⟩
theorem vl_L_126 : VL RL 126 yX10_walked cX10_walked 2 (some .int) 0 := ⟨tbi_6 (i := 3) rfl rfl, tbi_6 (i := 4) rfl rfl, tbi_6 (i := 5) rfl rfl, tbi_1 (i := 1) rfl rfl, tbi_6 (i := 6) rfl rfl, ⟨by decide +kernel, by decide +kernel, by decide +kernel⟩, by decide⟩
theorem vl_L_129 : VL RL 129 yX11_walked cX11_walked 6 (some .int) 0 := ⟨tbi_9 (i := 114) rfl rfl, tbi_9 (i := 115) rfl rfl, tbi_9 (i := 116) rfl rfl, tbi_1 (i := 16) rfl rfl, tbi_9 (i := 117) rfl rfl, ⟨by decide +kernel, by decide +kernel, by decide +kernel⟩, by decide⟩
theorem vl_L_130 : VL RL 130 yX10_walk cX10_walk 2 (some .int) 1 := ⟨tbi_6 (i := 32) rfl rfl, tbi_6 (i := 33) rfl rfl, tbi_6 (i := 34) rfl rfl, tbi_1 (i := 1) rfl rfl, tbi_6 (i := 35) rfl rfl, ⟨by decide +kernel, by decide +kernel, by decide +kernel⟩, by decide⟩
theorem vl_L_133 : VL RL 133 yX11_walk cX11_walk 2 (some .int) 1 := ⟨tbi_9 (i := 138) rfl rfl, tbi_9 (i := 139) rfl rfl, tbi_9 (i := 140) rfl rfl, tbi_1 (i := 16) rfl rfl, tbi_9 (i := 141) rfl rfl, ⟨by decide +kernel, by decide +kernel, by decide +kernel⟩, by decide⟩
theorem vl_L_134 : VL RL 134 yX10_stores cX10_stores 5 (some .int) 1 := ⟨tbi_6 (i := 40) rfl rfl, tbi_6 (i := 41) rfl rfl, tbi_6 (i := 42) rfl rfl, tbi_1 (i := 1) rfl rfl, tbi_6 (i := 43) rfl rfl, ⟨by decide +kernel, by decide +kernel, by decide +kernel⟩, by decide⟩
theorem vl_L_137 : VL RL 137 yX11_stores cX11_stores 5 (some .int) 1 := ⟨tbi_9 (i := 142) rfl rfl, tbi_9 (i := 143) rfl rfl, tbi_9 (i := 144) rfl rfl, tbi_1 (i := 16) rfl rfl, tbi_9 (i := 145) rfl rfl, ⟨by decide +kernel, by decide +kernel, by decide +kernel⟩, by decide⟩
theorem vl_L_138 : VL RL 138 yX10_image cX10_image 2 (some .int) 0 := ⟨tbi_6 (i := 48) rfl rfl, tbi_6 (i := 49) rfl rfl, tbi_6 (i := 50) rfl rfl, tbi_1 (i := 1) rfl rfl, tbi_6 (i := 51) rfl rfl, ⟨by decide +kernel, by decide +kernel, by decide +kernel⟩, by decide⟩
theorem vl_L_141 : VL RL 141 yX11_image cX11_image 3 (some .int) 0 := ⟨tbi_9 (i := 146) rfl rfl, tbi_9 (i := 147) rfl rfl, tbi_9 (i := 148) rfl rfl, tbi_1 (i := 16) rfl rfl, tbi_9 (i := 149) rfl rfl, ⟨by decide +kernel, by decide +kernel, by decide +kernel⟩, by decide⟩
theorem vl_L_142 : VL RL 142 yX10_octet cX10_octet 2 (some .int) 1 := ⟨tbi_6 (i := 63) rfl rfl, tbi_6 (i := 64) rfl rfl, tbi_6 (i := 65) rfl rfl, tbi_1 (i := 1) rfl rfl, tbi_6 (i := 66) rfl rfl, ⟨by decide +kernel, by decide +kernel, by decide +kernel⟩, by decide⟩
theorem vl_L_145 : VL RL 145 yX11_octet cX11_octet 2 (some .int) 1 := ⟨tbi_9 (i := 154) rfl rfl, tbi_9 (i := 155) rfl rfl, tbi_9 (i := 156) rfl rfl, tbi_1 (i := 16) rfl rfl, tbi_9 (i := 157) rfl rfl, ⟨by decide +kernel, by decide +kernel, by decide +kernel⟩, by decide⟩
theorem vl_L_146 : VL RL 146 yX10_on cX10_on 3 (some .boolean) 0 := ⟨tbi_6 (i := 67) rfl rfl, tbi_6 (i := 68) rfl rfl, tbi_6 (i := 69) rfl rfl, tbi_1 (i := 1) rfl rfl, tbi_6 (i := 70) rfl rfl, ⟨by decide +kernel, by decide +kernel, by decide +kernel⟩, by decide⟩
theorem vl_L_149 : VL RL 149 yX11_on cX11_on 2 (some .boolean) 0 := ⟨tbi_9 (i := 158) rfl rfl, tbi_9 (i := 159) rfl rfl, tbi_9 (i := 160) rfl rfl, tbi_1 (i := 16) rfl rfl, tbi_9 (i := 161) rfl rfl, ⟨by decide +kernel, by decide +kernel, by decide +kernel⟩, by decide⟩
theorem vl_L_150 : VL RL 150 yX10_status cX10_status 2 (some .int) 1 := ⟨tbi_6 (i := 102) rfl rfl, tbi_6 (i := 103) rfl rfl, tbi_6 (i := 104) rfl rfl, tbi_1 (i := 1) rfl rfl, tbi_6 (i := 105) rfl rfl, ⟨by decide +kernel, by decide +kernel, by decide +kernel⟩, by decide⟩
theorem vl_L_153 : VL RL 153 yX11_status cX11_status 2 (some .int) 1 := ⟨tbi_8 (i := 73) rfl rfl, tbi_8 (i := 74) rfl rfl, tbi_8 (i := 75) rfl rfl, tbi_1 (i := 16) rfl rfl, tbi_8 (i := 76) rfl rfl, ⟨by decide +kernel, by decide +kernel, by decide +kernel⟩, by decide⟩
set_option maxRecDepth 100000 in
set_option maxHeartbeats 4000000 in
theorem law_0_ok {g : Gm} {w : Wd} (C : Cx g w RL cL_law 4 ret) {xs : Nat → Int} {LL : Nat} (SC : SX g w xs LL) {N : Nat} {kk : Int → Mem → Option Mem} {out : Mem} (hkk : ∀ l3 m, kk l3 m = some out → JL g w 1065 l3 m) {l3 : Int} {m : Mem} (h : law_0 N xs LL kk l3 m = some out) : JL g w 180 l3 m := by
  unfold law_0 at h
  unfold JL
  refine j_aload_n C dL_law_180 rfl ?_
  refine j_aload_n C dL_law_181 rfl ?_
  refine j_iload_n C dL_law_182 rfl ?_
  refine j_iconst C dL_law_183 rfl ?_
  refine j_iadd C dL_law_184 ?_
  refine j_sld C SC dL_law_185 h (fun t2 h => ?_)
  refine j_aload_n C dL_law_186 rfl ?_
  refine j_iload_n C dL_law_187 rfl ?_
  refine j_iconst C dL_law_188 rfl ?_
  refine j_iadd C dL_law_189 ?_
  refine j_sld C SC dL_law_190 h (fun t3 h => ?_)
  refine j_aload_n C dL_law_191 rfl ?_
  refine j_iload_n C dL_law_192 rfl ?_
  refine j_iconst C dL_law_193 rfl ?_
  refine j_iadd C dL_law_194 ?_
  refine j_sld C SC dL_law_195 h (fun t4 h => ?_)
  refine j_aload_n C dL_law_196 rfl ?_
  refine j_iload_n C dL_law_197 rfl ?_
  refine j_iconst C dL_law_198 rfl ?_
  refine j_iadd C dL_law_199 ?_
  refine j_sld C SC dL_law_200 h (fun t5 h => ?_)
  refine j_aload_n C dL_law_201 rfl ?_
  refine j_iload_n C dL_law_202 rfl ?_
  refine j_iconst C dL_law_203 rfl ?_
  refine j_iadd C dL_law_204 ?_
  refine j_sld C SC dL_law_205 h (fun t6 h => ?_)
  obtain ⟨p7, ep7, h⟩ := bind_some h
  have qp7 := X10_feed_ct ep7
  refine j_cLI C dL_law_206 vl_L_13 CF10 rfl qp7.1 qp7.2 (Nat.le_of_ble_eq_true rfl) (Nat.le_of_ble_eq_true rfl) rfl rfl (Nat.le_of_ble_eq_true rfl) ?_
  refine j_aload_n C dL_law_209 rfl ?_
  refine j_aload_n C dL_law_210 rfl ?_
  refine j_iload_n C dL_law_211 rfl ?_
  refine j_iconst C dL_law_212 rfl ?_
  refine j_iadd C dL_law_213 ?_
  refine j_sld C SC dL_law_214 h (fun t8 h => ?_)
  refine j_aload_n C dL_law_215 rfl ?_
  refine j_iload_n C dL_law_216 rfl ?_
  refine j_iconst C dL_law_217 rfl ?_
  refine j_iadd C dL_law_218 ?_
  refine j_sld C SC dL_law_219 h (fun t9 h => ?_)
  refine j_aload_n C dL_law_220 rfl ?_
  refine j_iload_n C dL_law_221 rfl ?_
  refine j_iconst C dL_law_222 rfl ?_
  refine j_iadd C dL_law_223 ?_
  refine j_sld C SC dL_law_224 h (fun t10 h => ?_)
  refine j_aload_n C dL_law_225 rfl ?_
  refine j_iload_n C dL_law_226 rfl ?_
  refine j_iconst C dL_law_227 rfl ?_
  refine j_iadd C dL_law_228 ?_
  refine j_sld C SC dL_law_229 h (fun t11 h => ?_)
  refine j_aload_n C dL_law_230 rfl ?_
  refine j_iload_n C dL_law_231 rfl ?_
  refine j_iconst C dL_law_232 rfl ?_
  refine j_iadd C dL_law_233 ?_
  refine j_sld C SC dL_law_234 h (fun t12 h => ?_)
  obtain ⟨p13, ep13, h⟩ := bind_some h
  have qp13 := X11_feed_ct ep13
  refine j_cLI C dL_law_235 vl_L_17 CF11 rfl qp13.1 qp13.2 (Nat.le_of_ble_eq_true rfl) (Nat.le_of_ble_eq_true rfl) rfl rfl (Nat.le_of_ble_eq_true rfl) ?_
  refine j_icmp_eq C 1065 dL_law_238 rfl h (fun c14 h => ?_) (fun c14 h => ?_)
  · exact hkk _ _ h
  · exact none_ne (α := Mem) h
set_option maxRecDepth 100000 in
set_option maxHeartbeats 4000000 in
theorem law_1_ok {g : Gm} {w : Wd} (C : Cx g w RL cL_law 4 ret) {xs : Nat → Int} {LL : Nat} (SC : SX g w xs LL) {N : Nat} {kk : Int → Mem → Option Mem} {out : Mem} (hkk : ∀ l3 m, kk l3 m = some out → JL g w 1065 l3 m) {l3 : Int} {m : Mem} (h : law_1 N xs LL kk l3 m = some out) : JL g w 243 l3 m := by
  unfold law_1 at h
  unfold JL
  refine j_aload_n C dL_law_243 rfl ?_
  refine j_aload_n C dL_law_244 rfl ?_
  refine j_iload_n C dL_law_245 rfl ?_
  refine j_iconst C dL_law_246 rfl ?_
  refine j_iadd C dL_law_247 ?_
  refine j_sld C SC dL_law_248 h (fun t16 h => ?_)
  obtain ⟨p17, ep17, h⟩ := bind_some h
  have qp17 := X10_end_ct ep17
  refine j_cLI C dL_law_249 vl_L_18 CF10 rfl qp17.1 qp17.2 (Nat.le_of_ble_eq_true rfl) (Nat.le_of_ble_eq_true rfl) rfl rfl (Nat.le_of_ble_eq_true rfl) ?_
  refine j_aload_n C dL_law_252 rfl ?_
  refine j_aload_n C dL_law_253 rfl ?_
  refine j_iload_n C dL_law_254 rfl ?_
  refine j_iconst C dL_law_255 rfl ?_
  refine j_iadd C dL_law_256 ?_
  refine j_sld C SC dL_law_257 h (fun t18 h => ?_)
  obtain ⟨p19, ep19, h⟩ := bind_some h
  have qp19 := X11_end_ct ep19
  refine j_cLI C dL_law_258 vl_L_22 CF11 rfl qp19.1 qp19.2 (Nat.le_of_ble_eq_true rfl) (Nat.le_of_ble_eq_true rfl) rfl rfl (Nat.le_of_ble_eq_true rfl) ?_
  refine j_icmp_eq C 1065 dL_law_261 rfl h (fun c20 h => ?_) (fun c20 h => ?_)
  · exact hkk _ _ h
  · exact none_ne (α := Mem) h
set_option maxRecDepth 100000 in
set_option maxHeartbeats 4000000 in
theorem law_2_ok {g : Gm} {w : Wd} (C : Cx g w RL cL_law 4 ret) {xs : Nat → Int} {LL : Nat} (SC : SX g w xs LL) {N : Nat} {kk : Int → Mem → Option Mem} {out : Mem} (hkk : ∀ l3 m, kk l3 m = some out → JL g w 1065 l3 m) {l3 : Int} {m : Mem} (h : law_2 N xs LL kk l3 m = some out) : JL g w 266 l3 m := by
  unfold law_2 at h
  unfold JL
  refine j_aload_n C dL_law_266 rfl ?_
  obtain ⟨p22, ep22, h⟩ := bind_some h
  have qp22 := X10_island_ct ep22
  refine j_cLI C dL_law_267 vl_L_23 CF10 rfl qp22.1 qp22.2 (Nat.le_of_ble_eq_true rfl) (Nat.le_of_ble_eq_true rfl) rfl rfl (Nat.le_of_ble_eq_true rfl) ?_
  refine j_aload_n C dL_law_270 rfl ?_
  obtain ⟨p23, ep23, h⟩ := bind_some h
  have qp23 := X11_island_ct ep23
  refine j_cLI C dL_law_271 vl_L_27 CF11 rfl qp23.1 qp23.2 (Nat.le_of_ble_eq_true rfl) (Nat.le_of_ble_eq_true rfl) rfl rfl (Nat.le_of_ble_eq_true rfl) ?_
  refine j_icmp_eq C 1065 dL_law_274 rfl h (fun c24 h => ?_) (fun c24 h => ?_)
  · exact hkk _ _ h
  · exact none_ne (α := Mem) h
set_option maxRecDepth 100000 in
set_option maxHeartbeats 4000000 in
theorem law_3_ok {g : Gm} {w : Wd} (C : Cx g w RL cL_law 4 ret) {xs : Nat → Int} {LL : Nat} (SC : SX g w xs LL) {N : Nat} {kk : Int → Mem → Option Mem} {out : Mem} (hkk : ∀ l3 m, kk l3 m = some out → JL g w 1065 l3 m) {l3 : Int} {m : Mem} (h : law_3 N xs LL kk l3 m = some out) : JL g w 279 l3 m := by
  unfold law_3 at h
  unfold JL
  refine j_aload_n C dL_law_279 rfl ?_
  refine j_aload_n C dL_law_280 rfl ?_
  refine j_iload_n C dL_law_281 rfl ?_
  refine j_iconst C dL_law_282 rfl ?_
  refine j_iadd C dL_law_283 ?_
  refine j_sld C SC dL_law_284 h (fun t26 h => ?_)
  obtain ⟨p27, ep27, h⟩ := bind_some h
  have qp27 := X10_fault_ct ep27
  refine j_cLI C dL_law_285 vl_L_28 CF10 rfl qp27.1 qp27.2 (Nat.le_of_ble_eq_true rfl) (Nat.le_of_ble_eq_true rfl) rfl rfl (Nat.le_of_ble_eq_true rfl) ?_
  refine j_aload_n C dL_law_288 rfl ?_
  refine j_aload_n C dL_law_289 rfl ?_
  refine j_iload_n C dL_law_290 rfl ?_
  refine j_iconst C dL_law_291 rfl ?_
  refine j_iadd C dL_law_292 ?_
  refine j_sld C SC dL_law_293 h (fun t28 h => ?_)
  obtain ⟨p29, ep29, h⟩ := bind_some h
  have qp29 := X11_fault_ct ep29
  refine j_cLI C dL_law_294 vl_L_32 CF11 rfl qp29.1 qp29.2 (Nat.le_of_ble_eq_true rfl) (Nat.le_of_ble_eq_true rfl) rfl rfl (Nat.le_of_ble_eq_true rfl) ?_
  refine j_icmp_eq C 1065 dL_law_297 rfl h (fun c30 h => ?_) (fun c30 h => ?_)
  · exact hkk _ _ h
  · exact none_ne (α := Mem) h
set_option maxRecDepth 100000 in
set_option maxHeartbeats 4000000 in
theorem law_4_ok {g : Gm} {w : Wd} (C : Cx g w RL cL_law 4 ret) {xs : Nat → Int} {LL : Nat} (SC : SX g w xs LL) {N : Nat} {kk : Int → Mem → Option Mem} {out : Mem} (hkk : ∀ l3 m, kk l3 m = some out → JL g w 1065 l3 m) {l3 : Int} {m : Mem} (h : law_4 N xs LL kk l3 m = some out) : JL g w 302 l3 m := by
  unfold law_4 at h
  unfold JL
  refine j_aload_n C dL_law_302 rfl ?_
  refine j_aload_n C dL_law_303 rfl ?_
  refine j_iload_n C dL_law_304 rfl ?_
  refine j_iconst C dL_law_305 rfl ?_
  refine j_iadd C dL_law_306 ?_
  refine j_sld C SC dL_law_307 h (fun t32 h => ?_)
  obtain ⟨p33, ep33, h⟩ := bind_some h
  have qp33 := X10_has_ct ep33
  refine j_cLI C dL_law_308 vl_L_33 CF10 rfl qp33.1 qp33.2 (Nat.le_of_ble_eq_true rfl) (Nat.le_of_ble_eq_true rfl) rfl rfl (Nat.le_of_ble_eq_true rfl) ?_
  refine j_aload_n C dL_law_311 rfl ?_
  refine j_aload_n C dL_law_312 rfl ?_
  refine j_iload_n C dL_law_313 rfl ?_
  refine j_iconst C dL_law_314 rfl ?_
  refine j_iadd C dL_law_315 ?_
  refine j_sld C SC dL_law_316 h (fun t34 h => ?_)
  obtain ⟨p35, ep35, h⟩ := bind_some h
  have qp35 := X11_has_ct ep35
  refine j_cLI C dL_law_317 vl_L_36 CF11 rfl qp35.1 qp35.2 (Nat.le_of_ble_eq_true rfl) (Nat.le_of_ble_eq_true rfl) rfl rfl (Nat.le_of_ble_eq_true rfl) ?_
  refine j_icmp_eq C 1065 dL_law_320 rfl h (fun c36 h => ?_) (fun c36 h => ?_)
  · exact hkk _ _ h
  · exact none_ne (α := Mem) h
set_option maxRecDepth 100000 in
set_option maxHeartbeats 4000000 in
theorem law_5_ok {g : Gm} {w : Wd} (C : Cx g w RL cL_law 4 ret) {xs : Nat → Int} {LL : Nat} (SC : SX g w xs LL) {N : Nat} {kk : Int → Mem → Option Mem} {out : Mem} (hkk : ∀ l3 m, kk l3 m = some out → JL g w 1065 l3 m) {l3 : Int} {m : Mem} (h : law_5 N xs LL kk l3 m = some out) : JL g w 325 l3 m := by
  unfold law_5 at h
  unfold JL
  refine j_aload_n C dL_law_325 rfl ?_
  refine j_aload_n C dL_law_326 rfl ?_
  refine j_iload_n C dL_law_327 rfl ?_
  refine j_iconst C dL_law_328 rfl ?_
  refine j_iadd C dL_law_329 ?_
  refine j_sld C SC dL_law_330 h (fun t38 h => ?_)
  refine j_aload_n C dL_law_331 rfl ?_
  refine j_iload_n C dL_law_332 rfl ?_
  refine j_iconst C dL_law_333 rfl ?_
  refine j_iadd C dL_law_334 ?_
  refine j_sld C SC dL_law_335 h (fun t39 h => ?_)
  refine j_aload_n C dL_law_336 rfl ?_
  refine j_iload_n C dL_law_337 rfl ?_
  refine j_iconst C dL_law_338 rfl ?_
  refine j_iadd C dL_law_339 ?_
  refine j_sld C SC dL_law_340 h (fun t40 h => ?_)
  obtain ⟨p41, ep41, h⟩ := bind_some h
  have qp41 := X10_letter_ct ep41
  refine j_cLI C dL_law_341 vl_L_37 CF10 rfl qp41.1 qp41.2 (Nat.le_of_ble_eq_true rfl) (Nat.le_of_ble_eq_true rfl) rfl rfl (Nat.le_of_ble_eq_true rfl) ?_
  refine j_aload_n C dL_law_344 rfl ?_
  refine j_aload_n C dL_law_345 rfl ?_
  refine j_iload_n C dL_law_346 rfl ?_
  refine j_iconst C dL_law_347 rfl ?_
  refine j_iadd C dL_law_348 ?_
  refine j_sld C SC dL_law_349 h (fun t42 h => ?_)
  refine j_aload_n C dL_law_350 rfl ?_
  refine j_iload_n C dL_law_351 rfl ?_
  refine j_iconst C dL_law_352 rfl ?_
  refine j_iadd C dL_law_353 ?_
  refine j_sld C SC dL_law_354 h (fun t43 h => ?_)
  refine j_aload_n C dL_law_355 rfl ?_
  refine j_iload_n C dL_law_356 rfl ?_
  refine j_iconst C dL_law_357 rfl ?_
  refine j_iadd C dL_law_358 ?_
  refine j_sld C SC dL_law_359 h (fun t44 h => ?_)
  obtain ⟨p45, ep45, h⟩ := bind_some h
  have qp45 := X11_letter_ct ep45
  refine j_cLI C dL_law_360 vl_L_41 CF11 rfl qp45.1 qp45.2 (Nat.le_of_ble_eq_true rfl) (Nat.le_of_ble_eq_true rfl) rfl rfl (Nat.le_of_ble_eq_true rfl) ?_
  refine j_icmp_eq C 1065 dL_law_363 rfl h (fun c46 h => ?_) (fun c46 h => ?_)
  · exact hkk _ _ h
  · exact none_ne (α := Mem) h
set_option maxRecDepth 100000 in
set_option maxHeartbeats 4000000 in
theorem law_6_ok {g : Gm} {w : Wd} (C : Cx g w RL cL_law 4 ret) {xs : Nat → Int} {LL : Nat} (SC : SX g w xs LL) {N : Nat} {kk : Int → Mem → Option Mem} {out : Mem} (hkk : ∀ l3 m, kk l3 m = some out → JL g w 1065 l3 m) {l3 : Int} {m : Mem} (h : law_6 N xs LL kk l3 m = some out) : JL g w 368 l3 m := by
  unfold law_6 at h
  unfold JL
  refine j_aload_n C dL_law_368 rfl ?_
  refine j_aload_n C dL_law_369 rfl ?_
  refine j_iload_n C dL_law_370 rfl ?_
  refine j_iconst C dL_law_371 rfl ?_
  refine j_iadd C dL_law_372 ?_
  refine j_sld C SC dL_law_373 h (fun t48 h => ?_)
  refine j_aload_n C dL_law_374 rfl ?_
  refine j_iload_n C dL_law_375 rfl ?_
  refine j_iconst C dL_law_376 rfl ?_
  refine j_iadd C dL_law_377 ?_
  refine j_sld C SC dL_law_378 h (fun t49 h => ?_)
  obtain ⟨p50, ep50, h⟩ := bind_some h
  have qp50 := X10_cell_ct ep50
  refine j_cLI C dL_law_379 vl_L_42 CF10 rfl qp50.1 qp50.2 (Nat.le_of_ble_eq_true rfl) (Nat.le_of_ble_eq_true rfl) rfl rfl (Nat.le_of_ble_eq_true rfl) ?_
  refine j_aload_n C dL_law_382 rfl ?_
  refine j_aload_n C dL_law_383 rfl ?_
  refine j_iload_n C dL_law_384 rfl ?_
  refine j_iconst C dL_law_385 rfl ?_
  refine j_iadd C dL_law_386 ?_
  refine j_sld C SC dL_law_387 h (fun t51 h => ?_)
  refine j_aload_n C dL_law_388 rfl ?_
  refine j_iload_n C dL_law_389 rfl ?_
  refine j_iconst C dL_law_390 rfl ?_
  refine j_iadd C dL_law_391 ?_
  refine j_sld C SC dL_law_392 h (fun t52 h => ?_)
  obtain ⟨p53, ep53, h⟩ := bind_some h
  have qp53 := X11_cell_ct ep53
  refine j_cLI C dL_law_393 vl_L_46 CF11 rfl qp53.1 qp53.2 (Nat.le_of_ble_eq_true rfl) (Nat.le_of_ble_eq_true rfl) rfl rfl (Nat.le_of_ble_eq_true rfl) ?_
  refine j_icmp_eq C 1065 dL_law_396 rfl h (fun c54 h => ?_) (fun c54 h => ?_)
  · exact hkk _ _ h
  · exact none_ne (α := Mem) h
set_option maxRecDepth 100000 in
set_option maxHeartbeats 4000000 in
theorem law_7_ok {g : Gm} {w : Wd} (C : Cx g w RL cL_law 4 ret) {xs : Nat → Int} {LL : Nat} (SC : SX g w xs LL) {N : Nat} {kk : Int → Mem → Option Mem} {out : Mem} (hkk : ∀ l3 m, kk l3 m = some out → JL g w 1065 l3 m) {l3 : Int} {m : Mem} (h : law_7 N xs LL kk l3 m = some out) : JL g w 401 l3 m := by
  unfold law_7 at h
  unfold JL
  refine j_aload_n C dL_law_401 rfl ?_
  refine j_aload_n C dL_law_402 rfl ?_
  refine j_iload_n C dL_law_403 rfl ?_
  refine j_iconst C dL_law_404 rfl ?_
  refine j_iadd C dL_law_405 ?_
  refine j_sld C SC dL_law_406 h (fun t56 h => ?_)
  refine j_aload_n C dL_law_407 rfl ?_
  refine j_iload_n C dL_law_408 rfl ?_
  refine j_iconst C dL_law_409 rfl ?_
  refine j_iadd C dL_law_410 ?_
  refine j_sld C SC dL_law_411 h (fun t57 h => ?_)
  obtain ⟨p58, ep58, h⟩ := bind_some h
  have qp58 := X10_thing_ct ep58
  refine j_cLI C dL_law_412 vl_L_47 CF10 rfl qp58.1 qp58.2 (Nat.le_of_ble_eq_true rfl) (Nat.le_of_ble_eq_true rfl) rfl rfl (Nat.le_of_ble_eq_true rfl) ?_
  refine j_aload_n C dL_law_415 rfl ?_
  refine j_aload_n C dL_law_416 rfl ?_
  refine j_iload_n C dL_law_417 rfl ?_
  refine j_iconst C dL_law_418 rfl ?_
  refine j_iadd C dL_law_419 ?_
  refine j_sld C SC dL_law_420 h (fun t59 h => ?_)
  refine j_aload_n C dL_law_421 rfl ?_
  refine j_iload_n C dL_law_422 rfl ?_
  refine j_iconst C dL_law_423 rfl ?_
  refine j_iadd C dL_law_424 ?_
  refine j_sld C SC dL_law_425 h (fun t60 h => ?_)
  obtain ⟨p61, ep61, h⟩ := bind_some h
  have qp61 := X11_thing_ct ep61
  refine j_cLI C dL_law_426 vl_L_50 CF11 rfl qp61.1 qp61.2 (Nat.le_of_ble_eq_true rfl) (Nat.le_of_ble_eq_true rfl) rfl rfl (Nat.le_of_ble_eq_true rfl) ?_
  refine j_icmp_eq C 1065 dL_law_429 rfl h (fun c62 h => ?_) (fun c62 h => ?_)
  · exact hkk _ _ h
  · exact none_ne (α := Mem) h
set_option maxRecDepth 100000 in
set_option maxHeartbeats 4000000 in
theorem law_8_ok {g : Gm} {w : Wd} (C : Cx g w RL cL_law 4 ret) {xs : Nat → Int} {LL : Nat} (SC : SX g w xs LL) {N : Nat} {kk : Int → Mem → Option Mem} {out : Mem} (hkk : ∀ l3 m, kk l3 m = some out → JL g w 1065 l3 m) {l3 : Int} {m : Mem} (h : law_8 N xs LL kk l3 m = some out) : JL g w 434 l3 m := by
  unfold law_8 at h
  unfold JL
  refine j_aload_n C dL_law_434 rfl ?_
  refine j_aload_n C dL_law_435 rfl ?_
  refine j_iload_n C dL_law_436 rfl ?_
  refine j_iconst C dL_law_437 rfl ?_
  refine j_iadd C dL_law_438 ?_
  refine j_sld C SC dL_law_439 h (fun t64 h => ?_)
  refine j_aload_n C dL_law_440 rfl ?_
  refine j_iload_n C dL_law_441 rfl ?_
  refine j_iconst C dL_law_442 rfl ?_
  refine j_iadd C dL_law_443 ?_
  refine j_sld C SC dL_law_444 h (fun t65 h => ?_)
  obtain ⟨p66, ep66, h⟩ := bind_some h
  have qp66 := X10_cistern_ct ep66
  refine j_cLI C dL_law_445 vl_L_51 CF10 rfl qp66.1 qp66.2 (Nat.le_of_ble_eq_true rfl) (Nat.le_of_ble_eq_true rfl) rfl rfl (Nat.le_of_ble_eq_true rfl) ?_
  refine j_aload_n C dL_law_448 rfl ?_
  refine j_aload_n C dL_law_449 rfl ?_
  refine j_iload_n C dL_law_450 rfl ?_
  refine j_iconst C dL_law_451 rfl ?_
  refine j_iadd C dL_law_452 ?_
  refine j_sld C SC dL_law_453 h (fun t67 h => ?_)
  refine j_aload_n C dL_law_454 rfl ?_
  refine j_iload_n C dL_law_455 rfl ?_
  refine j_iconst C dL_law_456 rfl ?_
  refine j_iadd C dL_law_457 ?_
  refine j_sld C SC dL_law_458 h (fun t68 h => ?_)
  obtain ⟨p69, ep69, h⟩ := bind_some h
  have qp69 := X11_cistern_ct ep69
  refine j_cLI C dL_law_459 vl_L_54 CF11 rfl qp69.1 qp69.2 (Nat.le_of_ble_eq_true rfl) (Nat.le_of_ble_eq_true rfl) rfl rfl (Nat.le_of_ble_eq_true rfl) ?_
  refine j_icmp_eq C 1065 dL_law_462 rfl h (fun c70 h => ?_) (fun c70 h => ?_)
  · exact hkk _ _ h
  · exact none_ne (α := Mem) h
set_option maxRecDepth 100000 in
set_option maxHeartbeats 4000000 in
theorem law_9_ok {g : Gm} {w : Wd} (C : Cx g w RL cL_law 4 ret) {xs : Nat → Int} {LL : Nat} (SC : SX g w xs LL) {N : Nat} {kk : Int → Mem → Option Mem} {out : Mem} (hkk : ∀ l3 m, kk l3 m = some out → JL g w 1065 l3 m) {l3 : Int} {m : Mem} (h : law_9 N xs LL kk l3 m = some out) : JL g w 467 l3 m := by
  unfold law_9 at h
  unfold JL
  refine j_aload_n C dL_law_467 rfl ?_
  refine j_aload_n C dL_law_468 rfl ?_
  refine j_iload_n C dL_law_469 rfl ?_
  refine j_iconst C dL_law_470 rfl ?_
  refine j_iadd C dL_law_471 ?_
  refine j_sld C SC dL_law_472 h (fun t72 h => ?_)
  obtain ⟨p73, ep73, h⟩ := bind_some h
  have qp73 := X10_sky_ct ep73
  refine j_cLI C dL_law_473 vl_L_55 CF10 rfl qp73.1 qp73.2 (Nat.le_of_ble_eq_true rfl) (Nat.le_of_ble_eq_true rfl) rfl rfl (Nat.le_of_ble_eq_true rfl) ?_
  refine j_aload_n C dL_law_476 rfl ?_
  refine j_aload_n C dL_law_477 rfl ?_
  refine j_iload_n C dL_law_478 rfl ?_
  refine j_iconst C dL_law_479 rfl ?_
  refine j_iadd C dL_law_480 ?_
  refine j_sld C SC dL_law_481 h (fun t74 h => ?_)
  obtain ⟨p75, ep75, h⟩ := bind_some h
  have qp75 := X11_sky_ct ep75
  refine j_cLI C dL_law_482 vl_L_58 CF11 rfl qp75.1 qp75.2 (Nat.le_of_ble_eq_true rfl) (Nat.le_of_ble_eq_true rfl) rfl rfl (Nat.le_of_ble_eq_true rfl) ?_
  refine j_icmp_eq C 1065 dL_law_485 rfl h (fun c76 h => ?_) (fun c76 h => ?_)
  · exact hkk _ _ h
  · exact none_ne (α := Mem) h
set_option maxRecDepth 100000 in
set_option maxHeartbeats 4000000 in
theorem law_10_ok {g : Gm} {w : Wd} (C : Cx g w RL cL_law 4 ret) {xs : Nat → Int} {LL : Nat} (SC : SX g w xs LL) {N : Nat} {kk : Int → Mem → Option Mem} {out : Mem} (hkk : ∀ l3 m, kk l3 m = some out → JL g w 1065 l3 m) {l3 : Int} {m : Mem} (h : law_10 N xs LL kk l3 m = some out) : JL g w 490 l3 m := by
  unfold law_10 at h
  unfold JL
  refine j_aload_n C dL_law_490 rfl ?_
  refine j_aload_n C dL_law_491 rfl ?_
  refine j_iload_n C dL_law_492 rfl ?_
  refine j_iconst C dL_law_493 rfl ?_
  refine j_iadd C dL_law_494 ?_
  refine j_sld C SC dL_law_495 h (fun t78 h => ?_)
  refine j_aload_n C dL_law_496 rfl ?_
  refine j_iload_n C dL_law_497 rfl ?_
  refine j_iconst C dL_law_498 rfl ?_
  refine j_iadd C dL_law_499 ?_
  refine j_sld C SC dL_law_500 h (fun t79 h => ?_)
  obtain ⟨p80, ep80, h⟩ := bind_some h
  have qp80 := X10_cold_ct ep80
  refine j_cLI C dL_law_501 vl_L_59 CF10 rfl qp80.1 qp80.2 (Nat.le_of_ble_eq_true rfl) (Nat.le_of_ble_eq_true rfl) rfl rfl (Nat.le_of_ble_eq_true rfl) ?_
  refine j_aload_n C dL_law_504 rfl ?_
  refine j_aload_n C dL_law_505 rfl ?_
  refine j_iload_n C dL_law_506 rfl ?_
  refine j_iconst C dL_law_507 rfl ?_
  refine j_iadd C dL_law_508 ?_
  refine j_sld C SC dL_law_509 h (fun t81 h => ?_)
  refine j_aload_n C dL_law_510 rfl ?_
  refine j_iload_n C dL_law_511 rfl ?_
  refine j_iconst C dL_law_512 rfl ?_
  refine j_iadd C dL_law_513 ?_
  refine j_sld C SC dL_law_514 h (fun t82 h => ?_)
  obtain ⟨p83, ep83, h⟩ := bind_some h
  have qp83 := X11_cold_ct ep83
  refine j_cLI C dL_law_515 vl_L_62 CF11 rfl qp83.1 qp83.2 (Nat.le_of_ble_eq_true rfl) (Nat.le_of_ble_eq_true rfl) rfl rfl (Nat.le_of_ble_eq_true rfl) ?_
  refine j_icmp_eq C 1065 dL_law_518 rfl h (fun c84 h => ?_) (fun c84 h => ?_)
  · exact hkk _ _ h
  · exact none_ne (α := Mem) h
set_option maxRecDepth 100000 in
set_option maxHeartbeats 4000000 in
theorem law_11_ok {g : Gm} {w : Wd} (C : Cx g w RL cL_law 4 ret) {xs : Nat → Int} {LL : Nat} (SC : SX g w xs LL) {N : Nat} {kk : Int → Mem → Option Mem} {out : Mem} (hkk : ∀ l3 m, kk l3 m = some out → JL g w 1065 l3 m) {l3 : Int} {m : Mem} (h : law_11 N xs LL kk l3 m = some out) : JL g w 523 l3 m := by
  unfold law_11 at h
  unfold JL
  refine j_aload_n C dL_law_523 rfl ?_
  refine j_aload_n C dL_law_524 rfl ?_
  refine j_iload_n C dL_law_525 rfl ?_
  refine j_iconst C dL_law_526 rfl ?_
  refine j_iadd C dL_law_527 ?_
  refine j_sld C SC dL_law_528 h (fun t86 h => ?_)
  refine j_aload_n C dL_law_529 rfl ?_
  refine j_iload_n C dL_law_530 rfl ?_
  refine j_iconst C dL_law_531 rfl ?_
  refine j_iadd C dL_law_532 ?_
  refine j_sld C SC dL_law_533 h (fun t87 h => ?_)
  refine j_aload_n C dL_law_534 rfl ?_
  refine j_iload_n C dL_law_535 rfl ?_
  refine j_iconst C dL_law_536 rfl ?_
  refine j_iadd C dL_law_537 ?_
  refine j_sld C SC dL_law_538 h (fun t88 h => ?_)
  obtain ⟨p89, ep89, h⟩ := bind_some h
  have qp89 := X10_dew_ct ep89
  refine j_cLI C dL_law_539 vl_L_63 CF10 rfl qp89.1 qp89.2 (Nat.le_of_ble_eq_true rfl) (Nat.le_of_ble_eq_true rfl) rfl rfl (Nat.le_of_ble_eq_true rfl) ?_
  refine j_aload_n C dL_law_542 rfl ?_
  refine j_aload_n C dL_law_543 rfl ?_
  refine j_iload_n C dL_law_544 rfl ?_
  refine j_iconst C dL_law_545 rfl ?_
  refine j_iadd C dL_law_546 ?_
  refine j_sld C SC dL_law_547 h (fun t90 h => ?_)
  refine j_aload_n C dL_law_548 rfl ?_
  refine j_iload_n C dL_law_549 rfl ?_
  refine j_iconst C dL_law_550 rfl ?_
  refine j_iadd C dL_law_551 ?_
  refine j_sld C SC dL_law_552 h (fun t91 h => ?_)
  refine j_aload_n C dL_law_553 rfl ?_
  refine j_iload_n C dL_law_554 rfl ?_
  refine j_iconst C dL_law_555 rfl ?_
  refine j_iadd C dL_law_556 ?_
  refine j_sld C SC dL_law_557 h (fun t92 h => ?_)
  obtain ⟨p93, ep93, h⟩ := bind_some h
  have qp93 := X11_dew_ct ep93
  refine j_cLI C dL_law_558 vl_L_66 CF11 rfl qp93.1 qp93.2 (Nat.le_of_ble_eq_true rfl) (Nat.le_of_ble_eq_true rfl) rfl rfl (Nat.le_of_ble_eq_true rfl) ?_
  refine j_icmp_eq C 1065 dL_law_561 rfl h (fun c94 h => ?_) (fun c94 h => ?_)
  · exact hkk _ _ h
  · exact none_ne (α := Mem) h
set_option maxRecDepth 100000 in
set_option maxHeartbeats 4000000 in
theorem law_12_ok {g : Gm} {w : Wd} (C : Cx g w RL cL_law 4 ret) {xs : Nat → Int} {LL : Nat} (SC : SX g w xs LL) {N : Nat} {kk : Int → Mem → Option Mem} {out : Mem} (hkk : ∀ l3 m, kk l3 m = some out → JL g w 1065 l3 m) {l3 : Int} {m : Mem} (h : law_12 N xs LL kk l3 m = some out) : JL g w 566 l3 m := by
  unfold law_12 at h
  unfold JL
  refine j_aload_n C dL_law_566 rfl ?_
  refine j_aload_n C dL_law_567 rfl ?_
  refine j_iload_n C dL_law_568 rfl ?_
  refine j_iconst C dL_law_569 rfl ?_
  refine j_iadd C dL_law_570 ?_
  refine j_sld C SC dL_law_571 h (fun t96 h => ?_)
  obtain ⟨p97, ep97, h⟩ := bind_some h
  have qp97 := X10_whole_ct ep97
  refine j_cLI C dL_law_572 vl_L_67 CF10 rfl qp97.1 qp97.2 (Nat.le_of_ble_eq_true rfl) (Nat.le_of_ble_eq_true rfl) rfl rfl (Nat.le_of_ble_eq_true rfl) ?_
  refine j_aload_n C dL_law_575 rfl ?_
  refine j_aload_n C dL_law_576 rfl ?_
  refine j_iload_n C dL_law_577 rfl ?_
  refine j_iconst C dL_law_578 rfl ?_
  refine j_iadd C dL_law_579 ?_
  refine j_sld C SC dL_law_580 h (fun t98 h => ?_)
  obtain ⟨p99, ep99, h⟩ := bind_some h
  have qp99 := X11_whole_ct ep99
  refine j_cLI C dL_law_581 vl_L_70 CF11 rfl qp99.1 qp99.2 (Nat.le_of_ble_eq_true rfl) (Nat.le_of_ble_eq_true rfl) rfl rfl (Nat.le_of_ble_eq_true rfl) ?_
  refine j_icmp_eq C 1065 dL_law_584 rfl h (fun c100 h => ?_) (fun c100 h => ?_)
  · exact hkk _ _ h
  · exact none_ne (α := Mem) h
set_option maxRecDepth 100000 in
set_option maxHeartbeats 4000000 in
theorem law_13_ok {g : Gm} {w : Wd} (C : Cx g w RL cL_law 4 ret) {xs : Nat → Int} {LL : Nat} (SC : SX g w xs LL) {N : Nat} {kk : Int → Mem → Option Mem} {out : Mem} (hkk : ∀ l3 m, kk l3 m = some out → JL g w 1065 l3 m) {l3 : Int} {m : Mem} (h : law_13 N xs LL kk l3 m = some out) : JL g w 589 l3 m := by
  unfold law_13 at h
  unfold JL
  refine j_aload_n C dL_law_589 rfl ?_
  refine j_aload_n C dL_law_590 rfl ?_
  refine j_iload_n C dL_law_591 rfl ?_
  refine j_iconst C dL_law_592 rfl ?_
  refine j_iadd C dL_law_593 ?_
  refine j_sld C SC dL_law_594 h (fun t102 h => ?_)
  refine j_aload_n C dL_law_595 rfl ?_
  refine j_iload_n C dL_law_596 rfl ?_
  refine j_iconst C dL_law_597 rfl ?_
  refine j_iadd C dL_law_598 ?_
  refine j_sld C SC dL_law_599 h (fun t103 h => ?_)
  obtain ⟨p104, ep104, h⟩ := bind_some h
  have qp104 := X10_hang_ct ep104
  refine j_cLI C dL_law_600 vl_L_71 CF10 rfl qp104.1 qp104.2 (Nat.le_of_ble_eq_true rfl) (Nat.le_of_ble_eq_true rfl) rfl rfl (Nat.le_of_ble_eq_true rfl) ?_
  refine j_aload_n C dL_law_603 rfl ?_
  refine j_aload_n C dL_law_604 rfl ?_
  refine j_iload_n C dL_law_605 rfl ?_
  refine j_iconst C dL_law_606 rfl ?_
  refine j_iadd C dL_law_607 ?_
  refine j_sld C SC dL_law_608 h (fun t105 h => ?_)
  refine j_aload_n C dL_law_609 rfl ?_
  refine j_iload_n C dL_law_610 rfl ?_
  refine j_iconst C dL_law_611 rfl ?_
  refine j_iadd C dL_law_612 ?_
  refine j_sld C SC dL_law_613 h (fun t106 h => ?_)
  obtain ⟨p107, ep107, h⟩ := bind_some h
  have qp107 := X11_hang_ct ep107
  refine j_cLI C dL_law_614 vl_L_75 CF11 rfl qp107.1 qp107.2 (Nat.le_of_ble_eq_true rfl) (Nat.le_of_ble_eq_true rfl) rfl rfl (Nat.le_of_ble_eq_true rfl) ?_
  refine j_icmp_eq C 1065 dL_law_617 rfl h (fun c108 h => ?_) (fun c108 h => ?_)
  · exact hkk _ _ h
  · exact none_ne (α := Mem) h
set_option maxRecDepth 100000 in
set_option maxHeartbeats 4000000 in
theorem law_14_ok {g : Gm} {w : Wd} (C : Cx g w RL cL_law 4 ret) {xs : Nat → Int} {LL : Nat} (SC : SX g w xs LL) {N : Nat} {kk : Int → Mem → Option Mem} {out : Mem} (hkk : ∀ l3 m, kk l3 m = some out → JL g w 1065 l3 m) {l3 : Int} {m : Mem} (h : law_14 N xs LL kk l3 m = some out) : JL g w 622 l3 m := by
  unfold law_14 at h
  unfold JL
  refine j_aload_n C dL_law_622 rfl ?_
  refine j_aload_n C dL_law_623 rfl ?_
  refine j_iload_n C dL_law_624 rfl ?_
  refine j_iconst C dL_law_625 rfl ?_
  refine j_iadd C dL_law_626 ?_
  refine j_sld C SC dL_law_627 h (fun t110 h => ?_)
  refine j_aload_n C dL_law_628 rfl ?_
  refine j_iload_n C dL_law_629 rfl ?_
  refine j_iconst C dL_law_630 rfl ?_
  refine j_iadd C dL_law_631 ?_
  refine j_sld C SC dL_law_632 h (fun t111 h => ?_)
  refine j_if_eq C 640 dL_law_633 rfl h (fun c128 h => ?_) (fun c128 h => ?_)
  · refine j_iconst C dL_law_640 rfl ?_
    obtain ⟨p112, ep112, h⟩ := bind_some h
    have qp112 := X10_wall_ct ep112
    refine j_cLI C dL_law_641 vl_L_76 CF10 rfl qp112.1 qp112.2 (Nat.le_of_ble_eq_true rfl) (Nat.le_of_ble_eq_true rfl) rfl rfl (Nat.le_of_ble_eq_true rfl) ?_
    refine j_aload_n C dL_law_644 rfl ?_
    refine j_aload_n C dL_law_645 rfl ?_
    refine j_iload_n C dL_law_646 rfl ?_
    refine j_iconst C dL_law_647 rfl ?_
    refine j_iadd C dL_law_648 ?_
    refine j_sld C SC dL_law_649 h (fun t113 h => ?_)
    refine j_aload_n C dL_law_650 rfl ?_
    refine j_iload_n C dL_law_651 rfl ?_
    refine j_iconst C dL_law_652 rfl ?_
    refine j_iadd C dL_law_653 ?_
    refine j_sld C SC dL_law_654 h (fun t114 h => ?_)
    refine j_if_eq C 662 dL_law_655 rfl h (fun c119 h => ?_) (fun c119 h => ?_)
    · refine j_iconst C dL_law_662 rfl ?_
      obtain ⟨p115, ep115, h⟩ := bind_some h
      have qp115 := X11_wall_ct ep115
      refine j_cLI C dL_law_663 vl_L_80 CF11 rfl qp115.1 qp115.2 (Nat.le_of_ble_eq_true rfl) (Nat.le_of_ble_eq_true rfl) rfl rfl (Nat.le_of_ble_eq_true rfl) ?_
      refine j_icmp_eq C 1065 dL_law_666 rfl h (fun c116 h => ?_) (fun c116 h => ?_)
      · exact hkk _ _ h
      · exact none_ne (α := Mem) h
    · refine j_iconst C dL_law_658 rfl ?_
      refine j_goto C 663 dL_law_659 rfl ?_
      obtain ⟨p117, ep117, h⟩ := bind_some h
      have qp117 := X11_wall_ct ep117
      refine j_cLI C dL_law_663 vl_L_80 CF11 rfl qp117.1 qp117.2 (Nat.le_of_ble_eq_true rfl) (Nat.le_of_ble_eq_true rfl) rfl rfl (Nat.le_of_ble_eq_true rfl) ?_
      refine j_icmp_eq C 1065 dL_law_666 rfl h (fun c118 h => ?_) (fun c118 h => ?_)
      · exact hkk _ _ h
      · exact none_ne (α := Mem) h
  · refine j_iconst C dL_law_636 rfl ?_
    refine j_goto C 641 dL_law_637 rfl ?_
    obtain ⟨p120, ep120, h⟩ := bind_some h
    have qp120 := X10_wall_ct ep120
    refine j_cLI C dL_law_641 vl_L_76 CF10 rfl qp120.1 qp120.2 (Nat.le_of_ble_eq_true rfl) (Nat.le_of_ble_eq_true rfl) rfl rfl (Nat.le_of_ble_eq_true rfl) ?_
    refine j_aload_n C dL_law_644 rfl ?_
    refine j_aload_n C dL_law_645 rfl ?_
    refine j_iload_n C dL_law_646 rfl ?_
    refine j_iconst C dL_law_647 rfl ?_
    refine j_iadd C dL_law_648 ?_
    refine j_sld C SC dL_law_649 h (fun t121 h => ?_)
    refine j_aload_n C dL_law_650 rfl ?_
    refine j_iload_n C dL_law_651 rfl ?_
    refine j_iconst C dL_law_652 rfl ?_
    refine j_iadd C dL_law_653 ?_
    refine j_sld C SC dL_law_654 h (fun t122 h => ?_)
    refine j_if_eq C 662 dL_law_655 rfl h (fun c127 h => ?_) (fun c127 h => ?_)
    · refine j_iconst C dL_law_662 rfl ?_
      obtain ⟨p123, ep123, h⟩ := bind_some h
      have qp123 := X11_wall_ct ep123
      refine j_cLI C dL_law_663 vl_L_80 CF11 rfl qp123.1 qp123.2 (Nat.le_of_ble_eq_true rfl) (Nat.le_of_ble_eq_true rfl) rfl rfl (Nat.le_of_ble_eq_true rfl) ?_
      refine j_icmp_eq C 1065 dL_law_666 rfl h (fun c124 h => ?_) (fun c124 h => ?_)
      · exact hkk _ _ h
      · exact none_ne (α := Mem) h
    · refine j_iconst C dL_law_658 rfl ?_
      refine j_goto C 663 dL_law_659 rfl ?_
      obtain ⟨p125, ep125, h⟩ := bind_some h
      have qp125 := X11_wall_ct ep125
      refine j_cLI C dL_law_663 vl_L_80 CF11 rfl qp125.1 qp125.2 (Nat.le_of_ble_eq_true rfl) (Nat.le_of_ble_eq_true rfl) rfl rfl (Nat.le_of_ble_eq_true rfl) ?_
      refine j_icmp_eq C 1065 dL_law_666 rfl h (fun c126 h => ?_) (fun c126 h => ?_)
      · exact hkk _ _ h
      · exact none_ne (α := Mem) h
set_option maxRecDepth 100000 in
set_option maxHeartbeats 4000000 in
theorem law_15_ok {g : Gm} {w : Wd} (C : Cx g w RL cL_law 4 ret) {xs : Nat → Int} {LL : Nat} (SC : SX g w xs LL) {N : Nat} {kk : Int → Mem → Option Mem} {out : Mem} (hkk : ∀ l3 m, kk l3 m = some out → JL g w 1065 l3 m) {l3 : Int} {m : Mem} (h : law_15 N xs LL kk l3 m = some out) : JL g w 671 l3 m := by
  unfold law_15 at h
  unfold JL
  refine j_aload_n C dL_law_671 rfl ?_
  obtain ⟨p130, ep130, h⟩ := bind_some h
  have qp130 := X10_night_ct ep130
  refine j_cLI C dL_law_672 vl_L_81 CF10 rfl qp130.1 qp130.2 (Nat.le_of_ble_eq_true rfl) (Nat.le_of_ble_eq_true rfl) rfl rfl (Nat.le_of_ble_eq_true rfl) ?_
  refine j_aload_n C dL_law_675 rfl ?_
  obtain ⟨p131, ep131, h⟩ := bind_some h
  have qp131 := X11_night_ct ep131
  refine j_cLI C dL_law_676 vl_L_84 CF11 rfl qp131.1 qp131.2 (Nat.le_of_ble_eq_true rfl) (Nat.le_of_ble_eq_true rfl) rfl rfl (Nat.le_of_ble_eq_true rfl) ?_
  refine j_icmp_eq C 1065 dL_law_679 rfl h (fun c132 h => ?_) (fun c132 h => ?_)
  · exact hkk _ _ h
  · exact none_ne (α := Mem) h
set_option maxRecDepth 100000 in
set_option maxHeartbeats 4000000 in
theorem law_16_ok {g : Gm} {w : Wd} (C : Cx g w RL cL_law 4 ret) {xs : Nat → Int} {LL : Nat} (SC : SX g w xs LL) {N : Nat} {kk : Int → Mem → Option Mem} {out : Mem} (hkk : ∀ l3 m, kk l3 m = some out → JL g w 1065 l3 m) {l3 : Int} {m : Mem} (h : law_16 N xs LL kk l3 m = some out) : JL g w 684 l3 m := by
  unfold law_16 at h
  unfold JL
  refine j_aload_n C dL_law_684 rfl ?_
  refine j_aload_n C dL_law_685 rfl ?_
  refine j_iload_n C dL_law_686 rfl ?_
  refine j_iconst C dL_law_687 rfl ?_
  refine j_iadd C dL_law_688 ?_
  refine j_sld C SC dL_law_689 h (fun t134 h => ?_)
  obtain ⟨p135, ep135, h⟩ := bind_some h
  have qp135 := X10_nights_ct ep135
  refine j_cLI C dL_law_690 vl_L_85 CF10 rfl qp135.1 qp135.2 (Nat.le_of_ble_eq_true rfl) (Nat.le_of_ble_eq_true rfl) rfl rfl (Nat.le_of_ble_eq_true rfl) ?_
  refine j_aload_n C dL_law_693 rfl ?_
  refine j_aload_n C dL_law_694 rfl ?_
  refine j_iload_n C dL_law_695 rfl ?_
  refine j_iconst C dL_law_696 rfl ?_
  refine j_iadd C dL_law_697 ?_
  refine j_sld C SC dL_law_698 h (fun t136 h => ?_)
  obtain ⟨p137, ep137, h⟩ := bind_some h
  have qp137 := X11_nights_ct ep137
  refine j_cLI C dL_law_699 vl_L_88 CF11 rfl qp137.1 qp137.2 (Nat.le_of_ble_eq_true rfl) (Nat.le_of_ble_eq_true rfl) rfl rfl (Nat.le_of_ble_eq_true rfl) ?_
  refine j_icmp_eq C 1065 dL_law_702 rfl h (fun c138 h => ?_) (fun c138 h => ?_)
  · exact hkk _ _ h
  · exact none_ne (α := Mem) h
set_option maxRecDepth 100000 in
set_option maxHeartbeats 4000000 in
theorem law_17_ok {g : Gm} {w : Wd} (C : Cx g w RL cL_law 4 ret) {xs : Nat → Int} {LL : Nat} (SC : SX g w xs LL) {N : Nat} {kk : Int → Mem → Option Mem} {out : Mem} (hkk : ∀ l3 m, kk l3 m = some out → JL g w 1065 l3 m) {l3 : Int} {m : Mem} (h : law_17 N xs LL kk l3 m = some out) : JL g w 707 l3 m := by
  unfold law_17 at h
  unfold JL
  refine j_aload_n C dL_law_707 rfl ?_
  obtain ⟨p140, ep140, h⟩ := bind_some h
  have qp140 := X10_undo_ct ep140
  refine j_cLI C dL_law_708 vl_L_89 CF10 rfl qp140.1 qp140.2 (Nat.le_of_ble_eq_true rfl) (Nat.le_of_ble_eq_true rfl) rfl rfl (Nat.le_of_ble_eq_true rfl) ?_
  refine j_aload_n C dL_law_711 rfl ?_
  obtain ⟨p141, ep141, h⟩ := bind_some h
  have qp141 := X11_undo_ct ep141
  refine j_cLI C dL_law_712 vl_L_93 CF11 rfl qp141.1 qp141.2 (Nat.le_of_ble_eq_true rfl) (Nat.le_of_ble_eq_true rfl) rfl rfl (Nat.le_of_ble_eq_true rfl) ?_
  refine j_icmp_eq C 1065 dL_law_715 rfl h (fun c142 h => ?_) (fun c142 h => ?_)
  · exact hkk _ _ h
  · exact none_ne (α := Mem) h
set_option maxRecDepth 100000 in
set_option maxHeartbeats 4000000 in
theorem law_18_ok {g : Gm} {w : Wd} (C : Cx g w RL cL_law 4 ret) {xs : Nat → Int} {LL : Nat} (SC : SX g w xs LL) {N : Nat} {kk : Int → Mem → Option Mem} {out : Mem} (hkk : ∀ l3 m, kk l3 m = some out → JL g w 1065 l3 m) {l3 : Int} {m : Mem} (h : law_18 N xs LL kk l3 m = some out) : JL g w 720 l3 m := by
  unfold law_18 at h
  unfold JL
  refine j_aload_n C dL_law_720 rfl ?_
  refine j_aload_n C dL_law_721 rfl ?_
  refine j_iload_n C dL_law_722 rfl ?_
  refine j_iconst C dL_law_723 rfl ?_
  refine j_iadd C dL_law_724 ?_
  refine j_sld C SC dL_law_725 h (fun t144 h => ?_)
  obtain ⟨p145, ep145, h⟩ := bind_some h
  have qp145 := X10_seed_ct ep145
  refine j_cLI C dL_law_726 vl_L_94 CF10 rfl qp145.1 qp145.2 (Nat.le_of_ble_eq_true rfl) (Nat.le_of_ble_eq_true rfl) rfl rfl (Nat.le_of_ble_eq_true rfl) ?_
  refine j_aload_n C dL_law_729 rfl ?_
  refine j_aload_n C dL_law_730 rfl ?_
  refine j_iload_n C dL_law_731 rfl ?_
  refine j_iconst C dL_law_732 rfl ?_
  refine j_iadd C dL_law_733 ?_
  refine j_sld C SC dL_law_734 h (fun t146 h => ?_)
  obtain ⟨p147, ep147, h⟩ := bind_some h
  have qp147 := X11_seed_ct ep147
  refine j_cLI C dL_law_735 vl_L_97 CF11 rfl qp147.1 qp147.2 (Nat.le_of_ble_eq_true rfl) (Nat.le_of_ble_eq_true rfl) rfl rfl (Nat.le_of_ble_eq_true rfl) ?_
  refine j_icmp_eq C 1065 dL_law_738 rfl h (fun c148 h => ?_) (fun c148 h => ?_)
  · exact hkk _ _ h
  · exact none_ne (α := Mem) h
set_option maxRecDepth 100000 in
set_option maxHeartbeats 4000000 in
theorem law_19_ok {g : Gm} {w : Wd} (C : Cx g w RL cL_law 4 ret) {xs : Nat → Int} {LL : Nat} (SC : SX g w xs LL) {N : Nat} {kk : Int → Mem → Option Mem} {out : Mem} (hkk : ∀ l3 m, kk l3 m = some out → JL g w 1065 l3 m) {l3 : Int} {m : Mem} (h : law_19 N xs LL kk l3 m = some out) : JL g w 743 l3 m := by
  unfold law_19 at h
  unfold JL
  refine j_aload_n C dL_law_743 rfl ?_
  refine j_aload_n C dL_law_744 rfl ?_
  refine j_iload_n C dL_law_745 rfl ?_
  refine j_iconst C dL_law_746 rfl ?_
  refine j_iadd C dL_law_747 ?_
  refine j_sld C SC dL_law_748 h (fun t150 h => ?_)
  obtain ⟨p151, ep151, h⟩ := bind_some h
  have qp151 := X10_order_ct ep151
  refine j_cLI C dL_law_749 vl_L_98 CF10 rfl qp151.1 qp151.2 (Nat.le_of_ble_eq_true rfl) (Nat.le_of_ble_eq_true rfl) rfl rfl (Nat.le_of_ble_eq_true rfl) ?_
  refine j_aload_n C dL_law_752 rfl ?_
  refine j_aload_n C dL_law_753 rfl ?_
  refine j_iload_n C dL_law_754 rfl ?_
  refine j_iconst C dL_law_755 rfl ?_
  refine j_iadd C dL_law_756 ?_
  refine j_sld C SC dL_law_757 h (fun t152 h => ?_)
  obtain ⟨p153, ep153, h⟩ := bind_some h
  have qp153 := X11_order_ct ep153
  refine j_cLI C dL_law_758 vl_L_101 CF11 rfl qp153.1 qp153.2 (Nat.le_of_ble_eq_true rfl) (Nat.le_of_ble_eq_true rfl) rfl rfl (Nat.le_of_ble_eq_true rfl) ?_
  refine j_icmp_eq C 1065 dL_law_761 rfl h (fun c154 h => ?_) (fun c154 h => ?_)
  · exact hkk _ _ h
  · exact none_ne (α := Mem) h
set_option maxRecDepth 100000 in
set_option maxHeartbeats 4000000 in
theorem law_20_ok {g : Gm} {w : Wd} (C : Cx g w RL cL_law 4 ret) {xs : Nat → Int} {LL : Nat} (SC : SX g w xs LL) {N : Nat} {kk : Int → Mem → Option Mem} {out : Mem} (hkk : ∀ l3 m, kk l3 m = some out → JL g w 1065 l3 m) {l3 : Int} {m : Mem} (h : law_20 N xs LL kk l3 m = some out) : JL g w 766 l3 m := by
  unfold law_20 at h
  unfold JL
  refine j_aload_n C dL_law_766 rfl ?_
  obtain ⟨p156, ep156, h⟩ := bind_some h
  have qp156 := X10_wrung_ct ep156
  refine j_cLI C dL_law_767 vl_L_102 CF10 rfl qp156.1 qp156.2 (Nat.le_of_ble_eq_true rfl) (Nat.le_of_ble_eq_true rfl) rfl rfl (Nat.le_of_ble_eq_true rfl) ?_
  refine j_aload_n C dL_law_770 rfl ?_
  obtain ⟨p157, ep157, h⟩ := bind_some h
  have qp157 := X11_wrung_ct ep157
  refine j_cLI C dL_law_771 vl_L_105 CF11 rfl qp157.1 qp157.2 (Nat.le_of_ble_eq_true rfl) (Nat.le_of_ble_eq_true rfl) rfl rfl (Nat.le_of_ble_eq_true rfl) ?_
  refine j_icmp_eq C 1065 dL_law_774 rfl h (fun c158 h => ?_) (fun c158 h => ?_)
  · exact hkk _ _ h
  · exact none_ne (α := Mem) h
set_option maxRecDepth 100000 in
set_option maxHeartbeats 4000000 in
theorem law_21_ok {g : Gm} {w : Wd} (C : Cx g w RL cL_law 4 ret) {xs : Nat → Int} {LL : Nat} (SC : SX g w xs LL) {N : Nat} {kk : Int → Mem → Option Mem} {out : Mem} (hkk : ∀ l3 m, kk l3 m = some out → JL g w 1065 l3 m) {l3 : Int} {m : Mem} (h : law_21 N xs LL kk l3 m = some out) : JL g w 779 l3 m := by
  unfold law_21 at h
  unfold JL
  refine j_aload_n C dL_law_779 rfl ?_
  refine j_aload_n C dL_law_780 rfl ?_
  refine j_iload_n C dL_law_781 rfl ?_
  refine j_iconst C dL_law_782 rfl ?_
  refine j_iadd C dL_law_783 ?_
  refine j_sld C SC dL_law_784 h (fun t160 h => ?_)
  refine j_aload_n C dL_law_785 rfl ?_
  refine j_iload_n C dL_law_786 rfl ?_
  refine j_iconst C dL_law_787 rfl ?_
  refine j_iadd C dL_law_788 ?_
  refine j_sld C SC dL_law_789 h (fun t161 h => ?_)
  obtain ⟨p162, ep162, h⟩ := bind_some h
  have qp162 := X10_alike_ct ep162
  refine j_cLI C dL_law_790 vl_L_106 CF10 rfl qp162.1 qp162.2 (Nat.le_of_ble_eq_true rfl) (Nat.le_of_ble_eq_true rfl) rfl rfl (Nat.le_of_ble_eq_true rfl) ?_
  refine j_aload_n C dL_law_793 rfl ?_
  refine j_aload_n C dL_law_794 rfl ?_
  refine j_iload_n C dL_law_795 rfl ?_
  refine j_iconst C dL_law_796 rfl ?_
  refine j_iadd C dL_law_797 ?_
  refine j_sld C SC dL_law_798 h (fun t163 h => ?_)
  refine j_aload_n C dL_law_799 rfl ?_
  refine j_iload_n C dL_law_800 rfl ?_
  refine j_iconst C dL_law_801 rfl ?_
  refine j_iadd C dL_law_802 ?_
  refine j_sld C SC dL_law_803 h (fun t164 h => ?_)
  obtain ⟨p165, ep165, h⟩ := bind_some h
  have qp165 := X11_alike_ct ep165
  refine j_cLI C dL_law_804 vl_L_109 CF11 rfl qp165.1 qp165.2 (Nat.le_of_ble_eq_true rfl) (Nat.le_of_ble_eq_true rfl) rfl rfl (Nat.le_of_ble_eq_true rfl) ?_
  refine j_icmp_eq C 1065 dL_law_807 rfl h (fun c166 h => ?_) (fun c166 h => ?_)
  · exact hkk _ _ h
  · exact none_ne (α := Mem) h
set_option maxRecDepth 100000 in
set_option maxHeartbeats 4000000 in
theorem law_22_ok {g : Gm} {w : Wd} (C : Cx g w RL cL_law 4 ret) {xs : Nat → Int} {LL : Nat} (SC : SX g w xs LL) {N : Nat} {kk : Int → Mem → Option Mem} {out : Mem} (hkk : ∀ l3 m, kk l3 m = some out → JL g w 1065 l3 m) {l3 : Int} {m : Mem} (h : law_22 N xs LL kk l3 m = some out) : JL g w 812 l3 m := by
  unfold law_22 at h
  unfold JL
  refine j_aload_n C dL_law_812 rfl ?_
  refine j_aload_n C dL_law_813 rfl ?_
  refine j_iload_n C dL_law_814 rfl ?_
  refine j_iconst C dL_law_815 rfl ?_
  refine j_iadd C dL_law_816 ?_
  refine j_sld C SC dL_law_817 h (fun t168 h => ?_)
  refine j_aload_n C dL_law_818 rfl ?_
  refine j_iload_n C dL_law_819 rfl ?_
  refine j_iconst C dL_law_820 rfl ?_
  refine j_iadd C dL_law_821 ?_
  refine j_sld C SC dL_law_822 h (fun t169 h => ?_)
  obtain ⟨p170, ep170, h⟩ := bind_some h
  have qp170 := X10_linen_ct ep170
  refine j_cLI C dL_law_823 vl_L_110 CF10 rfl qp170.1 qp170.2 (Nat.le_of_ble_eq_true rfl) (Nat.le_of_ble_eq_true rfl) rfl rfl (Nat.le_of_ble_eq_true rfl) ?_
  refine j_aload_n C dL_law_826 rfl ?_
  refine j_aload_n C dL_law_827 rfl ?_
  refine j_iload_n C dL_law_828 rfl ?_
  refine j_iconst C dL_law_829 rfl ?_
  refine j_iadd C dL_law_830 ?_
  refine j_sld C SC dL_law_831 h (fun t171 h => ?_)
  refine j_aload_n C dL_law_832 rfl ?_
  refine j_iload_n C dL_law_833 rfl ?_
  refine j_iconst C dL_law_834 rfl ?_
  refine j_iadd C dL_law_835 ?_
  refine j_sld C SC dL_law_836 h (fun t172 h => ?_)
  obtain ⟨p173, ep173, h⟩ := bind_some h
  have qp173 := X11_linen_ct ep173
  refine j_cLI C dL_law_837 vl_L_113 CF11 rfl qp173.1 qp173.2 (Nat.le_of_ble_eq_true rfl) (Nat.le_of_ble_eq_true rfl) rfl rfl (Nat.le_of_ble_eq_true rfl) ?_
  refine j_icmp_eq C 1065 dL_law_840 rfl h (fun c174 h => ?_) (fun c174 h => ?_)
  · exact hkk _ _ h
  · exact none_ne (α := Mem) h
set_option maxRecDepth 100000 in
set_option maxHeartbeats 4000000 in
theorem law_23_ok {g : Gm} {w : Wd} (C : Cx g w RL cL_law 4 ret) {xs : Nat → Int} {LL : Nat} (SC : SX g w xs LL) {N : Nat} {kk : Int → Mem → Option Mem} {out : Mem} (hkk : ∀ l3 m, kk l3 m = some out → JL g w 1065 l3 m) {l3 : Int} {m : Mem} (h : law_23 N xs LL kk l3 m = some out) : JL g w 845 l3 m := by
  unfold law_23 at h
  unfold JL
  refine j_aload_n C dL_law_845 rfl ?_
  refine j_aload_n C dL_law_846 rfl ?_
  refine j_iload_n C dL_law_847 rfl ?_
  refine j_iconst C dL_law_848 rfl ?_
  refine j_iadd C dL_law_849 ?_
  refine j_sld C SC dL_law_850 h (fun t176 h => ?_)
  refine j_aload_n C dL_law_851 rfl ?_
  refine j_iload_n C dL_law_852 rfl ?_
  refine j_iconst C dL_law_853 rfl ?_
  refine j_iadd C dL_law_854 ?_
  refine j_sld C SC dL_law_855 h (fun t177 h => ?_)
  obtain ⟨p178, ep178, h⟩ := bind_some h
  have qp178 := X10_down_ct ep178
  refine j_cLI C dL_law_856 vl_L_114 CF10 rfl qp178.1 qp178.2 (Nat.le_of_ble_eq_true rfl) (Nat.le_of_ble_eq_true rfl) rfl rfl (Nat.le_of_ble_eq_true rfl) ?_
  refine j_aload_n C dL_law_859 rfl ?_
  refine j_aload_n C dL_law_860 rfl ?_
  refine j_iload_n C dL_law_861 rfl ?_
  refine j_iconst C dL_law_862 rfl ?_
  refine j_iadd C dL_law_863 ?_
  refine j_sld C SC dL_law_864 h (fun t179 h => ?_)
  refine j_aload_n C dL_law_865 rfl ?_
  refine j_iload_n C dL_law_866 rfl ?_
  refine j_iconst C dL_law_867 rfl ?_
  refine j_iadd C dL_law_868 ?_
  refine j_sld C SC dL_law_869 h (fun t180 h => ?_)
  obtain ⟨p181, ep181, h⟩ := bind_some h
  have qp181 := X11_down_ct ep181
  refine j_cLI C dL_law_870 vl_L_117 CF11 rfl qp181.1 qp181.2 (Nat.le_of_ble_eq_true rfl) (Nat.le_of_ble_eq_true rfl) rfl rfl (Nat.le_of_ble_eq_true rfl) ?_
  refine j_icmp_eq C 1065 dL_law_873 rfl h (fun c182 h => ?_) (fun c182 h => ?_)
  · exact hkk _ _ h
  · exact none_ne (α := Mem) h
set_option maxRecDepth 100000 in
set_option maxHeartbeats 4000000 in
theorem law_24_ok {g : Gm} {w : Wd} (C : Cx g w RL cL_law 4 ret) {xs : Nat → Int} {LL : Nat} (SC : SX g w xs LL) {N : Nat} {kk : Int → Mem → Option Mem} {out : Mem} (hkk : ∀ l3 m, kk l3 m = some out → JL g w 1065 l3 m) {l3 : Int} {m : Mem} (h : law_24 N xs LL kk l3 m = some out) : JL g w 878 l3 m := by
  unfold law_24 at h
  unfold JL
  refine j_aload_n C dL_law_878 rfl ?_
  refine j_aload_n C dL_law_879 rfl ?_
  refine j_iload_n C dL_law_880 rfl ?_
  refine j_iconst C dL_law_881 rfl ?_
  refine j_iadd C dL_law_882 ?_
  refine j_sld C SC dL_law_883 h (fun t184 h => ?_)
  obtain ⟨p185, ep185, h⟩ := bind_some h
  have qp185 := X10_best_ct ep185
  refine j_cLI C dL_law_884 vl_L_118 CF10 rfl qp185.1 qp185.2 (Nat.le_of_ble_eq_true rfl) (Nat.le_of_ble_eq_true rfl) rfl rfl (Nat.le_of_ble_eq_true rfl) ?_
  refine j_aload_n C dL_law_887 rfl ?_
  refine j_aload_n C dL_law_888 rfl ?_
  refine j_iload_n C dL_law_889 rfl ?_
  refine j_iconst C dL_law_890 rfl ?_
  refine j_iadd C dL_law_891 ?_
  refine j_sld C SC dL_law_892 h (fun t186 h => ?_)
  obtain ⟨p187, ep187, h⟩ := bind_some h
  have qp187 := X11_best_ct ep187
  refine j_cLI C dL_law_893 vl_L_121 CF11 rfl qp187.1 qp187.2 (Nat.le_of_ble_eq_true rfl) (Nat.le_of_ble_eq_true rfl) rfl rfl (Nat.le_of_ble_eq_true rfl) ?_
  refine j_icmp_eq C 1065 dL_law_896 rfl h (fun c188 h => ?_) (fun c188 h => ?_)
  · exact hkk _ _ h
  · exact none_ne (α := Mem) h
set_option maxRecDepth 100000 in
set_option maxHeartbeats 4000000 in
theorem law_25_ok {g : Gm} {w : Wd} (C : Cx g w RL cL_law 4 ret) {xs : Nat → Int} {LL : Nat} (SC : SX g w xs LL) {N : Nat} {kk : Int → Mem → Option Mem} {out : Mem} (hkk : ∀ l3 m, kk l3 m = some out → JL g w 1065 l3 m) {l3 : Int} {m : Mem} (h : law_25 N xs LL kk l3 m = some out) : JL g w 901 l3 m := by
  unfold law_25 at h
  unfold JL
  refine j_aload_n C dL_law_901 rfl ?_
  refine j_aload_n C dL_law_902 rfl ?_
  refine j_iload_n C dL_law_903 rfl ?_
  refine j_iconst C dL_law_904 rfl ?_
  refine j_iadd C dL_law_905 ?_
  refine j_sld C SC dL_law_906 h (fun t190 h => ?_)
  refine j_aload_n C dL_law_907 rfl ?_
  refine j_iload_n C dL_law_908 rfl ?_
  refine j_iconst C dL_law_909 rfl ?_
  refine j_iadd C dL_law_910 ?_
  refine j_sld C SC dL_law_911 h (fun t191 h => ?_)
  obtain ⟨p192, ep192, h⟩ := bind_some h
  have qp192 := X10_votes_ct ep192
  refine j_cLI C dL_law_912 vl_L_122 CF10 rfl qp192.1 qp192.2 (Nat.le_of_ble_eq_true rfl) (Nat.le_of_ble_eq_true rfl) rfl rfl (Nat.le_of_ble_eq_true rfl) ?_
  refine j_aload_n C dL_law_915 rfl ?_
  refine j_aload_n C dL_law_916 rfl ?_
  refine j_iload_n C dL_law_917 rfl ?_
  refine j_iconst C dL_law_918 rfl ?_
  refine j_iadd C dL_law_919 ?_
  refine j_sld C SC dL_law_920 h (fun t193 h => ?_)
  refine j_aload_n C dL_law_921 rfl ?_
  refine j_iload_n C dL_law_922 rfl ?_
  refine j_iconst C dL_law_923 rfl ?_
  refine j_iadd C dL_law_924 ?_
  refine j_sld C SC dL_law_925 h (fun t194 h => ?_)
  obtain ⟨p195, ep195, h⟩ := bind_some h
  have qp195 := X11_votes_ct ep195
  refine j_cLI C dL_law_926 vl_L_125 CF11 rfl qp195.1 qp195.2 (Nat.le_of_ble_eq_true rfl) (Nat.le_of_ble_eq_true rfl) rfl rfl (Nat.le_of_ble_eq_true rfl) ?_
  refine j_icmp_eq C 1065 dL_law_929 rfl h (fun c196 h => ?_) (fun c196 h => ?_)
  · exact hkk _ _ h
  · exact none_ne (α := Mem) h
set_option maxRecDepth 100000 in
set_option maxHeartbeats 4000000 in
theorem law_26_ok {g : Gm} {w : Wd} (C : Cx g w RL cL_law 4 ret) {xs : Nat → Int} {LL : Nat} (SC : SX g w xs LL) {N : Nat} {kk : Int → Mem → Option Mem} {out : Mem} (hkk : ∀ l3 m, kk l3 m = some out → JL g w 1065 l3 m) {l3 : Int} {m : Mem} (h : law_26 N xs LL kk l3 m = some out) : JL g w 934 l3 m := by
  unfold law_26 at h
  unfold JL
  refine j_aload_n C dL_law_934 rfl ?_
  obtain ⟨p198, ep198, h⟩ := bind_some h
  have qp198 := X10_walked_ct ep198
  refine j_cLI C dL_law_935 vl_L_126 CF10 rfl qp198.1 qp198.2 (Nat.le_of_ble_eq_true rfl) (Nat.le_of_ble_eq_true rfl) rfl rfl (Nat.le_of_ble_eq_true rfl) ?_
  refine j_aload_n C dL_law_938 rfl ?_
  obtain ⟨p199, ep199, h⟩ := bind_some h
  have qp199 := X11_walked_ct ep199
  refine j_cLI C dL_law_939 vl_L_129 CF11 rfl qp199.1 qp199.2 (Nat.le_of_ble_eq_true rfl) (Nat.le_of_ble_eq_true rfl) rfl rfl (Nat.le_of_ble_eq_true rfl) ?_
  refine j_icmp_eq C 1065 dL_law_942 rfl h (fun c200 h => ?_) (fun c200 h => ?_)
  · exact hkk _ _ h
  · exact none_ne (α := Mem) h
set_option maxRecDepth 100000 in
set_option maxHeartbeats 4000000 in
theorem law_27_ok {g : Gm} {w : Wd} (C : Cx g w RL cL_law 4 ret) {xs : Nat → Int} {LL : Nat} (SC : SX g w xs LL) {N : Nat} {kk : Int → Mem → Option Mem} {out : Mem} (hkk : ∀ l3 m, kk l3 m = some out → JL g w 1065 l3 m) {l3 : Int} {m : Mem} (h : law_27 N xs LL kk l3 m = some out) : JL g w 947 l3 m := by
  unfold law_27 at h
  unfold JL
  refine j_aload_n C dL_law_947 rfl ?_
  refine j_aload_n C dL_law_948 rfl ?_
  refine j_iload_n C dL_law_949 rfl ?_
  refine j_iconst C dL_law_950 rfl ?_
  refine j_iadd C dL_law_951 ?_
  refine j_sld C SC dL_law_952 h (fun t202 h => ?_)
  obtain ⟨p203, ep203, h⟩ := bind_some h
  have qp203 := X10_walk_ct ep203
  refine j_cLI C dL_law_953 vl_L_130 CF10 rfl qp203.1 qp203.2 (Nat.le_of_ble_eq_true rfl) (Nat.le_of_ble_eq_true rfl) rfl rfl (Nat.le_of_ble_eq_true rfl) ?_
  refine j_aload_n C dL_law_956 rfl ?_
  refine j_aload_n C dL_law_957 rfl ?_
  refine j_iload_n C dL_law_958 rfl ?_
  refine j_iconst C dL_law_959 rfl ?_
  refine j_iadd C dL_law_960 ?_
  refine j_sld C SC dL_law_961 h (fun t204 h => ?_)
  obtain ⟨p205, ep205, h⟩ := bind_some h
  have qp205 := X11_walk_ct ep205
  refine j_cLI C dL_law_962 vl_L_133 CF11 rfl qp205.1 qp205.2 (Nat.le_of_ble_eq_true rfl) (Nat.le_of_ble_eq_true rfl) rfl rfl (Nat.le_of_ble_eq_true rfl) ?_
  refine j_icmp_eq C 1065 dL_law_965 rfl h (fun c206 h => ?_) (fun c206 h => ?_)
  · exact hkk _ _ h
  · exact none_ne (α := Mem) h
set_option maxRecDepth 100000 in
set_option maxHeartbeats 4000000 in
theorem law_28_ok {g : Gm} {w : Wd} (C : Cx g w RL cL_law 4 ret) {xs : Nat → Int} {LL : Nat} (SC : SX g w xs LL) {N : Nat} {kk : Int → Mem → Option Mem} {out : Mem} (hkk : ∀ l3 m, kk l3 m = some out → JL g w 1065 l3 m) {l3 : Int} {m : Mem} (h : law_28 N xs LL kk l3 m = some out) : JL g w 970 l3 m := by
  unfold law_28 at h
  unfold JL
  refine j_aload_n C dL_law_970 rfl ?_
  refine j_aload_n C dL_law_971 rfl ?_
  refine j_iload_n C dL_law_972 rfl ?_
  refine j_iconst C dL_law_973 rfl ?_
  refine j_iadd C dL_law_974 ?_
  refine j_sld C SC dL_law_975 h (fun t208 h => ?_)
  obtain ⟨p209, ep209, h⟩ := bind_some h
  have qp209 := X10_stores_ct ep209
  refine j_cLI C dL_law_976 vl_L_134 CF10 rfl qp209.1 qp209.2 (Nat.le_of_ble_eq_true rfl) (Nat.le_of_ble_eq_true rfl) rfl rfl (Nat.le_of_ble_eq_true rfl) ?_
  refine j_aload_n C dL_law_979 rfl ?_
  refine j_aload_n C dL_law_980 rfl ?_
  refine j_iload_n C dL_law_981 rfl ?_
  refine j_iconst C dL_law_982 rfl ?_
  refine j_iadd C dL_law_983 ?_
  refine j_sld C SC dL_law_984 h (fun t210 h => ?_)
  obtain ⟨p211, ep211, h⟩ := bind_some h
  have qp211 := X11_stores_ct ep211
  refine j_cLI C dL_law_985 vl_L_137 CF11 rfl qp211.1 qp211.2 (Nat.le_of_ble_eq_true rfl) (Nat.le_of_ble_eq_true rfl) rfl rfl (Nat.le_of_ble_eq_true rfl) ?_
  refine j_icmp_eq C 1065 dL_law_988 rfl h (fun c212 h => ?_) (fun c212 h => ?_)
  · exact hkk _ _ h
  · exact none_ne (α := Mem) h
set_option maxRecDepth 100000 in
set_option maxHeartbeats 4000000 in
theorem law_29_ok {g : Gm} {w : Wd} (C : Cx g w RL cL_law 4 ret) {xs : Nat → Int} {LL : Nat} (SC : SX g w xs LL) {N : Nat} {kk : Int → Mem → Option Mem} {out : Mem} (hkk : ∀ l3 m, kk l3 m = some out → JL g w 1065 l3 m) {l3 : Int} {m : Mem} (h : law_29 N xs LL kk l3 m = some out) : JL g w 993 l3 m := by
  unfold law_29 at h
  unfold JL
  refine j_aload_n C dL_law_993 rfl ?_
  obtain ⟨p214, ep214, h⟩ := bind_some h
  have qp214 := X10_image_ct ep214
  refine j_cLI C dL_law_994 vl_L_138 CF10 rfl qp214.1 qp214.2 (Nat.le_of_ble_eq_true rfl) (Nat.le_of_ble_eq_true rfl) rfl rfl (Nat.le_of_ble_eq_true rfl) ?_
  refine j_aload_n C dL_law_997 rfl ?_
  obtain ⟨p215, ep215, h⟩ := bind_some h
  have qp215 := X11_image_ct ep215
  refine j_cLI C dL_law_998 vl_L_141 CF11 rfl qp215.1 qp215.2 (Nat.le_of_ble_eq_true rfl) (Nat.le_of_ble_eq_true rfl) rfl rfl (Nat.le_of_ble_eq_true rfl) ?_
  refine j_icmp_eq C 1065 dL_law_1001 rfl h (fun c216 h => ?_) (fun c216 h => ?_)
  · exact hkk _ _ h
  · exact none_ne (α := Mem) h
set_option maxRecDepth 100000 in
set_option maxHeartbeats 4000000 in
theorem law_30_ok {g : Gm} {w : Wd} (C : Cx g w RL cL_law 4 ret) {xs : Nat → Int} {LL : Nat} (SC : SX g w xs LL) {N : Nat} {kk : Int → Mem → Option Mem} {out : Mem} (hkk : ∀ l3 m, kk l3 m = some out → JL g w 1065 l3 m) {l3 : Int} {m : Mem} (h : law_30 N xs LL kk l3 m = some out) : JL g w 1006 l3 m := by
  unfold law_30 at h
  unfold JL
  refine j_aload_n C dL_law_1006 rfl ?_
  refine j_aload_n C dL_law_1007 rfl ?_
  refine j_iload_n C dL_law_1008 rfl ?_
  refine j_iconst C dL_law_1009 rfl ?_
  refine j_iadd C dL_law_1010 ?_
  refine j_sld C SC dL_law_1011 h (fun t218 h => ?_)
  obtain ⟨p219, ep219, h⟩ := bind_some h
  have qp219 := X10_octet_ct ep219
  refine j_cLI C dL_law_1012 vl_L_142 CF10 rfl qp219.1 qp219.2 (Nat.le_of_ble_eq_true rfl) (Nat.le_of_ble_eq_true rfl) rfl rfl (Nat.le_of_ble_eq_true rfl) ?_
  refine j_aload_n C dL_law_1015 rfl ?_
  refine j_aload_n C dL_law_1016 rfl ?_
  refine j_iload_n C dL_law_1017 rfl ?_
  refine j_iconst C dL_law_1018 rfl ?_
  refine j_iadd C dL_law_1019 ?_
  refine j_sld C SC dL_law_1020 h (fun t220 h => ?_)
  obtain ⟨p221, ep221, h⟩ := bind_some h
  have qp221 := X11_octet_ct ep221
  refine j_cLI C dL_law_1021 vl_L_145 CF11 rfl qp221.1 qp221.2 (Nat.le_of_ble_eq_true rfl) (Nat.le_of_ble_eq_true rfl) rfl rfl (Nat.le_of_ble_eq_true rfl) ?_
  refine j_icmp_eq C 1065 dL_law_1024 rfl h (fun c222 h => ?_) (fun c222 h => ?_)
  · exact hkk _ _ h
  · exact none_ne (α := Mem) h
set_option maxRecDepth 100000 in
set_option maxHeartbeats 4000000 in
theorem law_31_ok {g : Gm} {w : Wd} (C : Cx g w RL cL_law 4 ret) {xs : Nat → Int} {LL : Nat} (SC : SX g w xs LL) {N : Nat} {kk : Int → Mem → Option Mem} {out : Mem} (hkk : ∀ l3 m, kk l3 m = some out → JL g w 1065 l3 m) {l3 : Int} {m : Mem} (h : law_31 N xs LL kk l3 m = some out) : JL g w 1029 l3 m := by
  unfold law_31 at h
  unfold JL
  refine j_aload_n C dL_law_1029 rfl ?_
  obtain ⟨p224, ep224, h⟩ := bind_some h
  have qp224 := X10_on_ct ep224
  refine j_cLI C dL_law_1030 vl_L_146 CF10 rfl qp224.1 qp224.2 (Nat.le_of_ble_eq_true rfl) (Nat.le_of_ble_eq_true rfl) rfl rfl (Nat.le_of_ble_eq_true rfl) ?_
  refine j_aload_n C dL_law_1033 rfl ?_
  obtain ⟨p225, ep225, h⟩ := bind_some h
  have qp225 := X11_on_ct ep225
  refine j_cLI C dL_law_1034 vl_L_149 CF11 rfl qp225.1 qp225.2 (Nat.le_of_ble_eq_true rfl) (Nat.le_of_ble_eq_true rfl) rfl rfl (Nat.le_of_ble_eq_true rfl) ?_
  refine j_icmp_eq C 1065 dL_law_1037 rfl h (fun c226 h => ?_) (fun c226 h => ?_)
  · exact hkk _ _ h
  · exact none_ne (α := Mem) h
set_option maxRecDepth 100000 in
set_option maxHeartbeats 4000000 in
theorem law_32_ok {g : Gm} {w : Wd} (C : Cx g w RL cL_law 4 ret) {xs : Nat → Int} {LL : Nat} (SC : SX g w xs LL) {N : Nat} {kk : Int → Mem → Option Mem} {out : Mem} (hkk : ∀ l3 m, kk l3 m = some out → JL g w 1065 l3 m) {l3 : Int} {m : Mem} (h : law_32 N xs LL kk l3 m = some out) : JL g w 1042 l3 m := by
  unfold law_32 at h
  unfold JL
  refine j_aload_n C dL_law_1042 rfl ?_
  refine j_aload_n C dL_law_1043 rfl ?_
  refine j_iload_n C dL_law_1044 rfl ?_
  refine j_iconst C dL_law_1045 rfl ?_
  refine j_iadd C dL_law_1046 ?_
  refine j_sld C SC dL_law_1047 h (fun t228 h => ?_)
  obtain ⟨p229, ep229, h⟩ := bind_some h
  have qp229 := X10_status_ct ep229
  refine j_cLI C dL_law_1048 vl_L_150 CF10 rfl qp229.1 qp229.2 (Nat.le_of_ble_eq_true rfl) (Nat.le_of_ble_eq_true rfl) rfl rfl (Nat.le_of_ble_eq_true rfl) ?_
  refine j_aload_n C dL_law_1051 rfl ?_
  refine j_aload_n C dL_law_1052 rfl ?_
  refine j_iload_n C dL_law_1053 rfl ?_
  refine j_iconst C dL_law_1054 rfl ?_
  refine j_iadd C dL_law_1055 ?_
  refine j_sld C SC dL_law_1056 h (fun t230 h => ?_)
  obtain ⟨p231, ep231, h⟩ := bind_some h
  have qp231 := X11_status_ct ep231
  refine j_cLI C dL_law_1057 vl_L_153 CF11 rfl qp231.1 qp231.2 (Nat.le_of_ble_eq_true rfl) (Nat.le_of_ble_eq_true rfl) rfl rfl (Nat.le_of_ble_eq_true rfl) ?_
  refine j_icmp_eq C 1065 dL_law_1060 rfl h (fun c232 h => ?_) (fun c232 h => ?_)
  · exact hkk _ _ h
  · exact none_ne (α := Mem) h
set_option maxRecDepth 100000 in
set_option maxHeartbeats 4000000 in
theorem law_bok {g : Gm} {w : Wd} (C : Cx g w RL cL_law 4 ret) {xs : Nat → Int} {LL : Nat} (SC : SX g w xs LL) {N : Nat} {kk : Int → Mem → Option Mem} {out : Mem} (hkk : ∀ l3 m, kk l3 m = some out → JL g w 1065 l3 m) {l3 : Int} {m : Mem} (h : law_b N xs LL kk l3 m = some out) : JL g w 18 l3 m := by
  unfold law_b at h
  refine j_iload_n C dL_law_18 rfl ?_
  refine j_aload_n C dL_law_19 rfl ?_
  refine j_slen C SC dL_law_20 ?_
  refine j_bipush C dL_law_21 rfl ?_
  refine j_isub C dL_law_23 ?_
  refine j_icmp_gt C 1071 dL_law_24 rfl h (fun c234 h => ?_) (fun c234 h => ?_)
  · have e := Option.some.inj h
    subst e
    refine j_iconst C dL_law_1071 rfl ?_
    exact j_lend C SC dL_law_1072
  · refine j_aload_n C dL_law_27 rfl ?_
    refine j_iload_n C dL_law_28 rfl ?_
    refine j_sld C SC dL_law_29 h (fun t1 h => ?_)
    refine j_bipush C dL_law_30 rfl ?_
    refine j_iand C dL_law_32 ?_
    rcases ite_cases h with ⟨c15, h⟩ | ⟨c15, h⟩
    · refine j_tsIn C 180 (0) dL_law_33 c15 rfl rfl rfl ?_
      exact law_0_ok C SC hkk h
    rcases ite_cases h with ⟨c21, h⟩ | ⟨c21, h⟩
    · refine j_tsIn C 243 (1) dL_law_33 c21 rfl rfl rfl ?_
      exact law_1_ok C SC hkk h
    rcases ite_cases h with ⟨c25, h⟩ | ⟨c25, h⟩
    · refine j_tsIn C 266 (2) dL_law_33 c25 rfl rfl rfl ?_
      exact law_2_ok C SC hkk h
    rcases ite_cases h with ⟨c31, h⟩ | ⟨c31, h⟩
    · refine j_tsIn C 279 (3) dL_law_33 c31 rfl rfl rfl ?_
      exact law_3_ok C SC hkk h
    rcases ite_cases h with ⟨c37, h⟩ | ⟨c37, h⟩
    · refine j_tsIn C 302 (4) dL_law_33 c37 rfl rfl rfl ?_
      exact law_4_ok C SC hkk h
    rcases ite_cases h with ⟨c47, h⟩ | ⟨c47, h⟩
    · refine j_tsIn C 325 (5) dL_law_33 c47 rfl rfl rfl ?_
      exact law_5_ok C SC hkk h
    rcases ite_cases h with ⟨c55, h⟩ | ⟨c55, h⟩
    · refine j_tsIn C 368 (6) dL_law_33 c55 rfl rfl rfl ?_
      exact law_6_ok C SC hkk h
    rcases ite_cases h with ⟨c63, h⟩ | ⟨c63, h⟩
    · refine j_tsIn C 401 (7) dL_law_33 c63 rfl rfl rfl ?_
      exact law_7_ok C SC hkk h
    rcases ite_cases h with ⟨c71, h⟩ | ⟨c71, h⟩
    · refine j_tsIn C 434 (8) dL_law_33 c71 rfl rfl rfl ?_
      exact law_8_ok C SC hkk h
    rcases ite_cases h with ⟨c77, h⟩ | ⟨c77, h⟩
    · refine j_tsIn C 467 (9) dL_law_33 c77 rfl rfl rfl ?_
      exact law_9_ok C SC hkk h
    rcases ite_cases h with ⟨c85, h⟩ | ⟨c85, h⟩
    · refine j_tsIn C 490 (10) dL_law_33 c85 rfl rfl rfl ?_
      exact law_10_ok C SC hkk h
    rcases ite_cases h with ⟨c95, h⟩ | ⟨c95, h⟩
    · refine j_tsIn C 523 (11) dL_law_33 c95 rfl rfl rfl ?_
      exact law_11_ok C SC hkk h
    rcases ite_cases h with ⟨c101, h⟩ | ⟨c101, h⟩
    · refine j_tsIn C 566 (12) dL_law_33 c101 rfl rfl rfl ?_
      exact law_12_ok C SC hkk h
    rcases ite_cases h with ⟨c109, h⟩ | ⟨c109, h⟩
    · refine j_tsIn C 589 (13) dL_law_33 c109 rfl rfl rfl ?_
      exact law_13_ok C SC hkk h
    rcases ite_cases h with ⟨c129, h⟩ | ⟨c129, h⟩
    · refine j_tsIn C 622 (14) dL_law_33 c129 rfl rfl rfl ?_
      exact law_14_ok C SC hkk h
    rcases ite_cases h with ⟨c133, h⟩ | ⟨c133, h⟩
    · refine j_tsIn C 671 (15) dL_law_33 c133 rfl rfl rfl ?_
      exact law_15_ok C SC hkk h
    rcases ite_cases h with ⟨c139, h⟩ | ⟨c139, h⟩
    · refine j_tsIn C 684 (16) dL_law_33 c139 rfl rfl rfl ?_
      exact law_16_ok C SC hkk h
    rcases ite_cases h with ⟨c143, h⟩ | ⟨c143, h⟩
    · refine j_tsIn C 707 (17) dL_law_33 c143 rfl rfl rfl ?_
      exact law_17_ok C SC hkk h
    rcases ite_cases h with ⟨c149, h⟩ | ⟨c149, h⟩
    · refine j_tsIn C 720 (18) dL_law_33 c149 rfl rfl rfl ?_
      exact law_18_ok C SC hkk h
    rcases ite_cases h with ⟨c155, h⟩ | ⟨c155, h⟩
    · refine j_tsIn C 743 (19) dL_law_33 c155 rfl rfl rfl ?_
      exact law_19_ok C SC hkk h
    rcases ite_cases h with ⟨c159, h⟩ | ⟨c159, h⟩
    · refine j_tsIn C 766 (20) dL_law_33 c159 rfl rfl rfl ?_
      exact law_20_ok C SC hkk h
    rcases ite_cases h with ⟨c167, h⟩ | ⟨c167, h⟩
    · refine j_tsIn C 779 (21) dL_law_33 c167 rfl rfl rfl ?_
      exact law_21_ok C SC hkk h
    rcases ite_cases h with ⟨c175, h⟩ | ⟨c175, h⟩
    · refine j_tsIn C 812 (22) dL_law_33 c175 rfl rfl rfl ?_
      exact law_22_ok C SC hkk h
    rcases ite_cases h with ⟨c183, h⟩ | ⟨c183, h⟩
    · refine j_tsIn C 845 (23) dL_law_33 c183 rfl rfl rfl ?_
      exact law_23_ok C SC hkk h
    rcases ite_cases h with ⟨c189, h⟩ | ⟨c189, h⟩
    · refine j_tsIn C 878 (24) dL_law_33 c189 rfl rfl rfl ?_
      exact law_24_ok C SC hkk h
    rcases ite_cases h with ⟨c197, h⟩ | ⟨c197, h⟩
    · refine j_tsIn C 901 (25) dL_law_33 c197 rfl rfl rfl ?_
      exact law_25_ok C SC hkk h
    rcases ite_cases h with ⟨c201, h⟩ | ⟨c201, h⟩
    · refine j_tsIn C 934 (26) dL_law_33 c201 rfl rfl rfl ?_
      exact law_26_ok C SC hkk h
    rcases ite_cases h with ⟨c207, h⟩ | ⟨c207, h⟩
    · refine j_tsIn C 947 (27) dL_law_33 c207 rfl rfl rfl ?_
      exact law_27_ok C SC hkk h
    rcases ite_cases h with ⟨c213, h⟩ | ⟨c213, h⟩
    · refine j_tsIn C 970 (28) dL_law_33 c213 rfl rfl rfl ?_
      exact law_28_ok C SC hkk h
    rcases ite_cases h with ⟨c217, h⟩ | ⟨c217, h⟩
    · refine j_tsIn C 993 (29) dL_law_33 c217 rfl rfl rfl ?_
      exact law_29_ok C SC hkk h
    rcases ite_cases h with ⟨c223, h⟩ | ⟨c223, h⟩
    · refine j_tsIn C 1006 (30) dL_law_33 c223 rfl rfl rfl ?_
      exact law_30_ok C SC hkk h
    rcases ite_cases h with ⟨c227, h⟩ | ⟨c227, h⟩
    · refine j_tsIn C 1029 (31) dL_law_33 c227 rfl rfl rfl ?_
      exact law_31_ok C SC hkk h
    rcases ite_cases h with ⟨c233, h⟩ | ⟨c233, h⟩
    · refine j_tsIn C 1042 (32) dL_law_33 c233 rfl rfl rfl ?_
      exact law_32_ok C SC hkk h
    refine j_tsOut C 1065 dL_law_33 (by omega) rfl ?_
    exact hkk _ _ h
theorem law_Lok {g : Gm} {w : Wd} (C : Cx g w RL cL_law 4 ret) {xs : Nat → Int} {LL : Nat} (SC : SX g w xs LL) {N : Nat} {out : Mem} (f : Nat) : ∀ {l3 : Int} {m : Mem}, law_L N xs LL f l3 m = some out → JL g w 18 l3 m := by
  induction f with
  | zero => intro l3 m h; exact none_ne (α := Mem) h
  | succ f ih =>
    intro l3 m h
    refine law_bok C SC (fun l3 m h => ?_) h
    refine j_iinc (ls' := [some (vR _), some (vR _), some (vR _), some (vI _)]) C dL_law_1065 rfl (by decide) rfl ?_
    refine j_goto C 18 dL_law_1068 rfl ?_
    exact ih h
