/-! BASE 2: cells by short names, the body of a method, arrays of references, arraycopy, constants -/
abbrev aI (cy : Nat → ClassId) (n : Nat) (f : Nat → Int32) : va_E := .inl (cy 0, n, .inl f)
abbrev aJ (cy : Nat → ClassId) (n : Nat) (f : Nat → Int64) : va_E := .inl (cy 1, n, .inr (.inl f))
abbrev aZ (cy : Nat → ClassId) (n : Nat) (f : Nat → Int32) : va_E := .inl (cy 2, n, .inl f)
abbrev aR (cy : Nat → ClassId) (t n : Nat) (f : Nat → Option Nat) : va_E := .inl (cy t, n, .inr (.inr (.inr (.inr f))))
/-- what a boolean holds -/
def isB (v : Int32) : Prop := v = 0 ∨ v = 1
theorem isB.n {v : Int32} (h : isB v) : narrow .boolean (.int v) = .int v := by rcases h with rfl | rfl <;> rfl
theorem isB.f {v : Int32} (h : isB v) : fits .boolean (.int v) = true := by rcases h with rfl | rfl <;> rfl
section ZB2
variable {p : Program} {l : Launch} {e : Env} {R : Room} {s : State} {m : MethodId} {args : Array Value} {below : List Frame} {meth : Method} {c : Code} {H : Heap} {locs : List Loc} {cells slots : Nat} {Q : State → Prop}
variable {cc : ByteArray} {pc nL : Nat} {ls : Array Slot} {rest : List Value} {D : va_G} {cl : List vw_C} {A : Nat → Prop} {a : Nat} {tys : List (ClassId × FieldType)} {ws : va_W} {H0 : Heap}
theorem z_ofX {y : MethodName} {cc : ByteArray} {maxL : Nat} {ret : Option FieldType} {rm : Room} {as : List Value} {w : va_W} {sz : Nat} (Qf : (Nat → Prop) → Array Value → State → Outcome → State → Prop) (hy : plainName y.cls = true) (hlen : (lg_sl as).length ≤ maxL) (body : ∀ (p : Program) (e : Env) (s : State) (m : MethodId) (below : List Frame) (meth : Method) (c : Code) (A : Nat → Prop) (ls : Array Slot), p.tables.exec = Jvm.exec → c.code = cc → meth.sig.returnType = ret → c.maxLocals = maxL → s.vm.findClass y.cls = some m.cls → (∀ w ∈ gw_tbl, w.before as.toArray s = true) → meth.locks = false → va_K D cl tys s → PW A s s.heap → (∀ q, s.heap.size ≤ q → A q) → va_P D cl w s.heap → va_D A w → va_S A s.heap s.heap [] → lv_has ls maxL (lv_args 0 as) → W p l e rm s m as.toArray below meth c s.heap [] 0 0 (MQ below (Qf A) as.toArray s 0 0 A) (F0 m 0 ls [])) : Met l y (wsU y cc maxL ret) rm (va_Pc as (zB D cl tys w sz)) (Qf (va_A w sz)) 0 0 (va_A w sz) :=
  z_ofW hy hlen (fun p e s m below meth c A ls hA hx hb hr hml hown hts hlocks hK hPW hA2 hP hD hS hl => by
    subst hA
    exact body p e s m below meth c _ ls hx hb hr hml hown hts hlocks hK hPW hA2 hP hD hS hl)
theorem z_aald (hexec : p.tables.exec = Jvm.exec) (hb : c.code = cc) (hK : va_K D cl tys s) (hP : va_P D cl ws H) (q0 t0 : Nat) {cA : ClassId} {C : String} {n : Nat} {f : Nat → Option Nat} (ha : ws[q0]? = some (a, .inl (cA, n, .inr (.inr (.inr (.inr f)))))) (ht : tys[t0]? = some (cA, .object C)) {i : Int32} {j b : Nat} (hin : vp_in i n) (ei : i = nI j) (hj : j < 2 ^ 31) (hf : f j = some b) (hdg : decode cc pc = .ok (.aaload, 1))
    (kk : W p l e R s m args below meth c H locs cells slots Q (F0 m (pc + 1) ls (.ref b :: rest))) : W p l e R s m args below meth c H locs cells slots Q (F0 m pc ls (.int i :: .ref a :: rest)) := by
  refine va_aldq hexec hb hK hP q0 t0 ha ht hin hdg ?_
  rw [show i.toNatClampNeg = j by rw [ei]; exact nI_clamp hj, hf]
  exact kk
theorem z_copy (hexec : p.tables.exec = Jvm.exec) (hb : c.code = cc) (hml : c.maxLocals = nL) (hls : ls.size = nL) {own : String} {index : Nat} (hown : s.vm.findClass own = some m.cls) (hlink : (Cond.methodLink own index arraycopyName).before args s = true) (hnat : (Cond.native arraycopyName).before args s = true) (hstat : (Cond.static arraycopyName).before args s = true) (hini : (Cond.initialized "java/lang/System").before args s = true)
    (hK : va_K D cl tys s) (hP : va_P D cl ws H) (hD : va_D A ws) (hS : va_S A H0 H locs) (q0 q1 t0 : Nat) {a0 : Nat} {c0 : ClassId} {n0 n1 : Nat} {f g : Nat → Int32} (ha0 : ws[q0]? = some (a0, .inl (c0, n0, .inl f))) (ha1 : ws[q1]? = some (a, .inl (c0, n1, .inl g))) (ht0 : tys[t0]? = some (c0, .int))
    {sp dp n : Int32} (h1 : ¬ sp < 0) (h2 : ¬ dp < 0) (h3 : ¬ n < 0) (h4 : sp.toNatClampNeg + n.toNatClampNeg ≤ n0) (h5 : dp.toNatClampNeg + n.toNatClampNeg ≤ n1)
    (hframes : 1 ≤ R.frames) (hlocals : (rest.map fun v => v.category).sum + 18 ≤ R.locals) (hdg : decode cc pc = .ok (.invokestatic index, 3))
    (kk : ∀ (H1 : Heap) (locs1 : List Loc), va_P D cl (ws.set q1 (a, .inl (c0, n1, .inl (va_cpy f g sp.toNatClampNeg dp.toNatClampNeg n.toNatClampNeg)))) H1 → va_D A (ws.set q1 (a, .inl (c0, n1, .inl (va_cpy f g sp.toNatClampNeg dp.toNatClampNeg n.toNatClampNeg)))) → va_S A H0 H1 locs1 → W p l e R s m args below meth c H1 locs1 cells slots Q (F0 m (pc + 3) ls rest)) : W p l e R s m args below meth c H locs cells slots Q (F0 m pc ls (.int n :: .int dp :: .ref a :: .int sp :: .ref a0 :: rest)) :=
  va_copyi hexec hb (by rw [hml, hls]) hown hlink hnat hstat hini hK hP hD hS q0 q1 t0 t0 ha0 ha1 ht0 ht0 rfl h1 h2 h3 h4 h5 (fun _ _ => rfl) hframes hlocals hdg kk
end ZB2
theorem ws_nat : Cond.native arraycopyName ∈ gw_tbl := gw_mem 511 (by decide +kernel) rfl
theorem ws_sta : Cond.static arraycopyName ∈ gw_tbl := gw_mem 510 (by decide +kernel) rfl
theorem ws_ml_X6 : Cond.methodLink RX6 19 arraycopyName ∈ gw_tbl := gw_mem 509 (by decide +kernel) rfl
theorem ws_ml_X4 : Cond.methodLink RX4 35 arraycopyName ∈ gw_tbl := gw_mem 597 (by decide +kernel) rfl
theorem cn_J6_265 : Cond.constant RJ6 265 1431655765 ∈ gw_tbl := gw_mem 304 (by decide +kernel) rfl
theorem cn_J6_266 : Cond.constant RJ6 266 858993459 ∈ gw_tbl := gw_mem 305 (by decide +kernel) rfl
theorem cn_J6_267 : Cond.constant RJ6 267 252645135 ∈ gw_tbl := gw_mem 306 (by decide +kernel) rfl
theorem cn_X8_202 : Cond.constantLong RX8 202 7 ∈ gw_tbl := gw_mem 904 (by decide +kernel) rfl
theorem z_2 {j : Nat} (h : j < 2) : j = 0 ∨ j = 1 := by omega
theorem z_4 {j : Nat} (h : j < 4) : j = 0 ∨ j = 1 ∨ j = 2 ∨ j = 3 := by omega
abbrev oX8 (ad : Nat → Nat) (m_said m_waved m_places m_end m_joints m_netPlaces m_begin m_finish m_rounds m_sews : Int32) : va_E := .inr (7, [.ref (ad 1), .ref (ad 2), .ref (ad 3), .ref (ad 4), .int m_said, .ref (ad 5), .int m_waved, .ref (ad 6), .ref (ad 7), .ref (ad 8), .ref (ad 9), .ref (ad 10), .ref (ad 11), .ref (ad 12), .ref (ad 13), .ref (ad 14), .ref (ad 15), .int m_places, .int m_end, .ref (ad 16), .ref (ad 17), .ref (ad 18), .ref (ad 19), .int m_joints, .int m_netPlaces, .int m_begin, .int m_finish, .int m_rounds, .ref (ad 20), .ref (ad 21), .ref (ad 22), .ref (ad 23), .ref (ad 24), .ref (ad 25), .int m_sews])
theorem ms_max : Cond.static Lib.Math.max.name ∈ gw_tbl := gw_mem 344 (by decide +kernel) rfl
theorem mc_max : Cond.code Lib.Math.max.name Lib.Math.max.code 2 (some .int) ∈ gw_tbl := gw_mem 345 (by decide +kernel) rfl
theorem mm_X1_41 : Cond.methodLink RX1 41 Lib.Math.max.name ∈ gw_tbl := gw_mem 343 (by decide +kernel) rfl
theorem mm_X0_77 : Cond.methodLink RX0 77 Lib.Math.max.name ∈ gw_tbl := gw_mem 432 (by decide +kernel) rfl
theorem mm_X5_47 : Cond.methodLink RX5 47 Lib.Math.max.name ∈ gw_tbl := gw_mem 476 (by decide +kernel) rfl
theorem mm_X2_112 : Cond.methodLink RX2 112 Lib.Math.max.name ∈ gw_tbl := gw_mem 544 (by decide +kernel) rfl
theorem ms_min : Cond.static Lib.Math.min.name ∈ gw_tbl := gw_mem 546 (by decide +kernel) rfl
theorem mc_min : Cond.code Lib.Math.min.name Lib.Math.min.code 2 (some .int) ∈ gw_tbl := gw_mem 547 (by decide +kernel) rfl
theorem mm_X2_94 : Cond.methodLink RX2 94 Lib.Math.min.name ∈ gw_tbl := gw_mem 545 (by decide +kernel) rfl
