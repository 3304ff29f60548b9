/-! BASE 3: making objects -/
def NW (U : State) : Prop := (va_Nw (.methodLinkNest RX4 33 yX6_init "HalfMaps") U ∧ va_Nw (.methodLinkNest RX4 34 yX3_init "HalfMaps") U ∧ va_Nw (.methodLinkNest RX3 15 yX6_init "HalfMaps") U ∧ va_Nw (.methodLinkNest RX7 34 yX0_init "HalfMaps") U ∧ va_Nw (.methodLinkNest RX7 41 yX5_init "HalfMaps") U ∧ va_Nw (.methodLinkNest RX7 48 yX2_init "HalfMaps") U) ∧ va_AO "HalfMaps$Word" U ∧ va_AO "HalfMaps$Rule" U ∧ va_AO "HalfMaps$State" U
theorem NW.warm {s U : State} (hW : s.WarmedH U.vm) (h : NW s) : NW U := by
  obtain ⟨⟨h1, h2, h3, h4, h5, h6⟩, h7, h8, h9⟩ := h
  exact ⟨⟨va_Nw.warmM hW h1, va_Nw.warmM hW h2, va_Nw.warmM hW h3, va_Nw.warmM hW h4, va_Nw.warmM hW h5, va_Nw.warmM hW h6⟩, h7.moved hW.alike, h8.moved hW.alike, h9.moved hW.alike⟩
theorem NW.same {u U : State} (h : u.vm = U.vm) (hN : NW u) : NW U := by
  obtain ⟨⟨h1, h2, h3, h4, h5, h6⟩, h7, h8, h9⟩ := hN
  exact ⟨⟨va_Nw.same rfl h h1, va_Nw.same rfl h h2, va_Nw.same rfl h h3, va_Nw.same rfl h h4, va_Nw.same rfl h h5, va_Nw.same rfl h h6⟩, h7.moved (h ▸ Vm.Alike.refl u.vm), h8.moved (h ▸ Vm.Alike.refl u.vm), h9.moved (h ▸ Vm.Alike.refl u.vm)⟩
def zBI (D : va_G) (cl : List vw_C) (tys : List (ClassId × FieldType)) (w : va_W) (sz : Nat) (U : State) : Prop := zB D cl tys w sz U ∧ NW U
theorem zBI.blind {as : List Value} {D : va_G} {cl : List vw_C} {tys : List (ClassId × FieldType)} {w : va_W} {sz : Nat} : FrameBlind (va_Pc as (zBI D cl tys w sz)) := fun a U g mk q => by
  obtain ⟨q0, q1, q2⟩ := q
  exact ⟨q0, (zB.blind (as := as) a U g mk ⟨q0, q1⟩).2, q2.same (rfl : U.vm = (U.calling g mk a).vm)⟩
/-- a callee's words: a constructor, by an ordinary link or a nest mate's -/
def zI (y : MethodName) (b : ByteArray) (maxL : Nat) : Prop :=
  (Cond.instanceMethod y ∈ gw_tbl ∧ Cond.initialized y.cls ∈ gw_tbl ∧ Cond.code y b maxL none ∈ gw_tbl) ∧ y.name = "<init>" ∧ (y.cls ≠ "java/lang/invoke/MethodHandle" ∧ y.cls ≠ "java/lang/invoke/VarHandle" ∧ (parseMethodDescriptor y.desc).map (fun d => d.parameters.length) = some 0)
section ZB3
variable {p : Program} {l : Launch} {e : Env} {R : Room} {s : State} {m : MethodId} {args : Array Value} {below : List Frame} {meth : Method} {c : Code} {H : Heap} {locs : List Loc} {cells slots : Nat} {Q : State → Prop}
variable {cc bytes : ByteArray} {pc nL maxL index : Nat} {ls : Array Slot} {rest st0 : List Value} {D : va_G} {cl : List vw_C} {A : Nat → Prop} {b : Nat} {tys : List (ClassId × FieldType)} {ws wc wr : va_W} {own host : String} {y : MethodName} {rm : Room} {mc ms : Nat}
theorem zc_IN {S : Type} {post : S → Prop} {w1 : S → va_W} (hx : p.tables.exec = Jvm.exec) (hb : c.code = cc) (hml : c.maxLocals = nL) (hown : s.vm.findClass own = some m.cls) (hts : ∀ w ∈ gw_tbl, w.before args s = true) (hK : va_K D cl tys s) (hPW : PW A s s.heap) (hNW : NW s) (hA : ∀ q, s.heap.size ≤ q → A q) (hls : ls.size = nL) (hP : va_P D cl ws H) (hD : va_D A ws) (hS : va_S A s.heap H locs) (hcs : cells + mc ≤ R.cells ∧ slots + ms ≤ R.slots)
    (isC isR : List Nat) (hC : isC.map (fun i => ws[i]?) = wc.map some) (hR : isR.map (fun i => ws[i]?) = wr.map some) (hnd : va_nd (isC ++ isR) = true)
    (hM : Met l y (wsU y bytes maxL none) rm (va_Pc [.ref b] (zBI D cl tys wc H.size)) (va_Qv post (zE D cl (va_A wc H.size) w1) (va_A wc H.size)) mc ms (va_A wc H.size))
    (hw : zI y bytes maxL) (hl : va_Nw (.methodLinkNest own index y host) s) (hrm : rm.cells = mc ∧ rm.slots = ms ∧ rm.frames + 1 ≤ R.frames ∧ 8 + (maxL + 11) + rm.locals ≤ R.locals) (hst : st0 = .ref b :: rest) (hroom : (rest.map fun v => v.category).sum ≤ 8) (hdg : decode cc pc = .ok (.invokespecial index, 3))
    (kk : ∀ (u : S) (H1 : Heap) (locs1 : List Loc), post u → va_P D cl (wr ++ w1 u) H1 → va_D A (wr ++ w1 u) → va_S A s.heap H1 locs1 → W p l e R s m args below meth c H1 locs1 (cells + mc) (slots + ms) Q (F0 m (pc + 3) ls rest)) : W p l e R s m args below meth c H locs cells slots Q (F0 m pc ls st0) := by
  obtain ⟨n1, n2, n3⟩ := z_nd hnd
  have hPc := hP.sub (ws' := wc) isC (z_fm hC)
  have hDc := hD.sub (ws' := wc) isC n1 hC
  have hFc := va_free (wc := wc) hD hS hA isC hC
  obtain ⟨⟨i1, i2, i3⟩, i4, i5⟩ := hw
  refine va_callv (va_runIN (As := []) (rest := rest) ⟨hx, hb, hml, hown, hts⟩ hM ⟨va_cnB 0 hts (gw_goodU i3) rfl hrm.1 hrm.2.1 hl (hts _ i2) i5 hrm.2.2, i4, hts _ i1⟩ ⟨zBI.blind, fun U hU hW => ⟨rfl, zB.mk hK hPc hDc hS hFc hPW U hU hW, hNW.warm hW⟩⟩ rfl rfl hls hst (lv_room hroom) hdg hcs) hS (fun q _ h => hFc q h) hFc (fun u t H1 locs ht hvm hw hB hz1 hk1 hS => ?_)
  obtain ⟨hP1, hD1⟩ := hB
  rw [ht] at hP1
  obtain ⟨hP, hD⟩ := va_join (wr := wr) (w1 := w1 u) hP hD isC isR hC hR n2 n3 hk1 hFc hP1 hD1
  exact kk u H1 locs hw hP hD hS
theorem zc_I {S : Type} {post : S → Prop} {w1 : S → va_W} (hx : p.tables.exec = Jvm.exec) (hb : c.code = cc) (hml : c.maxLocals = nL) (hown : s.vm.findClass own = some m.cls) (hts : ∀ w ∈ gw_tbl, w.before args s = true) (hK : va_K D cl tys s) (hPW : PW A s s.heap) (hNW : NW s) (hA : ∀ q, s.heap.size ≤ q → A q) (hls : ls.size = nL) (hP : va_P D cl ws H) (hD : va_D A ws) (hS : va_S A s.heap H locs) (hcs : cells + mc ≤ R.cells ∧ slots + ms ≤ R.slots)
    (isC isR : List Nat) (hC : isC.map (fun i => ws[i]?) = wc.map some) (hR : isR.map (fun i => ws[i]?) = wr.map some) (hnd : va_nd (isC ++ isR) = true)
    (hM : Met l y (wsU y bytes maxL none) rm (va_Pc [.ref b] (zBI D cl tys wc H.size)) (va_Qv post (zE D cl (va_A wc H.size) w1) (va_A wc H.size)) mc ms (va_A wc H.size))
    (hw : zI y bytes maxL) (hl : Cond.methodLink own index y ∈ gw_tbl) (hrm : rm.cells = mc ∧ rm.slots = ms ∧ rm.frames + 1 ≤ R.frames ∧ 8 + (maxL + 11) + rm.locals ≤ R.locals) (hst : st0 = .ref b :: rest) (hroom : (rest.map fun v => v.category).sum ≤ 8) (hdg : decode cc pc = .ok (.invokespecial index, 3))
    (kk : ∀ (u : S) (H1 : Heap) (locs1 : List Loc), post u → va_P D cl (wr ++ w1 u) H1 → va_D A (wr ++ w1 u) → va_S A s.heap H1 locs1 → W p l e R s m args below meth c H1 locs1 (cells + mc) (slots + ms) Q (F0 m (pc + 3) ls rest)) : W p l e R s m args below meth c H locs cells slots Q (F0 m pc ls st0) := by
  obtain ⟨n1, n2, n3⟩ := z_nd hnd
  have hPc := hP.sub (ws' := wc) isC (z_fm hC)
  have hDc := hD.sub (ws' := wc) isC n1 hC
  have hFc := va_free (wc := wc) hD hS hA isC hC
  obtain ⟨⟨i1, i2, i3⟩, i4, i5⟩ := hw
  refine va_callv (va_runI (As := []) (rest := rest) ⟨hx, hb, hml, hown, hts⟩ hM (cwI 0 hts (gw_goodU i3) rfl hrm.1 hrm.2.1 (hts _ i2) (hts _ hl) (hts _ i1) i4 i5 hrm.2.2) ⟨zBI.blind, fun U hU hW => ⟨rfl, zB.mk hK hPc hDc hS hFc hPW U hU hW, hNW.warm hW⟩⟩ rfl rfl hls hst (lv_room hroom) hdg hcs) hS (fun q _ h => hFc q h) hFc (fun u t H1 locs ht hvm hw hB hz1 hk1 hS => ?_)
  obtain ⟨hP1, hD1⟩ := hB
  rw [ht] at hP1
  obtain ⟨hP, hD⟩ := va_join (wr := wr) (w1 := w1 u) hP hD isC isR hC hR n2 n3 hk1 hFc hP1 hD1
  exact kk u H1 locs hw hP hD hS
/-- a constructor's body -/
theorem z_ofI {y : MethodName} {cc : ByteArray} {maxL : Nat} {rm : Room} {h0 : Nat} {w : va_W} {sz mc ms : Nat} (Qf : (Nat → Prop) → Array Value → State → Outcome → State → Prop) (hy : plainName y.cls = true) (hin : y.name = "<init>") (hlen : (lg_sl [Value.ref h0]).length ≤ maxL) (body : ∀ (p : Program) (e : Env) (s : State) (m : MethodId) (below : List Frame) (meth : Method) (c : Code) (A : Nat → Prop) (ls : Array Slot), p.tables.exec = Jvm.exec → c.code = cc → meth.sig.returnType = none → c.maxLocals = maxL → s.vm.findClass y.cls = some m.cls → (∀ w ∈ gw_tbl, w.before [Value.ref h0].toArray s = true) → meth.locks = false → meth.name = "<init>" → NW s → va_K D cl tys s → PW A s s.heap → (∀ q, s.heap.size ≤ q → A q) → va_P D cl w s.heap → va_D A w → va_S A s.heap s.heap [] → lv_has ls maxL [(0, .ref h0)] → W p l e rm s m [Value.ref h0].toArray below meth c s.heap [] 0 0 (MQ below (Qf A) [Value.ref h0].toArray s mc ms A) (F0 m 0 ls [])) : Met l y (wsU y cc maxL none) rm (va_Pc [.ref h0] (zBI D cl tys w sz)) (Qf (va_A w sz)) mc ms (va_A w sz) := by
  refine Met.ofW (cc := cc) (maxL := maxL) (ret := none) hy rfl ?_
  intro p e s m args below meth c s₁ B hml hv
  obtain ⟨rfl, ⟨hsz, hP, hK, hD0, hPW⟩, hNW⟩ := hv
  have hts := atoms_spec (ws := wsU y cc maxL none) B.pre
  rw [lg_entry_eq]
  subst hsz
  exact body p e s m below meth c (va_A w s.heap.size) _ B.exec B.bytes B.returns hml (findClass_of_methodNamed B.named) (fun w hw => hts w (List.mem_cons_of_mem _ hw)) B.notSynchronized ((name_of_methodNamed B.named B.method).1.trans hin) hNW hK hPW (fun q h => Or.inr h) hP hD0.self va_S.rf (lv_entry [.ref h0] hlen)
theorem z_vretA {S : Type} {post : S → Prop} {w1 : S → va_W} {A : Nat → Prop} (u : S) (hx : p.tables.exec = Jvm.exec) (hb : c.code = cc) (hr : meth.sig.returnType = none) (hlocks : meth.locks = false) (h : post u) (hP : va_P D cl (w1 u) H) (hD : va_D A (w1 u)) (hS : va_S A s.heap H locs) (hdg : decode cc pc = .ok (.return_, 1)) : W p l e R s m args below meth c H locs cells slots (MQ below (va_Qv post (zE D cl A w1) A) args s cells slots A) (F0 m pc ls []) :=
  W.vret hx hb hr (fun t ht _ => ⟨⟨u, rfl, h, by rw [ht]; exact hP, hD⟩, hS.F ht⟩) hS.2.2 hdg hlocks
theorem z_cA {cA cB : ClassId} {ty : FieldType} {t0 : Nat} (hK : va_K D cl tys s) (h1 : va_K D cl (tys ++ [(cA, ty)]) s) (ht : tys[t0]? = some (cB, ty)) : cA = cB := by
  have a := (h1.2 tys.length (cA, ty) (by simp)).2
  have b := (hK.2 t0 (cB, ty) ht).2
  cases ty with
  | object C =>
    obtain ⟨_, _, _, _, _, a⟩ := a
    obtain ⟨_, _, _, _, _, b⟩ := b
    exact Option.some.inj (a.symm.trans b)
  | _ => exact Option.some.inj (Eq.trans (Eq.symm a) b)
theorem z_newa {H0 : Heap} {atype : ArrayType} {ty : FieldType} {cB : ClassId} (t0 : Nat) (ht : tys[t0]? = some (cB, ty)) (a0 : vp_A) (hexec : p.tables.exec = Jvm.exec) (hb : c.code = cc) (harr : (Cond.arrayClass (newarray.typeOf atype)).before args s = true) (hty : newarray.typeOf atype = ty) (hK : va_K D cl tys s) (hP : va_P D cl ws H) (hD : va_D A ws) (hS : va_S A H0 H locs) (hA : ∀ q, H0.size ≤ q → A q)
    {n : Int32} {N' : Nat} (ha : ∀ cA : ClassId, vp_cell cA a0 = arrV cA N' (fun _ => defaultValue ty)) (hn : ¬ n < 0) (hN : n.toNatClampNeg = N') (hbytes : N' * componentBytes ty ≤ 536870912) (hcells : cells + 1 ≤ R.cells) (hslots : slots + N' ≤ R.slots) (hdg : decode cc pc = .ok (.newarray atype, 2))
    (kk : ∀ (q : Nat) (H1 : Heap), va_P D cl (ws ++ [(q, .inl (cB, a0))]) H1 → va_D A (ws ++ [(q, .inl (cB, a0))]) → va_S A H0 H1 locs →
      W p l e R s m args below meth c H1 locs (cells + 1) (slots + N') Q (F0 m (pc + 2) ls (.ref q :: rest))) : W p l e R s m args below meth c H locs cells slots Q (F0 m pc ls (.int n :: rest)) := by
  refine va_newa hexec hb harr hty hK hP hD hS hA (a0 := a0) ha hn hN hbytes hcells hslots hdg (fun q cA H1 hK1 hP1 hD1 hS1 => ?_)
  have e := z_cA hK hK1 ht
  subst e
  exact kk q H1 hP1 hD1 hS1
theorem z_newq {H0 : Heap} {own C : String} {cB : ClassId} (t0 : Nat) (ht : tys[t0]? = some (cB, .object C)) (hexec : p.tables.exec = Jvm.exec) (hb : c.code = cc) (hown : s.vm.findClass own = some m.cls) (hclink : (Cond.classLink own index C).before args s = true) (hover : va_AO C s) (hK : va_K D cl tys s) (hP : va_P D cl ws H) (hD : va_D A ws) (hS : va_S A H0 H locs) (hA : ∀ q, H0.size ≤ q → A q)
    {n : Int32} {N' : Nat} (hn : ¬ n < 0) (hN : n.toNatClampNeg = N') (hbytes : N' * 4 ≤ 536870912) (hcells : cells + 1 ≤ R.cells) (hslots : slots + N' ≤ R.slots) (hdg : decode cc pc = .ok (.anewarray index, 3))
    (kk : ∀ (q : Nat) (H1 : Heap), va_P D cl (ws ++ [(q, .inl (cB, N', .inr (.inr (.inr (.inr (fun _ => none))))))]) H1 → va_D A (ws ++ [(q, .inl (cB, N', .inr (.inr (.inr (.inr (fun _ => none))))))]) → va_S A H0 H1 locs →
      W p l e R s m args below meth c H1 locs (cells + 1) (slots + N') Q (F0 m (pc + 3) ls (.ref q :: rest))) : W p l e R s m args below meth c H locs cells slots Q (F0 m pc ls (.int n :: rest)) := by
  refine va_newq hexec hb hown hclink hover hK hP hD hS hA hn hN hbytes hcells hslots hdg (fun q cA H1 hK1 hP1 hD1 hS1 => ?_)
  have e := z_cA hK hK1 ht
  subst e
  exact kk q H1 hP1 hD1 hS1
end ZB3
theorem wo_im : Cond.instanceMethod objectInit ∈ gw_tbl := gw_mem 78 (by decide +kernel) rfl
theorem wo_co : Cond.code objectInit ⟨#[0xb1]⟩ 1 none ∈ gw_tbl := gw_mem 79 (by decide +kernel) rfl
/-! two methods that constructors call -/
def fl6 : Nat → Int32 := fun k => if k < 6 then 7465 else 0
theorem fill6 {Q : (Nat → Int32) → Prop} (h : Q fl6) : wp_J7_fill_53178 7465 6 (fun _ => 0) Q := by
  have e : upd (upd (upd (upd (upd (upd (fun _ => 0) 0 7465) 1 7465) 2 7465) 3 7465) 4 7465) 5 7465 = fl6 := by
    funext k
    simp only [upd, fl6]
    repeat' split
    all_goals first | rfl | omega
  rw [← e] at h
  unfold wp_J7_fill_53178
  intro x3 e3
  subst e3
  refine ⟨7, ?_⟩
  have c1 : ∀ k : Nat, k < 6 → ¬ nI 6 ≤ nI k := fun k hk => nI_ge hk (by decide)
  refine ⟨fun c => absurd c (c1 0 (by decide)), fun _ => ⟨vp_in_nI (n := 0) (by decide) (by decide), fun x2 e2 => ?_⟩⟩
  subst e2
  refine ⟨fun c => absurd c (c1 1 (by decide)), fun _ => ⟨vp_in_nI (n := 1) (by decide) (by decide), fun x2 e2 => ?_⟩⟩
  subst e2
  refine ⟨fun c => absurd c (c1 2 (by decide)), fun _ => ⟨vp_in_nI (n := 2) (by decide) (by decide), fun x2 e2 => ?_⟩⟩
  subst e2
  refine ⟨fun c => absurd c (c1 3 (by decide)), fun _ => ⟨vp_in_nI (n := 3) (by decide) (by decide), fun x2 e2 => ?_⟩⟩
  subst e2
  refine ⟨fun c => absurd c (c1 4 (by decide)), fun _ => ⟨vp_in_nI (n := 4) (by decide) (by decide), fun x2 e2 => ?_⟩⟩
  subst e2
  refine ⟨fun c => absurd c (c1 5 (by decide)), fun _ => ⟨vp_in_nI (n := 5) (by decide) (by decide), fun x2 e2 => ?_⟩⟩
  subst e2
  exact ⟨fun _ => h, fun c => absurd (by decide) c⟩
theorem power_wp {p : Nat} (hp : p < 5) {Q : Int32 → Prop} (h : Q (pw p)) : wp_X8_power (nI p) Q := by
  unfold wp_X8_power
  rcases (show p = 0 ∨ p = 1 ∨ p = 2 ∨ p = 3 ∨ p = 4 by omega) with rfl | rfl | rfl | rfl | rfl
  · refine ⟨1, ?_⟩
    exact ⟨fun _ => h, fun c => absurd (by decide) c⟩
  · refine ⟨2, ?_⟩
    refine ⟨fun c => absurd c (by decide), fun _ x1 e1 x2 e2 => ?_⟩
    subst e1 e2
    exact ⟨fun _ => h, fun c => absurd (by decide) c⟩
  · refine ⟨3, ?_⟩
    refine ⟨fun c => absurd c (by decide), fun _ x1 e1 x2 e2 => ?_⟩
    subst e1 e2
    refine ⟨fun c => absurd c (by decide), fun _ x1 e1 x2 e2 => ?_⟩
    subst e1 e2
    exact ⟨fun _ => h, fun c => absurd (by decide) c⟩
  · refine ⟨4, ?_⟩
    refine ⟨fun c => absurd c (by decide), fun _ x1 e1 x2 e2 => ?_⟩
    subst e1 e2
    refine ⟨fun c => absurd c (by decide), fun _ x1 e1 x2 e2 => ?_⟩
    subst e1 e2
    refine ⟨fun c => absurd c (by decide), fun _ x1 e1 x2 e2 => ?_⟩
    subst e1 e2
    exact ⟨fun _ => h, fun c => absurd (by decide) c⟩
  · refine ⟨5, ?_⟩
    refine ⟨fun c => absurd c (by decide), fun _ x1 e1 x2 e2 => ?_⟩
    subst e1 e2
    refine ⟨fun c => absurd c (by decide), fun _ x1 e1 x2 e2 => ?_⟩
    subst e1 e2
    refine ⟨fun c => absurd c (by decide), fun _ x1 e1 x2 e2 => ?_⟩
    subst e1 e2
    refine ⟨fun c => absurd c (by decide), fun _ x1 e1 x2 e2 => ?_⟩
    subst e1 e2
    exact ⟨fun _ => h, fun c => absurd (by decide) c⟩
theorem put_wp {p : Nat} {q : Int32} (hp : p < 5) {Q : Int32 → Prop} (h : Q (pw p * (q + 1))) : wp_X8_put (nI p) q Q := power_wp hp h
theorem same_wp {Q : Int32 → Prop} (h : Q 7465) : wp_X8_same Q := by
  unfold wp_X8_same
  refine ⟨6, ?_⟩
  refine ⟨fun c => absurd c (by decide), fun _ => put_wp (p := 0) (by decide) (fun x0 e0 x1 e1 => ?_)⟩
  subst e0 e1
  refine ⟨fun c => absurd c (by decide), fun _ => put_wp (p := 1) (by decide) (fun x0 e0 x1 e1 => ?_)⟩
  subst e0 e1
  refine ⟨fun c => absurd c (by decide), fun _ => put_wp (p := 2) (by decide) (fun x0 e0 x1 e1 => ?_)⟩
  subst e0 e1
  refine ⟨fun c => absurd c (by decide), fun _ => put_wp (p := 3) (by decide) (fun x0 e0 x1 e1 => ?_)⟩
  subst e0 e1
  refine ⟨fun c => absurd c (by decide), fun _ => put_wp (p := 4) (by decide) (fun x0 e0 x1 e1 => ?_)⟩
  subst e0 e1
  exact ⟨fun _ => h, fun c => absurd (by decide) c⟩
