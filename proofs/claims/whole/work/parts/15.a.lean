/-! making: arrays of the world's classes, constructors -/
section GN
variable {p : Program} {l : Launch} {e : Env} {R : Room} {s : State} {m : MethodId} {args : Array Value} {below : List Frame} {meth : Method} {c : Code} {H : Heap} {locs : List Loc} {cells slots : Nat} {Q : State → Prop}
variable {cc : ByteArray} {pc : Nat} {ls : Array Slot} {rest : List Value} {D : va_G} {A : Nat → Prop} {ws : va_W} {cy : Nat → ClassId}
theorem gRA {i : Nat} {ty : FieldType} {cA : ClassId} (hra : ∀ a b : ClassId, va_RA s a ty → va_RA s b ty → a = b) (hK : va_K D vwCl (gT cy) s) (hi : (gT cy)[i]? = some (cy i, ty)) (hK1 : va_K D vwCl (gT cy ++ [(cA, ty)]) s) : cA = cy i :=
  hra _ _ (hK1.2 4 (cA, ty) rfl).2 (hK.2 i _ hi).2
theorem gNewa (hx : p.tables.exec = Jvm.exec) (hb : c.code = cc) {atype : ArrayType} (harr : (Cond.arrayClass (newarray.typeOf atype)).before args s = true) {ty : FieldType} (hty : newarray.typeOf atype = ty) (i : Nat) (hra : ∀ a b : ClassId, va_RA s a ty → va_RA s b ty → a = b) (hK : va_K D vwCl (gT cy) s) (hi : (gT cy)[i]? = some (cy i, ty)) (hP : va_P D vwCl ws H) (hD : va_D A ws) (hS : va_S A s.heap H locs) (hA : ∀ q, s.heap.size ≤ q → A q)
    {n : Int32} {N' : Nat} {a0 : vp_A} (ha : ∀ cA : ClassId, vp_cell cA a0 = arrV cA N' (fun _ => defaultValue ty)) (hn : ¬ n < 0) (hN : n.toNatClampNeg = N') (hbytes : N' * componentBytes ty ≤ 536870912) {k2 n2 : Nat} (hk2 : cells + 1 = k2) (hn2 : slots + N' = n2) (hcells : k2 ≤ R.cells) (hslots : n2 ≤ R.slots) (hdg : decode cc pc = .ok (.newarray atype, 2))
    (kk : ∀ (q : Nat) (H1 : Heap), va_P D vwCl (ws ++ [(q, .inl (cy i, a0))]) H1 → va_D A (ws ++ [(q, .inl (cy i, a0))]) → va_S A s.heap H1 locs → W p l e R s m args below meth c H1 locs k2 n2 Q (F0 m (pc + 2) ls (.ref q :: rest))) : W p l e R s m args below meth c H locs cells slots Q (F0 m pc ls (.int n :: rest)) := by
  subst hk2; subst hn2
  refine va_newa hx hb harr hty hK hP hD hS hA ha hn hN hbytes hcells hslots hdg (fun q cA H1 hK1 hP1 hD1 hS1 => ?_)
  obtain rfl := gRA hra hK hi hK1
  exact kk q H1 hP1 hD1 hS1
theorem gNewq (hx : p.tables.exec = Jvm.exec) (hb : c.code = cc) {own : String} {index : Nat} (hown : s.vm.findClass own = some m.cls) (hclink : (Cond.classLink own index "PlainLines$Sheet").before args s = true) (hover : va_AO "PlainLines$Sheet" s) (hK : va_K D vwCl (gT cy) s) (hP : va_P D vwCl ws H) (hD : va_D A ws) (hS : va_S A s.heap H locs) (hA : ∀ q, s.heap.size ≤ q → A q)
    {n : Int32} {N' : Nat} (hn : ¬ n < 0) (hN : n.toNatClampNeg = N') (hbytes : N' * 4 ≤ 536870912) {k2 n2 : Nat} (hk2 : cells + 1 = k2) (hn2 : slots + N' = n2) (hcells : k2 ≤ R.cells) (hslots : n2 ≤ R.slots) (hdg : decode cc pc = .ok (.anewarray index, 3))
    (kk : ∀ (q : Nat) (H1 : Heap), va_P D vwCl (ws ++ [(q, .inl (cy 3, N', .inr (.inr (.inr (.inr (fun _ => none))))))]) H1 → va_D A (ws ++ [(q, .inl (cy 3, N', .inr (.inr (.inr (.inr (fun _ => none))))))]) → va_S A s.heap H1 locs → W p l e R s m args below meth c H1 locs k2 n2 Q (F0 m (pc + 3) ls (.ref q :: rest))) : W p l e R s m args below meth c H locs cells slots Q (F0 m pc ls (.int n :: rest)) := by
  subst hk2; subst hn2
  refine va_newq hx hb hown hclink hover hK hP hD hS hA hn hN hbytes hcells hslots hdg (fun q cA H1 hK1 hP1 hD1 hS1 => ?_)
  obtain rfl : cA = cy 3 := gRA (i := 3) (ty := .object "PlainLines$Sheet") (fun a b h1 h2 => by
    obtain ⟨kA, comp, x1, x2, x3, x4⟩ := h1
    obtain ⟨kB, comp2, y1, y2, y3, y4⟩ := h2
    exact Option.some.inj (x4.symm.trans y4)) hK rfl hK1
  exact kk q H1 hP1 hD1 hS1
theorem gRx {W1 : va_W} {w1 : va_W → Prop} (hx : p.tables.exec = Jvm.exec) (hb : c.code = cc) (hr : meth.sig.returnType = none) (hlocks : meth.locks = false) (hP : va_P D vwCl W1 H) (hD : va_D A W1) (hS : va_S A s.heap H locs) (hw : w1 W1) (hdg : decode cc pc = .ok (.return_, 1)) : W p l e R s m args below meth c H locs cells slots (MQ below (va_Qv w1 (gPost D A) A) args s cells slots A) (F0 m pc ls []) :=
  W.vret hx hb hr (fun t ht hW => ⟨⟨W1, rfl, hw, by rw [ht]; exact hP, hD⟩, hS.F ht⟩) hS.2.2 hdg hlocks
end GN
theorem gra_i {s : State} (a b : ClassId) (h1 : va_RA s a .int) (h2 : va_RA s b .int) : a = b := Option.some.inj (h1.symm.trans h2)
theorem gra_l {s : State} (a b : ClassId) (h1 : va_RA s a .long) (h2 : va_RA s b .long) : a = b := Option.some.inj (h1.symm.trans h2)
theorem gra_z {s : State} (a b : ClassId) (h1 : va_RA s a .boolean) (h2 : va_RA s b .boolean) : a = b := Option.some.inj (h1.symm.trans h2)
/-- a contract's body where the start says more than the world -/
theorem gBodyE {l : Launch} {D : va_G} {cy : Nat → ClassId} {t sz : Nat} {y : MethodName} {ws ws' : List Cond} {rm : Room} {av : List Value} {W0 : va_W} {E : State → Prop} {Qc : (Nat → Prop) → Array Value → State → Outcome → State → Prop} {mc ms : Nat} {cc : ByteArray} {maxL : Nat} {ret : Option FieldType}
    (hy : plainName y.cls = true) (hw : ws = Cond.code y cc maxL ret :: ws') (hlen : (lg_sl av).length ≤ maxL)
    (body : ∀ p e s m below meth c A ls, gAt p s m av.toArray meth c D cy t A W0 ws cc maxL ret y.cls y.name → E s → lv_has ls maxL (lv_args 0 av) → W p l e rm s m av.toArray below meth c s.heap [] 0 0 (MQ below (Qc A) av.toArray s mc ms A) (F0 m 0 ls [])) :
    Met l y ws rm (va_Pc av (fun U => gPre D cy t W0 sz U ∧ E U)) (Qc (va_A W0 sz)) mc ms (va_A W0 sz) := by
  refine Met.ofW (cc := cc) (maxL := maxL) (ret := ret) hy hw ?_
  intro p e s m args below meth c s₁ B hml hv
  obtain ⟨rfl, ⟨hsz, hP, hK, hD0, hG⟩, hE⟩ := hv
  have hts := atoms_spec (ws := ws) B.pre
  have hown : s.vm.findClass y.cls = some m.cls := findClass_of_methodNamed B.named
  have hin : meth.name = y.name := (name_of_methodNamed B.named B.method).1
  subst hsz
  have hD := hD0.self (sz := s.heap.size)
  have hA : ∀ q : Nat, s.heap.size ≤ q → va_A W0 s.heap.size q := fun q h => Or.inr h
  have hl := lv_entry av (n := maxL) hlen
  rw [lg_entry_eq]
  exact body p e s m below meth c _ _ ⟨B.exec, B.bytes, hml, B.returns, hts, hown, B.notSynchronized, hin, hK, hG, hA, hP, hD⟩ hE hl
def gMxE (l : Launch) (D : va_G) (cy : Nat → ClassId) (t sz : Nat) (y : MethodName) (ws : List Cond) (fr lo mc ms : Nat) (av : List Value) (W0 : va_W) (W1 : va_W → Prop) : Prop := Met l y ws ({ frames := fr, cells := mc, slots := ms, locals := lo }) (va_Pc av (fun U => gPre D cy t W0 sz U ∧ va_AO "PlainLines$Sheet" U)) (va_Qv W1 (gPost D (va_A W0 sz)) (va_A W0 sz)) mc ms (va_A W0 sz)
theorem gBx {l : Launch} {D : va_G} {cy : Nat → ClassId} {t sz fr lo mc ms : Nat} {y : MethodName} {ws ws' : List Cond} {av : List Value} {W0 : va_W} {W1 : va_W → Prop} {cc : ByteArray} {maxL : Nat} {ret : Option FieldType} (hy : plainName y.cls = true) (hw : ws = Cond.code y cc maxL ret :: ws') (hlen : (lg_sl av).length ≤ maxL)
    (body : ∀ p e s m below meth c A ls, gAt p s m av.toArray meth c D cy t A W0 ws cc maxL ret y.cls y.name → lv_has ls maxL (lv_args 0 av) → W p l e ({ frames := fr, cells := mc, slots := ms, locals := lo } : Room) s m av.toArray below meth c s.heap [] 0 0 (MQ below (va_Qv W1 (gPost D A) A) av.toArray s mc ms A) (F0 m 0 ls [])) : gMx l D cy t sz y ws fr lo mc ms av W0 W1 :=
  gBody (Qc := fun A => va_Qv W1 (gPost D A) A) hy hw hlen body
theorem gBxE {l : Launch} {D : va_G} {cy : Nat → ClassId} {t sz fr lo mc ms : Nat} {y : MethodName} {ws ws' : List Cond} {av : List Value} {W0 : va_W} {W1 : va_W → Prop} {cc : ByteArray} {maxL : Nat} {ret : Option FieldType} (hy : plainName y.cls = true) (hw : ws = Cond.code y cc maxL ret :: ws') (hlen : (lg_sl av).length ≤ maxL)
    (body : ∀ p e s m below meth c A ls, gAt p s m av.toArray meth c D cy t A W0 ws cc maxL ret y.cls y.name → va_AO "PlainLines$Sheet" s → lv_has ls maxL (lv_args 0 av) → W p l e ({ frames := fr, cells := mc, slots := ms, locals := lo } : Room) s m av.toArray below meth c s.heap [] 0 0 (MQ below (va_Qv W1 (gPost D A) A) av.toArray s mc ms A) (F0 m 0 ls [])) : gMxE l D cy t sz y ws fr lo mc ms av W0 W1 :=
  gBodyE (E := va_AO "PlainLines$Sheet") (Qc := fun A => va_Qv W1 (gPost D A) A) hy hw hlen body
theorem gArrV {cA : ClassId} {n : Nat} {f g : Nat → Value} (h : ∀ j, j < n → f j = g j) : arrV cA n f = arrV cA n g := by
  unfold arrV
  congr 1
  apply Array.ext
  · simp
  · intro i h1 h2
    simp at h1
    simp [h i h1]
theorem gArrQ {D : va_G} {ws ws' : va_W} {H : Heap} {cA : ClassId} {a n q0 : Nat} {f g : Nat → Option Nat} (hP : va_P D vwCl ws H) (h0 : ws[q0]? = some (a, .inl (cA, n, .inr (.inr (.inr (.inr f)))))) (hw : ws.set q0 (a, .inl (cA, n, .inr (.inr (.inr (.inr g))))) = ws') (hfg : ∀ j, j < n → f j = g j) : va_P D vwCl ws' H := by
  subst hw
  intro k q hk
  by_cases hkq : k = q0
  · subst hkq
    have hl := (List.getElem?_eq_some_iff.mp h0).1
    rw [List.getElem?_set_self hl] at hk
    cases hk
    have h1 := hP k _ h0
    show H[a]? = some (vp_cell _ _)
    rw [vp_cell_q, ← gArrV (fun j hj => congrArg va_rf (hfg j hj))]
    exact h1
  · rw [List.getElem?_set_ne (Ne.symm hkq)] at hk
    exact hP k q hk
