/-! the base: the world's array classes, the facts that every call carries, a contract's start and end, calls by their worlds -/
def gT (cy : Nat → ClassId) : List (ClassId × FieldType) := [(cy 0, .int), (cy 1, .long), (cy 2, .boolean), (cy 3, .object "PlainLines$Sheet")]
def gFP (j : Nat) : Int64 := match j with
  | 0 => 1431655765
  | 1 => 858993459
  | 2 => 252645135
  | 3 => 16711935
  | _ => 65535
def gNests : List (String × Nat × MethodName) := [(RX9, 11, yX4_init), (RX9, 20, yX5_init), (RX9, 27, yX7_init), (RX9, 38, yX6_init), (RX9, 41, yX8_init), (RX9, 48, yX1_init), (RX9, 55, yX2_init), (RX9, 62, yX0_init), (RX1, 1, yX3_init), (RX2, 1, yX3_init), (RX0, 1, yX2_init), (RX4, 52, yX9_folded), (RX5, 67, yX9_folded), (RX7, 89, yX9_folded)]
def gNc (U : State) : Prop := va_Nw (.castable RX0 RX2) U ∧ va_Nc RX2 RX1 U ∧ va_Nc RX0 RX1 U ∧ va_Nc RX1 RX2 U ∧ va_Nc RX1 RX0 U ∧ va_Nc RX2 RX0 U
def gG (t : Nat) (A : Nat → Prop) (U : State) (H : Heap) : Prop :=
  va_Z "PlainLines" "FIRST_PARTNERS" "[J" (.ref t) A U H ∧ va_T .long t 5 (fun j => .long (gFP j)) A U H ∧
  (∀ (i : Nat) (q : String × Nat × MethodName), gNests[i]? = some q → va_Nw (.methodLinkNest q.1 q.2.1 q.2.2 "PlainLines") U) ∧
  va_Nw (.fieldLinkNest RX7 121 "PlainLines" "FIRST_PARTNERS" "[J" "PlainLines") U ∧ va_Nw (.declares ⟨"PlainLines$Part", "telling", "(LPlainLines$Places;LPlainLines$Trail;I)I"⟩) U ∧ gNc U
theorem gNc.moved {u U : State} (hW : u.WarmedH U.vm) (h : gNc u) : gNc U :=
  ⟨va_Nw.warmC hW h.1, va_Nc.moved hW.alike h.2.1, va_Nc.moved hW.alike h.2.2.1, va_Nc.moved hW.alike h.2.2.2.1, va_Nc.moved hW.alike h.2.2.2.2.1, va_Nc.moved hW.alike h.2.2.2.2.2⟩
theorem gG.call {t : Nat} {A B : Nat → Prop} {s U : State} {H : Heap} {locs : List Loc} (h : gG t A s s.heap) (hS : va_S A s.heap H locs) (hB : ∀ q, B q → A q) (hU : U.heap = H) (hW : s.WarmedH U.vm) : gG t B U U.heap := by
  obtain ⟨h1, h2, h3, h4, h5, h6⟩ := h
  rw [hU]
  exact ⟨va_Z.moved hW.alike ((h1.kept hS.2.1).narrow hB), va_T.moved hW.alike ((h2.kept hS.2.1).narrow hB), fun i q hq => va_Nw.warmM hW (h3 i q hq), va_Nw.warmF hW h4, va_Nw.warmD hW h5, h6.moved hW⟩
theorem gG.calling {t : Nat} {A : Nat → Prop} {U : State} {g : JFrame} {mk : MethodId} {a : Array Value} (h : gG t A U U.heap) : gG t A (U.calling g mk a) (U.calling g mk a).heap := by
  obtain ⟨h1, h2, h3, h4, h5, h6, h7, h8, h9, h10, h11⟩ := h
  exact ⟨va_Z.moved (u := U) (U := U.calling g mk a) (Vm.Alike.refl U.vm) h1, va_T.moved (u := U) (U := U.calling g mk a) (Vm.Alike.refl U.vm) h2, fun i q hq => va_Nw.same (u := U) rfl rfl (h3 i q hq), va_Nw.same (u := U) rfl rfl h4, va_Nw.same (u := U) rfl rfl h5, va_Nw.same (u := U) rfl rfl h6, va_Nc.moved (u := U) (U := U.calling g mk a) (Vm.Alike.refl U.vm) h7, va_Nc.moved (u := U) (U := U.calling g mk a) (Vm.Alike.refl U.vm) h8, va_Nc.moved (u := U) (U := U.calling g mk a) (Vm.Alike.refl U.vm) h9, va_Nc.moved (u := U) (U := U.calling g mk a) (Vm.Alike.refl U.vm) h10, va_Nc.moved (u := U) (U := U.calling g mk a) (Vm.Alike.refl U.vm) h11⟩
/-- a contract's start: the world W0, its tables, its facts -/
def gPre (D : va_G) (cy : Nat → ClassId) (t : Nat) (W0 : va_W) (sz : Nat) (U : State) : Prop := U.heap.size = sz ∧ va_P D vwCl W0 U.heap ∧ va_K D vwCl (gT cy) U ∧ va_D (fun _ => True) W0 ∧ gG t (va_A W0 sz) U U.heap
/-- a contract's end: the world u -/
def gPost (D : va_G) (A : Nat → Prop) (u : va_W) (T : State) : Prop := va_P D vwCl u T.heap ∧ va_D A u
theorem gFm {ws wc : va_W} {is : List Nat} (h : is.map (fun i => ws[i]?) = wc.map some) : is.filterMap (fun i => ws[i]?) = wc := by
  have h1 : is.filterMap (fun i => ws[i]?) = (is.map (fun i => ws[i]?)).filterMap id := by rw [List.filterMap_map]; rfl
  rw [h1, h, List.filterMap_map]
  simp
theorem gBlind {D : va_G} {cy : Nat → ClassId} {t : Nat} {W0 : va_W} {sz : Nat} {av : List Value} : FrameBlind (va_Pc av (gPre D cy t W0 sz)) := fun a U g mk q => by
  obtain ⟨q0, q1, qP, qK, qD, qG⟩ := q
  exact ⟨q0, q1, qP, va_K.moved (u := U) (U := U.calling g mk a) (Vm.Alike.refl U.vm) qK, qD, qG.calling⟩
theorem gPre.call {D : va_G} {cy : Nat → ClassId} {t : Nat} {ws wc : va_W} {A : Nat → Prop} {s : State} {H : Heap} {locs : List Loc} (hK : va_K D vwCl (gT cy) s) (hG : gG t A s s.heap) (hA : ∀ q, s.heap.size ≤ q → A q) (hP : va_P D vwCl ws H) (hD : va_D A ws) (hS : va_S A s.heap H locs) (is : List Nat) (hn : va_nd is = true) (hC : is.map (fun i => ws[i]?) = wc.map some) (U : State) (hU : U.heap = H) (hW : s.WarmedH U.vm) : gPre D cy t wc H.size U := by
  refine ⟨by rw [hU], by rw [hU]; exact hP.sub is (gFm hC), va_K.moved hW.alike hK, (hD.sub is hn hC).weaken (fun _ _ _ _ => trivial), hG.call hS (va_free hD hS hA is hC) hU hW⟩
section GB
variable {p : Program} {l : Launch} {e : Env} {R : Room} {s : State} {m : MethodId} {args : Array Value} {below : List Frame} {meth : Method} {c : Code} {H : Heap} {locs : List Loc} {cells slots : Nat} {Q : State → Prop}
variable {pc : Nat} {ls : Array Slot} {rest st0 : List Value} {a : Array Value} {A : Nat → Prop} {mc ms : Nat} {D : va_G} {ws wc wr : va_W}
theorem gCalli {R1 : Int32} {w1 : va_W} (hr : va_Run p l e R s m args below meth c H locs cells slots 0 0 (F0 m pc ls st0) rest (va_Qi (fun r u => r = R1 ∧ u = w1) (gPost D (va_A wc H.size)) (va_A wc H.size) a) (va_A wc H.size)) (hA : ∀ q, s.heap.size ≤ q → A q) (hP : va_P D vwCl ws H) (hD : va_D A ws) (hS : va_S A s.heap H locs) (isC isR : List Nat) (hC : isC.map (fun i => ws[i]?) = wc.map some) (hR : isR.map (fun i => ws[i]?) = wr.map some) (hn : va_nd isR = true) (hdis : ∀ i ∈ isR, i ∉ isC)
    (kk : ∀ (H1 : Heap) (locs1 : List Loc), va_P D vwCl (wr ++ w1) H1 → va_D A (wr ++ w1) → va_S A s.heap H1 locs1 → W p l e R s m args below meth c H1 locs1 cells slots Q (F0 m (pc + 3) ls (.int R1 :: rest))) : W p l e R s m args below meth c H locs cells slots Q (F0 m pc ls st0) := by
  have hF := va_free hD hS hA isC hC
  refine va_calli hr hS (fun q _ h => hF q h) hF (fun r u t H1 locs1 ht hvm hw hB hz1 hk1 hS1 => ?_)
  obtain ⟨rfl, rfl⟩ := hw
  obtain ⟨hP1, hD1⟩ := hB
  rw [ht] at hP1
  obtain ⟨hP2, hD2⟩ := va_join hP hD isC isR hC hR hn hdis hk1 hF hP1 hD1
  exact kk H1 locs1 hP2 hD2 hS1
theorem gCalll {R1 : Int64} {w1 : va_W} (hr : va_Run p l e R s m args below meth c H locs cells slots 0 0 (F0 m pc ls st0) rest (va_Ql (fun r u => r = R1 ∧ u = w1) (gPost D (va_A wc H.size)) (va_A wc H.size) a) (va_A wc H.size)) (hA : ∀ q, s.heap.size ≤ q → A q) (hP : va_P D vwCl ws H) (hD : va_D A ws) (hS : va_S A s.heap H locs) (isC isR : List Nat) (hC : isC.map (fun i => ws[i]?) = wc.map some) (hR : isR.map (fun i => ws[i]?) = wr.map some) (hn : va_nd isR = true) (hdis : ∀ i ∈ isR, i ∉ isC)
    (kk : ∀ (H1 : Heap) (locs1 : List Loc), va_P D vwCl (wr ++ w1) H1 → va_D A (wr ++ w1) → va_S A s.heap H1 locs1 → W p l e R s m args below meth c H1 locs1 cells slots Q (F0 m (pc + 3) ls (.long R1 :: rest))) : W p l e R s m args below meth c H locs cells slots Q (F0 m pc ls st0) := by
  have hF := va_free hD hS hA isC hC
  refine va_calll hr hS (fun q _ h => hF q h) hF (fun r u t H1 locs1 ht hvm hw hB hz1 hk1 hS1 => ?_)
  obtain ⟨rfl, rfl⟩ := hw
  obtain ⟨hP1, hD1⟩ := hB
  rw [ht] at hP1
  obtain ⟨hP2, hD2⟩ := va_join hP hD isC isR hC hR hn hdis hk1 hF hP1 hD1
  exact kk H1 locs1 hP2 hD2 hS1
theorem gCallv {w1 : va_W} (hr : va_Run p l e R s m args below meth c H locs cells slots 0 0 (F0 m pc ls st0) rest (va_Qv (fun u => u = w1) (gPost D (va_A wc H.size)) (va_A wc H.size) a) (va_A wc H.size)) (hA : ∀ q, s.heap.size ≤ q → A q) (hP : va_P D vwCl ws H) (hD : va_D A ws) (hS : va_S A s.heap H locs) (isC isR : List Nat) (hC : isC.map (fun i => ws[i]?) = wc.map some) (hR : isR.map (fun i => ws[i]?) = wr.map some) (hn : va_nd isR = true) (hdis : ∀ i ∈ isR, i ∉ isC)
    (kk : ∀ (H1 : Heap) (locs1 : List Loc), va_P D vwCl (wr ++ w1) H1 → va_D A (wr ++ w1) → va_S A s.heap H1 locs1 → W p l e R s m args below meth c H1 locs1 cells slots Q (F0 m (pc + 3) ls rest)) : W p l e R s m args below meth c H locs cells slots Q (F0 m pc ls st0) := by
  have hF := va_free hD hS hA isC hC
  refine va_callv hr hS (fun q _ h => hF q h) hF (fun u t H1 locs1 ht hvm hw hB hz1 hk1 hS1 => ?_)
  subst hw
  obtain ⟨hP1, hD1⟩ := hB
  rw [ht] at hP1
  obtain ⟨hP2, hD2⟩ := va_join hP hD isC isR hC hR hn hdis hk1 hF hP1 hD1
  exact kk H1 locs1 hP2 hD2 hS1
/-- a constructor: what it makes has addresses that nobody knows -/
theorem gCallx {w1 : va_W → Prop} (hr : va_Run p l e R s m args below meth c H locs cells slots mc ms (F0 m pc ls st0) rest (va_Qv w1 (gPost D (va_A wc H.size)) (va_A wc H.size) a) (va_A wc H.size)) (hA : ∀ q, s.heap.size ≤ q → A q) (hP : va_P D vwCl ws H) (hD : va_D A ws) (hS : va_S A s.heap H locs) (isC isR : List Nat) (hC : isC.map (fun i => ws[i]?) = wc.map some) (hR : isR.map (fun i => ws[i]?) = wr.map some) (hn : va_nd isR = true) (hdis : ∀ i ∈ isR, i ∉ isC)
    (kk : ∀ (w : va_W) (H1 : Heap) (locs1 : List Loc), w1 w → va_P D vwCl (wr ++ w) H1 → va_D A (wr ++ w) → va_S A s.heap H1 locs1 → W p l e R s m args below meth c H1 locs1 (cells + mc) (slots + ms) Q (F0 m (pc + 3) ls rest)) : W p l e R s m args below meth c H locs cells slots Q (F0 m pc ls st0) := by
  have hF := va_free hD hS hA isC hC
  refine va_callv hr hS (fun q _ h => hF q h) hF (fun u t H1 locs1 ht hvm hw hB hz1 hk1 hS1 => ?_)
  obtain ⟨hP1, hD1⟩ := hB
  rw [ht] at hP1
  obtain ⟨hP2, hD2⟩ := va_join hP hD isC isR hC hR hn hdis hk1 hF hP1 hD1
  exact kk u H1 locs1 hw hP2 hD2 hS1
end GB
/-- a contract of a method, by the kind of its answer -/
def gMi (l : Launch) (D : va_G) (cy : Nat → ClassId) (t sz : Nat) (y : MethodName) (ws : List Cond) (fr lo : Nat) (av : List Value) (W0 : va_W) (r1 : Int32) (W1 : va_W) : Prop := Met l y ws ({ frames := fr, cells := 0, slots := 0, locals := lo }) (va_Pc av (gPre D cy t W0 sz)) (va_Qi (fun r u => r = r1 ∧ u = W1) (gPost D (va_A W0 sz)) (va_A W0 sz)) 0 0 (va_A W0 sz)
def gMl (l : Launch) (D : va_G) (cy : Nat → ClassId) (t sz : Nat) (y : MethodName) (ws : List Cond) (fr lo : Nat) (av : List Value) (W0 : va_W) (r1 : Int64) (W1 : va_W) : Prop := Met l y ws ({ frames := fr, cells := 0, slots := 0, locals := lo }) (va_Pc av (gPre D cy t W0 sz)) (va_Ql (fun r u => r = r1 ∧ u = W1) (gPost D (va_A W0 sz)) (va_A W0 sz)) 0 0 (va_A W0 sz)
def gMv (l : Launch) (D : va_G) (cy : Nat → ClassId) (t sz : Nat) (y : MethodName) (ws : List Cond) (fr lo : Nat) (av : List Value) (W0 : va_W) (W1 : va_W) : Prop := Met l y ws ({ frames := fr, cells := 0, slots := 0, locals := lo }) (va_Pc av (gPre D cy t W0 sz)) (va_Qv (fun u => u = W1) (gPost D (va_A W0 sz)) (va_A W0 sz)) 0 0 (va_A W0 sz)
def gMx (l : Launch) (D : va_G) (cy : Nat → ClassId) (t sz : Nat) (y : MethodName) (ws : List Cond) (fr lo mc ms : Nat) (av : List Value) (W0 : va_W) (W1 : va_W → Prop) : Prop := Met l y ws ({ frames := fr, cells := mc, slots := ms, locals := lo }) (va_Pc av (gPre D cy t W0 sz)) (va_Qv W1 (gPost D (va_A W0 sz)) (va_A W0 sz)) mc ms (va_A W0 sz)
/-- what a method's body starts from -/
def gAt (p : Program) (s : State) (m : MethodId) (args : Array Value) (meth : Method) (c : Code) (D : va_G) (cy : Nat → ClassId) (t : Nat) (A : Nat → Prop) (W0 : va_W) (ws : List Cond) (cc : ByteArray) (nL : Nat) (ret : Option FieldType) (own nm : String) : Prop :=
  p.tables.exec = Jvm.exec ∧ c.code = cc ∧ c.maxLocals = nL ∧ meth.sig.returnType = ret ∧ (∀ w ∈ ws, w.before args s = true) ∧ s.vm.findClass own = some m.cls ∧ meth.locks = false ∧ meth.name = nm ∧ va_K D vwCl (gT cy) s ∧ gG t A s s.heap ∧ (∀ q, s.heap.size ≤ q → A q) ∧ va_P D vwCl W0 s.heap ∧ va_D A W0
theorem gBody {l : Launch} {D : va_G} {cy : Nat → ClassId} {t sz : Nat} {y : MethodName} {ws ws' : List Cond} {rm : Room} {av : List Value} {W0 : va_W} {Qc : (Nat → Prop) → Array Value → State → Outcome → State → Prop} {mc ms : Nat} {cc : ByteArray} {maxL : Nat} {ret : Option FieldType}
    (hy : plainName y.cls = true) (hw : ws = Cond.code y cc maxL ret :: ws') (hlen : (lg_sl av).length ≤ maxL)
    (body : ∀ p e s m below meth c A ls, gAt p s m av.toArray meth c D cy t A W0 ws cc maxL ret y.cls y.name → lv_has ls maxL (lv_args 0 av) → W p l e rm s m av.toArray below meth c s.heap [] 0 0 (MQ below (Qc A) av.toArray s mc ms A) (F0 m 0 ls [])) :
    Met l y ws rm (va_Pc av (gPre D cy t W0 sz)) (Qc (va_A W0 sz)) mc ms (va_A W0 sz) := by
  refine Met.ofW (cc := cc) (maxL := maxL) (ret := ret) hy hw ?_
  intro p e s m args below meth c s₁ B hml hv
  obtain ⟨rfl, hsz, hP, hK, hD0, hG⟩ := hv
  have hts := atoms_spec (ws := ws) B.pre
  have hown : s.vm.findClass y.cls = some m.cls := findClass_of_methodNamed B.named
  have hin : meth.name = y.name := (name_of_methodNamed B.named B.method).1
  subst hsz
  have hD := hD0.self (sz := s.heap.size)
  have hA : ∀ q : Nat, s.heap.size ≤ q → va_A W0 s.heap.size q := fun q h => Or.inr h
  have hl := lv_entry av (n := maxL) hlen
  rw [lg_entry_eq]
  exact body p e s m below meth c _ _ ⟨B.exec, B.bytes, hml, B.returns, hts, hown, B.notSynchronized, hin, hK, hG, hA, hP, hD⟩ hl
/-- steps of the decompiled functions -/
def gLet {α β : Type} (a : α) (f : α → β) : β := f a
def gIn (i : Int32) (n : Nat) : Bool := decide (¬ (i < 0 ∨ n ≤ i.toNatClampNeg))
def gIx {α : Type} (i : Int32) (n : Nat) (x : Option α) : Option α := if gIn i n = true then x else none
theorem gx_let {α β : Type} {e y : α} {f : α → β} {r : β} (hy : y = e) (h : gLet e f = r) : f y = r := by subst hy; exact h
theorem gx_t {c : Prop} [Decidable c] {α : Type} {a b r : α} (hc : c) (h : (if c then a else b) = r) : a = r := by rw [if_pos hc] at h; exact h
theorem gx_f {c : Prop} [Decidable c] {α : Type} {a b r : α} (hc : ¬ c) (h : (if c then a else b) = r) : b = r := by rw [if_neg hc] at h; exact h
theorem gx_ix {α : Type} {i : Int32} {n : Nat} {x : Option α} {r : α} (h : gIx i n x = some r) : vp_in i n ∧ x = some r := by
  unfold gIx at h
  split at h
  · rename_i hc
    exact ⟨of_decide_eq_true (p := ¬ (i < 0 ∨ n ≤ i.toNatClampNeg)) hc, h⟩
  · cases h
theorem gx_b {α β : Type} {x : Option α} {f : α → Option β} {r : β} (h : x.bind f = some r) : ∃ y, x = some y ∧ f y = some r := by
  cases x with
  | none => cases h
  | some y => exact ⟨y, rfl, h⟩
theorem gBi {l : Launch} {D : va_G} {cy : Nat → ClassId} {t sz fr lo : Nat} {y : MethodName} {ws ws' : List Cond} {av : List Value} {W0 W1 : va_W} {r1 : Int32} {cc : ByteArray} {maxL : Nat} {ret : Option FieldType} (hy : plainName y.cls = true) (hw : ws = Cond.code y cc maxL ret :: ws') (hlen : (lg_sl av).length ≤ maxL)
    (body : ∀ p e s m below meth c A ls, gAt p s m av.toArray meth c D cy t A W0 ws cc maxL ret y.cls y.name → lv_has ls maxL (lv_args 0 av) → W p l e ({ frames := fr, cells := 0, slots := 0, locals := lo } : Room) s m av.toArray below meth c s.heap [] 0 0 (MQ below (va_Qi (fun r u => r = r1 ∧ u = W1) (gPost D A) A) av.toArray s 0 0 A) (F0 m 0 ls [])) : gMi l D cy t sz y ws fr lo av W0 r1 W1 :=
  gBody (Qc := fun A => va_Qi (fun r u => r = r1 ∧ u = W1) (gPost D A) A) hy hw hlen body
theorem gBl {l : Launch} {D : va_G} {cy : Nat → ClassId} {t sz fr lo : Nat} {y : MethodName} {ws ws' : List Cond} {av : List Value} {W0 W1 : va_W} {r1 : Int64} {cc : ByteArray} {maxL : Nat} {ret : Option FieldType} (hy : plainName y.cls = true) (hw : ws = Cond.code y cc maxL ret :: ws') (hlen : (lg_sl av).length ≤ maxL)
    (body : ∀ p e s m below meth c A ls, gAt p s m av.toArray meth c D cy t A W0 ws cc maxL ret y.cls y.name → lv_has ls maxL (lv_args 0 av) → W p l e ({ frames := fr, cells := 0, slots := 0, locals := lo } : Room) s m av.toArray below meth c s.heap [] 0 0 (MQ below (va_Ql (fun r u => r = r1 ∧ u = W1) (gPost D A) A) av.toArray s 0 0 A) (F0 m 0 ls [])) : gMl l D cy t sz y ws fr lo av W0 r1 W1 :=
  gBody (Qc := fun A => va_Ql (fun r u => r = r1 ∧ u = W1) (gPost D A) A) hy hw hlen body
theorem gBv {l : Launch} {D : va_G} {cy : Nat → ClassId} {t sz fr lo : Nat} {y : MethodName} {ws ws' : List Cond} {av : List Value} {W0 W1 : va_W} {cc : ByteArray} {maxL : Nat} {ret : Option FieldType} (hy : plainName y.cls = true) (hw : ws = Cond.code y cc maxL ret :: ws') (hlen : (lg_sl av).length ≤ maxL)
    (body : ∀ p e s m below meth c A ls, gAt p s m av.toArray meth c D cy t A W0 ws cc maxL ret y.cls y.name → lv_has ls maxL (lv_args 0 av) → W p l e ({ frames := fr, cells := 0, slots := 0, locals := lo } : Room) s m av.toArray below meth c s.heap [] 0 0 (MQ below (va_Qv (fun u => u = W1) (gPost D A) A) av.toArray s 0 0 A) (F0 m 0 ls [])) : gMv l D cy t sz y ws fr lo av W0 W1 :=
  gBody (Qc := fun A => va_Qv (fun u => u = W1) (gPost D A) A) hy hw hlen body
section GR
variable {p : Program} {l : Launch} {e : Env} {R : Room} {s : State} {m : MethodId} {args : Array Value} {below : List Frame} {meth : Method} {c : Code} {H : Heap} {locs : List Loc} {cells slots : Nat}
variable {pc : Nat} {ls : Array Slot} {A : Nat → Prop} {D : va_G} {W1 : va_W} {cc : ByteArray}
theorem gRi {r1 : Int32} (hx : p.tables.exec = Jvm.exec) (hb : c.code = cc) (hr : meth.sig.returnType = some .int) (hlocks : meth.locks = false) (hP : va_P D vwCl W1 H) (hD : va_D A W1) (hS : va_S A s.heap H locs) (hdg : decode cc pc = .ok (.ireturn, 1)) : W p l e R s m args below meth c H locs cells slots (MQ below (va_Qi (fun r u => r = r1 ∧ u = W1) (gPost D A) A) args s cells slots A) (F0 m pc ls [.int r1]) :=
  W.iret hx hb hr (fun t ht hW => ⟨⟨r1, W1, rfl, ⟨rfl, rfl⟩, by rw [ht]; exact hP, hD⟩, hS.F ht⟩) hS.2.2 hdg hlocks
theorem gRz {r1 : Int32} (hx : p.tables.exec = Jvm.exec) (hb : c.code = cc) (hr : meth.sig.returnType = some .boolean) (hlocks : meth.locks = false) (hn : narrow .boolean (.int r1) = .int r1) (hP : va_P D vwCl W1 H) (hD : va_D A W1) (hS : va_S A s.heap H locs) (hdg : decode cc pc = .ok (.ireturn, 1)) : W p l e R s m args below meth c H locs cells slots (MQ below (va_Qi (fun r u => r = r1 ∧ u = W1) (gPost D A) A) args s cells slots A) (F0 m pc ls [.int r1]) :=
  W.zret hx hb hr hn (fun t ht hW => ⟨⟨r1, W1, rfl, ⟨rfl, rfl⟩, by rw [ht]; exact hP, hD⟩, hS.F ht⟩) hS.2.2 hdg hlocks
theorem gRl {r1 : Int64} (hx : p.tables.exec = Jvm.exec) (hb : c.code = cc) (hr : meth.sig.returnType = some .long) (hlocks : meth.locks = false) (hP : va_P D vwCl W1 H) (hD : va_D A W1) (hS : va_S A s.heap H locs) (hdg : decode cc pc = .ok (.lreturn, 1)) : W p l e R s m args below meth c H locs cells slots (MQ below (va_Ql (fun r u => r = r1 ∧ u = W1) (gPost D A) A) args s cells slots A) (F0 m pc ls [.long r1]) :=
  W.lret hx hb hr (fun t ht hW => ⟨⟨r1, W1, rfl, ⟨rfl, rfl⟩, by rw [ht]; exact hP, hD⟩, hS.F ht⟩) hS.2.2 hdg hlocks
theorem gRv (hx : p.tables.exec = Jvm.exec) (hb : c.code = cc) (hr : meth.sig.returnType = none) (hlocks : meth.locks = false) (hP : va_P D vwCl W1 H) (hD : va_D A W1) (hS : va_S A s.heap H locs) (hdg : decode cc pc = .ok (.return_, 1)) : W p l e R s m args below meth c H locs cells slots (MQ below (va_Qv (fun u => u = W1) (gPost D A) A) args s cells slots A) (F0 m pc ls []) :=
  W.vret hx hb hr (fun t ht hW => ⟨⟨W1, rfl, rfl, by rw [ht]; exact hP, hD⟩, hS.F ht⟩) hS.2.2 hdg hlocks
theorem gAld {Q : State → Prop} {rest : List Value} {cy : Nat → ClassId} {ws : va_W} {a b : Nat} (hx : p.tables.exec = Jvm.exec) (hb : c.code = cc) (hK : va_K D vwCl (gT cy) s) (hP : va_P D vwCl ws H) (q0 : Nat) {n : Nat} {f : Nat → Option Nat} (ha : ws[q0]? = some (a, .inl (cy 3, n, .inr (.inr (.inr (.inr f)))))) {i : Int32} (hin : vp_in i n) (hf : f i.toNatClampNeg = some b) (hdg : decode cc pc = .ok (.aaload, 1))
    (kk : W p l e R s m args below meth c H locs cells slots Q (F0 m (pc + 1) ls (.ref b :: rest))) : W p l e R s m args below meth c H locs cells slots Q (F0 m pc ls (.int i :: .ref a :: rest)) :=
  va_aldq hx hb hK hP q0 3 ha rfl hin hdg (by rw [hf]; exact kk)
end GR
theorem g4 {i : Int32} (h : vp_in i 4) : i = 0 ∨ i = 1 ∨ i = 2 ∨ i = 3 := by
  obtain ⟨j, hj, rfl⟩ := vp_in_of h (by decide)
  rcases (show j = 0 ∨ j = 1 ∨ j = 2 ∨ j = 3 by omega) with rfl | rfl | rfl | rfl
  · exact Or.inl rfl
  · exact Or.inr (Or.inl rfl)
  · exact Or.inr (Or.inr (Or.inl rfl))
  · exact Or.inr (Or.inr (Or.inr rfl))
def gBool {α : Type} (v : Int32) (x : Option α) : Option α := if v = 0 ∨ v = 1 then x else none
theorem gx_bool {α : Type} {v : Int32} {x : Option α} {r : α} (h : gBool v x = some r) : narrow .boolean (.int v) = .int v ∧ x = some r := by
  unfold gBool at h
  split at h
  · rename_i hc
    refine ⟨?_, h⟩
    rcases hc with rfl | rfl <;> rfl
  · cases h
def gIushr (x y : Int32) : Int32 := (x.toUInt32 >>> (y.toUInt32 &&& Int32.toUInt32 31)).toInt32
def gLushr (x : Int64) (y : Int32) : Int64 := (x.toUInt64 >>> (y.toInt64.toUInt64 &&& Int64.toUInt64 63)).toInt64
def gLshl (x : Int64) (y : Int32) : Int64 := x <<< (y.toInt64 &&& 63)
def gLshr (x : Int64) (y : Int32) : Int64 := x >>> (y.toInt64 &&& 63)
section GJ
variable {p : Program} {l : Launch} {e : Env} {R : Room} {s : State} {m : MethodId} {args : Array Value} {below : List Frame} {meth : Method} {c : Code} {cells slots : Nat} {Q : State → Prop}
theorem gJoin {Pj : Heap → List Loc → Array Slot → Prop} {pcM : Nat} {st : List Value} {H0 : Heap} {locs0 : List Loc} {g : JFrame}
    (kj : ∀ (H : Heap) (locs : List Loc) (ls : Array Slot), Pj H locs ls → W p l e R s m args below meth c H locs cells slots Q (F0 m pcM ls st))
    (k : (∀ (H : Heap) (locs : List Loc) (ls : Array Slot), Pj H locs ls → W p l e R s m args below meth c H locs cells slots Q (F0 m pcM ls st)) → W p l e R s m args below meth c H0 locs0 cells slots Q g) : W p l e R s m args below meth c H0 locs0 cells slots Q g := k kj
theorem gLoop {σ : Type} {Hy : Nat → σ → Prop} {Pl : σ → Heap → List Loc → Array Slot → Prop} {pcH : Nat} {H0 : Heap} {locs0 : List Loc} {ls0 : Array Slot} (h0 : ∀ v, ¬ Hy 0 v)
    (step : ∀ k : Nat, (∀ (v : σ) (H : Heap) (locs : List Loc) (ls : Array Slot), Hy k v → Pl v H locs ls → W p l e R s m args below meth c H locs cells slots Q (F0 m pcH ls [])) → ∀ (v : σ) (H : Heap) (locs : List Loc) (ls : Array Slot), Hy (k + 1) v → Pl v H locs ls → W p l e R s m args below meth c H locs cells slots Q (F0 m pcH ls []))
    (k : Nat) (v : σ) (hy : Hy k v) (hp : Pl v H0 locs0 ls0) : W p l e R s m args below meth c H0 locs0 cells slots Q (F0 m pcH ls0 []) := by
  have key : ∀ (k : Nat) (v : σ) (H : Heap) (locs : List Loc) (ls : Array Slot), Hy k v → Pl v H locs ls → W p l e R s m args below meth c H locs cells slots Q (F0 m pcH ls []) := by
    intro k
    induction k with
    | zero => intro v H locs ls h; exact absurd h (h0 v)
    | succ k ih => exact step k ih
  exact key k v H0 locs0 ls0 hy hp
end GJ
theorem gTab2 {x : Int32} (h0 : ¬ x = 0) (h1 : ¬ x = 1) (h2 : ¬ x = 2) : x.toInt < 0 ∨ 2 < x.toInt := by
  have := lv_neT (a := 0) h0 (by decide); have := lv_neT (a := 1) h1 (by decide); have := lv_neT (a := 2) h2 (by decide); omega
theorem gTab5 {x : Int32} (h0 : ¬ x = 0) (h1 : ¬ x = 1) (h2 : ¬ x = 2) (h3 : ¬ x = 3) (h4 : ¬ x = 4) (h5 : ¬ x = 5) : x.toInt < 0 ∨ 5 < x.toInt := by
  have := lv_neT (a := 0) h0 (by decide); have := lv_neT (a := 1) h1 (by decide); have := lv_neT (a := 2) h2 (by decide); have := lv_neT (a := 3) h3 (by decide); have := lv_neT (a := 4) h4 (by decide); have := lv_neT (a := 5) h5 (by decide); omega
