/-! a method that answers an object; the three parts; a stretch copied -/
def gPart (tag zf zg zb : Nat) : Nat := if tag = 0 then zf else if tag = 1 then zg else zb
theorem gPart_b {tag zf zg zb : Nat} (h0 : ¬ tag = 0) (h1 : ¬ tag = 1) : gPart tag zf zg zb = zb := by simp [gPart, h0, h1]
def gMr (l : Launch) (D : va_G) (cy : Nat → ClassId) (t sz : Nat) (y : MethodName) (ws : List Cond) (fr lo : Nat) (av : List Value) (W0 : va_W) (a1 : Nat) (W1 : va_W) : Prop := Met l y ws ({ frames := fr, cells := 0, slots := 0, locals := lo }) (va_Pc av (gPre D cy t W0 sz)) (va_Qr (fun u => u = W1) (fun u a T => a = a1 ∧ gPost D (va_A W0 sz) u T) (va_A W0 sz)) 0 0 (va_A W0 sz)
theorem gBr {l : Launch} {D : va_G} {cy : Nat → ClassId} {t sz fr lo : Nat} {y : MethodName} {ws ws' : List Cond} {av : List Value} {W0 W1 : va_W} {a1 : Nat} {cc : ByteArray} {maxL : Nat} {ret : Option FieldType} (hy : plainName y.cls = true) (hw : ws = Cond.code y cc maxL ret :: ws') (hlen : (lg_sl av).length ≤ maxL)
    (body : ∀ p e s m below meth c A ls, gAt p s m av.toArray meth c D cy t A W0 ws cc maxL ret y.cls y.name → lv_has ls maxL (lv_args 0 av) → W p l e ({ frames := fr, cells := 0, slots := 0, locals := lo } : Room) s m av.toArray below meth c s.heap [] 0 0 (MQ below (va_Qr (fun u => u = W1) (fun u a T => a = a1 ∧ gPost D A u T) A) av.toArray s 0 0 A) (F0 m 0 ls [])) : gMr l D cy t sz y ws fr lo av W0 a1 W1 :=
  gBody (Qc := fun A => va_Qr (fun u => u = W1) (fun u a T => a = a1 ∧ gPost D A u T) A) hy hw hlen body
section GRR
variable {p : Program} {l : Launch} {e : Env} {R : Room} {s : State} {m : MethodId} {args : Array Value} {below : List Frame} {meth : Method} {c : Code} {H : Heap} {locs : List Loc} {cells slots : Nat} {Q : State → Prop}
variable {pc : Nat} {ls : Array Slot} {rest st0 : List Value} {a : Array Value} {A : Nat → Prop} {D : va_G} {ws wc wr W1 : va_W} {cc : ByteArray}
theorem gRr {a1 : Nat} {n : String} (hx : p.tables.exec = Jvm.exec) (hb : c.code = cc) (hr : meth.sig.returnType = some (.object n)) (hlocks : meth.locks = false) (hP : va_P D vwCl W1 H) (hD : va_D A W1) (hS : va_S A s.heap H locs) (hdg : decode cc pc = .ok (.areturn, 1)) : W p l e R s m args below meth c H locs cells slots (MQ below (va_Qr (fun u => u = W1) (fun u a T => a = a1 ∧ gPost D A u T) A) args s cells slots A) (F0 m pc ls [.ref a1]) :=
  W.aret hx hb hr (Or.inl ⟨n, rfl⟩) (Or.inr ⟨a1, rfl⟩) (fun t ht hW => ⟨⟨W1, a1, rfl, rfl, rfl, by rw [ht]; exact hP, hD⟩, hS.F ht⟩) hS.2.2 hdg hlocks
theorem gCallr {a1 : Nat} {w1 : va_W} (hr : va_Run p l e R s m args below meth c H locs cells slots 0 0 (F0 m pc ls st0) rest (va_Qr (fun u => u = w1) (fun u a T => a = a1 ∧ gPost D (va_A wc H.size) u T) (va_A wc H.size) a) (va_A wc H.size)) (hA : ∀ q, s.heap.size ≤ q → A q) (hP : va_P D vwCl ws H) (hD : va_D A ws) (hS : va_S A s.heap H locs) (isC isR : List Nat) (hC : isC.map (fun i => ws[i]?) = wc.map some) (hR : isR.map (fun i => ws[i]?) = wr.map some) (hn : va_nd isR = true) (hdis : ∀ i ∈ isR, i ∉ isC)
    (kk : ∀ (H1 : Heap) (locs1 : List Loc), va_P D vwCl (wr ++ w1) H1 → va_D A (wr ++ w1) → va_S A s.heap H1 locs1 → W p l e R s m args below meth c H1 locs1 cells slots Q (F0 m (pc + 3) ls (.ref a1 :: rest))) : W p l e R s m args below meth c H locs cells slots Q (F0 m pc ls st0) := by
  have hF := va_free hD hS hA isC hC
  refine va_callr hr hS (fun q _ h => hF q h) hF (fun u ra t H1 locs1 ht hvm hw hB hz1 hk1 hS1 => ?_)
  subst hw
  obtain ⟨rfl, hP1, hD1⟩ := hB
  rw [ht] at hP1
  obtain ⟨hP2, hD2⟩ := va_join hP hD isC isR hC hR hn hdis hk1 hF hP1 hD1
  exact kk H1 locs1 hP2 hD2 hS1
end GRR
def gCp {α : Type} (sp dp n : Int32) (x : Option α) : Option α := if ¬ sp < 0 ∧ ¬ dp < 0 ∧ ¬ n < 0 ∧ sp.toNatClampNeg + n.toNatClampNeg ≤ 40 ∧ dp.toNatClampNeg + n.toNatClampNeg ≤ 40 then x else none
theorem gx_cp {α : Type} {sp dp n : Int32} {x : Option α} {r : α} (h : gCp sp dp n x = some r) : (¬ sp < 0 ∧ ¬ dp < 0 ∧ ¬ n < 0 ∧ sp.toNatClampNeg + n.toNatClampNeg ≤ 40 ∧ dp.toNatClampNeg + n.toNatClampNeg ≤ 40) ∧ x = some r := by
  unfold gCp at h
  split at h
  · rename_i hc
    exact ⟨hc, h⟩
  · cases h
