/-! a thin layer over the kit's rows. KX: all that stays the same through a walk of one method; kG X pc lv st ws: from a state at pc, with the locals lv, the stack st and the world ws, the method's end comes -/
abbrev KX : Type := Program × Launch × Env × State × MethodId × Array Value × List Frame × Method × Code × (State → Prop) × (Nat → Prop) × Nat × Nat × va_G × Room × Nat
abbrev kp (X : KX) : Program := X.1
abbrev kl (X : KX) : Launch := X.2.1
abbrev ke (X : KX) : Env := X.2.2.1
abbrev ks (X : KX) : State := X.2.2.2.1
abbrev km (X : KX) : MethodId := X.2.2.2.2.1
abbrev kargs (X : KX) : Array Value := X.2.2.2.2.2.1
abbrev kbelow (X : KX) : List Frame := X.2.2.2.2.2.2.1
abbrev kmeth (X : KX) : Method := X.2.2.2.2.2.2.2.1
abbrev kcode (X : KX) : Code := X.2.2.2.2.2.2.2.2.1
abbrev kQ (X : KX) : State → Prop := X.2.2.2.2.2.2.2.2.2.1
abbrev kA (X : KX) : Nat → Prop := X.2.2.2.2.2.2.2.2.2.2.1
abbrev kcells (X : KX) : Nat := X.2.2.2.2.2.2.2.2.2.2.2.1
abbrev kslots (X : KX) : Nat := X.2.2.2.2.2.2.2.2.2.2.2.2.1
abbrev kD (X : KX) : va_G := X.2.2.2.2.2.2.2.2.2.2.2.2.2.1
abbrev kR (X : KX) : Room := X.2.2.2.2.2.2.2.2.2.2.2.2.2.2.1
abbrev knL (X : KX) : Nat := X.2.2.2.2.2.2.2.2.2.2.2.2.2.2.2
/-- the nest mates' links, which the tables say of the classes as such -/
def kNw (U : State) : Prop := va_Nw (.methodLinkNest RX2 30 yX4_within "GorgeRow") U ∧ va_Nw (.methodLinkNest RX1 47 yX4_within "GorgeRow") U ∧ va_Nw (.methodLinkNest RX4 9 yX2_init "GorgeRow") U ∧ va_Nw (.methodLinkNest RX4 18 yX1_init "GorgeRow") U
theorem kNw.same {u U : State} (h : u.vm = U.vm) (hZ : kNw u) : kNw U := ⟨va_Nw.same rfl h hZ.1, va_Nw.same rfl h hZ.2.1, va_Nw.same rfl h hZ.2.2.1, va_Nw.same rfl h hZ.2.2.2⟩
theorem kNw.warm {s U : State} (hW : s.WarmedH U.vm) (hZ : kNw s) : kNw U := ⟨va_Nw.warmM hW hZ.1, va_Nw.warmM hW hZ.2.1, va_Nw.warmM hW hZ.2.2.1, va_Nw.warmM hW hZ.2.2.2⟩
def kC (X : KX) (cc : ByteArray) (own : String) (Ts : List Cond) (tys : List (ClassId × FieldType)) (R : Room) (nL : Nat) : Prop :=
  (kp X).tables.exec = Jvm.exec ∧ (kcode X).code = cc ∧ (kcode X).maxLocals = nL ∧ (ks X).vm.findClass own = some (km X).cls ∧ (∀ w ∈ Ts, w.before (kargs X) (ks X) = true) ∧ va_K (kD X) vwCl tys (ks X) ∧ kNw (ks X) ∧ (∀ q : Nat, (ks X).heap.size ≤ q → kA X q) ∧ kR X = R ∧ knL X = nL ∧ (kcells X ≤ R.cells ∧ kslots X ≤ R.slots)
def kW (X : KX) (H : Heap) (locs : List Loc) (g : JFrame) : Prop := W (kp X) (kl X) (ke X) (kR X) (ks X) (km X) (kargs X) (kbelow X) (kmeth X) (kcode X) H locs (kcells X) (kslots X) (kQ X) g
def kG (X : KX) (pc : Nat) (lv : List (Nat × Value)) (st : List Value) (ws : va_W) : Prop := ∀ (H : Heap) (locs : List Loc) (ls : Array Slot), va_P (kD X) vwCl ws H → va_D (kA X) ws → va_S (kA X) (ks X).heap H locs → lv_has ls (knL X) lv → kW X H locs (F0 (km X) pc ls st)
def kPre (D : va_G) (tys : List (ClassId × FieldType)) (wc : va_W) (sz : Nat) (av : List Value) : Array Value → State → Prop := va_Pc av (fun U => U.heap.size = sz ∧ va_P D vwCl wc U.heap ∧ va_K D vwCl tys U ∧ va_D (fun _ => True) wc ∧ kNw U)
def kB (D : va_G) (tys : List (ClassId × FieldType)) (wc : va_W) (sz : Nat) (w1 : va_W) : Unit → State → Prop := fun _ t => va_P D vwCl w1 t.heap ∧ va_K D vwCl tys t ∧ va_D (va_A wc sz) w1
def kQi (D : va_G) (tys : List (ClassId × FieldType)) (wc : va_W) (sz : Nat) (w1 : va_W) (r0 : Int32) : Array Value → State → Outcome → State → Prop := va_Qi (fun r (_ : Unit) => r = r0) (kB D tys wc sz w1) (va_A wc sz)
def kQl (D : va_G) (tys : List (ClassId × FieldType)) (wc : va_W) (sz : Nat) (w1 : va_W) (r0 : Int64) : Array Value → State → Outcome → State → Prop := va_Ql (fun r (_ : Unit) => r = r0) (kB D tys wc sz w1) (va_A wc sz)
def kQv (D : va_G) (tys : List (ClassId × FieldType)) (wc : va_W) (sz : Nat) (w1 : va_W) : Array Value → State → Outcome → State → Prop := va_Qv (fun (_ : Unit) => True) (kB D tys wc sz w1) (va_A wc sz)
theorem kPre.blind {D : va_G} {tys : List (ClassId × FieldType)} {wc : va_W} {sz : Nat} {av : List Value} : FrameBlind (kPre D tys wc sz av) := fun a U g mk q => by
  obtain ⟨q0, q1, qP, qK, qD, qN⟩ := q
  exact ⟨q0, q1, qP, va_K.moved (u := U) (U := U.calling g mk a) (Vm.Alike.refl U.vm) qK, qD, kNw.same (u := U) (U := U.calling g mk a) rfl qN⟩
theorem kPre.at {X : KX} {cc : ByteArray} {own : String} {Ts : List Cond} {tys tysc : List (ClassId × FieldType)} {R : Room} {nL : Nat} (hC : kC X cc own Ts tys R nL) {wc : va_W} {H : Heap} (av : List Value) (hP : va_P (kD X) vwCl wc H) (hK : va_K (kD X) vwCl tysc (ks X)) (hD : va_D (kA X) wc) : ∀ U : State, U.heap = H → (ks X).WarmedH U.vm → kPre (kD X) tysc wc H.size av av.toArray U :=
  fun U hU hW => ⟨rfl, by rw [hU], by rw [hU]; exact hP, va_K.moved hW.alike hK, hD.weaken (fun _ _ _ _ => trivial), kNw.warm hW hC.2.2.2.2.2.2.1⟩
-- cells
abbrev oO (a ci : Nat) (fs : List Value) : Nat × va_E := (a, .inr (ci, fs))
abbrev oI (a : Nat) (c : ClassId) (n : Nat) (f : Nat → Int32) : Nat × va_E := (a, .inl (c, n, .inl f))
abbrev oJ (a : Nat) (c : ClassId) (n : Nat) (f : Nat → Int64) : Nat × va_E := (a, .inl (c, n, .inr (.inl f)))
-- loops of the mirrors
def lp {α : Type} (bot : α) (stp : α → α) : Nat → α
  | 0 => bot
  | n + 1 => stp (lp bot stp n)
theorem lp_s {α : Type} (bot : α) (stp : α → α) (n : Nat) : lp bot stp (n + 1) = stp (lp bot stp n) := rfl
def fu : Nat := 200000
theorem gd_ga {α : Type} {c : Prop} {d : Decidable c} {k : Option α} {z : α} (h : @ite _ c d none k = some z) : ¬ c ∧ k = some z := by
  by_cases hc : c
  · rw [if_pos hc] at h; cases h
  · rw [if_neg hc] at h; exact ⟨hc, h⟩
theorem gd_gz {α : Type} {c : Prop} {d : Decidable c} {k : Option α} {z : α} (h : @ite _ c d k none = some z) : c ∧ k = some z := by
  by_cases hc : c
  · rw [if_pos hc] at h; exact ⟨hc, h⟩
  · rw [if_neg hc] at h; cases h
theorem gd_t {α : Type} {c : Prop} {d : Decidable c} {a b : Option α} {z : α} (hc : c) (h : @ite _ c d a b = some z) : a = some z := by rw [if_pos hc] at h; exact h
theorem gd_f {α : Type} {c : Prop} {d : Decidable c} {a b : Option α} {z : α} (hc : ¬ c) (h : @ite _ c d a b = some z) : b = some z := by rw [if_neg hc] at h; exact h
theorem gd_b {α β : Type} {o : Option α} {f : α → Option β} {z : β} (h : o.bind f = some z) : ∃ u, o = some u ∧ f u = some z := by
  cases o with
  | none => cases h
  | some u => exact ⟨u, rfl, h⟩
theorem gd_s {α : Type} {u z : α} (h : some u = some z) : u = z := Option.some.inj h
theorem nz_of {x : Int32} (h : x = 0 ∨ x = 1) : narrow .boolean (.int x) = .int x := by
  rcases h with rfl | rfl <;> rfl
theorem fm_of {α : Type} {f : Nat → Option α} : ∀ {is : List Nat} {wc : List α}, is.map f = wc.map some → is.filterMap f = wc
  | [], [], _ => rfl
  | [], _ :: _, h => by cases h
  | _ :: _, [], h => by cases h
  | i :: is, w :: wc, h => by
    simp only [List.map_cons, List.cons.injEq] at h
    simp only [List.filterMap_cons, h.1, fm_of h.2]
section KG
variable {X : KX} {cc : ByteArray} {own : String} {Ts : List Cond} {tys : List (ClassId × FieldType)} {R : Room} {nL : Nat} {pc : Nat} {lv lv' : List (Nat × Value)} {rest : List Value} {ws : va_W}
theorem g_lv (ks : List Nat) (hl : lv_pick lv ks = lv') (k : kG X pc lv' rest ws) : kG X pc lv rest ws := fun H locs ls hP hD hS h => k H locs ls hP hD hS (lv_sub h ks hl)
theorem g_iconst (hC : kC X cc own Ts tys R nL) {n : Int} {v : Int32} (hd : decode cc pc = .ok (.iconst n, 1)) (hv : Int32.ofInt n = v) (k : kG X (pc + 1) lv (.int v :: rest) ws) : kG X pc lv (rest) ws := fun H locs ls hP hD hS hl => lv_iconst hC.1 hC.2.1 hd hv (k H locs ls hP hD hS hl)
theorem g_bipush (hC : kC X cc own Ts tys R nL) {n : Int} {v : Int32} (hd : decode cc pc = .ok (.bipush n, 2)) (hv : (Int8.ofInt n).toInt32 = v) (k : kG X (pc + 2) lv (.int v :: rest) ws) : kG X pc lv (rest) ws := fun H locs ls hP hD hS hl => lv_bipush hC.1 hC.2.1 hd hv (k H locs ls hP hD hS hl)
theorem g_sipush (hC : kC X cc own Ts tys R nL) {n : Int} {v : Int32} (hd : decode cc pc = .ok (.sipush n, 3)) (hv : (Int16.ofInt n).toInt32 = v) (k : kG X (pc + 3) lv (.int v :: rest) ws) : kG X pc lv (rest) ws := fun H locs ls hP hD hS hl => lv_sipush hC.1 hC.2.1 hd hv (k H locs ls hP hD hS hl)
theorem g_lconst (hC : kC X cc own Ts tys R nL) {n : Fin 2} {v : Int64} (hd : decode cc pc = .ok (.lconst n, 1)) (hv : Int64.ofNat (n : Nat) = v) (k : kG X (pc + 1) lv (.long v :: rest) ws) : kG X pc lv (rest) ws := fun H locs ls hP hD hS hl => lv_lconst hC.1 hC.2.1 hd hv (k H locs ls hP hD hS hl)
theorem g_iload_n (hC : kC X cc own Ts tys R nL) (j : Nat) {k0 : Fin 4} {i : Nat} {x : Int32} (hd : decode cc pc = .ok (.iload_n k0, 1)) (hi : (k0 : Nat) = i) (hj : lv[j]? = some (i, .int x)) (k : kG X (pc + 1) lv (.int x :: rest) ws) : kG X pc lv rest ws := fun H locs ls hP hD hS hl => lv_iload_n hC.1 hC.2.1 hd hi (lv_at hl j hj) (k H locs ls hP hD hS hl)
theorem g_iload (hC : kC X cc own Ts tys R nL) (j : Nat) {i : Nat} {x : Int32} (hd : decode cc pc = .ok (.iload i, 2)) (hj : lv[j]? = some (i, .int x)) (k : kG X (pc + 2) lv (.int x :: rest) ws) : kG X pc lv rest ws := fun H locs ls hP hD hS hl => lv_iload hC.1 hC.2.1 hd (lv_at hl j hj) (k H locs ls hP hD hS hl)
theorem g_lload_n (hC : kC X cc own Ts tys R nL) (j : Nat) {k0 : Fin 4} {i : Nat} {x : Int64} (hd : decode cc pc = .ok (.lload_n k0, 1)) (hi : (k0 : Nat) = i) (hj : lv[j]? = some (i, .long x)) (k : kG X (pc + 1) lv (.long x :: rest) ws) : kG X pc lv rest ws := fun H locs ls hP hD hS hl => lv_lload_n hC.1 hC.2.1 hd hi (lv_at hl j hj) (k H locs ls hP hD hS hl)
theorem g_lload (hC : kC X cc own Ts tys R nL) (j : Nat) {i : Nat} {x : Int64} (hd : decode cc pc = .ok (.lload i, 2)) (hj : lv[j]? = some (i, .long x)) (k : kG X (pc + 2) lv (.long x :: rest) ws) : kG X pc lv rest ws := fun H locs ls hP hD hS hl => lv_lload hC.1 hC.2.1 hd (lv_at hl j hj) (k H locs ls hP hD hS hl)
theorem g_aload_n (hC : kC X cc own Ts tys R nL) (j : Nat) {k0 : Fin 4} {i : Nat} {x : Nat} (hd : decode cc pc = .ok (.aload_n k0, 1)) (hi : (k0 : Nat) = i) (hj : lv[j]? = some (i, .ref x)) (k : kG X (pc + 1) lv (.ref x :: rest) ws) : kG X pc lv rest ws := fun H locs ls hP hD hS hl => lv_aload_n hC.1 hC.2.1 hd hi (lv_at hl j hj) (k H locs ls hP hD hS hl)
theorem g_aload (hC : kC X cc own Ts tys R nL) (j : Nat) {i : Nat} {x : Nat} (hd : decode cc pc = .ok (.aload i, 2)) (hj : lv[j]? = some (i, .ref x)) (k : kG X (pc + 2) lv (.ref x :: rest) ws) : kG X pc lv rest ws := fun H locs ls hP hD hS hl => lv_aload hC.1 hC.2.1 hd (lv_at hl j hj) (k H locs ls hP hD hS hl)
theorem g_istore_n (hC : kC X cc own Ts tys R nL) {k0 : Fin 4} {i : Nat} {x : Int32} (hd : decode cc pc = .ok (.istore_n k0, 1)) (hi : (k0 : Nat) = i) (hn : i < nL) (hf : (i, Value.int x) :: lv.filter (fun q => !(q.1 == i) && !(q.1 + 1 == i && q.2.category == 2)) = lv') (k : kG X (pc + 1) lv' rest ws) : kG X pc lv (.int x :: rest) ws := fun H locs ls hP hD hS hl => lv_istore_n hC.1 hC.2.1 hd hi hl (by rw [hC.2.2.2.2.2.2.2.2.2.1]; exact hn) hf (fun ls hl => k H locs ls hP hD hS hl)
theorem g_istore (hC : kC X cc own Ts tys R nL) {i : Nat} {x : Int32} (hd : decode cc pc = .ok (.istore i, 2)) (hn : i < nL) (hf : (i, Value.int x) :: lv.filter (fun q => !(q.1 == i) && !(q.1 + 1 == i && q.2.category == 2)) = lv') (k : kG X (pc + 2) lv' rest ws) : kG X pc lv (.int x :: rest) ws := fun H locs ls hP hD hS hl => lv_istore hC.1 hC.2.1 hd hl (by rw [hC.2.2.2.2.2.2.2.2.2.1]; exact hn) hf (fun ls hl => k H locs ls hP hD hS hl)
theorem g_lstore_n (hC : kC X cc own Ts tys R nL) {k0 : Fin 4} {i : Nat} {x : Int64} (hd : decode cc pc = .ok (.lstore_n k0, 1)) (hi : (k0 : Nat) = i) (hn : i + 1 < nL) (hf : (i, Value.long x) :: lv.filter (fun q => !(q.1 == i) && (!(q.1 == i + 1) && !(q.1 + 1 == i && q.2.category == 2))) = lv') (k : kG X (pc + 1) lv' rest ws) : kG X pc lv (.long x :: rest) ws := fun H locs ls hP hD hS hl => lv_lstore_n hC.1 hC.2.1 hd hi hl (by rw [hC.2.2.2.2.2.2.2.2.2.1]; exact hn) hf (fun ls hl => k H locs ls hP hD hS hl)
theorem g_lstore (hC : kC X cc own Ts tys R nL) {i : Nat} {x : Int64} (hd : decode cc pc = .ok (.lstore i, 2)) (hn : i + 1 < nL) (hf : (i, Value.long x) :: lv.filter (fun q => !(q.1 == i) && (!(q.1 == i + 1) && !(q.1 + 1 == i && q.2.category == 2))) = lv') (k : kG X (pc + 2) lv' rest ws) : kG X pc lv (.long x :: rest) ws := fun H locs ls hP hD hS hl => lv_lstore hC.1 hC.2.1 hd hl (by rw [hC.2.2.2.2.2.2.2.2.2.1]; exact hn) hf (fun ls hl => k H locs ls hP hD hS hl)
theorem g_astore_n (hC : kC X cc own Ts tys R nL) {k0 : Fin 4} {i : Nat} {x : Nat} (hd : decode cc pc = .ok (.astore_n k0, 1)) (hi : (k0 : Nat) = i) (hn : i < nL) (hf : (i, Value.ref x) :: lv.filter (fun q => !(q.1 == i) && !(q.1 + 1 == i && q.2.category == 2)) = lv') (k : kG X (pc + 1) lv' rest ws) : kG X pc lv (.ref x :: rest) ws := fun H locs ls hP hD hS hl => lv_astore_n hC.1 hC.2.1 hd hi hl (by rw [hC.2.2.2.2.2.2.2.2.2.1]; exact hn) hf (fun ls hl => k H locs ls hP hD hS hl)
theorem g_astore (hC : kC X cc own Ts tys R nL) {i : Nat} {x : Nat} (hd : decode cc pc = .ok (.astore i, 2)) (hn : i < nL) (hf : (i, Value.ref x) :: lv.filter (fun q => !(q.1 == i) && !(q.1 + 1 == i && q.2.category == 2)) = lv') (k : kG X (pc + 2) lv' rest ws) : kG X pc lv (.ref x :: rest) ws := fun H locs ls hP hD hS hl => lv_astore hC.1 hC.2.1 hd hl (by rw [hC.2.2.2.2.2.2.2.2.2.1]; exact hn) hf (fun ls hl => k H locs ls hP hD hS hl)
theorem g_iinc (hC : kC X cc own Ts tys R nL) (j : Nat) {i : Nat} {n : Int} {x v : Int32} (hd : decode cc pc = .ok (.iinc i n, 3)) (hj : lv[j]? = some (i, .int x)) (hv : x + Int32.ofInt n = v) (hn : i < nL) (hf : (i, Value.int v) :: lv.filter (fun q => !(q.1 == i) && !(q.1 + 1 == i && q.2.category == 2)) = lv') (k : kG X (pc + 3) lv' rest ws) : kG X pc lv rest ws := fun H locs ls hP hD hS hl => lv_iinc hC.1 hC.2.1 hd hl hj hv (by rw [hC.2.2.2.2.2.2.2.2.2.1]; exact hn) hf (fun ls hl => k H locs ls hP hD hS hl)
theorem g_iadd (hC : kC X cc own Ts tys R nL) {x y : Int32} (hd : decode cc pc = .ok (.iadd, 1)) (k : kG X (pc + 1) lv (.int (x + y) :: rest) ws) : kG X pc lv (.int y :: .int x :: rest) ws := fun H locs ls hP hD hS hl => lv_iadd hC.1 hC.2.1 hd (k H locs ls hP hD hS hl)
theorem g_isub (hC : kC X cc own Ts tys R nL) {x y : Int32} (hd : decode cc pc = .ok (.isub, 1)) (k : kG X (pc + 1) lv (.int (x - y) :: rest) ws) : kG X pc lv (.int y :: .int x :: rest) ws := fun H locs ls hP hD hS hl => lv_isub hC.1 hC.2.1 hd (k H locs ls hP hD hS hl)
theorem g_imul (hC : kC X cc own Ts tys R nL) {x y : Int32} (hd : decode cc pc = .ok (.imul, 1)) (k : kG X (pc + 1) lv (.int (x * y) :: rest) ws) : kG X pc lv (.int y :: .int x :: rest) ws := fun H locs ls hP hD hS hl => lv_imul hC.1 hC.2.1 hd (k H locs ls hP hD hS hl)
theorem g_iand (hC : kC X cc own Ts tys R nL) {x y : Int32} (hd : decode cc pc = .ok (.iand, 1)) (k : kG X (pc + 1) lv (.int (x &&& y) :: rest) ws) : kG X pc lv (.int y :: .int x :: rest) ws := fun H locs ls hP hD hS hl => lv_iand hC.1 hC.2.1 hd (k H locs ls hP hD hS hl)
theorem g_ior (hC : kC X cc own Ts tys R nL) {x y : Int32} (hd : decode cc pc = .ok (.ior, 1)) (k : kG X (pc + 1) lv (.int (x ||| y) :: rest) ws) : kG X pc lv (.int y :: .int x :: rest) ws := fun H locs ls hP hD hS hl => lv_ior hC.1 hC.2.1 hd (k H locs ls hP hD hS hl)
theorem g_ixor (hC : kC X cc own Ts tys R nL) {x y : Int32} (hd : decode cc pc = .ok (.ixor, 1)) (k : kG X (pc + 1) lv (.int (x ^^^ y) :: rest) ws) : kG X pc lv (.int y :: .int x :: rest) ws := fun H locs ls hP hD hS hl => lv_ixor hC.1 hC.2.1 hd (k H locs ls hP hD hS hl)
theorem g_ishl (hC : kC X cc own Ts tys R nL) {x y : Int32} (hd : decode cc pc = .ok (.ishl, 1)) (k : kG X (pc + 1) lv (.int (x <<< (y &&& 31)) :: rest) ws) : kG X pc lv (.int y :: .int x :: rest) ws := fun H locs ls hP hD hS hl => lv_ishl hC.1 hC.2.1 hd (k H locs ls hP hD hS hl)
theorem g_ishr (hC : kC X cc own Ts tys R nL) {x y : Int32} (hd : decode cc pc = .ok (.ishr, 1)) (k : kG X (pc + 1) lv (.int (x >>> (y &&& 31)) :: rest) ws) : kG X pc lv (.int y :: .int x :: rest) ws := fun H locs ls hP hD hS hl => lv_ishr hC.1 hC.2.1 hd (k H locs ls hP hD hS hl)
theorem g_ladd (hC : kC X cc own Ts tys R nL) {x y : Int64} (hd : decode cc pc = .ok (.ladd, 1)) (k : kG X (pc + 1) lv (.long (x + y) :: rest) ws) : kG X pc lv (.long y :: .long x :: rest) ws := fun H locs ls hP hD hS hl => lv_ladd hC.1 hC.2.1 hd (k H locs ls hP hD hS hl)
theorem g_lsub (hC : kC X cc own Ts tys R nL) {x y : Int64} (hd : decode cc pc = .ok (.lsub, 1)) (k : kG X (pc + 1) lv (.long (x - y) :: rest) ws) : kG X pc lv (.long y :: .long x :: rest) ws := fun H locs ls hP hD hS hl => lv_lsub hC.1 hC.2.1 hd (k H locs ls hP hD hS hl)
theorem g_lmul (hC : kC X cc own Ts tys R nL) {x y : Int64} (hd : decode cc pc = .ok (.lmul, 1)) (k : kG X (pc + 1) lv (.long (x * y) :: rest) ws) : kG X pc lv (.long y :: .long x :: rest) ws := fun H locs ls hP hD hS hl => lv_lmul hC.1 hC.2.1 hd (k H locs ls hP hD hS hl)
theorem g_land (hC : kC X cc own Ts tys R nL) {x y : Int64} (hd : decode cc pc = .ok (.land, 1)) (k : kG X (pc + 1) lv (.long (x &&& y) :: rest) ws) : kG X pc lv (.long y :: .long x :: rest) ws := fun H locs ls hP hD hS hl => lv_land hC.1 hC.2.1 hd (k H locs ls hP hD hS hl)
theorem g_lor (hC : kC X cc own Ts tys R nL) {x y : Int64} (hd : decode cc pc = .ok (.lor, 1)) (k : kG X (pc + 1) lv (.long (x ||| y) :: rest) ws) : kG X pc lv (.long y :: .long x :: rest) ws := fun H locs ls hP hD hS hl => lv_lor hC.1 hC.2.1 hd (k H locs ls hP hD hS hl)
theorem g_lxor (hC : kC X cc own Ts tys R nL) {x y : Int64} (hd : decode cc pc = .ok (.lxor, 1)) (k : kG X (pc + 1) lv (.long (x ^^^ y) :: rest) ws) : kG X pc lv (.long y :: .long x :: rest) ws := fun H locs ls hP hD hS hl => lv_lxor hC.1 hC.2.1 hd (k H locs ls hP hD hS hl)
theorem g_ineg (hC : kC X cc own Ts tys R nL) {x : Int32} (hd : decode cc pc = .ok (.ineg, 1)) (k : kG X (pc + 1) lv (.int (-x) :: rest) ws) : kG X pc lv (.int x :: rest) ws := fun H locs ls hP hD hS hl => lv_ineg hC.1 hC.2.1 hd (k H locs ls hP hD hS hl)
theorem g_lneg (hC : kC X cc own Ts tys R nL) {x : Int64} (hd : decode cc pc = .ok (.lneg, 1)) (k : kG X (pc + 1) lv (.long (-x) :: rest) ws) : kG X pc lv (.long x :: rest) ws := fun H locs ls hP hD hS hl => lv_lneg hC.1 hC.2.1 hd (k H locs ls hP hD hS hl)
theorem g_idiv (hC : kC X cc own Ts tys R nL) {x y : Int32} (hd : decode cc pc = .ok (.idiv, 1)) (hne : ¬ y = 0) (k : kG X (pc + 1) lv (.int (x / y) :: rest) ws) : kG X pc lv (.int y :: .int x :: rest) ws := fun H locs ls hP hD hS hl => lv_idiv hC.1 hC.2.1 hd hne (k H locs ls hP hD hS hl)
theorem g_irem (hC : kC X cc own Ts tys R nL) {x y : Int32} (hd : decode cc pc = .ok (.irem, 1)) (hne : ¬ y = 0) (k : kG X (pc + 1) lv (.int (x - x / y * y) :: rest) ws) : kG X pc lv (.int y :: .int x :: rest) ws := fun H locs ls hP hD hS hl => lv_irem hC.1 hC.2.1 hd hne (k H locs ls hP hD hS hl)
theorem g_ldiv (hC : kC X cc own Ts tys R nL) {x y : Int64} (hd : decode cc pc = .ok (.ldiv, 1)) (hne : ¬ y = 0) (k : kG X (pc + 1) lv (.long (x / y) :: rest) ws) : kG X pc lv (.long y :: .long x :: rest) ws := fun H locs ls hP hD hS hl => lv_ldiv hC.1 hC.2.1 hd hne (k H locs ls hP hD hS hl)
theorem g_lrem (hC : kC X cc own Ts tys R nL) {x y : Int64} (hd : decode cc pc = .ok (.lrem, 1)) (hne : ¬ y = 0) (k : kG X (pc + 1) lv (.long (x - x / y * y) :: rest) ws) : kG X pc lv (.long y :: .long x :: rest) ws := fun H locs ls hP hD hS hl => lv_lrem hC.1 hC.2.1 hd hne (k H locs ls hP hD hS hl)
theorem g_iushr (hC : kC X cc own Ts tys R nL) {x y : Int32} (hd : decode cc pc = .ok (.iushr, 1)) (k : kG X (pc + 1) lv (.int ((x.toUInt32 >>> (y.toUInt32 &&& Int32.toUInt32 31)).toInt32) :: rest) ws) : kG X pc lv (.int y :: .int x :: rest) ws := fun H locs ls hP hD hS hl => lv_iushr hC.1 hC.2.1 hd rfl (k H locs ls hP hD hS hl)
theorem g_lushr (hC : kC X cc own Ts tys R nL) {x : Int64} {y : Int32} (hd : decode cc pc = .ok (.lushr, 1)) (k : kG X (pc + 1) lv (.long ((x.toUInt64 >>> (y.toInt64.toUInt64 &&& Int64.toUInt64 63)).toInt64) :: rest) ws) : kG X pc lv (.int y :: .long x :: rest) ws := fun H locs ls hP hD hS hl => lv_lushr hC.1 hC.2.1 hd rfl (k H locs ls hP hD hS hl)
theorem g_lshl (hC : kC X cc own Ts tys R nL) {x : Int64} {y : Int32} (hd : decode cc pc = .ok (.lshl, 1)) (k : kG X (pc + 1) lv (.long (x <<< (y.toInt64 &&& 63)) :: rest) ws) : kG X pc lv (.int y :: .long x :: rest) ws := fun H locs ls hP hD hS hl => lv_lshl hC.1 hC.2.1 hd rfl (k H locs ls hP hD hS hl)
theorem g_lshr (hC : kC X cc own Ts tys R nL) {x : Int64} {y : Int32} (hd : decode cc pc = .ok (.lshr, 1)) (k : kG X (pc + 1) lv (.long (x >>> (y.toInt64 &&& 63)) :: rest) ws) : kG X pc lv (.int y :: .long x :: rest) ws := fun H locs ls hP hD hS hl => lv_lshr hC.1 hC.2.1 hd rfl (k H locs ls hP hD hS hl)
theorem g_i2l (hC : kC X cc own Ts tys R nL) {x : Int32} (hd : decode cc pc = .ok (.i2l, 1)) (k : kG X (pc + 1) lv (.long x.toInt64 :: rest) ws) : kG X pc lv (.int x :: rest) ws := fun H locs ls hP hD hS hl => lv_i2l hC.1 hC.2.1 hd rfl (k H locs ls hP hD hS hl)
theorem g_l2i (hC : kC X cc own Ts tys R nL) {x : Int64} (hd : decode cc pc = .ok (.l2i, 1)) (k : kG X (pc + 1) lv (.int x.toInt32 :: rest) ws) : kG X pc lv (.long x :: rest) ws := fun H locs ls hP hD hS hl => lv_l2i hC.1 hC.2.1 hd rfl (k H locs ls hP hD hS hl)
theorem g_lcmp (hC : kC X cc own Ts tys R nL) {x y : Int64} (hd : decode cc pc = .ok (.lcmp, 1)) (k : kG X (pc + 1) lv (.int (lg_cmp x y) :: rest) ws) : kG X pc lv (.long y :: .long x :: rest) ws := fun H locs ls hP hD hS hl => W.lcmp hC.1 hC.2.1 hd (k H locs ls hP hD hS hl)
theorem g_dup (hC : kC X cc own Ts tys R nL) {va : Value} (hd : decode cc pc = .ok (.dup, 1)) (h1 : va.category = 1) (k : kG X (pc + 1) lv (va :: va :: rest) ws) : kG X pc lv (va :: rest) ws := fun H locs ls hP hD hS hl => lv_dup hC.1 hC.2.1 hd h1 (k H locs ls hP hD hS hl)
theorem g_dup2 (hC : kC X cc own Ts tys R nL) {va vb : Value} (hd : decode cc pc = .ok (.dup2, 1)) (h1 : va.category = 1) (h2 : vb.category = 1) (k : kG X (pc + 1) lv (va :: vb :: va :: vb :: rest) ws) : kG X pc lv (va :: vb :: rest) ws := fun H locs ls hP hD hS hl => lv_dup2_11 hC.1 hC.2.1 hd h1 h2 (k H locs ls hP hD hS hl)
theorem g_pop (hC : kC X cc own Ts tys R nL) {va : Value} (hd : decode cc pc = .ok (.pop, 1)) (h1 : va.category = 1) (k : kG X (pc + 1) lv (rest) ws) : kG X pc lv (va :: rest) ws := fun H locs ls hP hD hS hl => lv_pop hC.1 hC.2.1 hd h1 (k H locs ls hP hD hS hl)
theorem g_ldc (hC : kC X cc own Ts tys R nL) {index : Nat} {v : Int32} (hd : decode cc pc = .ok (.ldc index, 2)) (hw : Jvm.Cond.constant own index v ∈ Ts) (k : kG X (pc + 2) lv (.int v :: rest) ws) : kG X pc lv rest ws := fun H locs ls hP hD hS hl => lv_ldc hC.1 hC.2.1 hC.2.2.2.1 (hC.2.2.2.2.1 _ hw) hd (k H locs ls hP hD hS hl)
theorem g_ldcw (hC : kC X cc own Ts tys R nL) {index : Nat} {v : Int32} (hd : decode cc pc = .ok (.ldc_w index, 3)) (hw : Jvm.Cond.constant own index v ∈ Ts) (k : kG X (pc + 3) lv (.int v :: rest) ws) : kG X pc lv rest ws := fun H locs ls hP hD hS hl => lv_ldcw hC.1 hC.2.1 hC.2.2.2.1 (hC.2.2.2.2.1 _ hw) hd (k H locs ls hP hD hS hl)
theorem g_ldc2 (hC : kC X cc own Ts tys R nL) {index : Nat} {v : Int64} (hd : decode cc pc = .ok (.ldc2_w index, 3)) (hw : Jvm.Cond.constantLong own index v ∈ Ts) (k : kG X (pc + 3) lv (.long v :: rest) ws) : kG X pc lv rest ws := fun H locs ls hP hD hS hl => lv_ldc2 hC.1 hC.2.1 hC.2.2.2.1 (hC.2.2.2.2.1 _ hw) hd (k H locs ls hP hD hS hl)
theorem g_goto (hC : kC X cc own Ts tys R nL) {off : Int} {tgt : Nat} (hd : decode cc pc = .ok (.goto off, 3)) (ht : (pc : Int) + off = (tgt : Int)) (k : kG X tgt lv rest ws) : kG X pc lv rest ws := fun H locs ls hP hD hS hl => lv_goto hC.1 hC.2.1 hd ht (k H locs ls hP hD hS hl)
theorem g_if_eq (hC : kC X cc own Ts tys R nL) {x : Int32} {off : Int} {tgt : Nat} (hd : decode cc pc = .ok (.ifCond .eq off, 3)) (ht : (pc : Int) + off = (tgt : Int)) (kt : x = 0 → kG X tgt lv rest ws) (kf : ¬ x = 0 → kG X (pc + 3) lv rest ws) : kG X pc lv (.int x :: rest) ws := fun H locs ls hP hD hS hl => lv_if_eq hC.1 hC.2.1 hd ht (fun h => kt h H locs ls hP hD hS hl) (fun h => kf h H locs ls hP hD hS hl)
theorem g_if_ne (hC : kC X cc own Ts tys R nL) {x : Int32} {off : Int} {tgt : Nat} (hd : decode cc pc = .ok (.ifCond .ne off, 3)) (ht : (pc : Int) + off = (tgt : Int)) (kt : ¬ x = 0 → kG X tgt lv rest ws) (kf : x = 0 → kG X (pc + 3) lv rest ws) : kG X pc lv (.int x :: rest) ws := fun H locs ls hP hD hS hl => lv_if_ne hC.1 hC.2.1 hd ht (fun h => kt h H locs ls hP hD hS hl) (fun h => kf h H locs ls hP hD hS hl)
theorem g_if_lt (hC : kC X cc own Ts tys R nL) {x : Int32} {off : Int} {tgt : Nat} (hd : decode cc pc = .ok (.ifCond .lt off, 3)) (ht : (pc : Int) + off = (tgt : Int)) (kt : x < 0 → kG X tgt lv rest ws) (kf : ¬ x < 0 → kG X (pc + 3) lv rest ws) : kG X pc lv (.int x :: rest) ws := fun H locs ls hP hD hS hl => lv_if_lt hC.1 hC.2.1 hd ht (fun h => kt h H locs ls hP hD hS hl) (fun h => kf h H locs ls hP hD hS hl)
theorem g_if_ge (hC : kC X cc own Ts tys R nL) {x : Int32} {off : Int} {tgt : Nat} (hd : decode cc pc = .ok (.ifCond .ge off, 3)) (ht : (pc : Int) + off = (tgt : Int)) (kt : 0 ≤ x → kG X tgt lv rest ws) (kf : ¬ 0 ≤ x → kG X (pc + 3) lv rest ws) : kG X pc lv (.int x :: rest) ws := fun H locs ls hP hD hS hl => lv_if_ge hC.1 hC.2.1 hd ht (fun h => kt h H locs ls hP hD hS hl) (fun h => kf h H locs ls hP hD hS hl)
theorem g_if_gt (hC : kC X cc own Ts tys R nL) {x : Int32} {off : Int} {tgt : Nat} (hd : decode cc pc = .ok (.ifCond .gt off, 3)) (ht : (pc : Int) + off = (tgt : Int)) (kt : 0 < x → kG X tgt lv rest ws) (kf : ¬ 0 < x → kG X (pc + 3) lv rest ws) : kG X pc lv (.int x :: rest) ws := fun H locs ls hP hD hS hl => lv_if_gt hC.1 hC.2.1 hd ht (fun h => kt h H locs ls hP hD hS hl) (fun h => kf h H locs ls hP hD hS hl)
theorem g_if_le (hC : kC X cc own Ts tys R nL) {x : Int32} {off : Int} {tgt : Nat} (hd : decode cc pc = .ok (.ifCond .le off, 3)) (ht : (pc : Int) + off = (tgt : Int)) (kt : x ≤ 0 → kG X tgt lv rest ws) (kf : ¬ x ≤ 0 → kG X (pc + 3) lv rest ws) : kG X pc lv (.int x :: rest) ws := fun H locs ls hP hD hS hl => lv_if_le hC.1 hC.2.1 hd ht (fun h => kt h H locs ls hP hD hS hl) (fun h => kf h H locs ls hP hD hS hl)
theorem g_icmp_eq (hC : kC X cc own Ts tys R nL) {x y : Int32} {off : Int} {tgt : Nat} (hd : decode cc pc = .ok (.if_icmp .eq off, 3)) (ht : (pc : Int) + off = (tgt : Int)) (kt : x = y → kG X tgt lv rest ws) (kf : ¬ x = y → kG X (pc + 3) lv rest ws) : kG X pc lv (.int y :: .int x :: rest) ws := fun H locs ls hP hD hS hl => lv_icmp_eq hC.1 hC.2.1 hd ht (fun h => kt h H locs ls hP hD hS hl) (fun h => kf h H locs ls hP hD hS hl)
theorem g_icmp_ne (hC : kC X cc own Ts tys R nL) {x y : Int32} {off : Int} {tgt : Nat} (hd : decode cc pc = .ok (.if_icmp .ne off, 3)) (ht : (pc : Int) + off = (tgt : Int)) (kt : ¬ x = y → kG X tgt lv rest ws) (kf : x = y → kG X (pc + 3) lv rest ws) : kG X pc lv (.int y :: .int x :: rest) ws := fun H locs ls hP hD hS hl => lv_icmp_ne hC.1 hC.2.1 hd ht (fun h => kt h H locs ls hP hD hS hl) (fun h => kf h H locs ls hP hD hS hl)
theorem g_icmp_lt (hC : kC X cc own Ts tys R nL) {x y : Int32} {off : Int} {tgt : Nat} (hd : decode cc pc = .ok (.if_icmp .lt off, 3)) (ht : (pc : Int) + off = (tgt : Int)) (kt : x < y → kG X tgt lv rest ws) (kf : ¬ x < y → kG X (pc + 3) lv rest ws) : kG X pc lv (.int y :: .int x :: rest) ws := fun H locs ls hP hD hS hl => lv_icmp_lt hC.1 hC.2.1 hd ht (fun h => kt h H locs ls hP hD hS hl) (fun h => kf h H locs ls hP hD hS hl)
theorem g_icmp_ge (hC : kC X cc own Ts tys R nL) {x y : Int32} {off : Int} {tgt : Nat} (hd : decode cc pc = .ok (.if_icmp .ge off, 3)) (ht : (pc : Int) + off = (tgt : Int)) (kt : y ≤ x → kG X tgt lv rest ws) (kf : ¬ y ≤ x → kG X (pc + 3) lv rest ws) : kG X pc lv (.int y :: .int x :: rest) ws := fun H locs ls hP hD hS hl => lv_icmp_ge hC.1 hC.2.1 hd ht (fun h => kt h H locs ls hP hD hS hl) (fun h => kf h H locs ls hP hD hS hl)
theorem g_icmp_gt (hC : kC X cc own Ts tys R nL) {x y : Int32} {off : Int} {tgt : Nat} (hd : decode cc pc = .ok (.if_icmp .gt off, 3)) (ht : (pc : Int) + off = (tgt : Int)) (kt : y < x → kG X tgt lv rest ws) (kf : ¬ y < x → kG X (pc + 3) lv rest ws) : kG X pc lv (.int y :: .int x :: rest) ws := fun H locs ls hP hD hS hl => lv_icmp_gt hC.1 hC.2.1 hd ht (fun h => kt h H locs ls hP hD hS hl) (fun h => kf h H locs ls hP hD hS hl)
theorem g_icmp_le (hC : kC X cc own Ts tys R nL) {x y : Int32} {off : Int} {tgt : Nat} (hd : decode cc pc = .ok (.if_icmp .le off, 3)) (ht : (pc : Int) + off = (tgt : Int)) (kt : x ≤ y → kG X tgt lv rest ws) (kf : ¬ x ≤ y → kG X (pc + 3) lv rest ws) : kG X pc lv (.int y :: .int x :: rest) ws := fun H locs ls hP hD hS hl => lv_icmp_le hC.1 hC.2.1 hd ht (fun h => kt h H locs ls hP hD hS hl) (fun h => kf h H locs ls hP hD hS hl)
theorem g_tableOut (hC : kC X cc own Ts tys R nL) {dflt lo hi : Int} {offs : Array Int} {len : Nat} {x : Int32} {tgt : Nat} (hd : decode cc pc = .ok (.tableswitch dflt lo hi offs, len)) (h : x.toInt < lo ∨ hi < x.toInt) (ht : (pc : Int) + dflt = (tgt : Int)) (k : kG X tgt lv rest ws) : kG X pc lv (.int x :: rest) ws := fun H locs ls hP hD hS hl => lv_tableOut hC.1 hC.2.1 hd h ht (k H locs ls hP hD hS hl)
theorem g_tableIn (hC : kC X cc own Ts tys R nL) {dflt lo hi : Int} {offs : Array Int} {len : Nat} {x v : Int32} {off : Int} {tgt : Nat} (hxv : x = v) (hd : decode cc pc = .ok (.tableswitch dflt lo hi offs, len)) (h1 : ¬ v.toInt < lo) (h2 : ¬ hi < v.toInt) (ho : offs[(v.toInt - lo).toNat]? = some off) (ht : (pc : Int) + off = (tgt : Int)) (k : kG X tgt lv rest ws) : kG X pc lv (.int x :: rest) ws := fun H locs ls hP hD hS hl => lv_tableIn hC.1 hC.2.1 hd (by rw [hxv]; exact h1) (by rw [hxv]; exact h2) (by rw [hxv]; exact ho) ht (k H locs ls hP hD hS hl)
theorem g_lookup (hC : kC X cc own Ts tys R nL) {dflt : Int} {ps : Array (Int × Int)} {len : Nat} {x : Int32} {off : Int} {tgt : Nat} (hd : decode cc pc = .ok (.lookupswitch dflt ps, len)) (hp : (ps.toList.zip (ps.toList.drop 1)).all (fun (a, next) => a.1 < next.1) = true) (ho : Op.lookupswitch.offset ps.toList dflt x.toInt = off) (ht : (pc : Int) + off = (tgt : Int)) (k : kG X tgt lv rest ws) : kG X pc lv (.int x :: rest) ws := fun H locs ls hP hD hS hl => lv_lookup hC.1 hC.2.1 hd hp ho ht (k H locs ls hP hD hS hl)
theorem g_get (hC : kC X cc own Ts tys R nL) {C : String} {T : u_T} {N ci index : Nat} (hin : ∀ w ∈ u_ws C T N, w ∈ Ts) (q0 k0 : Nat) {a : Nat} {fs : List Value} {v : Value} (he : ws[q0]? = some (a, .inr (ci, fs))) (hc : vwCl[ci]? = some (C, T, N)) (hk : k0 < N) (hw : Cond.fieldLink own index (T k0).1 (T k0).2.1 (T k0).2.2.1 ∈ Ts) (hv : fs[k0]? = some v) (hd : decode cc pc = .ok (.getfield index, 3)) (k : kG X (pc + 3) lv (v :: rest) ws) : kG X pc lv (.ref a :: rest) ws :=
  fun H locs ls hP hD hS hl => va_get hC.1 hC.2.1 hC.2.2.2.2.1 hin hC.2.2.2.1 hC.2.2.2.2.2.1 hP q0 he hc k0 hk (hC.2.2.2.2.1 _ hw) (fun _ h9 => h9) hv hd (k H locs ls hP hD hS hl)
theorem g_put (hC : kC X cc own Ts tys R nL) {C : String} {T : u_T} {N ci index : Nat} {ty0 : Nat → FieldType} (hty : ∀ k, k < N → parseFieldDescriptor (T k).2.2.1 = some (ty0 k)) (hnm : ∀ a, a < N → ∀ b, b < N → a ≠ b → (T a).2.1 ≠ (T b).2.1) (hin : ∀ w ∈ u_ws C T N, w ∈ Ts) (q0 k0 : Nat) {a : Nat} {fs : List Value} {v : Value} {ty : FieldType} {ws' : va_W} (he : ws[q0]? = some (a, .inr (ci, fs))) (hc : vwCl[ci]? = some (C, T, N)) (hk : k0 < N) (hw : Cond.fieldLink own index (T k0).1 (T k0).2.1 (T k0).2.2.1 ∈ Ts) (hfin : (T k0).2.2.2 = false) (hp : ty0 k0 = ty) (hn : narrow ty v = v) (hfit : fits ty v = true) (hl0 : k0 < fs.length) (hd : decode cc pc = .ok (.putfield index, 3)) (hws : ws.set q0 (a, .inr (ci, fs.set k0 v)) = ws') (k : kG X (pc + 3) lv rest ws') : kG X pc lv (v :: .ref a :: rest) ws := by
  subst hws
  exact fun H locs ls hP hD hS hl => va_put hC.1 hC.2.1 hC.2.2.2.2.1 hin ty0 hty hnm hC.2.2.2.1 hC.2.2.2.2.2.1 hP hD hS q0 he hc k0 hk (hC.2.2.2.2.1 _ hw) (fun _ h9 => h9) hfin (by rw [hty k0 hk, hp]) hn hfit hl0 hd (fun H locs hP hD hS => k H locs ls hP hD hS hl)
theorem fit_int (v : Int32) : fits .int (.int v) = true := rfl
theorem g_iald (hC : kC X cc own Ts tys R nL) (q0 t0 : Nat) {a : Nat} {cA : ClassId} {n : Nat} {f : Nat → Int32} {i : Int32} (hg : ¬ (i < 0 ∨ n ≤ i.toNatClampNeg)) (ha : ws[q0]? = some (a, .inl (cA, n, .inl f))) (ht : tys[t0]? = some (cA, .int)) (hd : decode cc pc = .ok (.iaload, 1)) (k : kG X (pc + 1) lv (.int (f i.toNatClampNeg) :: rest) ws) : kG X pc lv (.int i :: .ref a :: rest) ws :=
  fun H locs ls hP hD hS hl => va_iald hC.1 hC.2.1 hC.2.2.2.2.2.1 hP q0 t0 ha ht hg hd (k H locs ls hP hD hS hl)
theorem g_zald (hC : kC X cc own Ts tys R nL) (q0 t0 : Nat) {a : Nat} {cA : ClassId} {n : Nat} {f : Nat → Int32} {i : Int32} (hg : ¬ (i < 0 ∨ n ≤ i.toNatClampNeg)) (ha : ws[q0]? = some (a, .inl (cA, n, .inl f))) (ht : tys[t0]? = some (cA, .boolean)) (hd : decode cc pc = .ok (.baload, 1)) (k : kG X (pc + 1) lv (.int (f i.toNatClampNeg) :: rest) ws) : kG X pc lv (.int i :: .ref a :: rest) ws :=
  fun H locs ls hP hD hS hl => va_zald hC.1 hC.2.1 hC.2.2.2.2.2.1 hP q0 t0 ha ht hg hd (k H locs ls hP hD hS hl)
theorem g_lald (hC : kC X cc own Ts tys R nL) (q0 t0 : Nat) {a : Nat} {cA : ClassId} {n : Nat} {f : Nat → Int64} {i : Int32} (hg : ¬ (i < 0 ∨ n ≤ i.toNatClampNeg)) (ha : ws[q0]? = some (a, .inl (cA, n, .inr (.inl f)))) (ht : tys[t0]? = some (cA, .long)) (hd : decode cc pc = .ok (.laload, 1)) (k : kG X (pc + 1) lv (.long (f i.toNatClampNeg) :: rest) ws) : kG X pc lv (.int i :: .ref a :: rest) ws :=
  fun H locs ls hP hD hS hl => va_lald hC.1 hC.2.1 hC.2.2.2.2.2.1 hP q0 t0 ha ht hg hd (k H locs ls hP hD hS hl)
theorem g_iast (hC : kC X cc own Ts tys R nL) (q0 t0 : Nat) {a : Nat} {cA : ClassId} {n : Nat} {f : Nat → Int32} {i x : Int32} {ws' : va_W} (hg : ¬ (i < 0 ∨ n ≤ i.toNatClampNeg)) (ha : ws[q0]? = some (a, .inl (cA, n, .inl f))) (ht : tys[t0]? = some (cA, .int)) (hd : decode cc pc = .ok (.iastore, 1)) (hws : ws.set q0 (a, .inl (cA, n, .inl (upd f i.toNatClampNeg x))) = ws') (k : kG X (pc + 1) lv rest ws') : kG X pc lv (.int x :: .int i :: .ref a :: rest) ws := by
  subst hws
  exact fun H locs ls hP hD hS hl => va_iast hC.1 hC.2.1 hC.2.2.2.2.2.1 hP hD hS q0 t0 ha ht hg hd (fun H locs hP hD hS => k H locs ls hP hD hS hl)
theorem g_zast (hC : kC X cc own Ts tys R nL) (q0 t0 : Nat) {a : Nat} {cA : ClassId} {n : Nat} {f : Nat → Int32} {i x : Int32} {ws' : va_W} (hg : ¬ (i < 0 ∨ n ≤ i.toNatClampNeg)) (ha : ws[q0]? = some (a, .inl (cA, n, .inl f))) (ht : tys[t0]? = some (cA, .boolean)) (hd : decode cc pc = .ok (.bastore, 1)) (hws : ws.set q0 (a, .inl (cA, n, .inl (upd f i.toNatClampNeg (vp_nar .boolean x)))) = ws') (k : kG X (pc + 1) lv rest ws') : kG X pc lv (.int x :: .int i :: .ref a :: rest) ws := by
  subst hws
  exact fun H locs ls hP hD hS hl => va_zast hC.1 hC.2.1 hC.2.2.2.2.2.1 hP hD hS q0 t0 ha ht hg hd (fun H locs hP hD hS => k H locs ls hP hD hS hl)
theorem g_last (hC : kC X cc own Ts tys R nL) (q0 t0 : Nat) {a : Nat} {cA : ClassId} {n : Nat} {f : Nat → Int64} {i : Int32} {x : Int64} {ws' : va_W} (hg : ¬ (i < 0 ∨ n ≤ i.toNatClampNeg)) (ha : ws[q0]? = some (a, .inl (cA, n, .inr (.inl f)))) (ht : tys[t0]? = some (cA, .long)) (hd : decode cc pc = .ok (.lastore, 1)) (hws : ws.set q0 (a, .inl (cA, n, .inr (.inl (vp_updL f i.toNatClampNeg x)))) = ws') (k : kG X (pc + 1) lv rest ws') : kG X pc lv (.long x :: .int i :: .ref a :: rest) ws := by
  subst hws
  exact fun H locs ls hP hD hS hl => va_last hC.1 hC.2.1 hC.2.2.2.2.2.1 hP hD hS q0 t0 ha ht hg hd (fun H locs hP hD hS => k H locs ls hP hD hS hl)
theorem g_alen (hC : kC X cc own Ts tys R nL) (q0 t0 : Nat) {a : Nat} {cA : ClassId} {x : vp_A} {ty : FieldType} {v : Int32} (ha : ws[q0]? = some (a, .inl (cA, x))) (ht : tys[t0]? = some (cA, ty)) (hv : Int32.ofNat x.1 = v) (hd : decode cc pc = .ok (.arraylength, 1)) (k : kG X (pc + 1) lv (.int v :: rest) ws) : kG X pc lv (.ref a :: rest) ws :=
  fun H locs ls hP hD hS hl => va_alen hC.1 hC.2.1 hC.2.2.2.2.2.1 hP q0 t0 ha ht hv hd (k H locs ls hP hD hS hl)
theorem g_copyl (hC : kC X cc own Ts tys R nL) {index : Nat} (w1 : Cond.methodLink own index arraycopyName ∈ Ts) (w2 : Cond.native arraycopyName ∈ Ts) (w3 : Cond.static arraycopyName ∈ Ts) (w4 : Cond.initialized "java/lang/System" ∈ Ts) (q0 q1 t0 t1 : Nat) {a a0 : Nat} {c0 c1 : ClassId} {n0 n1 : Nat} {f g : Nat → Int64} {sp dp n : Int32} {sp' dp' n' : Nat} {ws' : va_W} (ha0 : ws[q0]? = some (a0, .inl (c0, n0, .inr (.inl f)))) (ha1 : ws[q1]? = some (a, .inl (c1, n1, .inr (.inl g)))) (ht0 : tys[t0]? = some (c0, .long)) (ht1 : tys[t1]? = some (c1, .long)) (h1 : ¬ sp < 0) (h2 : ¬ dp < 0) (h3 : ¬ n < 0) (e1 : sp.toNatClampNeg = sp') (e2 : dp.toNatClampNeg = dp') (e3 : n.toNatClampNeg = n') (h4 : sp' + n' ≤ n0) (h5 : dp' + n' ≤ n1) (hfr : 1 ≤ R.frames) (hlo : (rest.map fun v => v.category).sum + (nativeFrameWords "java/lang/System" "arraycopy" 5 + 11) ≤ R.locals) (hd : decode cc pc = .ok (.invokestatic index, 3)) (hws : ws.set q1 (a, .inl (c1, n1, .inr (.inl (va_cpy f g sp' dp' n')))) = ws') (k : kG X (pc + 3) lv rest ws') : kG X pc lv (.int n :: .int dp :: .ref a :: .int sp :: .ref a0 :: rest) ws := by
  subst hws; subst e1; subst e2; subst e3
  exact fun H locs ls hP hD hS hl => va_copyl hC.1 hC.2.1 (by rw [hC.2.2.1, ← hC.2.2.2.2.2.2.2.2.2.1]; exact hl.1.symm) hC.2.2.2.1 (hC.2.2.2.2.1 _ w1) (hC.2.2.2.2.1 _ w2) (hC.2.2.2.2.1 _ w3) (hC.2.2.2.2.1 _ w4) hC.2.2.2.2.2.1 hP hD hS q0 q1 t0 t1 ha0 ha1 ht0 ht1 rfl h1 h2 h3 h4 h5 (fun _ _ => rfl) (by rw [hC.2.2.2.2.2.2.2.2.1]; exact hfr) (by rw [hC.2.2.2.2.2.2.2.2.1]; exact hlo) hd (fun H locs hP hD hS => k H locs ls hP hD hS hl)
theorem g_max (hC : kC X cc own Ts tys R nL) {index : Nat} (w1 : Cond.methodLink own index Lib.Math.max.name ∈ Ts) (w2 : Cond.static Lib.Math.max.name ∈ Ts) (w3 : Cond.initialized "java/lang/Math" ∈ Ts) (w4 : Cond.code Lib.Math.max.name Lib.Math.max.code 2 (some .int) ∈ Ts) (hfr : 1 ≤ R.frames) (hlo : (rest.map fun v => v.category).sum + 13 ≤ R.locals) {x y : Int32} (hd : decode cc pc = .ok (.invokestatic index, 3)) (k : kG X (pc + 3) lv (.int (if x < y then y else x) :: rest) ws) : kG X pc lv (.int y :: .int x :: rest) ws :=
  fun H locs ls hP hD hS hl => va_mmax hC.1 hC.2.1 (by rw [hC.2.2.1, ← hC.2.2.2.2.2.2.2.2.2.1]; exact hl.1.symm) hC.2.2.2.1 (hC.2.2.2.2.1 _ w1) (hC.2.2.2.2.1 _ w2) (hC.2.2.2.2.1 _ w3) (hC.2.2.2.2.1 _ w4) (by rw [hC.2.2.2.2.2.2.2.2.1]; exact hfr) (by rw [hC.2.2.2.2.2.2.2.2.1]; exact hlo) (by rw [hC.2.2.2.2.2.2.2.2.1]; exact hC.2.2.2.2.2.2.2.2.2.2.1) (by rw [hC.2.2.2.2.2.2.2.2.1]; exact hC.2.2.2.2.2.2.2.2.2.2.2) hd (k H locs ls hP hD hS hl)
theorem g_absl (hC : kC X cc own Ts tys R nL) {index : Nat} (w1 : Cond.methodLink own index Lib.MathLoose.abs_long.x ∈ Ts) (w2 : Cond.static Lib.MathLoose.abs_long.x ∈ Ts) (w3 : Cond.initialized "java/lang/Math" ∈ Ts) (w4 : Cond.code Lib.MathLoose.abs_long.x Lib.MathLoose.abs_long.code 2 (some .long) ∈ Ts) (hfr : 1 ≤ R.frames) (hlo : (rest.map fun v => v.category).sum + 13 ≤ R.locals) {x : Int64} (hd : decode cc pc = .ok (.invokestatic index, 3)) (k : kG X (pc + 3) lv (.long (if 0 < x then x else -x) :: rest) ws) : kG X pc lv (.long x :: rest) ws :=
  fun H locs ls hP hD hS hl => va_mabs_long hC.1 hC.2.1 (by rw [hC.2.2.1, ← hC.2.2.2.2.2.2.2.2.2.1]; exact hl.1.symm) hC.2.2.2.1 (hC.2.2.2.2.1 _ w1) (hC.2.2.2.2.1 _ w2) (hC.2.2.2.2.1 _ w3) (hC.2.2.2.2.1 _ w4) (by rw [hC.2.2.2.2.2.2.2.2.1]; exact hfr) (by rw [hC.2.2.2.2.2.2.2.2.1]; exact hlo) (by rw [hC.2.2.2.2.2.2.2.2.1]; exact hC.2.2.2.2.2.2.2.2.2.2.1) (by rw [hC.2.2.2.2.2.2.2.2.1]; exact hC.2.2.2.2.2.2.2.2.2.2.2) hd (k H locs ls hP hD hS hl)
theorem g_callVi (hC : kC X cc own Ts tys R nL) {y : MethodName} {wsc ws0 : List Cond} {rm : Room} {bytes : ByteArray} {maxL index n : Nat} {tysc : List (ClassId × FieldType)} {wc w1 wr wn : va_W} {ret : Option FieldType} {r0 : Int32} {C : String} {b ci q0 : Nat} {fs : List Value} {q : vw_C} (As : List Value) (hM : ∀ sz, Met (kl X) y wsc rm (kPre (kD X) tysc wc sz (.ref b :: As)) (kQi (kD X) tysc wc sz w1 r0) 0 0 (va_A wc sz)) (hGI : GoodIn Ts (wsV own index C y wsc)) (hw : wsc = Cond.code y bytes maxL ret :: ws0) (hy : y.cls = C ∧ y.cls ≠ "java/lang/invoke/MethodHandle" ∧ y.cls ≠ "java/lang/invoke/VarHandle" ∧ (parseMethodDescriptor y.desc).map (fun d => d.parameters.length) = some n) (hn : As.length = n) (hvc : vwCl[ci]? = some q) (hq : q.1 = C) (he : wc[q0]? = some (b, .inr (ci, fs))) (isC isR tP pm : List Nat) (pC : isC.map (fun i => ws[i]?) = wc.map some) (nC : va_nd isC = true) (pR : isR.map (fun i => ws[i]?) = wr.map some) (nR : va_nd isR = true) (dRC : ∀ i ∈ isR, i ∉ isC) (pT : tP.filterMap (fun i => tys[i]?) = tysc) (pM : pm.map (fun i => (wr ++ w1)[i]?) = wn.map some) (nM : va_nd pm = true) (hrm : rm.cells = 0 ∧ rm.slots = 0) (hR : rm.frames + 1 ≤ R.frames ∧ 8 + (maxL + 11) + rm.locals ≤ R.locals) (hrest : (rest.map fun v => v.category).sum ≤ 8) {st : List Value} (hst : st = (As.reverse ++ .ref b :: rest)) (hd : decode cc pc = .ok (.invokevirtual index, 3)) (k : kG X (pc + 3) lv (.int r0 :: rest) wn) : kG X pc lv st ws := by
  intro H locs ls hP hD hS hl
  have hA := hC.2.2.2.2.2.2.2.1
  have hPc := hP.sub (ws' := wc) isC (fm_of pC)
  have hDc := hD.sub (ws' := wc) isC nC pC
  have hKc := hC.2.2.2.2.2.1.sub (tys' := tysc) tP pT
  have hFc := va_free (wc := wc) hD hS hA isC pC
  refine va_calli (va_runV (As := As) (rest := rest) ⟨hC.1, hC.2.1, hC.2.2.1, hC.2.2.2.1, hC.2.2.2.2.1⟩ (hM H.size) (cwV n hC.2.2.2.2.1 hGI hw hrm.1 hrm.2 hy (by rw [hC.2.2.2.2.2.2.2.2.1]; exact hR)) ⟨kPre.blind, by rw [← hq]; exact va_recv hKc hPc hvc he, kPre.at hC _ hPc hKc hDc⟩ (by rfl) hn (hl.1.trans hC.2.2.2.2.2.2.2.2.2.1) hst (lv_room hrest) hd (by rw [hC.2.2.2.2.2.2.2.2.1]; exact hC.2.2.2.2.2.2.2.2.2.2)) hS (fun q _ h => hFc q h) hFc (fun r u t H1 locs ht hvm hw hB hz1 hk1 hS => ?_)
  subst hw
  obtain ⟨hP1, hK1, hD1⟩ := hB
  rw [ht] at hP1
  obtain ⟨hP, hD⟩ := va_join (wr := wr) (w1 := w1) hP hD isC isR pC pR nR dRC hk1 hFc hP1 hD1
  exact k H1 locs ls (hP.sub (ws' := wn) pm (fm_of pM)) (hD.sub (ws' := wn) pm nM pM) hS hl
theorem g_callSi (hC : kC X cc own Ts tys R nL) {y : MethodName} {wsc ws0 : List Cond} {rm : Room} {bytes : ByteArray} {maxL index n : Nat} {tysc : List (ClassId × FieldType)} {wc w1 wr wn : va_W} {ret : Option FieldType} {r0 : Int32} (As : List Value) (hM : ∀ sz, Met (kl X) y wsc rm (kPre (kD X) tysc wc sz As) (kQi (kD X) tysc wc sz w1 r0) 0 0 (va_A wc sz)) (hGI : GoodIn Ts (va_wsS own index y wsc)) (hw : wsc = Cond.code y bytes maxL ret :: ws0) (hy : y.cls ≠ "java/lang/invoke/MethodHandle" ∧ y.cls ≠ "java/lang/invoke/VarHandle" ∧ (parseMethodDescriptor y.desc).map (fun d => d.parameters.length) = some n) (hn : As.length = n) (isC isR tP pm : List Nat) (pC : isC.map (fun i => ws[i]?) = wc.map some) (nC : va_nd isC = true) (pR : isR.map (fun i => ws[i]?) = wr.map some) (nR : va_nd isR = true) (dRC : ∀ i ∈ isR, i ∉ isC) (pT : tP.filterMap (fun i => tys[i]?) = tysc) (pM : pm.map (fun i => (wr ++ w1)[i]?) = wn.map some) (nM : va_nd pm = true) (hrm : rm.cells = 0 ∧ rm.slots = 0) (hR : rm.frames + 1 ≤ R.frames ∧ 8 + (maxL + 11) + rm.locals ≤ R.locals) (hrest : (rest.map fun v => v.category).sum ≤ 8) {st : List Value} (hst : st = (As.reverse ++ rest)) (hd : decode cc pc = .ok (.invokestatic index, 3)) (k : kG X (pc + 3) lv (.int r0 :: rest) wn) : kG X pc lv st ws := by
  intro H locs ls hP hD hS hl
  have hA := hC.2.2.2.2.2.2.2.1
  have hPc := hP.sub (ws' := wc) isC (fm_of pC)
  have hDc := hD.sub (ws' := wc) isC nC pC
  have hKc := hC.2.2.2.2.2.1.sub (tys' := tysc) tP pT
  have hFc := va_free (wc := wc) hD hS hA isC pC
  refine va_calli (va_runS (As := As) (rest := rest) ⟨hC.1, hC.2.1, hC.2.2.1, hC.2.2.2.1, hC.2.2.2.2.1⟩ (hM H.size) (va_cwS n hC.2.2.2.2.1 hGI hw hrm.1 hrm.2 hy (by rw [hC.2.2.2.2.2.2.2.2.1]; exact hR)) ⟨kPre.blind, kPre.at hC _ hPc hKc hDc⟩ (by rfl) hn (hl.1.trans hC.2.2.2.2.2.2.2.2.2.1) hst (lv_room hrest) hd (by rw [hC.2.2.2.2.2.2.2.2.1]; exact hC.2.2.2.2.2.2.2.2.2.2)) hS (fun q _ h => hFc q h) hFc (fun r u t H1 locs ht hvm hw hB hz1 hk1 hS => ?_)
  subst hw
  obtain ⟨hP1, hK1, hD1⟩ := hB
  rw [ht] at hP1
  obtain ⟨hP, hD⟩ := va_join (wr := wr) (w1 := w1) hP hD isC isR pC pR nR dRC hk1 hFc hP1 hD1
  exact k H1 locs ls (hP.sub (ws' := wn) pm (fm_of pM)) (hD.sub (ws' := wn) pm nM pM) hS hl
theorem g_callNi (hC : kC X cc own Ts tys R nL) {y : MethodName} {wsc ws0 : List Cond} {rm : Room} {bytes : ByteArray} {maxL index n : Nat} {tysc : List (ClassId × FieldType)} {wc w1 wr wn : va_W} {ret : Option FieldType} {r0 : Int32} (As : List Value) (hM : ∀ sz, Met (kl X) y wsc rm (kPre (kD X) tysc wc sz As) (kQi (kD X) tysc wc sz w1 r0) 0 0 (va_A wc sz)) (hGI : GoodIn Ts wsc) (hw : wsc = Cond.code y bytes maxL ret :: ws0) (hy : y.cls ≠ "java/lang/invoke/MethodHandle" ∧ y.cls ≠ "java/lang/invoke/VarHandle" ∧ (parseMethodDescriptor y.desc).map (fun d => d.parameters.length) = some n) (hn : As.length = n) (hNw : va_Nw (.methodLinkNest own index y "GorgeRow") (ks X)) (wI : Cond.initialized y.cls ∈ Ts) (wS : Cond.static y ∈ Ts) (isC isR tP pm : List Nat) (pC : isC.map (fun i => ws[i]?) = wc.map some) (nC : va_nd isC = true) (pR : isR.map (fun i => ws[i]?) = wr.map some) (nR : va_nd isR = true) (dRC : ∀ i ∈ isR, i ∉ isC) (pT : tP.filterMap (fun i => tys[i]?) = tysc) (pM : pm.map (fun i => (wr ++ w1)[i]?) = wn.map some) (nM : va_nd pm = true) (hrm : rm.cells = 0 ∧ rm.slots = 0) (hR : rm.frames + 1 ≤ R.frames ∧ 8 + (maxL + 11) + rm.locals ≤ R.locals) (hrest : (rest.map fun v => v.category).sum ≤ 8) {st : List Value} (hst : st = (As.reverse ++ rest)) (hd : decode cc pc = .ok (.invokestatic index, 3)) (k : kG X (pc + 3) lv (.int r0 :: rest) wn) : kG X pc lv st ws := by
  intro H locs ls hP hD hS hl
  have hA := hC.2.2.2.2.2.2.2.1
  have hPc := hP.sub (ws' := wc) isC (fm_of pC)
  have hDc := hD.sub (ws' := wc) isC nC pC
  have hKc := hC.2.2.2.2.2.1.sub (tys' := tysc) tP pT
  have hFc := va_free (wc := wc) hD hS hA isC pC
  refine va_calli (va_runSN (As := As) (rest := rest) ⟨hC.1, hC.2.1, hC.2.2.1, hC.2.2.2.1, hC.2.2.2.2.1⟩ (hM H.size) ⟨va_cnB n hC.2.2.2.2.1 hGI hw hrm.1 hrm.2 hNw (hC.2.2.2.2.1 _ wI) hy (by rw [hC.2.2.2.2.2.2.2.2.1]; exact hR), hC.2.2.2.2.1 _ wS, trivial⟩ ⟨kPre.blind, kPre.at hC _ hPc hKc hDc⟩ (by rfl) hn (hl.1.trans hC.2.2.2.2.2.2.2.2.2.1) hst (lv_room hrest) hd (by rw [hC.2.2.2.2.2.2.2.2.1]; exact hC.2.2.2.2.2.2.2.2.2.2)) hS (fun q _ h => hFc q h) hFc (fun r u t H1 locs ht hvm hw hB hz1 hk1 hS => ?_)
  subst hw
  obtain ⟨hP1, hK1, hD1⟩ := hB
  rw [ht] at hP1
  obtain ⟨hP, hD⟩ := va_join (wr := wr) (w1 := w1) hP hD isC isR pC pR nR dRC hk1 hFc hP1 hD1
  exact k H1 locs ls (hP.sub (ws' := wn) pm (fm_of pM)) (hD.sub (ws' := wn) pm nM pM) hS hl
theorem g_callVl (hC : kC X cc own Ts tys R nL) {y : MethodName} {wsc ws0 : List Cond} {rm : Room} {bytes : ByteArray} {maxL index n : Nat} {tysc : List (ClassId × FieldType)} {wc w1 wr wn : va_W} {ret : Option FieldType} {r0 : Int64} {C : String} {b ci q0 : Nat} {fs : List Value} {q : vw_C} (As : List Value) (hM : ∀ sz, Met (kl X) y wsc rm (kPre (kD X) tysc wc sz (.ref b :: As)) (kQl (kD X) tysc wc sz w1 r0) 0 0 (va_A wc sz)) (hGI : GoodIn Ts (wsV own index C y wsc)) (hw : wsc = Cond.code y bytes maxL ret :: ws0) (hy : y.cls = C ∧ y.cls ≠ "java/lang/invoke/MethodHandle" ∧ y.cls ≠ "java/lang/invoke/VarHandle" ∧ (parseMethodDescriptor y.desc).map (fun d => d.parameters.length) = some n) (hn : As.length = n) (hvc : vwCl[ci]? = some q) (hq : q.1 = C) (he : wc[q0]? = some (b, .inr (ci, fs))) (isC isR tP pm : List Nat) (pC : isC.map (fun i => ws[i]?) = wc.map some) (nC : va_nd isC = true) (pR : isR.map (fun i => ws[i]?) = wr.map some) (nR : va_nd isR = true) (dRC : ∀ i ∈ isR, i ∉ isC) (pT : tP.filterMap (fun i => tys[i]?) = tysc) (pM : pm.map (fun i => (wr ++ w1)[i]?) = wn.map some) (nM : va_nd pm = true) (hrm : rm.cells = 0 ∧ rm.slots = 0) (hR : rm.frames + 1 ≤ R.frames ∧ 8 + (maxL + 11) + rm.locals ≤ R.locals) (hrest : (rest.map fun v => v.category).sum ≤ 8) {st : List Value} (hst : st = (As.reverse ++ .ref b :: rest)) (hd : decode cc pc = .ok (.invokevirtual index, 3)) (k : kG X (pc + 3) lv (.long r0 :: rest) wn) : kG X pc lv st ws := by
  intro H locs ls hP hD hS hl
  have hA := hC.2.2.2.2.2.2.2.1
  have hPc := hP.sub (ws' := wc) isC (fm_of pC)
  have hDc := hD.sub (ws' := wc) isC nC pC
  have hKc := hC.2.2.2.2.2.1.sub (tys' := tysc) tP pT
  have hFc := va_free (wc := wc) hD hS hA isC pC
  refine va_calll (va_runV (As := As) (rest := rest) ⟨hC.1, hC.2.1, hC.2.2.1, hC.2.2.2.1, hC.2.2.2.2.1⟩ (hM H.size) (cwV n hC.2.2.2.2.1 hGI hw hrm.1 hrm.2 hy (by rw [hC.2.2.2.2.2.2.2.2.1]; exact hR)) ⟨kPre.blind, by rw [← hq]; exact va_recv hKc hPc hvc he, kPre.at hC _ hPc hKc hDc⟩ (by rfl) hn (hl.1.trans hC.2.2.2.2.2.2.2.2.2.1) hst (lv_room hrest) hd (by rw [hC.2.2.2.2.2.2.2.2.1]; exact hC.2.2.2.2.2.2.2.2.2.2)) hS (fun q _ h => hFc q h) hFc (fun r u t H1 locs ht hvm hw hB hz1 hk1 hS => ?_)
  subst hw
  obtain ⟨hP1, hK1, hD1⟩ := hB
  rw [ht] at hP1
  obtain ⟨hP, hD⟩ := va_join (wr := wr) (w1 := w1) hP hD isC isR pC pR nR dRC hk1 hFc hP1 hD1
  exact k H1 locs ls (hP.sub (ws' := wn) pm (fm_of pM)) (hD.sub (ws' := wn) pm nM pM) hS hl
theorem g_callSl (hC : kC X cc own Ts tys R nL) {y : MethodName} {wsc ws0 : List Cond} {rm : Room} {bytes : ByteArray} {maxL index n : Nat} {tysc : List (ClassId × FieldType)} {wc w1 wr wn : va_W} {ret : Option FieldType} {r0 : Int64} (As : List Value) (hM : ∀ sz, Met (kl X) y wsc rm (kPre (kD X) tysc wc sz As) (kQl (kD X) tysc wc sz w1 r0) 0 0 (va_A wc sz)) (hGI : GoodIn Ts (va_wsS own index y wsc)) (hw : wsc = Cond.code y bytes maxL ret :: ws0) (hy : y.cls ≠ "java/lang/invoke/MethodHandle" ∧ y.cls ≠ "java/lang/invoke/VarHandle" ∧ (parseMethodDescriptor y.desc).map (fun d => d.parameters.length) = some n) (hn : As.length = n) (isC isR tP pm : List Nat) (pC : isC.map (fun i => ws[i]?) = wc.map some) (nC : va_nd isC = true) (pR : isR.map (fun i => ws[i]?) = wr.map some) (nR : va_nd isR = true) (dRC : ∀ i ∈ isR, i ∉ isC) (pT : tP.filterMap (fun i => tys[i]?) = tysc) (pM : pm.map (fun i => (wr ++ w1)[i]?) = wn.map some) (nM : va_nd pm = true) (hrm : rm.cells = 0 ∧ rm.slots = 0) (hR : rm.frames + 1 ≤ R.frames ∧ 8 + (maxL + 11) + rm.locals ≤ R.locals) (hrest : (rest.map fun v => v.category).sum ≤ 8) {st : List Value} (hst : st = (As.reverse ++ rest)) (hd : decode cc pc = .ok (.invokestatic index, 3)) (k : kG X (pc + 3) lv (.long r0 :: rest) wn) : kG X pc lv st ws := by
  intro H locs ls hP hD hS hl
  have hA := hC.2.2.2.2.2.2.2.1
  have hPc := hP.sub (ws' := wc) isC (fm_of pC)
  have hDc := hD.sub (ws' := wc) isC nC pC
  have hKc := hC.2.2.2.2.2.1.sub (tys' := tysc) tP pT
  have hFc := va_free (wc := wc) hD hS hA isC pC
  refine va_calll (va_runS (As := As) (rest := rest) ⟨hC.1, hC.2.1, hC.2.2.1, hC.2.2.2.1, hC.2.2.2.2.1⟩ (hM H.size) (va_cwS n hC.2.2.2.2.1 hGI hw hrm.1 hrm.2 hy (by rw [hC.2.2.2.2.2.2.2.2.1]; exact hR)) ⟨kPre.blind, kPre.at hC _ hPc hKc hDc⟩ (by rfl) hn (hl.1.trans hC.2.2.2.2.2.2.2.2.2.1) hst (lv_room hrest) hd (by rw [hC.2.2.2.2.2.2.2.2.1]; exact hC.2.2.2.2.2.2.2.2.2.2)) hS (fun q _ h => hFc q h) hFc (fun r u t H1 locs ht hvm hw hB hz1 hk1 hS => ?_)
  subst hw
  obtain ⟨hP1, hK1, hD1⟩ := hB
  rw [ht] at hP1
  obtain ⟨hP, hD⟩ := va_join (wr := wr) (w1 := w1) hP hD isC isR pC pR nR dRC hk1 hFc hP1 hD1
  exact k H1 locs ls (hP.sub (ws' := wn) pm (fm_of pM)) (hD.sub (ws' := wn) pm nM pM) hS hl
theorem g_callVv (hC : kC X cc own Ts tys R nL) {y : MethodName} {wsc ws0 : List Cond} {rm : Room} {bytes : ByteArray} {maxL index n : Nat} {tysc : List (ClassId × FieldType)} {wc w1 wr wn : va_W} {ret : Option FieldType} {C : String} {b ci q0 : Nat} {fs : List Value} {q : vw_C} (As : List Value) (hM : ∀ sz, Met (kl X) y wsc rm (kPre (kD X) tysc wc sz (.ref b :: As)) (kQv (kD X) tysc wc sz w1) 0 0 (va_A wc sz)) (hGI : GoodIn Ts (wsV own index C y wsc)) (hw : wsc = Cond.code y bytes maxL ret :: ws0) (hy : y.cls = C ∧ y.cls ≠ "java/lang/invoke/MethodHandle" ∧ y.cls ≠ "java/lang/invoke/VarHandle" ∧ (parseMethodDescriptor y.desc).map (fun d => d.parameters.length) = some n) (hn : As.length = n) (hvc : vwCl[ci]? = some q) (hq : q.1 = C) (he : wc[q0]? = some (b, .inr (ci, fs))) (isC isR tP pm : List Nat) (pC : isC.map (fun i => ws[i]?) = wc.map some) (nC : va_nd isC = true) (pR : isR.map (fun i => ws[i]?) = wr.map some) (nR : va_nd isR = true) (dRC : ∀ i ∈ isR, i ∉ isC) (pT : tP.filterMap (fun i => tys[i]?) = tysc) (pM : pm.map (fun i => (wr ++ w1)[i]?) = wn.map some) (nM : va_nd pm = true) (hrm : rm.cells = 0 ∧ rm.slots = 0) (hR : rm.frames + 1 ≤ R.frames ∧ 8 + (maxL + 11) + rm.locals ≤ R.locals) (hrest : (rest.map fun v => v.category).sum ≤ 8) {st : List Value} (hst : st = (As.reverse ++ .ref b :: rest)) (hd : decode cc pc = .ok (.invokevirtual index, 3)) (k : kG X (pc + 3) lv (rest) wn) : kG X pc lv st ws := by
  intro H locs ls hP hD hS hl
  have hA := hC.2.2.2.2.2.2.2.1
  have hPc := hP.sub (ws' := wc) isC (fm_of pC)
  have hDc := hD.sub (ws' := wc) isC nC pC
  have hKc := hC.2.2.2.2.2.1.sub (tys' := tysc) tP pT
  have hFc := va_free (wc := wc) hD hS hA isC pC
  refine va_callv (va_runV (As := As) (rest := rest) ⟨hC.1, hC.2.1, hC.2.2.1, hC.2.2.2.1, hC.2.2.2.2.1⟩ (hM H.size) (cwV n hC.2.2.2.2.1 hGI hw hrm.1 hrm.2 hy (by rw [hC.2.2.2.2.2.2.2.2.1]; exact hR)) ⟨kPre.blind, by rw [← hq]; exact va_recv hKc hPc hvc he, kPre.at hC _ hPc hKc hDc⟩ (by rfl) hn (hl.1.trans hC.2.2.2.2.2.2.2.2.2.1) hst (lv_room hrest) hd (by rw [hC.2.2.2.2.2.2.2.2.1]; exact hC.2.2.2.2.2.2.2.2.2.2)) hS (fun q _ h => hFc q h) hFc (fun u t H1 locs ht hvm hw hB hz1 hk1 hS => ?_)
  obtain ⟨hP1, hK1, hD1⟩ := hB
  rw [ht] at hP1
  obtain ⟨hP, hD⟩ := va_join (wr := wr) (w1 := w1) hP hD isC isR pC pR nR dRC hk1 hFc hP1 hD1
  exact k H1 locs ls (hP.sub (ws' := wn) pm (fm_of pM)) (hD.sub (ws' := wn) pm nM pM) hS hl
theorem g_callSv (hC : kC X cc own Ts tys R nL) {y : MethodName} {wsc ws0 : List Cond} {rm : Room} {bytes : ByteArray} {maxL index n : Nat} {tysc : List (ClassId × FieldType)} {wc w1 wr wn : va_W} {ret : Option FieldType} (As : List Value) (hM : ∀ sz, Met (kl X) y wsc rm (kPre (kD X) tysc wc sz As) (kQv (kD X) tysc wc sz w1) 0 0 (va_A wc sz)) (hGI : GoodIn Ts (va_wsS own index y wsc)) (hw : wsc = Cond.code y bytes maxL ret :: ws0) (hy : y.cls ≠ "java/lang/invoke/MethodHandle" ∧ y.cls ≠ "java/lang/invoke/VarHandle" ∧ (parseMethodDescriptor y.desc).map (fun d => d.parameters.length) = some n) (hn : As.length = n) (isC isR tP pm : List Nat) (pC : isC.map (fun i => ws[i]?) = wc.map some) (nC : va_nd isC = true) (pR : isR.map (fun i => ws[i]?) = wr.map some) (nR : va_nd isR = true) (dRC : ∀ i ∈ isR, i ∉ isC) (pT : tP.filterMap (fun i => tys[i]?) = tysc) (pM : pm.map (fun i => (wr ++ w1)[i]?) = wn.map some) (nM : va_nd pm = true) (hrm : rm.cells = 0 ∧ rm.slots = 0) (hR : rm.frames + 1 ≤ R.frames ∧ 8 + (maxL + 11) + rm.locals ≤ R.locals) (hrest : (rest.map fun v => v.category).sum ≤ 8) {st : List Value} (hst : st = (As.reverse ++ rest)) (hd : decode cc pc = .ok (.invokestatic index, 3)) (k : kG X (pc + 3) lv (rest) wn) : kG X pc lv st ws := by
  intro H locs ls hP hD hS hl
  have hA := hC.2.2.2.2.2.2.2.1
  have hPc := hP.sub (ws' := wc) isC (fm_of pC)
  have hDc := hD.sub (ws' := wc) isC nC pC
  have hKc := hC.2.2.2.2.2.1.sub (tys' := tysc) tP pT
  have hFc := va_free (wc := wc) hD hS hA isC pC
  refine va_callv (va_runS (As := As) (rest := rest) ⟨hC.1, hC.2.1, hC.2.2.1, hC.2.2.2.1, hC.2.2.2.2.1⟩ (hM H.size) (va_cwS n hC.2.2.2.2.1 hGI hw hrm.1 hrm.2 hy (by rw [hC.2.2.2.2.2.2.2.2.1]; exact hR)) ⟨kPre.blind, kPre.at hC _ hPc hKc hDc⟩ (by rfl) hn (hl.1.trans hC.2.2.2.2.2.2.2.2.2.1) hst (lv_room hrest) hd (by rw [hC.2.2.2.2.2.2.2.2.1]; exact hC.2.2.2.2.2.2.2.2.2.2)) hS (fun q _ h => hFc q h) hFc (fun u t H1 locs ht hvm hw hB hz1 hk1 hS => ?_)
  obtain ⟨hP1, hK1, hD1⟩ := hB
  rw [ht] at hP1
  obtain ⟨hP, hD⟩ := va_join (wr := wr) (w1 := w1) hP hD isC isR pC pR nR dRC hk1 hFc hP1 hD1
  exact k H1 locs ls (hP.sub (ws' := wn) pm (fm_of pM)) (hD.sub (ws' := wn) pm nM pM) hS hl
end KG
theorem kMet_i {l : Launch} {D : va_G} {y : MethodName} {cc : ByteArray} {own : String} {ws0 wsc : List Cond} {tys : List (ClassId × FieldType)} {rm : Room} {nL : Nat} {wc : va_W} {av : List Value} {T : Type} (z : T) (r0 : T → Int32) (w1 : T → va_W) (hown : y.cls = own) (hy : plainName y.cls = true) (hw : wsc = Cond.code y cc nL (some .int) :: ws0) (hrm : rm.cells = 0 ∧ rm.slots = 0) (hlen : (lg_sl av).length ≤ nL)
    (body : ∀ X : KX, kl X = l → kD X = D → kC X cc own wsc tys rm nL → (∀ (u : T) (pc : Nat) (lv : List (Nat × Value)), u = z → decode cc pc = .ok (.ireturn, 1) → kG X pc lv [.int (r0 u)] (w1 u)) → kG X 0 (lv_args 0 av) [] wc) : ∀ sz, Met l y wsc rm (kPre D tys wc sz av) (kQi D tys wc sz (w1 z) (r0 z)) 0 0 (va_A wc sz) := by
  intro sz
  refine Met.ofW (cc := cc) (maxL := nL) (ret := (some .int)) hy hw ?_
  intro p e s m args below meth c s₁ B hml hv
  obtain ⟨rfl, hsz, hP, hK, hD0, hN⟩ := hv
  subst hsz
  have hts := atoms_spec (ws := wsc) B.pre
  have hf : s.vm.findClass own = some m.cls := by rw [← hown]; exact findClass_of_methodNamed B.named
  have hD := hD0.self (sz := s.heap.size)
  have hl := lv_entry av (n := nL) hlen
  rw [lg_entry_eq]
  refine body (p, l, e, s, m, av.toArray, below, meth, c, _, va_A wc s.heap.size, 0, 0, D, rm, nL) rfl rfl ⟨B.exec, B.bytes, hml, hf, hts, hK, hN, fun q h => Or.inr h, rfl, rfl, Nat.zero_le _, Nat.zero_le _⟩ (fun u pc lv hu hd => ?_) s.heap [] _ hP hD va_S.rf hl
  subst hu
  intro H locs ls hP hD hS hl
  exact W.iret B.exec B.bytes B.returns (fun t ht hW => ⟨⟨r0 u, (), rfl, rfl, by rw [ht]; exact hP, va_K.moved hW.alike hK, hD⟩, hS.F ht⟩) hS.2.2 hd
theorem kMet_z {l : Launch} {D : va_G} {y : MethodName} {cc : ByteArray} {own : String} {ws0 wsc : List Cond} {tys : List (ClassId × FieldType)} {rm : Room} {nL : Nat} {wc : va_W} {av : List Value} {T : Type} (z : T) (r0 : T → Int32) (w1 : T → va_W) (hown : y.cls = own) (hy : plainName y.cls = true) (hw : wsc = Cond.code y cc nL (some .boolean) :: ws0) (hrm : rm.cells = 0 ∧ rm.slots = 0) (hlen : (lg_sl av).length ≤ nL)
    (body : ∀ X : KX, kl X = l → kD X = D → kC X cc own wsc tys rm nL → (∀ (u : T) (pc : Nat) (lv : List (Nat × Value)), u = z → narrow .boolean (.int (r0 u)) = .int (r0 u) → decode cc pc = .ok (.ireturn, 1) → kG X pc lv [.int (r0 u)] (w1 u)) → kG X 0 (lv_args 0 av) [] wc) : ∀ sz, Met l y wsc rm (kPre D tys wc sz av) (kQi D tys wc sz (w1 z) (r0 z)) 0 0 (va_A wc sz) := by
  intro sz
  refine Met.ofW (cc := cc) (maxL := nL) (ret := (some .boolean)) hy hw ?_
  intro p e s m args below meth c s₁ B hml hv
  obtain ⟨rfl, hsz, hP, hK, hD0, hN⟩ := hv
  subst hsz
  have hts := atoms_spec (ws := wsc) B.pre
  have hf : s.vm.findClass own = some m.cls := by rw [← hown]; exact findClass_of_methodNamed B.named
  have hD := hD0.self (sz := s.heap.size)
  have hl := lv_entry av (n := nL) hlen
  rw [lg_entry_eq]
  refine body (p, l, e, s, m, av.toArray, below, meth, c, _, va_A wc s.heap.size, 0, 0, D, rm, nL) rfl rfl ⟨B.exec, B.bytes, hml, hf, hts, hK, hN, fun q h => Or.inr h, rfl, rfl, Nat.zero_le _, Nat.zero_le _⟩ (fun u pc lv hu hnn hd => ?_) s.heap [] _ hP hD va_S.rf hl
  subst hu
  intro H locs ls hP hD hS hl
  exact W.zret B.exec B.bytes B.returns hnn (fun t ht hW => ⟨⟨r0 u, (), rfl, rfl, by rw [ht]; exact hP, va_K.moved hW.alike hK, hD⟩, hS.F ht⟩) hS.2.2 hd
theorem kMet_l {l : Launch} {D : va_G} {y : MethodName} {cc : ByteArray} {own : String} {ws0 wsc : List Cond} {tys : List (ClassId × FieldType)} {rm : Room} {nL : Nat} {wc : va_W} {av : List Value} {T : Type} (z : T) (r0 : T → Int64) (w1 : T → va_W) (hown : y.cls = own) (hy : plainName y.cls = true) (hw : wsc = Cond.code y cc nL (some .long) :: ws0) (hrm : rm.cells = 0 ∧ rm.slots = 0) (hlen : (lg_sl av).length ≤ nL)
    (body : ∀ X : KX, kl X = l → kD X = D → kC X cc own wsc tys rm nL → (∀ (u : T) (pc : Nat) (lv : List (Nat × Value)), u = z → decode cc pc = .ok (.lreturn, 1) → kG X pc lv [.long (r0 u)] (w1 u)) → kG X 0 (lv_args 0 av) [] wc) : ∀ sz, Met l y wsc rm (kPre D tys wc sz av) (kQl D tys wc sz (w1 z) (r0 z)) 0 0 (va_A wc sz) := by
  intro sz
  refine Met.ofW (cc := cc) (maxL := nL) (ret := (some .long)) hy hw ?_
  intro p e s m args below meth c s₁ B hml hv
  obtain ⟨rfl, hsz, hP, hK, hD0, hN⟩ := hv
  subst hsz
  have hts := atoms_spec (ws := wsc) B.pre
  have hf : s.vm.findClass own = some m.cls := by rw [← hown]; exact findClass_of_methodNamed B.named
  have hD := hD0.self (sz := s.heap.size)
  have hl := lv_entry av (n := nL) hlen
  rw [lg_entry_eq]
  refine body (p, l, e, s, m, av.toArray, below, meth, c, _, va_A wc s.heap.size, 0, 0, D, rm, nL) rfl rfl ⟨B.exec, B.bytes, hml, hf, hts, hK, hN, fun q h => Or.inr h, rfl, rfl, Nat.zero_le _, Nat.zero_le _⟩ (fun u pc lv hu hd => ?_) s.heap [] _ hP hD va_S.rf hl
  subst hu
  intro H locs ls hP hD hS hl
  exact W.lret B.exec B.bytes B.returns (fun t ht hW => ⟨⟨r0 u, (), rfl, rfl, by rw [ht]; exact hP, va_K.moved hW.alike hK, hD⟩, hS.F ht⟩) hS.2.2 hd
theorem kMet_v {l : Launch} {D : va_G} {y : MethodName} {cc : ByteArray} {own : String} {ws0 wsc : List Cond} {tys : List (ClassId × FieldType)} {rm : Room} {nL : Nat} {wc : va_W} {av : List Value} {T : Type} (z : T) (w1 : T → va_W) (hown : y.cls = own) (hy : plainName y.cls = true) (hw : wsc = Cond.code y cc nL none :: ws0) (hrm : rm.cells = 0 ∧ rm.slots = 0) (hlen : (lg_sl av).length ≤ nL)
    (body : ∀ X : KX, kl X = l → kD X = D → kC X cc own wsc tys rm nL → (∀ (u : T) (pc : Nat) (lv : List (Nat × Value)), u = z → decode cc pc = .ok (.return_, 1) → kG X pc lv [] (w1 u)) → kG X 0 (lv_args 0 av) [] wc) : ∀ sz, Met l y wsc rm (kPre D tys wc sz av) (kQv D tys wc sz (w1 z)) 0 0 (va_A wc sz) := by
  intro sz
  refine Met.ofW (cc := cc) (maxL := nL) (ret := none) hy hw ?_
  intro p e s m args below meth c s₁ B hml hv
  obtain ⟨rfl, hsz, hP, hK, hD0, hN⟩ := hv
  subst hsz
  have hts := atoms_spec (ws := wsc) B.pre
  have hf : s.vm.findClass own = some m.cls := by rw [← hown]; exact findClass_of_methodNamed B.named
  have hD := hD0.self (sz := s.heap.size)
  have hl := lv_entry av (n := nL) hlen
  rw [lg_entry_eq]
  refine body (p, l, e, s, m, av.toArray, below, meth, c, _, va_A wc s.heap.size, 0, 0, D, rm, nL) rfl rfl ⟨B.exec, B.bytes, hml, hf, hts, hK, hN, fun q h => Or.inr h, rfl, rfl, Nat.zero_le _, Nat.zero_le _⟩ (fun u pc lv hu hd => ?_) s.heap [] _ hP hD va_S.rf hl
  subst hu
  intro H locs ls hP hD hS hl
  exact W.vret B.exec B.bytes B.returns (fun t ht hW => ⟨⟨(), rfl, trivial, by rw [ht]; exact hP, va_K.moved hW.alike hK, hD⟩, hS.F ht⟩) hS.2.2 hd
