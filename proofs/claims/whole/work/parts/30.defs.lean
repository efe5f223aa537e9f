/-! what the small machine's state is in the machine -/
def dk_enc (ad : dkI → Nat) (v : dkV) : Value := match v with
  | .inl x => .int x
  | .inr (.inl a) => .ref (ad a)
  | .inr (.inr x) => .long x
def dk_encL (ad : dkI → Nat) (ls : dkL) : List (Nat × Value) := ls.map (fun q => (q.1, dk_enc ad q.2))
def dk_ft (c f : Nat) : Nat := match dk_ty c f with
  | .int => 0
  | .boolean => 1
  | _ => 2
def dk_rv (ad : dkI → Nat) (h : dkH) (a : dkI) (f : Nat) : Option Nat := if dk_laid h.2.2.1 a f = true then (dk_rf a f).map ad else none
def dk_fv (ad : dkI → Nat) (h : dkH) (a : dkI) (f : Nat) : Value := if dk_ft (dk_kind a.1) f = 2 then va_rf (dk_rv ad h a f) else .int (h.1 a f)
def dk_E (ad : dkI → Nat) (cA : Nat → ClassId) (L : Nat) (h : dkH) (a : dkI) : va_E :=
  if dk_kind a.1 < 50 then .inr (dk_kind a.1, (List.range (dk_N (dk_kind a.1))).map (dk_fv ad h a))
  else if dk_kind a.1 < 52 then .inl (cA (dk_kind a.1), dk_len L a, .inl (h.1 a))
  else if dk_kind a.1 = 52 then .inl (cA 52, dk_len L a, .inr (.inl (fun j => if j = 0 then h.2.1 else 0)))
  else .inl (cA (dk_kind a.1), dk_len L a, .inr (.inr (.inr (.inr (dk_rv ad h a)))))
def dk_ws (ad : dkI → Nat) (cA : Nat → ClassId) (L : Nat) (h : dkH) : va_W := (dk_sch.take h.2.2.2.1).map (fun a => (ad a, dk_E ad cA L h a))
def dk_ok (made : Nat) (a : dkI) : Prop := ∃ k, k < made ∧ dk_sch[k]? = some a
def dk_vok (made : Nat) (v : dkV) : Prop := match v with
  | .inr (.inl a) => dk_ok made a ∨ a = (15, 0, 0)
  | _ => True
def dk_allok (made : Nat) (vs : List dkV) : Prop := ∀ v ∈ vs, dk_vok made v
def dk_lsok (made : Nat) (ls : dkL) : Prop := ∀ q ∈ ls, dk_vok made q.2
def dk_A (H0 : Heap) : Nat → Prop := fun q => H0.size ≤ q ∧ q < H0.size + 181
def dk_tys (cA : Nat → ClassId) : List (ClassId × FieldType) := [(cA 50, .int), (cA 51, .boolean), (cA 52, .long), (cA 53, .object (dk_R 2)), (cA 54, .object (dk_R 4)), (cA 55, .object (dk_R 0))]
/-- the heap holds the pure heap -/
def dk_Rep (D : va_G) (ad : dkI → Nat) (cA : Nat → ClassId) (L : Nat) (xs : Nat → Int32) (H0 : Heap) (h : dkH) (H : Heap) : Prop :=
  va_P D dk_cl (dk_ws ad cA L h) H ∧ va_D (dk_A H0) (dk_ws ad cA L h) ∧ h.2.2.2.1 ≤ 181 ∧ h.2.2.2.2 ≤ 600 ∧
  ((∃ g, h.2.2.1 = .inr g) → H.size = H0.size + h.2.2.2.1) ∧
  (∀ k a, h.2.2.2.1 ≤ k → dk_sch[k]? = some a → ∀ f, h.1 a f = 0 ∧ dk_laid h.2.2.1 a f = false) ∧
  (∀ a f c, dk_ok h.2.2.2.1 a → f < dk_nr a → dk_laid h.2.2.1 a f = true → dk_rf a f = some c → dk_ok h.2.2.2.1 c) ∧
  (∀ j, j < L → h.1 (15, 0, 0) j = xs j)
/-- names and addresses -/
def dk_Fix (ad : dkI → Nat) (H0 : Heap) (b : Nat) : Prop := (∀ k a, dk_sch[k]? = some a → ad a = H0.size + k) ∧ ad (15, 0, 0) = b ∧ b < H0.size
/-- words that stay true in warmer tables -/
def dk_wk (w : Cond) : Bool := match w with
  | .fieldLinkNest _ _ _ _ _ _ => true
  | .methodLinkNest _ _ _ _ => true
  | .arrayOver (.object _) => true
  | .castable _ _ => true
  | .stringRef _ _ _ => true
  | .declares _ => true
  | w => goodWord w
def dk_Wd (s : State) : Prop := ∀ w ∈ lw_tbl, dk_wk w = true → ∀ args : Array Value, w.before args s = true
def dk_X (e : Nat) : String := match e with
  | 1 => "java/lang/IndexOutOfBoundsException"
  | 2 => "java/lang/IllegalStateException"
  | 3 => "java/lang/IllegalArgumentException"
  | _ => "java/lang/UnsupportedOperationException"
def dk_rt (mi : Nat) (ret : Option FieldType) : Prop := match dk_ret mi with
  | 0 => ret = none
  | 1 => ret = some .int
  | 2 => ret = some .boolean
  | _ => ∃ n, ret = some (.object n)
/-- frames and words of the stack that a method may need -/
def dk_fr (mi : Nat) : Nat := match mi with
  | 0 => 1
  | 1 => 1
  | 2 => 1
  | 3 => 2
  | 4 => 1
  | 5 => 3
  | 6 => 1
  | 7 => 2
  | 8 => 3
  | 9 => 1
  | 10 => 1
  | 11 => 2
  | 12 => 6
  | 13 => 1
  | 14 => 7
  | 15 => 8
  | 16 => 7
  | 17 => 1
  | 18 => 1
  | 19 => 8
  | 20 => 9
  | 21 => 6
  | 22 => 8
  | 23 => 9
  | 24 => 1
  | 25 => 1
  | 26 => 2
  | 27 => 8
  | 28 => 9
  | 29 => 1
  | 30 => 1
  | 31 => 2
  | 32 => 3
  | 33 => 3
  | 34 => 1
  | 35 => 1
  | 36 => 4
  | 37 => 1
  | 38 => 1
  | 39 => 2
  | 40 => 3
  | 41 => 3
  | 42 => 2
  | 43 => 1
  | 44 => 1
  | 45 => 1
  | 46 => 2
  | 47 => 5
  | 48 => 1
  | 49 => 6
  | 50 => 8
  | 51 => 9
  | 52 => 1
  | 53 => 1
  | 54 => 2
  | 55 => 3
  | 56 => 8
  | 57 => 9
  | 58 => 1
  | 59 => 8
  | 60 => 9
  | 61 => 1
  | 62 => 1
  | 63 => 8
  | 64 => 9
  | 65 => 6
  | 66 => 7
  | 67 => 6
  | 68 => 7
  | 69 => 7
  | 70 => 8
  | 71 => 1
  | 72 => 1
  | 73 => 1
  | 74 => 2
  | 75 => 2
  | 76 => 1
  | 77 => 1
  | 78 => 3
  | 79 => 3
  | 80 => 1
  | 81 => 3
  | 82 => 1
  | 83 => 2
  | 84 => 3
  | 85 => 3
  | 86 => 1
  | 87 => 1
  | 88 => 1
  | 89 => 1
  | 90 => 1
  | 91 => 1
  | 92 => 4
  | 93 => 5
  | 94 => 6
  | 95 => 2
  | 96 => 1
  | 97 => 3
  | 98 => 3
  | 99 => 3
  | 100 => 2
  | 101 => 2
  | 102 => 6
  | 103 => 2
  | 104 => 10
  | _ => 0
def dk_lo (mi : Nat) : Nat := match mi with
  | 0 => 24
  | 1 => 24
  | 2 => 24
  | 3 => 44
  | 4 => 24
  | 5 => 66
  | 6 => 24
  | 7 => 44
  | 8 => 64
  | 9 => 24
  | 10 => 24
  | 11 => 46
  | 12 => 96
  | 13 => 24
  | 14 => 117
  | 15 => 139
  | 16 => 117
  | 17 => 24
  | 18 => 24
  | 19 => 139
  | 20 => 165
  | 21 => 96
  | 22 => 139
  | 23 => 163
  | 24 => 24
  | 25 => 24
  | 26 => 46
  | 27 => 139
  | 28 => 161
  | 29 => 24
  | 30 => 24
  | 31 => 46
  | 32 => 66
  | 33 => 66
  | 34 => 24
  | 35 => 24
  | 36 => 87
  | 37 => 24
  | 38 => 24
  | 39 => 45
  | 40 => 67
  | 41 => 67
  | 42 => 45
  | 43 => 24
  | 44 => 24
  | 45 => 24
  | 46 => 49
  | 47 => 109
  | 48 => 24
  | 49 => 130
  | 50 => 151
  | 51 => 172
  | 52 => 24
  | 53 => 24
  | 54 => 44
  | 55 => 64
  | 56 => 139
  | 57 => 161
  | 58 => 24
  | 59 => 139
  | 60 => 162
  | 61 => 24
  | 62 => 24
  | 63 => 139
  | 64 => 162
  | 65 => 96
  | 66 => 119
  | 67 => 96
  | 68 => 118
  | 69 => 151
  | 70 => 177
  | 71 => 24
  | 72 => 24
  | 73 => 24
  | 74 => 46
  | 75 => 46
  | 76 => 24
  | 77 => 24
  | 78 => 67
  | 79 => 67
  | 80 => 24
  | 81 => 67
  | 82 => 24
  | 83 => 47
  | 84 => 68
  | 85 => 68
  | 86 => 24
  | 87 => 24
  | 88 => 24
  | 89 => 24
  | 90 => 24
  | 91 => 24
  | 92 => 92
  | 93 => 114
  | 94 => 135
  | 95 => 45
  | 96 => 24
  | 97 => 67
  | 98 => 67
  | 99 => 67
  | 100 => 46
  | 101 => 46
  | 102 => 135
  | 103 => 46
  | 104 => 201
  | _ => 0
/-- a static of Throwable's, in the old part of the heap: a reference or null -/
def dk_Sta (f d : String) (s : State) (H0 : Heap) : Prop := ∃ (c : ClassId) (k : Class) (i : Nat) (fd : Field) (a : Nat) (cell : Cell), s.vm.findClass "java/lang/Throwable" = some c ∧ s.fieldFound? "java/lang/Throwable" f d = some (c, k, i, fd) ∧ fd.isStatic = true ∧ k.statics = some a ∧ H0[a]? = some cell ∧ cell.vm.isStatics = true ∧ cell.cls = c ∧ fd.slot < cell.slots.size ∧ k.staticTypes[fd.slot]? = some fd.type ∧ ∃ v : Value, cell.slots[fd.slot]? = some v ∧ v.isRef = true
/-- what is the same in every invocation of the claim -/
def dk_Sys (s : State) (e : Env) (H0 : Heap) : Prop := e.platform.stackTraces = false ∧ (∀ i j, 1 ≤ i → i ≤ 4 → 1 ≤ j → j ≤ 4 → i ≠ j → va_Nc (dk_X i) (dk_X j) s) ∧ dk_Sta "UNASSIGNED_STACK" "[Ljava/lang/StackTraceElement;" s H0 ∧ dk_Sta "SUPPRESSED_SENTINEL" "Ljava/util/List;" s H0
def dk_Ctx (D : va_G) (cA : Nat → ClassId) (L : Nat) (xs : Nat → Int32) (H0 : Heap) (b mi : Nat) (p : Program) (e : Env) (R : Room) (s : State) (m : MethodId) (meth : Method) (c : Code) : Prop :=
  p.tables.exec = Jvm.exec ∧ (dk_fr mi ≤ R.frames ∧ dk_lo mi ≤ R.locals ∧ dk_Sys s e H0 ∧ (∀ q, q < H0.size → s.heap[q]? = H0[q]?)) ∧ c.code = dk_bytes mi ∧ c.maxLocals = dk_maxL mi ∧ dk_rt mi meth.sig.returnType ∧ meth.locks = false ∧ meth.name = (dk_y mi).name ∧
  c.exceptionTable.toList.map (fun h => (h.startPc, h.endPc, h.handlerPc, h.catchType)) = dk_han mi ∧ s.vm.findClass (dk_R (dk_oc mi)) = some m.cls ∧ dk_Wd s ∧ va_K D dk_cl (dk_tys cA) s ∧ va_X b L xs s H0
