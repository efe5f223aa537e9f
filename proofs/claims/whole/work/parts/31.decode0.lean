/-! the decoded code is the code -/
def dk_il (i : Instr) : Nat := match i with
  | .iload _ => 2
  | .aload _ => 2
  | .istore _ => 2
  | .astore _ => 2
  | .bipush _ => 2
  | .sipush _ => 3
  | .ldc _ => 2
  | .newarray _ => 2
  | .anewarray _ => 3
  | .new _ => 3
  | .getfield _ => 3
  | .putfield _ => 3
  | .invokevirtual _ => 3
  | .invokespecial _ => 3
  | .invokestatic _ => 3
  | .goto _ => 3
  | .ifCond _ _ => 3
  | .if_icmp _ _ => 3
  | .iinc _ _ => 3
  | _ => 1
def dk_tsw (pc lo : Int) : List Int → List (Int32 × Nat) → Bool
  | [], [] => true
  | o :: os, q :: qs => decide (q.1.toInt = lo) && decide (pc + o = (q.2 : Int)) && dk_tsw pc (lo + 1) os qs
  | _, _ => false
def dk_tok (pc : Nat) (i : Instr) (len tg : Nat) (sw : List (Int32 × Nat)) : Bool := match i with
  | .goto o => decide ((pc : Int) + o = (tg : Int)) && len == 3
  | .ifCond _ o => decide ((pc : Int) + o = (tg : Int)) && len == 3
  | .if_icmp _ o => decide ((pc : Int) + o = (tg : Int)) && len == 3
  | .tableswitch d lo hi offs => decide ((pc : Int) + d = (tg : Int)) && decide (hi = lo + offs.size - 1) && dk_tsw pc lo offs.toList sw
  | i => len == dk_il i
def dk_chk (b : ByteArray) (q : Nat × dkE) : Bool := decide (decode b q.1 = .ok (q.2.1, q.2.2.1)) && dk_tok q.1 q.2.1 q.2.2.1 q.2.2.2.1 q.2.2.2.2
def dk_chkR (b : ByteArray) (l : List (Nat × dkE)) (i n : Nat) : Bool := ((l.drop i).take n).all (dk_chk b)
