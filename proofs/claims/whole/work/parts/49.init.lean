/-! ===== the worlds at the start ===== -/
def zwI (a : Nat) : Nat → Int32 := match a with
  | 1 => fun b => (match b with | 10 => -1 | 11 => 10 | 12 => 1 | 14 => 1 | _ => 0)
  | 11 => fun b => (match b with | 10 => -1 | 11 => 10 | 12 => 1 | 14 => 1 | _ => 0)
  | 21 => fun b => (match b with | 10 => -1 | 11 => 10 | 12 => 1 | 14 => 1 | _ => 0)
  | 10 => upd (upd (upd (fun _ => 0) (Int32.toNatClampNeg 0) (-1)) (Int32.toNatClampNeg 1) (-1)) (Int32.toNatClampNeg 2) (-1)
  | 20 => upd (upd (upd (fun _ => 0) (Int32.toNatClampNeg 0) (-1)) (Int32.toNatClampNeg 1) (-1)) (Int32.toNatClampNeg 2) (-1)
  | 30 => upd (upd (upd (fun _ => 0) (Int32.toNatClampNeg 0) (-1)) (Int32.toNatClampNeg 1) (-1)) (Int32.toNatClampNeg 2) (-1)
  | 42 => fun b => (match b with | 1 => -1 | _ => 0)
  | 44 => fun b => (match b with | 1 => -1 | _ => 0)
  | 46 => fun b => (match b with | 1 => -1 | _ => 0)
  | 48 => fun b => (match b with | 1 => -1 | _ => 0)
  | 51 => fun b => (match b with | 1 => -1 | _ => 0)
  | 54 => fun b => (match b with | 1 => -1 | _ => 0)
  | 57 => fun b => (match b with | 1 => -1 | _ => 0)
  | 60 => fun b => (match b with | 1 => -1 | _ => 0)
  | 63 => fun b => (match b with | 1 => -1 | _ => 0)
  | _ => fun _ => 0
def zw0 : zz_W := (zwI, fun _ _ => 0, fun _ _ => none, (0, fun _ => 0))
def zmI (a : Nat) : Nat → Int32 := match a with
  | 1 => upd (upd (upd (upd (fun _ => 0) (Int32.toNatClampNeg 0) 1) (Int32.toNatClampNeg 3) 10) (Int32.toNatClampNeg 4) 1) (Int32.toNatClampNeg 12) (-1)
  | 8 => upd (upd (upd (upd (upd (upd (upd (upd (upd (upd (upd (fun _ => 0) (Int32.toNatClampNeg 0) (vp_nar .char 104)) (Int32.toNatClampNeg 1) (vp_nar .char 117)) (Int32.toNatClampNeg 2) (vp_nar .char 114)) (Int32.toNatClampNeg 3) (vp_nar .char 116)) (Int32.toNatClampNeg 4) (vp_nar .char 102)) (Int32.toNatClampNeg 5) (vp_nar .char 101)) (Int32.toNatClampNeg 6) (vp_nar .char 101)) (Int32.toNatClampNeg 7) (vp_nar .char 102)) (Int32.toNatClampNeg 8) (vp_nar .char 105)) (Int32.toNatClampNeg 9) (vp_nar .char 110)) (Int32.toNatClampNeg 10) (vp_nar .char 101)
  | 9 => upd (upd (upd (upd (fun _ => 0) (Int32.toNatClampNeg 0) 0) (Int32.toNatClampNeg 1) 4) (Int32.toNatClampNeg 2) 7) (Int32.toNatClampNeg 3) 11
  | 15 => upd (upd (upd (upd (fun _ => 0) (Int32.toNatClampNeg 0) (-1)) (Int32.toNatClampNeg 1) (-1)) (Int32.toNatClampNeg 2) (-1)) (Int32.toNatClampNeg 3) (-1)
  | _ => fun _ => 0
def zm0 : zz_W := (zmI, fun _ _ => 0, fun _ _ => none, (0, fun _ => 0))
