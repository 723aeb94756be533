/-! the weeks over the model's row w -/
def sp_ix (W : xw) (p : Nat) : Nat := (W p).toNatClampNeg
def sp_wr (W : xw) (b e k : Int32) : xw := if W 6 = nI 200 then W else upd (upd (upd (upd (upd W (270 + 4 * sp_ix W 6) (W 2)) (270 + 4 * sp_ix W 6 + 1) b) (270 + 4 * sp_ix W 6 + 2) e) (270 + 4 * sp_ix W 6 + 3) k) 6 (W 6 + nI 1)
def sp_wt (W : xw) (b e : Nat) : xw := upd W (50 + 14 * b + (7 + e)) (W (50 + 14 * b + (7 + e)) + nI 1)
def sp_on (W : xw) (b : Nat) (k : Int32) : xw := if k < nI 0 ∨ W 1 - nI 1 < k then sp_wr (upd (upd (upd W (50 + 14 * b + 4) (nI 3)) (50 + 14 * b + 5) (nI 0)) (50 + 14 * b + 6) (nI 0)) (nI b) (nI 2) (nI 0) else upd (upd (upd W (50 + 14 * b + 4) (nI 2)) (50 + 14 * b + 5) k) (50 + 14 * b + 6) (nI 0)
def sp_over (W : xw) (b : Nat) : xw := sp_on (sp_wr W (nI b) (nI 1) (W (50 + 14 * b + 5))) b (W (50 + 14 * b + 5) + nI 1)
def sp_grass (W : xw) (wet : Bool) : Int32 := xq_min (nI 9999) (W 11 + (if wet then nI 2 else nI 1) * W 12)
def sp_herds (W : xw) (wet : Bool) : xw := upd (upd W 11 (xq_max (nI 0) (sp_grass W wet - W 10))) 10 (W 10 - (xq_max (nI 0) (W 10 - sp_grass W wet) + nI 1) / nI 2)
def sp_dr (W : xw) : Int32 := nI 1664525 * W 7 + nI 1013904223
def sp_drv (W : xw) : Int32 := xq_rem (xq_ush (sp_dr W) (nI 8)) (nI 1000)
def sp_draw (W : xw) : xw := upd W 7 (sp_dr W)
def sp_cut (bar : Int32) : Nat → Nat → xw → Int32 → xw
  | 0, _, W, _ => W
  | c + 1, i, W, left => if nI 0 < left then
      (if W (50 + 14 * sp_ix W (30 + i) + 4) = nI 0 ∧ ¬ W (24 + sp_ix W (50 + 14 * sp_ix W (30 + i) + 1)) = nI 0 ∧ ¬ nI (sp_ix W (30 + i)) = bar then sp_cut bar c (i + 1) (sp_wr (upd W (50 + 14 * sp_ix W (30 + i) + 4) (nI 1)) (nI (sp_ix W (30 + i))) (nI 0) (nI 0)) (left + Int32.ofInt (-1)) else sp_cut bar c (i + 1) W left) else W
/-! the law of hauling -/
def sp_both (s a b : Int32) : Int32 := if s = nI 13 then a + b else if s = nI 14 then a - b else if s = nI 15 then a * b else if s = nI 17 then (if a < b then nI 1 else nI 0) else if s = nI 18 then (if a = b then nI 1 else nI 0) else if s = nI 19 then (if b < a then nI 1 else nI 0) else if s = nI 21 then a &&& b else a ||| b
def sp_ev (W F : xw) : Nat → Nat → xw → Nat → xw
  | 0, _, P, _ => P
  | c + 1, i, P, t => if W (1140 + 2 * i) < nI 13 then sp_ev W F c (i + 1) (upd P t (if W (1140 + 2 * i) = nI 0 then W (1140 + 2 * i + 1) else F (sp_ix W (1140 + 2 * i)))) (t + 1)
      else if W (1140 + 2 * i) = nI 16 then sp_ev W F c (i + 1) (upd P (t - 1) (P (t - 1) / W (1140 + 2 * i + 1))) t
      else if W (1140 + 2 * i) = nI 20 then sp_ev W F c (i + 1) (upd P (t - 1) (nI 1 - P (t - 1))) t
      else sp_ev W F c (i + 1) (upd P (t - 1 - 1) (sp_both (W (1140 + 2 * i)) (P (t - 1 - 1)) (P (t - 1)))) (t - 1)
/-- how high the pile is behind these steps; none where it fails -/
def sp_hs (W : xw) : Nat → Nat → Nat → Option Nat
  | 0, _, h => some h
  | c + 1, i, h => if W (1140 + 2 * i) < nI 0 then none
      else if W (1140 + 2 * i) < nI 9 then (if h < 30 then sp_hs W c (i + 1) (h + 1) else none)
      else if W (1140 + 2 * i) < nI 13 then none
      else if W (1140 + 2 * i) = nI 16 then (if 1 ≤ h ∧ ¬ W (1140 + 2 * i + 1) = nI 0 then sp_hs W c (i + 1) h else none)
      else if W (1140 + 2 * i) = nI 20 then (if 1 ≤ h then sp_hs W c (i + 1) h else none)
      else if W (1140 + 2 * i) < nI 23 then (if 2 ≤ h then sp_hs W c (i + 1) (h - 1) else none)
      else none
/-- which places of the pile hold 0 or 1 -/
def sp_ty (W : xw) : Nat → Nat → List Bool → Option (List Bool)
  | 0, _, ts => some ts
  | c + 1, i, ts => if W (1140 + 2 * i) < nI 9 then sp_ty W c (i + 1) (false :: ts)
      else if W (1140 + 2 * i) = nI 16 then (match ts with
        | _ :: r => sp_ty W c (i + 1) (false :: r)
        | [] => none)
      else if W (1140 + 2 * i) = nI 20 then (match ts with
        | true :: r => sp_ty W c (i + 1) (true :: r)
        | _ => none)
      else if W (1140 + 2 * i) < nI 17 then (match ts with
        | _ :: _ :: r => sp_ty W c (i + 1) (false :: r)
        | _ => none)
      else if W (1140 + 2 * i) < nI 20 then (match ts with
        | _ :: _ :: r => sp_ty W c (i + 1) (true :: r)
        | _ => none)
      else (match ts with
        | true :: true :: r => sp_ty W c (i + 1) (true :: r)
        | _ => none)
def sp_line (W : xw) (l : Nat) : Prop := ∃ a b c : Nat, a < b ∧ b ≤ c ∧ c ≤ 405 ∧ W (1080 + l) = nI a ∧ W (1100 + l) = nI b ∧ W (1120 + l) = nI c ∧ sp_hs W (b - a) a 0 = some 1 ∧ (b < c → sp_hs W (c - b) b 0 = some 1 ∧ sp_ty W (c - b) b [] = some [true])
def sp_law (W : xw) : Prop := ∃ n, n ≤ 16 ∧ W 1075 = nI n ∧ ∀ l, l < n → sp_line W l
def sp_facts (W : xw) (b : Nat) (wet : Int32) (F : xw) : xw := upd (upd (upd (upd (upd (upd (upd (upd F 1 (W (250 + 2 * sp_ix W (50 + 14 * b + 5)))) 2 (W (50 + 14 * b + 0))) 3 (W 3)) 4 wet) 5 (W (250 + 2 * sp_ix W (50 + 14 * b + 5) + 1) - W (50 + 14 * b + 6))) 6 (W 2)) 7 (W 15)) 8 (W 10)
def sp_to (W F : xw) (a b : Nat) : Int32 := sp_ev W F (b - a) a (fun _ => nI 0) 0 0
def sp_hl (W F : xw) : Nat → Nat → Int32
  | 0, _ => nI 10
  | c + 1, l => if W (1120 + l) = W (1100 + l) ∨ sp_to W F (sp_ix W (1100 + l)) (sp_ix W (1120 + l)) = nI 1 then xq_max (nI 0) (xq_min (nI 99) (sp_to W F (sp_ix W (1080 + l)) (sp_ix W (1100 + l)))) else sp_hl W F c (l + 1)
def sp_haul (W : xw) (b : Nat) (wet : Int32) : Int32 := sp_hl W (sp_facts W b wet (fun _ => nI 0)) (sp_ix W 1075) 0
/-! on the way -/
def sp_team (W : xw) (b : Nat) : Int32 := if W (250 + 2 * sp_ix W (50 + 14 * b + 5)) = nI 2 then nI 0 else if W (250 + 2 * sp_ix W (50 + 14 * b + 5)) = nI 1 then nI 2 * W (50 + 14 * b + 0) else W (50 + 14 * b + 0)
def sp_went (W : xw) (b : Nat) (wet : Int32) : xw := upd W (50 + 14 * b + 6) (W (50 + 14 * b + 6) + sp_haul W b wet)
def sp_goes (wet : Int32) (W N : xw) (fr : Int32) (b : Nat) : xw × xw × Int32 :=
  if fr < sp_team W b then (sp_wt W b 0, N, fr)
  else if W (250 + 2 * sp_ix W (50 + 14 * b + 5)) = nI 3 ∧ N (sp_ix W (50 + 14 * b + 5)) = W (250 + 2 * sp_ix W (50 + 14 * b + 5) + 1) then (sp_wt W b 1, N, fr)
  else (if W (250 + 2 * sp_ix W (50 + 14 * b + 5)) = nI 3 then sp_over W b else if sp_went W b wet (50 + 14 * b + 6) < W (250 + 2 * sp_ix W (50 + 14 * b + 5) + 1) then sp_went W b wet else sp_over (sp_went W b wet) b, upd N (sp_ix W (50 + 14 * b + 5)) (N (sp_ix W (50 + 14 * b + 5)) + nI 1), fr - sp_team W b)
def sp_h1 (wet : Int32) (W N : xw) (fr : Int32) (b : Nat) : xw × xw × Int32 :=
  if W (50 + 14 * b + 4) = nI 1 then (if sp_on W b (nI 0) (50 + 14 * b + 4) = nI 2 then sp_goes wet (sp_on W b (nI 0)) N fr b else (sp_on W b (nI 0), N, fr))
  else if W (50 + 14 * b + 4) = nI 2 then sp_goes wet W N fr b else (W, N, fr)
def sp_hauls (wet : Int32) : Nat → Nat → xw → xw → Int32 → xw × xw × Int32
  | 0, _, W, N, fr => (W, N, fr)
  | c + 1, i, W, N, fr => sp_hauls wet c (i + 1) (sp_h1 wet W N fr (sp_ix W (30 + i))).1 (sp_h1 wet W N fr (sp_ix W (30 + i))).2.1 (sp_h1 wet W N fr (sp_ix W (30 + i))).2.2
def sp_flood : Nat → Nat → xw → xw
  | 0, _, W => W
  | c + 1, i, W => sp_flood c (i + 1) (if W (50 + 14 * sp_ix W (30 + i) + 4) = nI 2 ∧ W (250 + 2 * sp_ix W (50 + 14 * sp_ix W (30 + i) + 5)) = nI 2 then sp_over W (sp_ix W (30 + i)) else W)
/-! what is laid -/
def sp_lset (W : xw) : Nat → Nat → Int32 → Int32
  | 0, _, v => v
  | c + 1, b, v => sp_lset W c (b + 1) (v ||| (if W (50 + 14 * b + 4) = nI 4 then nI 1 <<< (nI b &&& 31) else nI 0))
def sp_lmany (W : xw) : Nat → Nat → Int32 → Int32
  | 0, _, v => v
  | c + 1, b, v => sp_lmany W c (b + 1) (v + (if W (50 + 14 * b + 4) = nI 4 then nI 1 else nI 0))
def sp_wei (W : xw) (b : Nat) : Int32 := if W (50 + 14 * b + 2) = nI 1 then -(W (50 + 14 * b + 0)) else W (50 + 14 * b + 0)
def sp_lean (W : xw) : Nat → Nat → Int32 → Int32
  | 0, _, v => v
  | c + 1, b, v => sp_lean W c (b + 1) (if W (50 + 14 * b + 4) = nI 4 then v + sp_wei W b else v)
def sp_canB (n : Nat) (W : xw) (b : Nat) : Bool := decide (W (50 + 14 * b + 4) = nI 3) && decide (W (50 + 14 * b + 3) &&& (sp_lset W n 0 (nI 0) ^^^ Int32.ofInt (-1)) = nI 0) && !decide (sp_lean W n 0 (nI 0) + sp_wei W b < -(W 20)) && !decide (W 20 < sp_lean W n 0 (nI 0) + sp_wei W b)
def sp_frost (W : xw) : Bool := !decide (xq_rem (W 2) (nI 52) < W 19)
def sp_lay1 (n : Nat) (W : xw) (b : Nat) : xw := sp_wr (upd (if sp_lmany W n 0 (nI 0) = nI 0 then upd W 5 (W 2) else W) (50 + 14 * b + 4) (nI 4)) (nI b) (nI 3) (nI 0)
def sp_lay (n : Nat) : Nat → Nat → xw → Int32 → Int32 → xw × Int32
  | 0, _, W, _, v => (W, v)
  | c + 1, i, W, left, v => if nI 0 < left then (if sp_canB n W (sp_ix W (30 + i)) then sp_lay n c (i + 1) (sp_lay1 n W (sp_ix W (30 + i))) (left + Int32.ofInt (-1)) (v + nI 1) else sp_lay n c (i + 1) W left v) else (W, v)
def sp_wait (n : Nat) : Nat → Nat → xw → xw
  | 0, _, W => W
  | c + 1, b, W => sp_wait n c (b + 1) (if W (50 + 14 * b + 4) = nI 3 then sp_wt W b (if sp_canB n W b then (if sp_frost W then 2 else 3) else 4) else W)
def sp_split1 (W : xw) (b : Nat) : xw := sp_wr (upd (upd W (50 + 14 * b + 4) (nI 0)) (50 + 14 * b + 1) (xq_rem (W (50 + 14 * b + 1) + nI 1) (nI 4))) (nI b) (nI 4) (nI 0)
def sp_split : Nat → Nat → xw → xw
  | 0, _, W => W
  | c + 1, b, W => sp_split c (b + 1) (if W (50 + 14 * b + 4) = nI 0 ∨ W (50 + 14 * b + 4) = nI 4 then W else if sp_drv W < W 18 then sp_split1 (sp_draw W) b else sp_draw W)
def sp_fall : Nat → Nat → xw → xw
  | 0, _, W => W
  | c + 1, b, W => sp_fall c (b + 1) (if W (50 + 14 * b + 4) = nI 4 then sp_wr (upd W (50 + 14 * b + 4) (nI 3)) (nI b) (nI 5) (nI 0) else W)
def sp_falls (n : Nat) (W : xw) : xw := if sp_lmany W n 0 (nI 0) = nI 0 ∨ sp_lmany W n 0 (nI 0) = W 0 ∨ W 21 = nI 0 ∨ W 2 - W 5 < W 21 then W else upd (upd (sp_fall n 0 W) 4 (sp_fall n 0 W 4 + nI 1)) 5 (Int32.ofInt (-1))
def sp_turn (W : xw) : xw := if xq_rem (W 2 + nI 1) (nI 26) = nI 0 then upd (upd W 2 (W 2 + nI 1)) 10 (xq_min (nI 99) (W 10 + W 10 / nI 5)) else upd W 2 (W 2 + nI 1)
/-- the weather: is it wet, the row, does it flood -/
def sp_wet (truly : Bool) (W : xw) : Bool := truly && decide (nI 0 < W 16) && decide (sp_drv W < W 16)
def sp_we1 (truly : Bool) (W : xw) : xw := if truly = true ∧ nI 0 < W 16 then sp_draw W else W
def sp_mud (wet : Bool) (W : xw) : xw := upd W 3 (if wet then xq_min (nI 9) (W 3 + nI 2) else xq_max (nI 0) (W 3 - nI 1))
def sp_fld (truly : Bool) (W : xw) : Bool := truly && decide (nI 0 < W 17) && decide (sp_drv W < W 17)
def sp_we2 (truly : Bool) (W : xw) : xw := if truly = true ∧ nI 0 < W 17 then sp_draw W else W
def sp_b2 (b : Bool) : Int32 := if b then nI 1 else nI 0
def sp_haulw (n : Nat) (wet flood : Bool) (W : xw) : xw := if flood then sp_flood n 0 (sp_hauls (sp_b2 wet) n 0 W (fun _ => nI 0) (W 10)).1 else (sp_hauls (sp_b2 wet) n 0 W (fun _ => nI 0) (W 10)).1
def sp_lays (n : Nat) (W : xw) : xw × Int32 := (sp_wait n n 0 (sp_lay n n 0 W (if sp_frost W then nI 0 else W 14) (nI 0)).1, (sp_lay n n 0 W (if sp_frost W then nI 0 else W 14) (nI 0)).2)
def sp_end (n : Nat) (wet : Bool) (W : xw) : xw := sp_turn (sp_falls n (if wet = true ∧ sp_frost W = true ∧ nI 0 < W 18 then sp_split n 0 W else W))
def sp_week (truly : Bool) (bar : Int32) (n : Nat) (W0 : xw) : xw × Int32 :=
  let wet := sp_wet truly W0
  let W1 := sp_mud wet (sp_we1 truly W0)
  let flood := sp_fld truly W1
  let W2 := sp_herds (sp_we2 truly W1) wet
  let W3 := sp_haulw n wet flood (sp_cut bar n 0 W2 (W2 13))
  let r := sp_lays n W3
  (sp_end n wet r.1, r.2)
