/-! the law's own: the script -/
theorem bp_63 : (Int8.ofInt 63).toInt32 = 63 := by decide
theorem ic_6 : Int32.ofInt 6 = 6 := by decide
def XS (ε : En) (b L : Nat) (xs : Nat → Int32) : Prop := match ε with
  | (_, _, _, s, _, _, _, _, _, _, _, _, A) => va_X b L xs s s.heap ∧ b < s.heap.size ∧ ¬ A b
section LAWR
variable {γ : Gm} {ε : En} {cc : ByteArray} {own : String} {nl dd pc n : Nat} {lo : List (Nat × Value)} {st : List Value} {h : Hp} {b L : Nat} {xs : Nat → Int32}
theorem VW.slen (X : XS ε b L xs) (d : dec cc pc .arraylength 1 n) (k : VW γ ε cc own nl dd n lo (.int (Int32.ofNat L) :: st) h) : VW γ ε cc own nl dd pc lo (.ref b :: st) h := by
  obtain ⟨p, e, R, s, m, args, below, meth, c, kc, ks, Z, A⟩ := ε
  obtain ⟨d, rfl⟩ := d
  obtain ⟨X, hbl, hbA⟩ := X
  intro O H locs ls hP hS hl
  exact va_slen O.1 O.2.1 X hbl hbA hS d (k O H locs ls hP hS hl)
theorem VW.sld {i : Int32} (X : XS ε b L xs) (d : dec cc pc .iaload 1 n) (hin : inb i L = true) (k : VW γ ε cc own nl dd n lo (.int (xs (ci i)) :: st) h) : VW γ ε cc own nl dd pc lo (.int i :: .ref b :: st) h := by
  obtain ⟨p, e, R, s, m, args, below, meth, c, kc, ks, Z, A⟩ := ε
  obtain ⟨d, rfl⟩ := d
  obtain ⟨X, hbl, hbA⟩ := X
  intro O H locs ls hP hS hl
  exact va_sld O.1 O.2.1 X hbl hbA hS (inb_in hin) d (k O H locs ls hP hS hl)
end LAWR
def f_law (xs : Nat → Int32) (L : Nat) : Nat → Int32 → Hp → Option Unit
  | 0, _, _ => none
  | n+1, x3, h => if ((Int32.ofNat L) - 6) < x3 then (some ()) else (gd (inb x3 L) (if ((xs (ci x3)) &&& 63) = 0 then (gd (inb (x3 + 1) L) (gd (inb (x3 + 2) L) (gd (inb (x3 + 3) L) (bnd2 (f_8_mouth (xs (ci (x3 + 1))) (xs (ci (x3 + 2))) (xs (ci (x3 + 3))) h) (fun r8 h9 => gd (inb (x3 + 1) L) (gd (inb (x3 + 2) L) (gd (inb (x3 + 3) L) (bnd2 (f_9_mouth (xs (ci (x3 + 1))) (xs (ci (x3 + 2))) (xs (ci (x3 + 3))) h9) (fun r14 h15 => if r8 = r14 then (f_law xs L n (x3 + 6) h15) else (none)))))))))) else (if ((xs (ci x3)) &&& 63) = 1 then (gd (inb (x3 + 1) L) (bnd2 (f_8_mouthAt (xs (ci (x3 + 1))) h) (fun r20 h21 => gd (inb (x3 + 1) L) (bnd2 (f_9_mouthAt (xs (ci (x3 + 1))) h21) (fun r24 h25 => if r20 = r24 then (f_law xs L n (x3 + 6) h25) else (none)))))) else (if ((xs (ci x3)) &&& 63) = 2 then (gd (inb (x3 + 1) L) (gd (inb (x3 + 2) L) (bnd2 (f_8_word (xs (ci (x3 + 1))) (xs (ci (x3 + 2))) h) (fun r31 h32 => gd (inb (x3 + 1) L) (gd (inb (x3 + 2) L) (bnd2 (f_9_word (xs (ci (x3 + 1))) (xs (ci (x3 + 2))) h32) (fun r36 h37 => if r31 = r36 then (f_law xs L n (x3 + 6) h37) else (none)))))))) else (if ((xs (ci x3)) &&& 63) = 3 then (gd (inb (x3 + 1) L) (gd (inb (x3 + 2) L) (bnd2 (f_8_ofWord (xs (ci (x3 + 1))) (xs (ci (x3 + 2))) h) (fun r43 h44 => gd (inb (x3 + 1) L) (gd (inb (x3 + 2) L) (bnd2 (f_9_ofWord (xs (ci (x3 + 1))) (xs (ci (x3 + 2))) h44) (fun r48 h49 => if r43 = r48 then (f_law xs L n (x3 + 6) h49) else (none)))))))) else (if ((xs (ci x3)) &&& 63) = 4 then (gd (inb (x3 + 1) L) (gd (inb (x3 + 2) L) (gd (inb (x3 + 3) L) (bnd2 (f_8_line (xs (ci (x3 + 1))) (xs (ci (x3 + 2))) (xs (ci (x3 + 3))) h) (fun r56 h57 => gd (inb (x3 + 1) L) (gd (inb (x3 + 2) L) (gd (inb (x3 + 3) L) (bnd2 (f_9_line (xs (ci (x3 + 1))) (xs (ci (x3 + 2))) (xs (ci (x3 + 3))) h57) (fun r62 h63 => if r56 = r62 then (f_law xs L n (x3 + 6) h63) else (none)))))))))) else (if ((xs (ci x3)) &&& 63) = 5 then (gd (inb (x3 + 1) L) (gd (inb (x3 + 2) L) (bnd2 (f_8_ofLine (xs (ci (x3 + 1))) (xs (ci (x3 + 2))) h) (fun r69 h70 => gd (inb (x3 + 1) L) (gd (inb (x3 + 2) L) (bnd2 (f_9_ofLine (xs (ci (x3 + 1))) (xs (ci (x3 + 2))) h70) (fun r74 h75 => if r69 = r74 then (f_law xs L n (x3 + 6) h75) else (none)))))))) else (if ((xs (ci x3)) &&& 63) = 6 then (gd (inb (x3 + 1) L) (gd (inb (x3 + 2) L) (bnd2 (f_8_said (xs (ci (x3 + 1))) (xs (ci (x3 + 2))) h) (fun r81 h82 => gd (inb (x3 + 1) L) (gd (inb (x3 + 2) L) (bnd2 (f_9_said (xs (ci (x3 + 1))) (xs (ci (x3 + 2))) h82) (fun r86 h87 => if r81 = r86 then (f_law xs L n (x3 + 6) h87) else (none)))))))) else (if ((xs (ci x3)) &&& 63) = 7 then (gd (inb (x3 + 1) L) (gd (inb (x3 + 2) L) (bnd2 (f_8_become (xs (ci (x3 + 1))) (xs (ci (x3 + 2))) h) (fun r93 h94 => gd (inb (x3 + 1) L) (gd (inb (x3 + 2) L) (bnd2 (f_9_become (xs (ci (x3 + 1))) (xs (ci (x3 + 2))) h94) (fun r98 h99 => if r93 = r98 then (f_law xs L n (x3 + 6) h99) else (none)))))))) else (if ((xs (ci x3)) &&& 63) = 8 then (gd (inb (x3 + 1) L) (gd (inb (x3 + 2) L) (bnd2 (f_8_as (xs (ci (x3 + 1))) (xs (ci (x3 + 2))) h) (fun r105 h106 => gd (inb (x3 + 1) L) (gd (inb (x3 + 2) L) (bnd2 (f_9_as (xs (ci (x3 + 1))) (xs (ci (x3 + 2))) h106) (fun r110 h111 => if r105 = r110 then (f_law xs L n (x3 + 6) h111) else (none)))))))) else (if ((xs (ci x3)) &&& 63) = 9 then (gd (inb (x3 + 1) L) (gd (inb (x3 + 2) L) (bnd2 (f_8_wanted (xs (ci (x3 + 1))) (xs (ci (x3 + 2))) h) (fun r117 h118 => gd (inb (x3 + 1) L) (gd (inb (x3 + 2) L) (bnd2 (f_9_wanted (xs (ci (x3 + 1))) (xs (ci (x3 + 2))) h118) (fun r122 h123 => if r117 = r122 then (f_law xs L n (x3 + 6) h123) else (none)))))))) else (if ((xs (ci x3)) &&& 63) = 10 then (gd (inb (x3 + 1) L) (gd (inb (x3 + 2) L) (gd (inb (x3 + 3) L) (gd (inb (x3 + 4) L) (gd (inb (x3 + 5) L) (bnd2 (f_8_say (xs (ci (x3 + 1))) (xs (ci (x3 + 2))) (xs (ci (x3 + 3))) (xs (ci (x3 + 4))) (xs (ci (x3 + 5))) h) (fun r132 h133 => gd (inb (x3 + 1) L) (gd (inb (x3 + 2) L) (gd (inb (x3 + 3) L) (gd (inb (x3 + 4) L) (gd (inb (x3 + 5) L) (bnd2 (f_9_say (xs (ci (x3 + 1))) (xs (ci (x3 + 2))) (xs (ci (x3 + 3))) (xs (ci (x3 + 4))) (xs (ci (x3 + 5))) h133) (fun r140 h141 => if r132 = r140 then (f_law xs L n (x3 + 6) h141) else (none)))))))))))))) else (if ((xs (ci x3)) &&& 63) = 11 then (gd (inb (x3 + 1) L) (gd (inb (x3 + 2) L) (gd (inb (x3 + 3) L) (bnd2 (f_8_feed (((Int32.toInt64 (xs (ci (x3 + 1)))) <<< (Int32.toInt64 32 &&& 63)) ||| ((Int32.toInt64 (xs (ci (x3 + 2)))) &&& 4294967295)) (xs (ci (x3 + 3))) h) (fun r148 h149 => gd (inb (x3 + 1) L) (gd (inb (x3 + 2) L) (gd (inb (x3 + 3) L) (bnd2 (f_9_feed (((Int32.toInt64 (xs (ci (x3 + 1)))) <<< (Int32.toInt64 32 &&& 63)) ||| ((Int32.toInt64 (xs (ci (x3 + 2)))) &&& 4294967295)) (xs (ci (x3 + 3))) h149) (fun r154 h155 => if r148 = r154 then (f_law xs L n (x3 + 6) h155) else (none)))))))))) else (if ((xs (ci x3)) &&& 63) = 12 then (gd (inb (x3 + 1) L) (bnd2 (f_8_text (xs (ci (x3 + 1))) h) (fun r160 h161 => gd (inb (x3 + 1) L) (bnd2 (f_9_text (xs (ci (x3 + 1))) h161) (fun r164 h165 => if r160 = r164 then (f_law xs L n (x3 + 6) h165) else (none)))))) else (if ((xs (ci x3)) &&& 63) = 13 then (gd (inb (x3 + 1) L) (gd (inb (x3 + 2) L) (gd (inb (x3 + 3) L) (gd (inb (x3 + 4) L) (bnd2 (f_8_law (xs (ci (x3 + 1))) (xs (ci (x3 + 2))) (xs (ci (x3 + 3))) (xs (ci (x3 + 4))) h) (fun r173 h174 => gd (inb (x3 + 1) L) (gd (inb (x3 + 2) L) (gd (inb (x3 + 3) L) (gd (inb (x3 + 4) L) (bnd2 (f_9_law (xs (ci (x3 + 1))) (xs (ci (x3 + 2))) (xs (ci (x3 + 3))) (xs (ci (x3 + 4))) h174) (fun r180 h181 => if r173 = r180 then (f_law xs L n (x3 + 6) h181) else (none)))))))))))) else (if ((xs (ci x3)) &&& 63) = 14 then (gd (inb (x3 + 1) L) (bnd2 (f_8_minutes (xs (ci (x3 + 1))) h) (fun r186 h187 => gd (inb (x3 + 1) L) (bnd2 (f_9_minutes (xs (ci (x3 + 1))) h187) (fun r190 h191 => if r186 = r190 then (f_law xs L n (x3 + 6) h191) else (none)))))) else (if ((xs (ci x3)) &&& 63) = 15 then (gd (inb (x3 + 1) L) (bnd2 (f_8_matinees (xs (ci (x3 + 1))) h) (fun r196 h197 => gd (inb (x3 + 1) L) (bnd2 (f_9_matinees (xs (ci (x3 + 1))) h197) (fun r200 h201 => if r196 = r200 then (f_law xs L n (x3 + 6) h201) else (none)))))) else (if ((xs (ci x3)) &&& 63) = 16 then (gd (inb (x3 + 1) L) (gd (inb (x3 + 2) L) (gd (inb (x3 + 3) L) (bnd2 (f_8_best (xs (ci (x3 + 1))) (xs (ci (x3 + 2))) (xs (ci (x3 + 3))) h) (fun r208 h209 => gd (inb (x3 + 1) L) (gd (inb (x3 + 2) L) (gd (inb (x3 + 3) L) (bnd2 (f_9_best (xs (ci (x3 + 1))) (xs (ci (x3 + 2))) (xs (ci (x3 + 3))) h209) (fun r214 h215 => if r208 = r214 then (f_law xs L n (x3 + 6) h215) else (none)))))))))) else (if ((xs (ci x3)) &&& 63) = 17 then (gd (inb (x3 + 1) L) (gd (inb (x3 + 2) L) (gd (inb (x3 + 3) L) (bnd2 (f_8_dearest (xs (ci (x3 + 1))) (xs (ci (x3 + 2))) (xs (ci (x3 + 3))) h) (fun r222 h223 => gd (inb (x3 + 1) L) (gd (inb (x3 + 2) L) (gd (inb (x3 + 3) L) (bnd2 (f_9_dearest (xs (ci (x3 + 1))) (xs (ci (x3 + 2))) (xs (ci (x3 + 3))) h223) (fun r228 h229 => if r222 = r228 then (f_law xs L n (x3 + 6) h229) else (none)))))))))) else (if ((xs (ci x3)) &&& 63) = 18 then (gd (inb (x3 + 1) L) (gd (inb (x3 + 2) L) (bnd2 (f_8_heard (xs (ci (x3 + 1))) (xs (ci (x3 + 2))) h) (fun r235 h236 => gd (inb (x3 + 1) L) (gd (inb (x3 + 2) L) (bnd2 (f_9_heard (xs (ci (x3 + 1))) (xs (ci (x3 + 2))) h236) (fun r240 h241 => if r235 = r240 then (f_law xs L n (x3 + 6) h241) else (none)))))))) else (if ((xs (ci x3)) &&& 63) = 19 then (gd (inb (x3 + 1) L) (bnd2 (f_8_must (xs (ci (x3 + 1))) h) (fun r246 h247 => gd (inb (x3 + 1) L) (bnd2 (f_9_must (xs (ci (x3 + 1))) h247) (fun r250 h251 => if r246 = r250 then (f_law xs L n (x3 + 6) h251) else (none)))))) else (if ((xs (ci x3)) &&& 63) = 20 then (gd (inb (x3 + 1) L) (bnd2 (f_8_forgotten (xs (ci (x3 + 1))) h) (fun r256 h257 => gd (inb (x3 + 1) L) (bnd2 (f_9_forgotten (xs (ci (x3 + 1))) h257) (fun r260 h261 => if r256 = r260 then (f_law xs L n (x3 + 6) h261) else (none)))))) else (if ((xs (ci x3)) &&& 63) = 21 then (gd (inb (x3 + 1) L) (gd (inb (x3 + 2) L) (gd (inb (x3 + 3) L) (bnd2 (f_8_like (xs (ci (x3 + 1))) (xs (ci (x3 + 2))) (xs (ci (x3 + 3))) h) (fun r268 h269 => gd (inb (x3 + 1) L) (gd (inb (x3 + 2) L) (gd (inb (x3 + 3) L) (bnd2 (f_9_like (xs (ci (x3 + 1))) (xs (ci (x3 + 2))) (xs (ci (x3 + 3))) h269) (fun r274 h275 => if r268 = r274 then (f_law xs L n (x3 + 6) h275) else (none)))))))))) else (if ((xs (ci x3)) &&& 63) = 22 then (gd (inb (x3 + 1) L) (bnd2 (f_8_cast (xs (ci (x3 + 1))) h) (fun r280 h281 => gd (inb (x3 + 1) L) (bnd2 (f_9_cast (xs (ci (x3 + 1))) h281) (fun r284 h285 => if r280 = r284 then (f_law xs L n (x3 + 6) h285) else (none)))))) else (if ((xs (ci x3)) &&& 63) = 23 then (gd (inb (x3 + 1) L) (gd (inb (x3 + 2) L) (gd (inb (x3 + 3) L) (bnd2 (f_8_takes (xs (ci (x3 + 1))) (xs (ci (x3 + 2))) (xs (ci (x3 + 3))) h) (fun r292 h293 => gd (inb (x3 + 1) L) (gd (inb (x3 + 2) L) (gd (inb (x3 + 3) L) (bnd2 (f_9_takes_ (xs (ci (x3 + 1))) (xs (ci (x3 + 2))) (xs (ci (x3 + 3))) h293) (fun r298 h299 => if (lg_cmp r292 r298) = 0 then (f_law xs L n (x3 + 6) h299) else (none)))))))))) else (if ((xs (ci x3)) &&& 63) = 24 then (gd (inb (x3 + 1) L) (gd (inb (x3 + 2) L) (bnd2 (f_8_enough (xs (ci (x3 + 1))) (xs (ci (x3 + 2))) h) (fun r305 h306 => gd (inb (x3 + 1) L) (gd (inb (x3 + 2) L) (bnd2 (f_9_enough (xs (ci (x3 + 1))) (xs (ci (x3 + 2))) h306) (fun r310 h311 => if r305 = r310 then (f_law xs L n (x3 + 6) h311) else (none)))))))) else (if ((xs (ci x3)) &&& 63) = 25 then (gd (inb (x3 + 1) L) (bnd2 (f_8_seed (xs (ci (x3 + 1))) h) (fun r316 h317 => gd (inb (x3 + 1) L) (bnd2 (f_9_seed (xs (ci (x3 + 1))) h317) (fun r320 h321 => if r316 = r320 then (f_law xs L n (x3 + 6) h321) else (none)))))) else (if ((xs (ci x3)) &&& 63) = 26 then (gd (inb (x3 + 1) L) (gd (inb (x3 + 2) L) (gd (inb (x3 + 3) L) (bnd2 (f_8_voice (xs (ci (x3 + 1))) (xs (ci (x3 + 2))) (xs (ci (x3 + 3))) h) (fun r328 h329 => gd (inb (x3 + 1) L) (gd (inb (x3 + 2) L) (gd (inb (x3 + 3) L) (bnd2 (f_9_voice (xs (ci (x3 + 1))) (xs (ci (x3 + 2))) (xs (ci (x3 + 3))) h329) (fun r334 h335 => if r328 = r334 then (f_law xs L n (x3 + 6) h335) else (none)))))))))) else (if ((xs (ci x3)) &&& 63) = 27 then (gd (inb (x3 + 1) L) (bnd2 (f_8_trace (xs (ci (x3 + 1))) h) (fun r340 h341 => gd (inb (x3 + 1) L) (bnd2 (f_9_trace (xs (ci (x3 + 1))) h341) (fun r344 h345 => if r340 = r344 then (f_law xs L n (x3 + 6) h345) else (none)))))) else (if ((xs (ci x3)) &&& 63) = 28 then (gd (inb (x3 + 1) L) (gd (inb (x3 + 2) L) (gd (inb (x3 + 3) L) (bnd2 (f_8_sheet (xs (ci (x3 + 1))) (xs (ci (x3 + 2))) (xs (ci (x3 + 3))) h) (fun r352 h353 => gd (inb (x3 + 1) L) (gd (inb (x3 + 2) L) (gd (inb (x3 + 3) L) (bnd2 (f_9_sheet (xs (ci (x3 + 1))) (xs (ci (x3 + 2))) (xs (ci (x3 + 3))) h353) (fun r358 h359 => if r352 = r358 then (f_law xs L n (x3 + 6) h359) else (none)))))))))) else (if ((xs (ci x3)) &&& 63) = 29 then (gd (inb (x3 + 1) L) (gd (inb (x3 + 2) L) (gd (inb (x3 + 3) L) (bnd2 (f_8_put (xs (ci (x3 + 1))) (xs (ci (x3 + 2))) (xs (ci (x3 + 3))) h) (fun r366 h367 => gd (inb (x3 + 1) L) (gd (inb (x3 + 2) L) (gd (inb (x3 + 3) L) (bnd2 (f_9_put (xs (ci (x3 + 1))) (xs (ci (x3 + 2))) (xs (ci (x3 + 3))) h367) (fun r372 h373 => if r366 = r372 then (f_law xs L n (x3 + 6) h373) else (none)))))))))) else (if ((xs (ci x3)) &&& 63) = 30 then (gd (inb (x3 + 1) L) (gd (inb (x3 + 2) L) (gd (inb (x3 + 3) L) (gd (inb (x3 + 4) L) (gd (inb (x3 + 5) L) (bnd2 (f_8_move (xs (ci (x3 + 1))) (xs (ci (x3 + 2))) (xs (ci (x3 + 3))) (xs (ci (x3 + 4))) (xs (ci (x3 + 5))) h) (fun r382 h383 => gd (inb (x3 + 1) L) (gd (inb (x3 + 2) L) (gd (inb (x3 + 3) L) (gd (inb (x3 + 4) L) (gd (inb (x3 + 5) L) (bnd2 (f_9_move (xs (ci (x3 + 1))) (xs (ci (x3 + 2))) (xs (ci (x3 + 3))) (xs (ci (x3 + 4))) (xs (ci (x3 + 5))) h383) (fun r390 h391 => if r382 = r390 then (f_law xs L n (x3 + 6) h391) else (none)))))))))))))) else (if ((xs (ci x3)) &&& 63) = 31 then (gd (inb (x3 + 1) L) (bnd2 (f_8_mouths (xs (ci (x3 + 1))) h) (fun r396 h397 => gd (inb (x3 + 1) L) (bnd2 (f_9_mouths (xs (ci (x3 + 1))) h397) (fun r400 h401 => if r396 = r400 then (f_law xs L n (x3 + 6) h401) else (none)))))) else (if ((xs (ci x3)) &&& 63) = 32 then (gd (inb (x3 + 1) L) (bnd2 (f_8_judge (xs (ci (x3 + 1))) h) (fun r406 h407 => gd (inb (x3 + 1) L) (bnd2 (f_9_judge (xs (ci (x3 + 1))) h407) (fun r410 h411 => if r406 = r410 then (f_law xs L n (x3 + 6) h411) else (none)))))) else (if ((xs (ci x3)) &&& 63) = 33 then (bnd2 (f_8_image h) (fun r415 h416 => bnd2 (f_9_image h416) (fun r418 h419 => if r415 = r418 then (f_law xs L n (x3 + 6) h419) else (none)))) else (if ((xs (ci x3)) &&& 63) = 34 then (bnd2 (f_8_restore h) (fun r423 h424 => bnd2 (f_9_restore h424) (fun r426 h427 => if r423 = r426 then (f_law xs L n (x3 + 6) h427) else (none)))) else (if ((xs (ci x3)) &&& 63) = 35 then (gd (inb (x3 + 1) L) (bnd2 (f_8_tell (xs (ci (x3 + 1))) h) (fun r432 h433 => gd (inb (x3 + 1) L) (bnd2 (f_9_tell (xs (ci (x3 + 1))) h433) (fun r436 h437 => if r432 = r436 then (f_law xs L n (x3 + 6) h437) else (none)))))) else (if ((xs (ci x3)) &&& 63) = 36 then (bnd2 (f_8_check h) (fun r441 h442 => bnd2 (f_9_check h442) (fun r444 h445 => if r441 = r444 then (f_law xs L n (x3 + 6) h445) else (none)))) else (if ((xs (ci x3)) &&& 63) = 37 then (gd (inb (x3 + 1) L) (bnd2 (f_8_count (xs (ci (x3 + 1))) h) (fun r450 h451 => gd (inb (x3 + 1) L) (bnd2 (f_9_count (xs (ci (x3 + 1))) h451) (fun r454 h455 => if r450 = r454 then (f_law xs L n (x3 + 6) h455) else (none)))))) else (if ((xs (ci x3)) &&& 63) = 38 then (gd (inb (x3 + 1) L) (bnd2 (f_8_told (xs (ci (x3 + 1))) h) (fun r460 h461 => gd (inb (x3 + 1) L) (bnd2 (f_9_told (xs (ci (x3 + 1))) h461) (fun r464 h465 => if r460 = r464 then (f_law xs L n (x3 + 6) h465) else (none)))))) else (f_law xs L n (x3 + 6) h)))))))))))))))))))))))))))))))))))))))))
set_option maxRecDepth 100000 in
set_option maxHeartbeats 8000000 in
theorem s_law {γ : Gm} {ε : En} {dd : Nat} (hd : 197 ≤ dd) {b L : Nat} {xs : Nat → Int32} (X : XS ε b L xs) (hE : ∀ lo h, VW γ ε code "LipsThatFitLaw" 4 dd 1499 lo [.int 1] h) : ∀ (n : Nat) (x3 : Int32) (h : Hp), f_law xs L n x3 h = some () → VW γ ε code "LipsThatFitLaw" 4 dd 18 [(0, .ref b), (1, .ref (γ.2.2.1 0)), (2, .ref (γ.2.2.1 114)), (3, .int x3)] [] h := by
  intro n
  induction n with
  | zero =>
    intro x3 h hr
    exact nf hr
  | succ n ih =>
    intro x3 h hr
    rw [f_law] at hr
    refine VW.iload_n dlaw_18 3 rfl ?_
    refine VW.aload_n dlaw_19 0 rfl ?_
    refine VW.slen X dlaw_20 ?_
    refine VW.bipush (v := 6) dlaw_21 bp_6 ?_
    refine VW.isub dlaw_23 ?_
    refine VW.icmp_gt 1498 dlaw_24 (by decide) (fun c1 => ?_) (fun c1 => ?_)
    · replace hr := ip hr c1
      refine VW.iconst (v := 1) dlaw_1498 ic_1 ?_
      exact hE _ _
    · replace hr := im hr c1
      refine VW.aload_n dlaw_27 0 rfl ?_
      refine VW.iload_n dlaw_28 3 rfl ?_
      obtain ⟨g2, hr⟩ := gdt hr
      refine VW.sld X dlaw_29 g2 ?_
      refine VW.bipush (v := 63) dlaw_30 bp_63 ?_
      refine VW.iand dlaw_32 ?_
      by_cases c3 : ((xs (ci x3)) &&& 63) = 0
      · replace hr := ip hr c3
        refine VW.tableIn (off := 171) 204 dlaw_33 (by rw [c3]; decide) (by rw [c3]; decide) (by rw [c3]; decide) (by decide) ?_
        refine VW.aload_n dlaw_204 1 rfl ?_
        refine VW.aload_n dlaw_205 0 rfl ?_
        refine VW.iload_n dlaw_206 3 rfl ?_
        refine VW.iconst (v := 1) dlaw_207 ic_1 ?_
        refine VW.iadd dlaw_208 ?_
        obtain ⟨g4, hr⟩ := gdt hr
        refine VW.sld X dlaw_209 g4 ?_
        refine VW.aload_n dlaw_210 0 rfl ?_
        refine VW.iload_n dlaw_211 3 rfl ?_
        refine VW.iconst (v := 2) dlaw_212 ic_2 ?_
        refine VW.iadd dlaw_213 ?_
        obtain ⟨g5, hr⟩ := gdt hr
        refine VW.sld X dlaw_214 g5 ?_
        refine VW.aload_n dlaw_215 0 rfl ?_
        refine VW.iload_n dlaw_216 3 rfl ?_
        refine VW.iconst (v := 3) dlaw_217 ic_3 ?_
        refine VW.iadd dlaw_218 ?_
        obtain ⟨g6, hr⟩ := gdt hr
        refine VW.sld X dlaw_219 g6 ?_
        obtain ⟨r8, h9, e7, hr⟩ := bno2 hr
        refine VW.callV (As := [.int (xs (ci (x3 + 1))), .int (xs (ci (x3 + 2))), .int (xs (ci (x3 + 3)))]) (st := []) dlaw_220 mi_8_mouth cv_RL_13 (oo_8 o8_0) ⟨rfl, rfl⟩ (by decide) (dl1 hd) _ rfl (Nat.le_of_ble_eq_true rfl) rfl (c_8_mouth (dl hd rfl) e7) (kI ?_)
        refine VW.aload_n dlaw_223 2 rfl ?_
        refine VW.aload_n dlaw_224 0 rfl ?_
        refine VW.iload_n dlaw_225 3 rfl ?_
        refine VW.iconst (v := 1) dlaw_226 ic_1 ?_
        refine VW.iadd dlaw_227 ?_
        obtain ⟨g10, hr⟩ := gdt hr
        refine VW.sld X dlaw_228 g10 ?_
        refine VW.aload_n dlaw_229 0 rfl ?_
        refine VW.iload_n dlaw_230 3 rfl ?_
        refine VW.iconst (v := 2) dlaw_231 ic_2 ?_
        refine VW.iadd dlaw_232 ?_
        obtain ⟨g11, hr⟩ := gdt hr
        refine VW.sld X dlaw_233 g11 ?_
        refine VW.aload_n dlaw_234 0 rfl ?_
        refine VW.iload_n dlaw_235 3 rfl ?_
        refine VW.iconst (v := 3) dlaw_236 ic_3 ?_
        refine VW.iadd dlaw_237 ?_
        obtain ⟨g12, hr⟩ := gdt hr
        refine VW.sld X dlaw_238 g12 ?_
        obtain ⟨r14, h15, e13, hr⟩ := bno2 hr
        refine VW.callV (As := [.int (xs (ci (x3 + 1))), .int (xs (ci (x3 + 2))), .int (xs (ci (x3 + 3)))]) (st := [.int r8]) dlaw_239 mi_9_mouth cv_RL_17 (oo_9 o9_114) ⟨rfl, rfl⟩ (by decide) (dl1 hd) _ rfl (Nat.le_of_ble_eq_true rfl) rfl (c_9_mouth (dl hd rfl) e13) (kI ?_)
        refine VW.icmp_eq 1492 dlaw_242 (by decide) (fun c16 => ?_) (fun c16 => ?_)
        · replace hr := ip hr c16
          refine VW.iinc (w := 6) (lo' := [(3, .int (x3 + 6)), (0, .ref b), (1, .ref (γ.2.2.1 0)), (2, .ref (γ.2.2.1 114))]) dlaw_1492 3 rfl ic_6 (by decide) rfl ?_
          refine VW.goto 18 dlaw_1495 (by decide) ?_
          exact VW.sub [1, 2, 3, 0] rfl (ih (x3 + 6) h15 hr)
        · replace hr := im hr c16
          refine VW.iconst (v := 0) dlaw_245 ic_0 ?_
          exact nf hr
      · replace hr := im hr c3
        by_cases c17 : ((xs (ci x3)) &&& 63) = 1
        · replace hr := ip hr c17
          refine VW.tableIn (off := 214) 247 dlaw_33 (by rw [c17]; decide) (by rw [c17]; decide) (by rw [c17]; decide) (by decide) ?_
          refine VW.aload_n dlaw_247 1 rfl ?_
          refine VW.aload_n dlaw_248 0 rfl ?_
          refine VW.iload_n dlaw_249 3 rfl ?_
          refine VW.iconst (v := 1) dlaw_250 ic_1 ?_
          refine VW.iadd dlaw_251 ?_
          obtain ⟨g18, hr⟩ := gdt hr
          refine VW.sld X dlaw_252 g18 ?_
          obtain ⟨r20, h21, e19, hr⟩ := bno2 hr
          refine VW.callV (As := [.int (xs (ci (x3 + 1)))]) (st := []) dlaw_253 mi_8_mouthAt cv_RL_18 (oo_8 o8_0) ⟨rfl, rfl⟩ (by decide) (dl1 hd) _ rfl (Nat.le_of_ble_eq_true rfl) rfl (c_8_mouthAt (dl hd rfl) e19) (kI ?_)
          refine VW.aload_n dlaw_256 2 rfl ?_
          refine VW.aload_n dlaw_257 0 rfl ?_
          refine VW.iload_n dlaw_258 3 rfl ?_
          refine VW.iconst (v := 1) dlaw_259 ic_1 ?_
          refine VW.iadd dlaw_260 ?_
          obtain ⟨g22, hr⟩ := gdt hr
          refine VW.sld X dlaw_261 g22 ?_
          obtain ⟨r24, h25, e23, hr⟩ := bno2 hr
          refine VW.callV (As := [.int (xs (ci (x3 + 1)))]) (st := [.int r20]) dlaw_262 mi_9_mouthAt cv_RL_22 (oo_9 o9_114) ⟨rfl, rfl⟩ (by decide) (dl1 hd) _ rfl (Nat.le_of_ble_eq_true rfl) rfl (c_9_mouthAt (dl hd rfl) e23) (kI ?_)
          refine VW.icmp_eq 1492 dlaw_265 (by decide) (fun c26 => ?_) (fun c26 => ?_)
          · replace hr := ip hr c26
            refine VW.iinc (w := 6) (lo' := [(3, .int (x3 + 6)), (0, .ref b), (1, .ref (γ.2.2.1 0)), (2, .ref (γ.2.2.1 114))]) dlaw_1492 3 rfl ic_6 (by decide) rfl ?_
            refine VW.goto 18 dlaw_1495 (by decide) ?_
            exact VW.sub [1, 2, 3, 0] rfl (ih (x3 + 6) h25 hr)
          · replace hr := im hr c26
            refine VW.iconst (v := 0) dlaw_268 ic_0 ?_
            exact nf hr
        · replace hr := im hr c17
          by_cases c27 : ((xs (ci x3)) &&& 63) = 2
          · replace hr := ip hr c27
            refine VW.tableIn (off := 237) 270 dlaw_33 (by rw [c27]; decide) (by rw [c27]; decide) (by rw [c27]; decide) (by decide) ?_
            refine VW.aload_n dlaw_270 1 rfl ?_
            refine VW.aload_n dlaw_271 0 rfl ?_
            refine VW.iload_n dlaw_272 3 rfl ?_
            refine VW.iconst (v := 1) dlaw_273 ic_1 ?_
            refine VW.iadd dlaw_274 ?_
            obtain ⟨g28, hr⟩ := gdt hr
            refine VW.sld X dlaw_275 g28 ?_
            refine VW.aload_n dlaw_276 0 rfl ?_
            refine VW.iload_n dlaw_277 3 rfl ?_
            refine VW.iconst (v := 2) dlaw_278 ic_2 ?_
            refine VW.iadd dlaw_279 ?_
            obtain ⟨g29, hr⟩ := gdt hr
            refine VW.sld X dlaw_280 g29 ?_
            obtain ⟨r31, h32, e30, hr⟩ := bno2 hr
            refine VW.callV (As := [.int (xs (ci (x3 + 1))), .int (xs (ci (x3 + 2)))]) (st := []) dlaw_281 mi_8_word cv_RL_23 (oo_8 o8_0) ⟨rfl, rfl⟩ (by decide) (dl1 hd) _ rfl (Nat.le_of_ble_eq_true rfl) rfl (c_8_word (dl hd rfl) e30) (kI ?_)
            refine VW.aload_n dlaw_284 2 rfl ?_
            refine VW.aload_n dlaw_285 0 rfl ?_
            refine VW.iload_n dlaw_286 3 rfl ?_
            refine VW.iconst (v := 1) dlaw_287 ic_1 ?_
            refine VW.iadd dlaw_288 ?_
            obtain ⟨g33, hr⟩ := gdt hr
            refine VW.sld X dlaw_289 g33 ?_
            refine VW.aload_n dlaw_290 0 rfl ?_
            refine VW.iload_n dlaw_291 3 rfl ?_
            refine VW.iconst (v := 2) dlaw_292 ic_2 ?_
            refine VW.iadd dlaw_293 ?_
            obtain ⟨g34, hr⟩ := gdt hr
            refine VW.sld X dlaw_294 g34 ?_
            obtain ⟨r36, h37, e35, hr⟩ := bno2 hr
            refine VW.callV (As := [.int (xs (ci (x3 + 1))), .int (xs (ci (x3 + 2)))]) (st := [.int r31]) dlaw_295 mi_9_word cv_RL_27 (oo_9 o9_114) ⟨rfl, rfl⟩ (by decide) (dl1 hd) _ rfl (Nat.le_of_ble_eq_true rfl) rfl (c_9_word (dl hd rfl) e35) (kI ?_)
            refine VW.icmp_eq 1492 dlaw_298 (by decide) (fun c38 => ?_) (fun c38 => ?_)
            · replace hr := ip hr c38
              refine VW.iinc (w := 6) (lo' := [(3, .int (x3 + 6)), (0, .ref b), (1, .ref (γ.2.2.1 0)), (2, .ref (γ.2.2.1 114))]) dlaw_1492 3 rfl ic_6 (by decide) rfl ?_
              refine VW.goto 18 dlaw_1495 (by decide) ?_
              exact VW.sub [1, 2, 3, 0] rfl (ih (x3 + 6) h37 hr)
            · replace hr := im hr c38
              refine VW.iconst (v := 0) dlaw_301 ic_0 ?_
              exact nf hr
          · replace hr := im hr c27
            by_cases c39 : ((xs (ci x3)) &&& 63) = 3
            · replace hr := ip hr c39
              refine VW.tableIn (off := 270) 303 dlaw_33 (by rw [c39]; decide) (by rw [c39]; decide) (by rw [c39]; decide) (by decide) ?_
              refine VW.aload_n dlaw_303 1 rfl ?_
              refine VW.aload_n dlaw_304 0 rfl ?_
              refine VW.iload_n dlaw_305 3 rfl ?_
              refine VW.iconst (v := 1) dlaw_306 ic_1 ?_
              refine VW.iadd dlaw_307 ?_
              obtain ⟨g40, hr⟩ := gdt hr
              refine VW.sld X dlaw_308 g40 ?_
              refine VW.aload_n dlaw_309 0 rfl ?_
              refine VW.iload_n dlaw_310 3 rfl ?_
              refine VW.iconst (v := 2) dlaw_311 ic_2 ?_
              refine VW.iadd dlaw_312 ?_
              obtain ⟨g41, hr⟩ := gdt hr
              refine VW.sld X dlaw_313 g41 ?_
              obtain ⟨r43, h44, e42, hr⟩ := bno2 hr
              refine VW.callV (As := [.int (xs (ci (x3 + 1))), .int (xs (ci (x3 + 2)))]) (st := []) dlaw_314 mi_8_ofWord cv_RL_28 (oo_8 o8_0) ⟨rfl, rfl⟩ (by decide) (dl1 hd) _ rfl (Nat.le_of_ble_eq_true rfl) rfl (c_8_ofWord (dl hd rfl) e42) (kI ?_)
              refine VW.aload_n dlaw_317 2 rfl ?_
              refine VW.aload_n dlaw_318 0 rfl ?_
              refine VW.iload_n dlaw_319 3 rfl ?_
              refine VW.iconst (v := 1) dlaw_320 ic_1 ?_
              refine VW.iadd dlaw_321 ?_
              obtain ⟨g45, hr⟩ := gdt hr
              refine VW.sld X dlaw_322 g45 ?_
              refine VW.aload_n dlaw_323 0 rfl ?_
              refine VW.iload_n dlaw_324 3 rfl ?_
              refine VW.iconst (v := 2) dlaw_325 ic_2 ?_
              refine VW.iadd dlaw_326 ?_
              obtain ⟨g46, hr⟩ := gdt hr
              refine VW.sld X dlaw_327 g46 ?_
              obtain ⟨r48, h49, e47, hr⟩ := bno2 hr
              refine VW.callV (As := [.int (xs (ci (x3 + 1))), .int (xs (ci (x3 + 2)))]) (st := [.int r43]) dlaw_328 mi_9_ofWord cv_RL_31 (oo_9 o9_114) ⟨rfl, rfl⟩ (by decide) (dl1 hd) _ rfl (Nat.le_of_ble_eq_true rfl) rfl (c_9_ofWord (dl hd rfl) e47) (kI ?_)
              refine VW.icmp_eq 1492 dlaw_331 (by decide) (fun c50 => ?_) (fun c50 => ?_)
              · replace hr := ip hr c50
                refine VW.iinc (w := 6) (lo' := [(3, .int (x3 + 6)), (0, .ref b), (1, .ref (γ.2.2.1 0)), (2, .ref (γ.2.2.1 114))]) dlaw_1492 3 rfl ic_6 (by decide) rfl ?_
                refine VW.goto 18 dlaw_1495 (by decide) ?_
                exact VW.sub [1, 2, 3, 0] rfl (ih (x3 + 6) h49 hr)
              · replace hr := im hr c50
                refine VW.iconst (v := 0) dlaw_334 ic_0 ?_
                exact nf hr
            · replace hr := im hr c39
              by_cases c51 : ((xs (ci x3)) &&& 63) = 4
              · replace hr := ip hr c51
                refine VW.tableIn (off := 303) 336 dlaw_33 (by rw [c51]; decide) (by rw [c51]; decide) (by rw [c51]; decide) (by decide) ?_
                refine VW.aload_n dlaw_336 1 rfl ?_
                refine VW.aload_n dlaw_337 0 rfl ?_
                refine VW.iload_n dlaw_338 3 rfl ?_
                refine VW.iconst (v := 1) dlaw_339 ic_1 ?_
                refine VW.iadd dlaw_340 ?_
                obtain ⟨g52, hr⟩ := gdt hr
                refine VW.sld X dlaw_341 g52 ?_
                refine VW.aload_n dlaw_342 0 rfl ?_
                refine VW.iload_n dlaw_343 3 rfl ?_
                refine VW.iconst (v := 2) dlaw_344 ic_2 ?_
                refine VW.iadd dlaw_345 ?_
                obtain ⟨g53, hr⟩ := gdt hr
                refine VW.sld X dlaw_346 g53 ?_
                refine VW.aload_n dlaw_347 0 rfl ?_
                refine VW.iload_n dlaw_348 3 rfl ?_
                refine VW.iconst (v := 3) dlaw_349 ic_3 ?_
                refine VW.iadd dlaw_350 ?_
                obtain ⟨g54, hr⟩ := gdt hr
                refine VW.sld X dlaw_351 g54 ?_
                obtain ⟨r56, h57, e55, hr⟩ := bno2 hr
                refine VW.callV (As := [.int (xs (ci (x3 + 1))), .int (xs (ci (x3 + 2))), .int (xs (ci (x3 + 3)))]) (st := []) dlaw_352 mi_8_line cv_RL_32 (oo_8 o8_0) ⟨rfl, rfl⟩ (by decide) (dl1 hd) _ rfl (Nat.le_of_ble_eq_true rfl) rfl (c_8_line (dl hd rfl) e55) (kI ?_)
                refine VW.aload_n dlaw_355 2 rfl ?_
                refine VW.aload_n dlaw_356 0 rfl ?_
                refine VW.iload_n dlaw_357 3 rfl ?_
                refine VW.iconst (v := 1) dlaw_358 ic_1 ?_
                refine VW.iadd dlaw_359 ?_
                obtain ⟨g58, hr⟩ := gdt hr
                refine VW.sld X dlaw_360 g58 ?_
                refine VW.aload_n dlaw_361 0 rfl ?_
                refine VW.iload_n dlaw_362 3 rfl ?_
                refine VW.iconst (v := 2) dlaw_363 ic_2 ?_
                refine VW.iadd dlaw_364 ?_
                obtain ⟨g59, hr⟩ := gdt hr
                refine VW.sld X dlaw_365 g59 ?_
                refine VW.aload_n dlaw_366 0 rfl ?_
                refine VW.iload_n dlaw_367 3 rfl ?_
                refine VW.iconst (v := 3) dlaw_368 ic_3 ?_
                refine VW.iadd dlaw_369 ?_
                obtain ⟨g60, hr⟩ := gdt hr
                refine VW.sld X dlaw_370 g60 ?_
                obtain ⟨r62, h63, e61, hr⟩ := bno2 hr
                refine VW.callV (As := [.int (xs (ci (x3 + 1))), .int (xs (ci (x3 + 2))), .int (xs (ci (x3 + 3)))]) (st := [.int r56]) dlaw_371 mi_9_line cv_RL_35 (oo_9 o9_114) ⟨rfl, rfl⟩ (by decide) (dl1 hd) _ rfl (Nat.le_of_ble_eq_true rfl) rfl (c_9_line (dl hd rfl) e61) (kI ?_)
                refine VW.icmp_eq 1492 dlaw_374 (by decide) (fun c64 => ?_) (fun c64 => ?_)
                · replace hr := ip hr c64
                  refine VW.iinc (w := 6) (lo' := [(3, .int (x3 + 6)), (0, .ref b), (1, .ref (γ.2.2.1 0)), (2, .ref (γ.2.2.1 114))]) dlaw_1492 3 rfl ic_6 (by decide) rfl ?_
                  refine VW.goto 18 dlaw_1495 (by decide) ?_
                  exact VW.sub [1, 2, 3, 0] rfl (ih (x3 + 6) h63 hr)
                · replace hr := im hr c64
                  refine VW.iconst (v := 0) dlaw_377 ic_0 ?_
                  exact nf hr
              · replace hr := im hr c51
                by_cases c65 : ((xs (ci x3)) &&& 63) = 5
                · replace hr := ip hr c65
                  refine VW.tableIn (off := 346) 379 dlaw_33 (by rw [c65]; decide) (by rw [c65]; decide) (by rw [c65]; decide) (by decide) ?_
                  refine VW.aload_n dlaw_379 1 rfl ?_
                  refine VW.aload_n dlaw_380 0 rfl ?_
                  refine VW.iload_n dlaw_381 3 rfl ?_
                  refine VW.iconst (v := 1) dlaw_382 ic_1 ?_
                  refine VW.iadd dlaw_383 ?_
                  obtain ⟨g66, hr⟩ := gdt hr
                  refine VW.sld X dlaw_384 g66 ?_
                  refine VW.aload_n dlaw_385 0 rfl ?_
                  refine VW.iload_n dlaw_386 3 rfl ?_
                  refine VW.iconst (v := 2) dlaw_387 ic_2 ?_
                  refine VW.iadd dlaw_388 ?_
                  obtain ⟨g67, hr⟩ := gdt hr
                  refine VW.sld X dlaw_389 g67 ?_
                  obtain ⟨r69, h70, e68, hr⟩ := bno2 hr
                  refine VW.callV (As := [.int (xs (ci (x3 + 1))), .int (xs (ci (x3 + 2)))]) (st := []) dlaw_390 mi_8_ofLine cv_RL_36 (oo_8 o8_0) ⟨rfl, rfl⟩ (by decide) (dl1 hd) _ rfl (Nat.le_of_ble_eq_true rfl) rfl (c_8_ofLine (dl hd rfl) e68) (kI ?_)
                  refine VW.aload_n dlaw_393 2 rfl ?_
                  refine VW.aload_n dlaw_394 0 rfl ?_
                  refine VW.iload_n dlaw_395 3 rfl ?_
                  refine VW.iconst (v := 1) dlaw_396 ic_1 ?_
                  refine VW.iadd dlaw_397 ?_
                  obtain ⟨g71, hr⟩ := gdt hr
                  refine VW.sld X dlaw_398 g71 ?_
                  refine VW.aload_n dlaw_399 0 rfl ?_
                  refine VW.iload_n dlaw_400 3 rfl ?_
                  refine VW.iconst (v := 2) dlaw_401 ic_2 ?_
                  refine VW.iadd dlaw_402 ?_
                  obtain ⟨g72, hr⟩ := gdt hr
                  refine VW.sld X dlaw_403 g72 ?_
                  obtain ⟨r74, h75, e73, hr⟩ := bno2 hr
                  refine VW.callV (As := [.int (xs (ci (x3 + 1))), .int (xs (ci (x3 + 2)))]) (st := [.int r69]) dlaw_404 mi_9_ofLine cv_RL_39 (oo_9 o9_114) ⟨rfl, rfl⟩ (by decide) (dl1 hd) _ rfl (Nat.le_of_ble_eq_true rfl) rfl (c_9_ofLine (dl hd rfl) e73) (kI ?_)
                  refine VW.icmp_eq 1492 dlaw_407 (by decide) (fun c76 => ?_) (fun c76 => ?_)
                  · replace hr := ip hr c76
                    refine VW.iinc (w := 6) (lo' := [(3, .int (x3 + 6)), (0, .ref b), (1, .ref (γ.2.2.1 0)), (2, .ref (γ.2.2.1 114))]) dlaw_1492 3 rfl ic_6 (by decide) rfl ?_
                    refine VW.goto 18 dlaw_1495 (by decide) ?_
                    exact VW.sub [1, 2, 3, 0] rfl (ih (x3 + 6) h75 hr)
                  · replace hr := im hr c76
                    refine VW.iconst (v := 0) dlaw_410 ic_0 ?_
                    exact nf hr
                · replace hr := im hr c65
                  by_cases c77 : ((xs (ci x3)) &&& 63) = 6
                  · replace hr := ip hr c77
                    refine VW.tableIn (off := 379) 412 dlaw_33 (by rw [c77]; decide) (by rw [c77]; decide) (by rw [c77]; decide) (by decide) ?_
                    refine VW.aload_n dlaw_412 1 rfl ?_
                    refine VW.aload_n dlaw_413 0 rfl ?_
                    refine VW.iload_n dlaw_414 3 rfl ?_
                    refine VW.iconst (v := 1) dlaw_415 ic_1 ?_
                    refine VW.iadd dlaw_416 ?_
                    obtain ⟨g78, hr⟩ := gdt hr
                    refine VW.sld X dlaw_417 g78 ?_
                    refine VW.aload_n dlaw_418 0 rfl ?_
                    refine VW.iload_n dlaw_419 3 rfl ?_
                    refine VW.iconst (v := 2) dlaw_420 ic_2 ?_
                    refine VW.iadd dlaw_421 ?_
                    obtain ⟨g79, hr⟩ := gdt hr
                    refine VW.sld X dlaw_422 g79 ?_
                    obtain ⟨r81, h82, e80, hr⟩ := bno2 hr
                    refine VW.callV (As := [.int (xs (ci (x3 + 1))), .int (xs (ci (x3 + 2)))]) (st := []) dlaw_423 mi_8_said cv_RL_40 (oo_8 o8_0) ⟨rfl, rfl⟩ (by decide) (dl1 hd) _ rfl (Nat.le_of_ble_eq_true rfl) rfl (c_8_said (dl hd rfl) e80) (kI ?_)
                    refine VW.aload_n dlaw_426 2 rfl ?_
                    refine VW.aload_n dlaw_427 0 rfl ?_
                    refine VW.iload_n dlaw_428 3 rfl ?_
                    refine VW.iconst (v := 1) dlaw_429 ic_1 ?_
                    refine VW.iadd dlaw_430 ?_
                    obtain ⟨g83, hr⟩ := gdt hr
                    refine VW.sld X dlaw_431 g83 ?_
                    refine VW.aload_n dlaw_432 0 rfl ?_
                    refine VW.iload_n dlaw_433 3 rfl ?_
                    refine VW.iconst (v := 2) dlaw_434 ic_2 ?_
                    refine VW.iadd dlaw_435 ?_
                    obtain ⟨g84, hr⟩ := gdt hr
                    refine VW.sld X dlaw_436 g84 ?_
                    obtain ⟨r86, h87, e85, hr⟩ := bno2 hr
                    refine VW.callV (As := [.int (xs (ci (x3 + 1))), .int (xs (ci (x3 + 2)))]) (st := [.int r81]) dlaw_437 mi_9_said cv_RL_43 (oo_9 o9_114) ⟨rfl, rfl⟩ (by decide) (dl1 hd) _ rfl (Nat.le_of_ble_eq_true rfl) rfl (c_9_said (dl hd rfl) e85) (kI ?_)
                    refine VW.icmp_eq 1492 dlaw_440 (by decide) (fun c88 => ?_) (fun c88 => ?_)
                    · replace hr := ip hr c88
                      refine VW.iinc (w := 6) (lo' := [(3, .int (x3 + 6)), (0, .ref b), (1, .ref (γ.2.2.1 0)), (2, .ref (γ.2.2.1 114))]) dlaw_1492 3 rfl ic_6 (by decide) rfl ?_
                      refine VW.goto 18 dlaw_1495 (by decide) ?_
                      exact VW.sub [1, 2, 3, 0] rfl (ih (x3 + 6) h87 hr)
                    · replace hr := im hr c88
                      refine VW.iconst (v := 0) dlaw_443 ic_0 ?_
                      exact nf hr
                  · replace hr := im hr c77
                    by_cases c89 : ((xs (ci x3)) &&& 63) = 7
                    · replace hr := ip hr c89
                      refine VW.tableIn (off := 412) 445 dlaw_33 (by rw [c89]; decide) (by rw [c89]; decide) (by rw [c89]; decide) (by decide) ?_
                      refine VW.aload_n dlaw_445 1 rfl ?_
                      refine VW.aload_n dlaw_446 0 rfl ?_
                      refine VW.iload_n dlaw_447 3 rfl ?_
                      refine VW.iconst (v := 1) dlaw_448 ic_1 ?_
                      refine VW.iadd dlaw_449 ?_
                      obtain ⟨g90, hr⟩ := gdt hr
                      refine VW.sld X dlaw_450 g90 ?_
                      refine VW.aload_n dlaw_451 0 rfl ?_
                      refine VW.iload_n dlaw_452 3 rfl ?_
                      refine VW.iconst (v := 2) dlaw_453 ic_2 ?_
                      refine VW.iadd dlaw_454 ?_
                      obtain ⟨g91, hr⟩ := gdt hr
                      refine VW.sld X dlaw_455 g91 ?_
                      obtain ⟨r93, h94, e92, hr⟩ := bno2 hr
                      refine VW.callV (As := [.int (xs (ci (x3 + 1))), .int (xs (ci (x3 + 2)))]) (st := []) dlaw_456 mi_8_become cv_RL_44 (oo_8 o8_0) ⟨rfl, rfl⟩ (by decide) (dl1 hd) _ rfl (Nat.le_of_ble_eq_true rfl) rfl (c_8_become (dl hd rfl) e92) (kI ?_)
                      refine VW.aload_n dlaw_459 2 rfl ?_
                      refine VW.aload_n dlaw_460 0 rfl ?_
                      refine VW.iload_n dlaw_461 3 rfl ?_
                      refine VW.iconst (v := 1) dlaw_462 ic_1 ?_
                      refine VW.iadd dlaw_463 ?_
                      obtain ⟨g95, hr⟩ := gdt hr
                      refine VW.sld X dlaw_464 g95 ?_
                      refine VW.aload_n dlaw_465 0 rfl ?_
                      refine VW.iload_n dlaw_466 3 rfl ?_
                      refine VW.iconst (v := 2) dlaw_467 ic_2 ?_
                      refine VW.iadd dlaw_468 ?_
                      obtain ⟨g96, hr⟩ := gdt hr
                      refine VW.sld X dlaw_469 g96 ?_
                      obtain ⟨r98, h99, e97, hr⟩ := bno2 hr
                      refine VW.callV (As := [.int (xs (ci (x3 + 1))), .int (xs (ci (x3 + 2)))]) (st := [.int r93]) dlaw_470 mi_9_become cv_RL_47 (oo_9 o9_114) ⟨rfl, rfl⟩ (by decide) (dl1 hd) _ rfl (Nat.le_of_ble_eq_true rfl) rfl (c_9_become (dl hd rfl) e97) (kI ?_)
                      refine VW.icmp_eq 1492 dlaw_473 (by decide) (fun c100 => ?_) (fun c100 => ?_)
                      · replace hr := ip hr c100
                        refine VW.iinc (w := 6) (lo' := [(3, .int (x3 + 6)), (0, .ref b), (1, .ref (γ.2.2.1 0)), (2, .ref (γ.2.2.1 114))]) dlaw_1492 3 rfl ic_6 (by decide) rfl ?_
                        refine VW.goto 18 dlaw_1495 (by decide) ?_
                        exact VW.sub [1, 2, 3, 0] rfl (ih (x3 + 6) h99 hr)
                      · replace hr := im hr c100
                        refine VW.iconst (v := 0) dlaw_476 ic_0 ?_
                        exact nf hr
                    · replace hr := im hr c89
                      by_cases c101 : ((xs (ci x3)) &&& 63) = 8
                      · replace hr := ip hr c101
                        refine VW.tableIn (off := 445) 478 dlaw_33 (by rw [c101]; decide) (by rw [c101]; decide) (by rw [c101]; decide) (by decide) ?_
                        refine VW.aload_n dlaw_478 1 rfl ?_
                        refine VW.aload_n dlaw_479 0 rfl ?_
                        refine VW.iload_n dlaw_480 3 rfl ?_
                        refine VW.iconst (v := 1) dlaw_481 ic_1 ?_
                        refine VW.iadd dlaw_482 ?_
                        obtain ⟨g102, hr⟩ := gdt hr
                        refine VW.sld X dlaw_483 g102 ?_
                        refine VW.aload_n dlaw_484 0 rfl ?_
                        refine VW.iload_n dlaw_485 3 rfl ?_
                        refine VW.iconst (v := 2) dlaw_486 ic_2 ?_
                        refine VW.iadd dlaw_487 ?_
                        obtain ⟨g103, hr⟩ := gdt hr
                        refine VW.sld X dlaw_488 g103 ?_
                        obtain ⟨r105, h106, e104, hr⟩ := bno2 hr
                        refine VW.callV (As := [.int (xs (ci (x3 + 1))), .int (xs (ci (x3 + 2)))]) (st := []) dlaw_489 mi_8_as cv_RL_48 (oo_8 o8_0) ⟨rfl, rfl⟩ (by decide) (dl1 hd) _ rfl (Nat.le_of_ble_eq_true rfl) rfl (c_8_as (dl hd rfl) e104) (kI ?_)
                        refine VW.aload_n dlaw_492 2 rfl ?_
                        refine VW.aload_n dlaw_493 0 rfl ?_
                        refine VW.iload_n dlaw_494 3 rfl ?_
                        refine VW.iconst (v := 1) dlaw_495 ic_1 ?_
                        refine VW.iadd dlaw_496 ?_
                        obtain ⟨g107, hr⟩ := gdt hr
                        refine VW.sld X dlaw_497 g107 ?_
                        refine VW.aload_n dlaw_498 0 rfl ?_
                        refine VW.iload_n dlaw_499 3 rfl ?_
                        refine VW.iconst (v := 2) dlaw_500 ic_2 ?_
                        refine VW.iadd dlaw_501 ?_
                        obtain ⟨g108, hr⟩ := gdt hr
                        refine VW.sld X dlaw_502 g108 ?_
                        obtain ⟨r110, h111, e109, hr⟩ := bno2 hr
                        refine VW.callV (As := [.int (xs (ci (x3 + 1))), .int (xs (ci (x3 + 2)))]) (st := [.int r105]) dlaw_503 mi_9_as cv_RL_51 (oo_9 o9_114) ⟨rfl, rfl⟩ (by decide) (dl1 hd) _ rfl (Nat.le_of_ble_eq_true rfl) rfl (c_9_as (dl hd rfl) e109) (kI ?_)
                        refine VW.icmp_eq 1492 dlaw_506 (by decide) (fun c112 => ?_) (fun c112 => ?_)
                        · replace hr := ip hr c112
                          refine VW.iinc (w := 6) (lo' := [(3, .int (x3 + 6)), (0, .ref b), (1, .ref (γ.2.2.1 0)), (2, .ref (γ.2.2.1 114))]) dlaw_1492 3 rfl ic_6 (by decide) rfl ?_
                          refine VW.goto 18 dlaw_1495 (by decide) ?_
                          exact VW.sub [1, 2, 3, 0] rfl (ih (x3 + 6) h111 hr)
                        · replace hr := im hr c112
                          refine VW.iconst (v := 0) dlaw_509 ic_0 ?_
                          exact nf hr
                      · replace hr := im hr c101
                        by_cases c113 : ((xs (ci x3)) &&& 63) = 9
                        · replace hr := ip hr c113
                          refine VW.tableIn (off := 478) 511 dlaw_33 (by rw [c113]; decide) (by rw [c113]; decide) (by rw [c113]; decide) (by decide) ?_
                          refine VW.aload_n dlaw_511 1 rfl ?_
                          refine VW.aload_n dlaw_512 0 rfl ?_
                          refine VW.iload_n dlaw_513 3 rfl ?_
                          refine VW.iconst (v := 1) dlaw_514 ic_1 ?_
                          refine VW.iadd dlaw_515 ?_
                          obtain ⟨g114, hr⟩ := gdt hr
                          refine VW.sld X dlaw_516 g114 ?_
                          refine VW.aload_n dlaw_517 0 rfl ?_
                          refine VW.iload_n dlaw_518 3 rfl ?_
                          refine VW.iconst (v := 2) dlaw_519 ic_2 ?_
                          refine VW.iadd dlaw_520 ?_
                          obtain ⟨g115, hr⟩ := gdt hr
                          refine VW.sld X dlaw_521 g115 ?_
                          obtain ⟨r117, h118, e116, hr⟩ := bno2 hr
                          refine VW.callV (As := [.int (xs (ci (x3 + 1))), .int (xs (ci (x3 + 2)))]) (st := []) dlaw_522 mi_8_wanted cv_RL_52 (oo_8 o8_0) ⟨rfl, rfl⟩ (by decide) (dl1 hd) _ rfl (Nat.le_of_ble_eq_true rfl) rfl (c_8_wanted (dl hd rfl) e116) (kI ?_)
                          refine VW.aload_n dlaw_525 2 rfl ?_
                          refine VW.aload_n dlaw_526 0 rfl ?_
                          refine VW.iload_n dlaw_527 3 rfl ?_
                          refine VW.iconst (v := 1) dlaw_528 ic_1 ?_
                          refine VW.iadd dlaw_529 ?_
                          obtain ⟨g119, hr⟩ := gdt hr
                          refine VW.sld X dlaw_530 g119 ?_
                          refine VW.aload_n dlaw_531 0 rfl ?_
                          refine VW.iload_n dlaw_532 3 rfl ?_
                          refine VW.iconst (v := 2) dlaw_533 ic_2 ?_
                          refine VW.iadd dlaw_534 ?_
                          obtain ⟨g120, hr⟩ := gdt hr
                          refine VW.sld X dlaw_535 g120 ?_
                          obtain ⟨r122, h123, e121, hr⟩ := bno2 hr
                          refine VW.callV (As := [.int (xs (ci (x3 + 1))), .int (xs (ci (x3 + 2)))]) (st := [.int r117]) dlaw_536 mi_9_wanted cv_RL_55 (oo_9 o9_114) ⟨rfl, rfl⟩ (by decide) (dl1 hd) _ rfl (Nat.le_of_ble_eq_true rfl) rfl (c_9_wanted (dl hd rfl) e121) (kI ?_)
                          refine VW.icmp_eq 1492 dlaw_539 (by decide) (fun c124 => ?_) (fun c124 => ?_)
                          · replace hr := ip hr c124
                            refine VW.iinc (w := 6) (lo' := [(3, .int (x3 + 6)), (0, .ref b), (1, .ref (γ.2.2.1 0)), (2, .ref (γ.2.2.1 114))]) dlaw_1492 3 rfl ic_6 (by decide) rfl ?_
                            refine VW.goto 18 dlaw_1495 (by decide) ?_
                            exact VW.sub [1, 2, 3, 0] rfl (ih (x3 + 6) h123 hr)
                          · replace hr := im hr c124
                            refine VW.iconst (v := 0) dlaw_542 ic_0 ?_
                            exact nf hr
                        · replace hr := im hr c113
                          by_cases c125 : ((xs (ci x3)) &&& 63) = 10
                          · replace hr := ip hr c125
                            refine VW.tableIn (off := 511) 544 dlaw_33 (by rw [c125]; decide) (by rw [c125]; decide) (by rw [c125]; decide) (by decide) ?_
                            refine VW.aload_n dlaw_544 1 rfl ?_
                            refine VW.aload_n dlaw_545 0 rfl ?_
                            refine VW.iload_n dlaw_546 3 rfl ?_
                            refine VW.iconst (v := 1) dlaw_547 ic_1 ?_
                            refine VW.iadd dlaw_548 ?_
                            obtain ⟨g126, hr⟩ := gdt hr
                            refine VW.sld X dlaw_549 g126 ?_
                            refine VW.aload_n dlaw_550 0 rfl ?_
                            refine VW.iload_n dlaw_551 3 rfl ?_
                            refine VW.iconst (v := 2) dlaw_552 ic_2 ?_
                            refine VW.iadd dlaw_553 ?_
                            obtain ⟨g127, hr⟩ := gdt hr
                            refine VW.sld X dlaw_554 g127 ?_
                            refine VW.aload_n dlaw_555 0 rfl ?_
                            refine VW.iload_n dlaw_556 3 rfl ?_
                            refine VW.iconst (v := 3) dlaw_557 ic_3 ?_
                            refine VW.iadd dlaw_558 ?_
                            obtain ⟨g128, hr⟩ := gdt hr
                            refine VW.sld X dlaw_559 g128 ?_
                            refine VW.aload_n dlaw_560 0 rfl ?_
                            refine VW.iload_n dlaw_561 3 rfl ?_
                            refine VW.iconst (v := 4) dlaw_562 ic_4 ?_
                            refine VW.iadd dlaw_563 ?_
                            obtain ⟨g129, hr⟩ := gdt hr
                            refine VW.sld X dlaw_564 g129 ?_
                            refine VW.aload_n dlaw_565 0 rfl ?_
                            refine VW.iload_n dlaw_566 3 rfl ?_
                            refine VW.iconst (v := 5) dlaw_567 ic_5 ?_
                            refine VW.iadd dlaw_568 ?_
                            obtain ⟨g130, hr⟩ := gdt hr
                            refine VW.sld X dlaw_569 g130 ?_
                            obtain ⟨r132, h133, e131, hr⟩ := bno2 hr
                            refine VW.callV (As := [.int (xs (ci (x3 + 1))), .int (xs (ci (x3 + 2))), .int (xs (ci (x3 + 3))), .int (xs (ci (x3 + 4))), .int (xs (ci (x3 + 5)))]) (st := []) dlaw_570 mi_8_say cv_RL_56 (oo_8 o8_0) ⟨rfl, rfl⟩ (by decide) (dl1 hd) _ rfl (Nat.le_of_ble_eq_true rfl) rfl (c_8_say (dl hd rfl) e131) (kI ?_)
                            refine VW.aload_n dlaw_573 2 rfl ?_
                            refine VW.aload_n dlaw_574 0 rfl ?_
                            refine VW.iload_n dlaw_575 3 rfl ?_
                            refine VW.iconst (v := 1) dlaw_576 ic_1 ?_
                            refine VW.iadd dlaw_577 ?_
                            obtain ⟨g134, hr⟩ := gdt hr
                            refine VW.sld X dlaw_578 g134 ?_
                            refine VW.aload_n dlaw_579 0 rfl ?_
                            refine VW.iload_n dlaw_580 3 rfl ?_
                            refine VW.iconst (v := 2) dlaw_581 ic_2 ?_
                            refine VW.iadd dlaw_582 ?_
                            obtain ⟨g135, hr⟩ := gdt hr
                            refine VW.sld X dlaw_583 g135 ?_
                            refine VW.aload_n dlaw_584 0 rfl ?_
                            refine VW.iload_n dlaw_585 3 rfl ?_
                            refine VW.iconst (v := 3) dlaw_586 ic_3 ?_
                            refine VW.iadd dlaw_587 ?_
                            obtain ⟨g136, hr⟩ := gdt hr
                            refine VW.sld X dlaw_588 g136 ?_
                            refine VW.aload_n dlaw_589 0 rfl ?_
                            refine VW.iload_n dlaw_590 3 rfl ?_
                            refine VW.iconst (v := 4) dlaw_591 ic_4 ?_
                            refine VW.iadd dlaw_592 ?_
                            obtain ⟨g137, hr⟩ := gdt hr
                            refine VW.sld X dlaw_593 g137 ?_
                            refine VW.aload_n dlaw_594 0 rfl ?_
                            refine VW.iload_n dlaw_595 3 rfl ?_
                            refine VW.iconst (v := 5) dlaw_596 ic_5 ?_
                            refine VW.iadd dlaw_597 ?_
                            obtain ⟨g138, hr⟩ := gdt hr
                            refine VW.sld X dlaw_598 g138 ?_
                            obtain ⟨r140, h141, e139, hr⟩ := bno2 hr
                            refine VW.callV (As := [.int (xs (ci (x3 + 1))), .int (xs (ci (x3 + 2))), .int (xs (ci (x3 + 3))), .int (xs (ci (x3 + 4))), .int (xs (ci (x3 + 5)))]) (st := [.int r132]) dlaw_599 mi_9_say cv_RL_60 (oo_9 o9_114) ⟨rfl, rfl⟩ (by decide) (dl1 hd) _ rfl (Nat.le_of_ble_eq_true rfl) rfl (c_9_say (dl hd rfl) e139) (kI ?_)
                            refine VW.icmp_eq 1492 dlaw_602 (by decide) (fun c142 => ?_) (fun c142 => ?_)
                            · replace hr := ip hr c142
                              refine VW.iinc (w := 6) (lo' := [(3, .int (x3 + 6)), (0, .ref b), (1, .ref (γ.2.2.1 0)), (2, .ref (γ.2.2.1 114))]) dlaw_1492 3 rfl ic_6 (by decide) rfl ?_
                              refine VW.goto 18 dlaw_1495 (by decide) ?_
                              exact VW.sub [1, 2, 3, 0] rfl (ih (x3 + 6) h141 hr)
                            · replace hr := im hr c142
                              refine VW.iconst (v := 0) dlaw_605 ic_0 ?_
                              exact nf hr
                          · replace hr := im hr c125
                            by_cases c143 : ((xs (ci x3)) &&& 63) = 11
                            · replace hr := ip hr c143
                              refine VW.tableIn (off := 574) 607 dlaw_33 (by rw [c143]; decide) (by rw [c143]; decide) (by rw [c143]; decide) (by decide) ?_
                              refine VW.aload_n dlaw_607 1 rfl ?_
                              refine VW.aload_n dlaw_608 0 rfl ?_
                              refine VW.iload_n dlaw_609 3 rfl ?_
                              refine VW.iconst (v := 1) dlaw_610 ic_1 ?_
                              refine VW.iadd dlaw_611 ?_
                              obtain ⟨g144, hr⟩ := gdt hr
                              refine VW.sld X dlaw_612 g144 ?_
                              refine VW.i2l dlaw_613 ?_
                              refine VW.bipush (v := 32) dlaw_614 bp_32 ?_
                              refine VW.lshl dlaw_616 ?_
                              refine VW.aload_n dlaw_617 0 rfl ?_
                              refine VW.iload_n dlaw_618 3 rfl ?_
                              refine VW.iconst (v := 2) dlaw_619 ic_2 ?_
                              refine VW.iadd dlaw_620 ?_
                              obtain ⟨g145, hr⟩ := gdt hr
                              refine VW.sld X dlaw_621 g145 ?_
                              refine VW.i2l dlaw_622 ?_
                              refine VW.ldc2 (v := 4294967295) dlaw_623 kc_RL_61 ?_
                              refine VW.land dlaw_626 ?_
                              refine VW.lor dlaw_627 ?_
                              refine VW.aload_n dlaw_628 0 rfl ?_
                              refine VW.iload_n dlaw_629 3 rfl ?_
                              refine VW.iconst (v := 3) dlaw_630 ic_3 ?_
                              refine VW.iadd dlaw_631 ?_
                              obtain ⟨g146, hr⟩ := gdt hr
                              refine VW.sld X dlaw_632 g146 ?_
                              obtain ⟨r148, h149, e147, hr⟩ := bno2 hr
                              refine VW.callV (As := [.long (((Int32.toInt64 (xs (ci (x3 + 1)))) <<< (Int32.toInt64 32 &&& 63)) ||| ((Int32.toInt64 (xs (ci (x3 + 2)))) &&& 4294967295)), .int (xs (ci (x3 + 3)))]) (st := []) dlaw_633 mi_8_feed cv_RL_63 (oo_8 o8_0) ⟨rfl, rfl⟩ (by decide) (dl1 hd) _ rfl (Nat.le_of_ble_eq_true rfl) rfl (c_8_feed (dl hd rfl) e147) (kI ?_)
                              refine VW.aload_n dlaw_636 2 rfl ?_
                              refine VW.aload_n dlaw_637 0 rfl ?_
                              refine VW.iload_n dlaw_638 3 rfl ?_
                              refine VW.iconst (v := 1) dlaw_639 ic_1 ?_
                              refine VW.iadd dlaw_640 ?_
                              obtain ⟨g150, hr⟩ := gdt hr
                              refine VW.sld X dlaw_641 g150 ?_
                              refine VW.i2l dlaw_642 ?_
                              refine VW.bipush (v := 32) dlaw_643 bp_32 ?_
                              refine VW.lshl dlaw_645 ?_
                              refine VW.aload_n dlaw_646 0 rfl ?_
                              refine VW.iload_n dlaw_647 3 rfl ?_
                              refine VW.iconst (v := 2) dlaw_648 ic_2 ?_
                              refine VW.iadd dlaw_649 ?_
                              obtain ⟨g151, hr⟩ := gdt hr
                              refine VW.sld X dlaw_650 g151 ?_
                              refine VW.i2l dlaw_651 ?_
                              refine VW.ldc2 (v := 4294967295) dlaw_652 kc_RL_61 ?_
                              refine VW.land dlaw_655 ?_
                              refine VW.lor dlaw_656 ?_
                              refine VW.aload_n dlaw_657 0 rfl ?_
                              refine VW.iload_n dlaw_658 3 rfl ?_
                              refine VW.iconst (v := 3) dlaw_659 ic_3 ?_
                              refine VW.iadd dlaw_660 ?_
                              obtain ⟨g152, hr⟩ := gdt hr
                              refine VW.sld X dlaw_661 g152 ?_
                              obtain ⟨r154, h155, e153, hr⟩ := bno2 hr
                              refine VW.callV (As := [.long (((Int32.toInt64 (xs (ci (x3 + 1)))) <<< (Int32.toInt64 32 &&& 63)) ||| ((Int32.toInt64 (xs (ci (x3 + 2)))) &&& 4294967295)), .int (xs (ci (x3 + 3)))]) (st := [.int r148]) dlaw_662 mi_9_feed cv_RL_67 (oo_9 o9_114) ⟨rfl, rfl⟩ (by decide) (dl1 hd) _ rfl (Nat.le_of_ble_eq_true rfl) rfl (c_9_feed (dl hd rfl) e153) (kI ?_)
                              refine VW.icmp_eq 1492 dlaw_665 (by decide) (fun c156 => ?_) (fun c156 => ?_)
                              · replace hr := ip hr c156
                                refine VW.iinc (w := 6) (lo' := [(3, .int (x3 + 6)), (0, .ref b), (1, .ref (γ.2.2.1 0)), (2, .ref (γ.2.2.1 114))]) dlaw_1492 3 rfl ic_6 (by decide) rfl ?_
                                refine VW.goto 18 dlaw_1495 (by decide) ?_
                                exact VW.sub [1, 2, 3, 0] rfl (ih (x3 + 6) h155 hr)
                              · replace hr := im hr c156
                                refine VW.iconst (v := 0) dlaw_668 ic_0 ?_
                                exact nf hr
                            · replace hr := im hr c143
                              by_cases c157 : ((xs (ci x3)) &&& 63) = 12
                              · replace hr := ip hr c157
                                refine VW.tableIn (off := 637) 670 dlaw_33 (by rw [c157]; decide) (by rw [c157]; decide) (by rw [c157]; decide) (by decide) ?_
                                refine VW.aload_n dlaw_670 1 rfl ?_
                                refine VW.aload_n dlaw_671 0 rfl ?_
                                refine VW.iload_n dlaw_672 3 rfl ?_
                                refine VW.iconst (v := 1) dlaw_673 ic_1 ?_
                                refine VW.iadd dlaw_674 ?_
                                obtain ⟨g158, hr⟩ := gdt hr
                                refine VW.sld X dlaw_675 g158 ?_
                                obtain ⟨r160, h161, e159, hr⟩ := bno2 hr
                                refine VW.callV (As := [.int (xs (ci (x3 + 1)))]) (st := []) dlaw_676 mi_8_text cv_RL_68 (oo_8 o8_0) ⟨rfl, rfl⟩ (by decide) (dl1 hd) _ rfl (Nat.le_of_ble_eq_true rfl) rfl (c_8_text (dl hd rfl) e159) (kI ?_)
                                refine VW.aload_n dlaw_679 2 rfl ?_
                                refine VW.aload_n dlaw_680 0 rfl ?_
                                refine VW.iload_n dlaw_681 3 rfl ?_
                                refine VW.iconst (v := 1) dlaw_682 ic_1 ?_
                                refine VW.iadd dlaw_683 ?_
                                obtain ⟨g162, hr⟩ := gdt hr
                                refine VW.sld X dlaw_684 g162 ?_
                                obtain ⟨r164, h165, e163, hr⟩ := bno2 hr
                                refine VW.callV (As := [.int (xs (ci (x3 + 1)))]) (st := [.int r160]) dlaw_685 mi_9_text cv_RL_71 (oo_9 o9_114) ⟨rfl, rfl⟩ (by decide) (dl1 hd) _ rfl (Nat.le_of_ble_eq_true rfl) rfl (c_9_text (dl hd rfl) e163) (kI ?_)
                                refine VW.icmp_eq 1492 dlaw_688 (by decide) (fun c166 => ?_) (fun c166 => ?_)
                                · replace hr := ip hr c166
                                  refine VW.iinc (w := 6) (lo' := [(3, .int (x3 + 6)), (0, .ref b), (1, .ref (γ.2.2.1 0)), (2, .ref (γ.2.2.1 114))]) dlaw_1492 3 rfl ic_6 (by decide) rfl ?_
                                  refine VW.goto 18 dlaw_1495 (by decide) ?_
                                  exact VW.sub [1, 2, 3, 0] rfl (ih (x3 + 6) h165 hr)
                                · replace hr := im hr c166
                                  refine VW.iconst (v := 0) dlaw_691 ic_0 ?_
                                  exact nf hr
                              · replace hr := im hr c157
                                by_cases c167 : ((xs (ci x3)) &&& 63) = 13
                                · replace hr := ip hr c167
                                  refine VW.tableIn (off := 660) 693 dlaw_33 (by rw [c167]; decide) (by rw [c167]; decide) (by rw [c167]; decide) (by decide) ?_
                                  refine VW.aload_n dlaw_693 1 rfl ?_
                                  refine VW.aload_n dlaw_694 0 rfl ?_
                                  refine VW.iload_n dlaw_695 3 rfl ?_
                                  refine VW.iconst (v := 1) dlaw_696 ic_1 ?_
                                  refine VW.iadd dlaw_697 ?_
                                  obtain ⟨g168, hr⟩ := gdt hr
                                  refine VW.sld X dlaw_698 g168 ?_
                                  refine VW.aload_n dlaw_699 0 rfl ?_
                                  refine VW.iload_n dlaw_700 3 rfl ?_
                                  refine VW.iconst (v := 2) dlaw_701 ic_2 ?_
                                  refine VW.iadd dlaw_702 ?_
                                  obtain ⟨g169, hr⟩ := gdt hr
                                  refine VW.sld X dlaw_703 g169 ?_
                                  refine VW.aload_n dlaw_704 0 rfl ?_
                                  refine VW.iload_n dlaw_705 3 rfl ?_
                                  refine VW.iconst (v := 3) dlaw_706 ic_3 ?_
                                  refine VW.iadd dlaw_707 ?_
                                  obtain ⟨g170, hr⟩ := gdt hr
                                  refine VW.sld X dlaw_708 g170 ?_
                                  refine VW.aload_n dlaw_709 0 rfl ?_
                                  refine VW.iload_n dlaw_710 3 rfl ?_
                                  refine VW.iconst (v := 4) dlaw_711 ic_4 ?_
                                  refine VW.iadd dlaw_712 ?_
                                  obtain ⟨g171, hr⟩ := gdt hr
                                  refine VW.sld X dlaw_713 g171 ?_
                                  obtain ⟨r173, h174, e172, hr⟩ := bno2 hr
                                  refine VW.callV (As := [.int (xs (ci (x3 + 1))), .int (xs (ci (x3 + 2))), .int (xs (ci (x3 + 3))), .int (xs (ci (x3 + 4)))]) (st := []) dlaw_714 mi_8_law cv_RL_72 (oo_8 o8_0) ⟨rfl, rfl⟩ (by decide) (dl1 hd) _ rfl (Nat.le_of_ble_eq_true rfl) rfl (c_8_law (dl hd rfl) e172) (kI ?_)
                                  refine VW.aload_n dlaw_717 2 rfl ?_
                                  refine VW.aload_n dlaw_718 0 rfl ?_
                                  refine VW.iload_n dlaw_719 3 rfl ?_
                                  refine VW.iconst (v := 1) dlaw_720 ic_1 ?_
                                  refine VW.iadd dlaw_721 ?_
                                  obtain ⟨g175, hr⟩ := gdt hr
                                  refine VW.sld X dlaw_722 g175 ?_
                                  refine VW.aload_n dlaw_723 0 rfl ?_
                                  refine VW.iload_n dlaw_724 3 rfl ?_
                                  refine VW.iconst (v := 2) dlaw_725 ic_2 ?_
                                  refine VW.iadd dlaw_726 ?_
                                  obtain ⟨g176, hr⟩ := gdt hr
                                  refine VW.sld X dlaw_727 g176 ?_
                                  refine VW.aload_n dlaw_728 0 rfl ?_
                                  refine VW.iload_n dlaw_729 3 rfl ?_
                                  refine VW.iconst (v := 3) dlaw_730 ic_3 ?_
                                  refine VW.iadd dlaw_731 ?_
                                  obtain ⟨g177, hr⟩ := gdt hr
                                  refine VW.sld X dlaw_732 g177 ?_
                                  refine VW.aload_n dlaw_733 0 rfl ?_
                                  refine VW.iload_n dlaw_734 3 rfl ?_
                                  refine VW.iconst (v := 4) dlaw_735 ic_4 ?_
                                  refine VW.iadd dlaw_736 ?_
                                  obtain ⟨g178, hr⟩ := gdt hr
                                  refine VW.sld X dlaw_737 g178 ?_
                                  obtain ⟨r180, h181, e179, hr⟩ := bno2 hr
                                  refine VW.callV (As := [.int (xs (ci (x3 + 1))), .int (xs (ci (x3 + 2))), .int (xs (ci (x3 + 3))), .int (xs (ci (x3 + 4)))]) (st := [.int r173]) dlaw_738 mi_9_law cv_RL_76 (oo_9 o9_114) ⟨rfl, rfl⟩ (by decide) (dl1 hd) _ rfl (Nat.le_of_ble_eq_true rfl) rfl (c_9_law (dl hd rfl) e179) (kI ?_)
                                  refine VW.icmp_eq 1492 dlaw_741 (by decide) (fun c182 => ?_) (fun c182 => ?_)
                                  · replace hr := ip hr c182
                                    refine VW.iinc (w := 6) (lo' := [(3, .int (x3 + 6)), (0, .ref b), (1, .ref (γ.2.2.1 0)), (2, .ref (γ.2.2.1 114))]) dlaw_1492 3 rfl ic_6 (by decide) rfl ?_
                                    refine VW.goto 18 dlaw_1495 (by decide) ?_
                                    exact VW.sub [1, 2, 3, 0] rfl (ih (x3 + 6) h181 hr)
                                  · replace hr := im hr c182
                                    refine VW.iconst (v := 0) dlaw_744 ic_0 ?_
                                    exact nf hr
                                · replace hr := im hr c167
                                  by_cases c183 : ((xs (ci x3)) &&& 63) = 14
                                  · replace hr := ip hr c183
                                    refine VW.tableIn (off := 713) 746 dlaw_33 (by rw [c183]; decide) (by rw [c183]; decide) (by rw [c183]; decide) (by decide) ?_
                                    refine VW.aload_n dlaw_746 1 rfl ?_
                                    refine VW.aload_n dlaw_747 0 rfl ?_
                                    refine VW.iload_n dlaw_748 3 rfl ?_
                                    refine VW.iconst (v := 1) dlaw_749 ic_1 ?_
                                    refine VW.iadd dlaw_750 ?_
                                    obtain ⟨g184, hr⟩ := gdt hr
                                    refine VW.sld X dlaw_751 g184 ?_
                                    obtain ⟨r186, h187, e185, hr⟩ := bno2 hr
                                    refine VW.callV (As := [.int (xs (ci (x3 + 1)))]) (st := []) dlaw_752 mi_8_minutes cv_RL_77 (oo_8 o8_0) ⟨rfl, rfl⟩ (by decide) (dl1 hd) _ rfl (Nat.le_of_ble_eq_true rfl) rfl (c_8_minutes (dl hd rfl) e185) (kI ?_)
                                    refine VW.aload_n dlaw_755 2 rfl ?_
                                    refine VW.aload_n dlaw_756 0 rfl ?_
                                    refine VW.iload_n dlaw_757 3 rfl ?_
                                    refine VW.iconst (v := 1) dlaw_758 ic_1 ?_
                                    refine VW.iadd dlaw_759 ?_
                                    obtain ⟨g188, hr⟩ := gdt hr
                                    refine VW.sld X dlaw_760 g188 ?_
                                    obtain ⟨r190, h191, e189, hr⟩ := bno2 hr
                                    refine VW.callV (As := [.int (xs (ci (x3 + 1)))]) (st := [.int r186]) dlaw_761 mi_9_minutes cv_RL_80 (oo_9 o9_114) ⟨rfl, rfl⟩ (by decide) (dl1 hd) _ rfl (Nat.le_of_ble_eq_true rfl) rfl (c_9_minutes (dl hd rfl) e189) (kI ?_)
                                    refine VW.icmp_eq 1492 dlaw_764 (by decide) (fun c192 => ?_) (fun c192 => ?_)
                                    · replace hr := ip hr c192
                                      refine VW.iinc (w := 6) (lo' := [(3, .int (x3 + 6)), (0, .ref b), (1, .ref (γ.2.2.1 0)), (2, .ref (γ.2.2.1 114))]) dlaw_1492 3 rfl ic_6 (by decide) rfl ?_
                                      refine VW.goto 18 dlaw_1495 (by decide) ?_
                                      exact VW.sub [1, 2, 3, 0] rfl (ih (x3 + 6) h191 hr)
                                    · replace hr := im hr c192
                                      refine VW.iconst (v := 0) dlaw_767 ic_0 ?_
                                      exact nf hr
                                  · replace hr := im hr c183
                                    by_cases c193 : ((xs (ci x3)) &&& 63) = 15
                                    · replace hr := ip hr c193
                                      refine VW.tableIn (off := 736) 769 dlaw_33 (by rw [c193]; decide) (by rw [c193]; decide) (by rw [c193]; decide) (by decide) ?_
                                      refine VW.aload_n dlaw_769 1 rfl ?_
                                      refine VW.aload_n dlaw_770 0 rfl ?_
                                      refine VW.iload_n dlaw_771 3 rfl ?_
                                      refine VW.iconst (v := 1) dlaw_772 ic_1 ?_
                                      refine VW.iadd dlaw_773 ?_
                                      obtain ⟨g194, hr⟩ := gdt hr
                                      refine VW.sld X dlaw_774 g194 ?_
                                      obtain ⟨r196, h197, e195, hr⟩ := bno2 hr
                                      refine VW.callV (As := [.int (xs (ci (x3 + 1)))]) (st := []) dlaw_775 mi_8_matinees cv_RL_81 (oo_8 o8_0) ⟨rfl, rfl⟩ (by decide) (dl1 hd) _ rfl (Nat.le_of_ble_eq_true rfl) rfl (c_8_matinees (dl hd rfl) e195) (kI ?_)
                                      refine VW.aload_n dlaw_778 2 rfl ?_
                                      refine VW.aload_n dlaw_779 0 rfl ?_
                                      refine VW.iload_n dlaw_780 3 rfl ?_
                                      refine VW.iconst (v := 1) dlaw_781 ic_1 ?_
                                      refine VW.iadd dlaw_782 ?_
                                      obtain ⟨g198, hr⟩ := gdt hr
                                      refine VW.sld X dlaw_783 g198 ?_
                                      obtain ⟨r200, h201, e199, hr⟩ := bno2 hr
                                      refine VW.callV (As := [.int (xs (ci (x3 + 1)))]) (st := [.int r196]) dlaw_784 mi_9_matinees cv_RL_84 (oo_9 o9_114) ⟨rfl, rfl⟩ (by decide) (dl1 hd) _ rfl (Nat.le_of_ble_eq_true rfl) rfl (c_9_matinees (dl hd rfl) e199) (kI ?_)
                                      refine VW.icmp_eq 1492 dlaw_787 (by decide) (fun c202 => ?_) (fun c202 => ?_)
                                      · replace hr := ip hr c202
                                        refine VW.iinc (w := 6) (lo' := [(3, .int (x3 + 6)), (0, .ref b), (1, .ref (γ.2.2.1 0)), (2, .ref (γ.2.2.1 114))]) dlaw_1492 3 rfl ic_6 (by decide) rfl ?_
                                        refine VW.goto 18 dlaw_1495 (by decide) ?_
                                        exact VW.sub [1, 2, 3, 0] rfl (ih (x3 + 6) h201 hr)
                                      · replace hr := im hr c202
                                        refine VW.iconst (v := 0) dlaw_790 ic_0 ?_
                                        exact nf hr
                                    · replace hr := im hr c193
                                      by_cases c203 : ((xs (ci x3)) &&& 63) = 16
                                      · replace hr := ip hr c203
                                        refine VW.tableIn (off := 759) 792 dlaw_33 (by rw [c203]; decide) (by rw [c203]; decide) (by rw [c203]; decide) (by decide) ?_
                                        refine VW.aload_n dlaw_792 1 rfl ?_
                                        refine VW.aload_n dlaw_793 0 rfl ?_
                                        refine VW.iload_n dlaw_794 3 rfl ?_
                                        refine VW.iconst (v := 1) dlaw_795 ic_1 ?_
                                        refine VW.iadd dlaw_796 ?_
                                        obtain ⟨g204, hr⟩ := gdt hr
                                        refine VW.sld X dlaw_797 g204 ?_
                                        refine VW.aload_n dlaw_798 0 rfl ?_
                                        refine VW.iload_n dlaw_799 3 rfl ?_
                                        refine VW.iconst (v := 2) dlaw_800 ic_2 ?_
                                        refine VW.iadd dlaw_801 ?_
                                        obtain ⟨g205, hr⟩ := gdt hr
                                        refine VW.sld X dlaw_802 g205 ?_
                                        refine VW.aload_n dlaw_803 0 rfl ?_
                                        refine VW.iload_n dlaw_804 3 rfl ?_
                                        refine VW.iconst (v := 3) dlaw_805 ic_3 ?_
                                        refine VW.iadd dlaw_806 ?_
                                        obtain ⟨g206, hr⟩ := gdt hr
                                        refine VW.sld X dlaw_807 g206 ?_
                                        obtain ⟨r208, h209, e207, hr⟩ := bno2 hr
                                        refine VW.callV (As := [.int (xs (ci (x3 + 1))), .int (xs (ci (x3 + 2))), .int (xs (ci (x3 + 3)))]) (st := []) dlaw_808 mi_8_best cv_RL_85 (oo_8 o8_0) ⟨rfl, rfl⟩ (by decide) (dl1 hd) _ rfl (Nat.le_of_ble_eq_true rfl) rfl (c_8_best (dl hd rfl) e207) (kI ?_)
                                        refine VW.aload_n dlaw_811 2 rfl ?_
                                        refine VW.aload_n dlaw_812 0 rfl ?_
                                        refine VW.iload_n dlaw_813 3 rfl ?_
                                        refine VW.iconst (v := 1) dlaw_814 ic_1 ?_
                                        refine VW.iadd dlaw_815 ?_
                                        obtain ⟨g210, hr⟩ := gdt hr
                                        refine VW.sld X dlaw_816 g210 ?_
                                        refine VW.aload_n dlaw_817 0 rfl ?_
                                        refine VW.iload_n dlaw_818 3 rfl ?_
                                        refine VW.iconst (v := 2) dlaw_819 ic_2 ?_
                                        refine VW.iadd dlaw_820 ?_
                                        obtain ⟨g211, hr⟩ := gdt hr
                                        refine VW.sld X dlaw_821 g211 ?_
                                        refine VW.aload_n dlaw_822 0 rfl ?_
                                        refine VW.iload_n dlaw_823 3 rfl ?_
                                        refine VW.iconst (v := 3) dlaw_824 ic_3 ?_
                                        refine VW.iadd dlaw_825 ?_
                                        obtain ⟨g212, hr⟩ := gdt hr
                                        refine VW.sld X dlaw_826 g212 ?_
                                        obtain ⟨r214, h215, e213, hr⟩ := bno2 hr
                                        refine VW.callV (As := [.int (xs (ci (x3 + 1))), .int (xs (ci (x3 + 2))), .int (xs (ci (x3 + 3)))]) (st := [.int r208]) dlaw_827 mi_9_best cv_RL_88 (oo_9 o9_114) ⟨rfl, rfl⟩ (by decide) (dl1 hd) _ rfl (Nat.le_of_ble_eq_true rfl) rfl (c_9_best (dl hd rfl) e213) (kI ?_)
                                        refine VW.icmp_eq 1492 dlaw_830 (by decide) (fun c216 => ?_) (fun c216 => ?_)
                                        · replace hr := ip hr c216
                                          refine VW.iinc (w := 6) (lo' := [(3, .int (x3 + 6)), (0, .ref b), (1, .ref (γ.2.2.1 0)), (2, .ref (γ.2.2.1 114))]) dlaw_1492 3 rfl ic_6 (by decide) rfl ?_
                                          refine VW.goto 18 dlaw_1495 (by decide) ?_
                                          exact VW.sub [1, 2, 3, 0] rfl (ih (x3 + 6) h215 hr)
                                        · replace hr := im hr c216
                                          refine VW.iconst (v := 0) dlaw_833 ic_0 ?_
                                          exact nf hr
                                      · replace hr := im hr c203
                                        by_cases c217 : ((xs (ci x3)) &&& 63) = 17
                                        · replace hr := ip hr c217
                                          refine VW.tableIn (off := 802) 835 dlaw_33 (by rw [c217]; decide) (by rw [c217]; decide) (by rw [c217]; decide) (by decide) ?_
                                          refine VW.aload_n dlaw_835 1 rfl ?_
                                          refine VW.aload_n dlaw_836 0 rfl ?_
                                          refine VW.iload_n dlaw_837 3 rfl ?_
                                          refine VW.iconst (v := 1) dlaw_838 ic_1 ?_
                                          refine VW.iadd dlaw_839 ?_
                                          obtain ⟨g218, hr⟩ := gdt hr
                                          refine VW.sld X dlaw_840 g218 ?_
                                          refine VW.aload_n dlaw_841 0 rfl ?_
                                          refine VW.iload_n dlaw_842 3 rfl ?_
                                          refine VW.iconst (v := 2) dlaw_843 ic_2 ?_
                                          refine VW.iadd dlaw_844 ?_
                                          obtain ⟨g219, hr⟩ := gdt hr
                                          refine VW.sld X dlaw_845 g219 ?_
                                          refine VW.aload_n dlaw_846 0 rfl ?_
                                          refine VW.iload_n dlaw_847 3 rfl ?_
                                          refine VW.iconst (v := 3) dlaw_848 ic_3 ?_
                                          refine VW.iadd dlaw_849 ?_
                                          obtain ⟨g220, hr⟩ := gdt hr
                                          refine VW.sld X dlaw_850 g220 ?_
                                          obtain ⟨r222, h223, e221, hr⟩ := bno2 hr
                                          refine VW.callV (As := [.int (xs (ci (x3 + 1))), .int (xs (ci (x3 + 2))), .int (xs (ci (x3 + 3)))]) (st := []) dlaw_851 mi_8_dearest cv_RL_89 (oo_8 o8_0) ⟨rfl, rfl⟩ (by decide) (dl1 hd) _ rfl (Nat.le_of_ble_eq_true rfl) rfl (c_8_dearest (dl hd rfl) e221) (kI ?_)
                                          refine VW.aload_n dlaw_854 2 rfl ?_
                                          refine VW.aload_n dlaw_855 0 rfl ?_
                                          refine VW.iload_n dlaw_856 3 rfl ?_
                                          refine VW.iconst (v := 1) dlaw_857 ic_1 ?_
                                          refine VW.iadd dlaw_858 ?_
                                          obtain ⟨g224, hr⟩ := gdt hr
                                          refine VW.sld X dlaw_859 g224 ?_
                                          refine VW.aload_n dlaw_860 0 rfl ?_
                                          refine VW.iload_n dlaw_861 3 rfl ?_
                                          refine VW.iconst (v := 2) dlaw_862 ic_2 ?_
                                          refine VW.iadd dlaw_863 ?_
                                          obtain ⟨g225, hr⟩ := gdt hr
                                          refine VW.sld X dlaw_864 g225 ?_
                                          refine VW.aload_n dlaw_865 0 rfl ?_
                                          refine VW.iload_n dlaw_866 3 rfl ?_
                                          refine VW.iconst (v := 3) dlaw_867 ic_3 ?_
                                          refine VW.iadd dlaw_868 ?_
                                          obtain ⟨g226, hr⟩ := gdt hr
                                          refine VW.sld X dlaw_869 g226 ?_
                                          obtain ⟨r228, h229, e227, hr⟩ := bno2 hr
                                          refine VW.callV (As := [.int (xs (ci (x3 + 1))), .int (xs (ci (x3 + 2))), .int (xs (ci (x3 + 3)))]) (st := [.int r222]) dlaw_870 mi_9_dearest cv_RL_92 (oo_9 o9_114) ⟨rfl, rfl⟩ (by decide) (dl1 hd) _ rfl (Nat.le_of_ble_eq_true rfl) rfl (c_9_dearest (dl hd rfl) e227) (kI ?_)
                                          refine VW.icmp_eq 1492 dlaw_873 (by decide) (fun c230 => ?_) (fun c230 => ?_)
                                          · replace hr := ip hr c230
                                            refine VW.iinc (w := 6) (lo' := [(3, .int (x3 + 6)), (0, .ref b), (1, .ref (γ.2.2.1 0)), (2, .ref (γ.2.2.1 114))]) dlaw_1492 3 rfl ic_6 (by decide) rfl ?_
                                            refine VW.goto 18 dlaw_1495 (by decide) ?_
                                            exact VW.sub [1, 2, 3, 0] rfl (ih (x3 + 6) h229 hr)
                                          · replace hr := im hr c230
                                            refine VW.iconst (v := 0) dlaw_876 ic_0 ?_
                                            exact nf hr
                                        · replace hr := im hr c217
                                          by_cases c231 : ((xs (ci x3)) &&& 63) = 18
                                          · replace hr := ip hr c231
                                            refine VW.tableIn (off := 845) 878 dlaw_33 (by rw [c231]; decide) (by rw [c231]; decide) (by rw [c231]; decide) (by decide) ?_
                                            refine VW.aload_n dlaw_878 1 rfl ?_
                                            refine VW.aload_n dlaw_879 0 rfl ?_
                                            refine VW.iload_n dlaw_880 3 rfl ?_
                                            refine VW.iconst (v := 1) dlaw_881 ic_1 ?_
                                            refine VW.iadd dlaw_882 ?_
                                            obtain ⟨g232, hr⟩ := gdt hr
                                            refine VW.sld X dlaw_883 g232 ?_
                                            refine VW.aload_n dlaw_884 0 rfl ?_
                                            refine VW.iload_n dlaw_885 3 rfl ?_
                                            refine VW.iconst (v := 2) dlaw_886 ic_2 ?_
                                            refine VW.iadd dlaw_887 ?_
                                            obtain ⟨g233, hr⟩ := gdt hr
                                            refine VW.sld X dlaw_888 g233 ?_
                                            obtain ⟨r235, h236, e234, hr⟩ := bno2 hr
                                            refine VW.callV (As := [.int (xs (ci (x3 + 1))), .int (xs (ci (x3 + 2)))]) (st := []) dlaw_889 mi_8_heard cv_RL_93 (oo_8 o8_0) ⟨rfl, rfl⟩ (by decide) (dl1 hd) _ rfl (Nat.le_of_ble_eq_true rfl) rfl (c_8_heard (dl hd rfl) e234) (kI ?_)
                                            refine VW.aload_n dlaw_892 2 rfl ?_
                                            refine VW.aload_n dlaw_893 0 rfl ?_
                                            refine VW.iload_n dlaw_894 3 rfl ?_
                                            refine VW.iconst (v := 1) dlaw_895 ic_1 ?_
                                            refine VW.iadd dlaw_896 ?_
                                            obtain ⟨g237, hr⟩ := gdt hr
                                            refine VW.sld X dlaw_897 g237 ?_
                                            refine VW.aload_n dlaw_898 0 rfl ?_
                                            refine VW.iload_n dlaw_899 3 rfl ?_
                                            refine VW.iconst (v := 2) dlaw_900 ic_2 ?_
                                            refine VW.iadd dlaw_901 ?_
                                            obtain ⟨g238, hr⟩ := gdt hr
                                            refine VW.sld X dlaw_902 g238 ?_
                                            obtain ⟨r240, h241, e239, hr⟩ := bno2 hr
                                            refine VW.callV (As := [.int (xs (ci (x3 + 1))), .int (xs (ci (x3 + 2)))]) (st := [.int r235]) dlaw_903 mi_9_heard cv_RL_96 (oo_9 o9_114) ⟨rfl, rfl⟩ (by decide) (dl1 hd) _ rfl (Nat.le_of_ble_eq_true rfl) rfl (c_9_heard (dl hd rfl) e239) (kI ?_)
                                            refine VW.icmp_eq 1492 dlaw_906 (by decide) (fun c242 => ?_) (fun c242 => ?_)
                                            · replace hr := ip hr c242
                                              refine VW.iinc (w := 6) (lo' := [(3, .int (x3 + 6)), (0, .ref b), (1, .ref (γ.2.2.1 0)), (2, .ref (γ.2.2.1 114))]) dlaw_1492 3 rfl ic_6 (by decide) rfl ?_
                                              refine VW.goto 18 dlaw_1495 (by decide) ?_
                                              exact VW.sub [1, 2, 3, 0] rfl (ih (x3 + 6) h241 hr)
                                            · replace hr := im hr c242
                                              refine VW.iconst (v := 0) dlaw_909 ic_0 ?_
                                              exact nf hr
                                          · replace hr := im hr c231
                                            by_cases c243 : ((xs (ci x3)) &&& 63) = 19
                                            · replace hr := ip hr c243
                                              refine VW.tableIn (off := 878) 911 dlaw_33 (by rw [c243]; decide) (by rw [c243]; decide) (by rw [c243]; decide) (by decide) ?_
                                              refine VW.aload_n dlaw_911 1 rfl ?_
                                              refine VW.aload_n dlaw_912 0 rfl ?_
                                              refine VW.iload_n dlaw_913 3 rfl ?_
                                              refine VW.iconst (v := 1) dlaw_914 ic_1 ?_
                                              refine VW.iadd dlaw_915 ?_
                                              obtain ⟨g244, hr⟩ := gdt hr
                                              refine VW.sld X dlaw_916 g244 ?_
                                              obtain ⟨r246, h247, e245, hr⟩ := bno2 hr
                                              refine VW.callV (As := [.int (xs (ci (x3 + 1)))]) (st := []) dlaw_917 mi_8_must cv_RL_97 (oo_8 o8_0) ⟨rfl, rfl⟩ (by decide) (dl1 hd) _ rfl (Nat.le_of_ble_eq_true rfl) rfl (c_8_must (dl hd rfl) e245) (kI ?_)
                                              refine VW.aload_n dlaw_920 2 rfl ?_
                                              refine VW.aload_n dlaw_921 0 rfl ?_
                                              refine VW.iload_n dlaw_922 3 rfl ?_
                                              refine VW.iconst (v := 1) dlaw_923 ic_1 ?_
                                              refine VW.iadd dlaw_924 ?_
                                              obtain ⟨g248, hr⟩ := gdt hr
                                              refine VW.sld X dlaw_925 g248 ?_
                                              obtain ⟨r250, h251, e249, hr⟩ := bno2 hr
                                              refine VW.callV (As := [.int (xs (ci (x3 + 1)))]) (st := [.int r246]) dlaw_926 mi_9_must cv_RL_100 (oo_9 o9_114) ⟨rfl, rfl⟩ (by decide) (dl1 hd) _ rfl (Nat.le_of_ble_eq_true rfl) rfl (c_9_must (dl hd rfl) e249) (kI ?_)
                                              refine VW.icmp_eq 1492 dlaw_929 (by decide) (fun c252 => ?_) (fun c252 => ?_)
                                              · replace hr := ip hr c252
                                                refine VW.iinc (w := 6) (lo' := [(3, .int (x3 + 6)), (0, .ref b), (1, .ref (γ.2.2.1 0)), (2, .ref (γ.2.2.1 114))]) dlaw_1492 3 rfl ic_6 (by decide) rfl ?_
                                                refine VW.goto 18 dlaw_1495 (by decide) ?_
                                                exact VW.sub [1, 2, 3, 0] rfl (ih (x3 + 6) h251 hr)
                                              · replace hr := im hr c252
                                                refine VW.iconst (v := 0) dlaw_932 ic_0 ?_
                                                exact nf hr
                                            · replace hr := im hr c243
                                              by_cases c253 : ((xs (ci x3)) &&& 63) = 20
                                              · replace hr := ip hr c253
                                                refine VW.tableIn (off := 901) 934 dlaw_33 (by rw [c253]; decide) (by rw [c253]; decide) (by rw [c253]; decide) (by decide) ?_
                                                refine VW.aload_n dlaw_934 1 rfl ?_
                                                refine VW.aload_n dlaw_935 0 rfl ?_
                                                refine VW.iload_n dlaw_936 3 rfl ?_
                                                refine VW.iconst (v := 1) dlaw_937 ic_1 ?_
                                                refine VW.iadd dlaw_938 ?_
                                                obtain ⟨g254, hr⟩ := gdt hr
                                                refine VW.sld X dlaw_939 g254 ?_
                                                obtain ⟨r256, h257, e255, hr⟩ := bno2 hr
                                                refine VW.callV (As := [.int (xs (ci (x3 + 1)))]) (st := []) dlaw_940 mi_8_forgotten cv_RL_101 (oo_8 o8_0) ⟨rfl, rfl⟩ (by decide) (dl1 hd) _ rfl (Nat.le_of_ble_eq_true rfl) rfl (c_8_forgotten (dl hd rfl) e255) (kI ?_)
                                                refine VW.aload_n dlaw_943 2 rfl ?_
                                                refine VW.aload_n dlaw_944 0 rfl ?_
                                                refine VW.iload_n dlaw_945 3 rfl ?_
                                                refine VW.iconst (v := 1) dlaw_946 ic_1 ?_
                                                refine VW.iadd dlaw_947 ?_
                                                obtain ⟨g258, hr⟩ := gdt hr
                                                refine VW.sld X dlaw_948 g258 ?_
                                                obtain ⟨r260, h261, e259, hr⟩ := bno2 hr
                                                refine VW.callV (As := [.int (xs (ci (x3 + 1)))]) (st := [.int r256]) dlaw_949 mi_9_forgotten cv_RL_104 (oo_9 o9_114) ⟨rfl, rfl⟩ (by decide) (dl1 hd) _ rfl (Nat.le_of_ble_eq_true rfl) rfl (c_9_forgotten (dl hd rfl) e259) (kI ?_)
                                                refine VW.icmp_eq 1492 dlaw_952 (by decide) (fun c262 => ?_) (fun c262 => ?_)
                                                · replace hr := ip hr c262
                                                  refine VW.iinc (w := 6) (lo' := [(3, .int (x3 + 6)), (0, .ref b), (1, .ref (γ.2.2.1 0)), (2, .ref (γ.2.2.1 114))]) dlaw_1492 3 rfl ic_6 (by decide) rfl ?_
                                                  refine VW.goto 18 dlaw_1495 (by decide) ?_
                                                  exact VW.sub [1, 2, 3, 0] rfl (ih (x3 + 6) h261 hr)
                                                · replace hr := im hr c262
                                                  refine VW.iconst (v := 0) dlaw_955 ic_0 ?_
                                                  exact nf hr
                                              · replace hr := im hr c253
                                                by_cases c263 : ((xs (ci x3)) &&& 63) = 21
                                                · replace hr := ip hr c263
                                                  refine VW.tableIn (off := 924) 957 dlaw_33 (by rw [c263]; decide) (by rw [c263]; decide) (by rw [c263]; decide) (by decide) ?_
                                                  refine VW.aload_n dlaw_957 1 rfl ?_
                                                  refine VW.aload_n dlaw_958 0 rfl ?_
                                                  refine VW.iload_n dlaw_959 3 rfl ?_
                                                  refine VW.iconst (v := 1) dlaw_960 ic_1 ?_
                                                  refine VW.iadd dlaw_961 ?_
                                                  obtain ⟨g264, hr⟩ := gdt hr
                                                  refine VW.sld X dlaw_962 g264 ?_
                                                  refine VW.aload_n dlaw_963 0 rfl ?_
                                                  refine VW.iload_n dlaw_964 3 rfl ?_
                                                  refine VW.iconst (v := 2) dlaw_965 ic_2 ?_
                                                  refine VW.iadd dlaw_966 ?_
                                                  obtain ⟨g265, hr⟩ := gdt hr
                                                  refine VW.sld X dlaw_967 g265 ?_
                                                  refine VW.aload_n dlaw_968 0 rfl ?_
                                                  refine VW.iload_n dlaw_969 3 rfl ?_
                                                  refine VW.iconst (v := 3) dlaw_970 ic_3 ?_
                                                  refine VW.iadd dlaw_971 ?_
                                                  obtain ⟨g266, hr⟩ := gdt hr
                                                  refine VW.sld X dlaw_972 g266 ?_
                                                  obtain ⟨r268, h269, e267, hr⟩ := bno2 hr
                                                  refine VW.callV (As := [.int (xs (ci (x3 + 1))), .int (xs (ci (x3 + 2))), .int (xs (ci (x3 + 3)))]) (st := []) dlaw_973 mi_8_like cv_RL_105 (oo_8 o8_0) ⟨rfl, rfl⟩ (by decide) (dl1 hd) _ rfl (Nat.le_of_ble_eq_true rfl) rfl (c_8_like (dl hd rfl) e267) (kI ?_)
                                                  refine VW.aload_n dlaw_976 2 rfl ?_
                                                  refine VW.aload_n dlaw_977 0 rfl ?_
                                                  refine VW.iload_n dlaw_978 3 rfl ?_
                                                  refine VW.iconst (v := 1) dlaw_979 ic_1 ?_
                                                  refine VW.iadd dlaw_980 ?_
                                                  obtain ⟨g270, hr⟩ := gdt hr
                                                  refine VW.sld X dlaw_981 g270 ?_
                                                  refine VW.aload_n dlaw_982 0 rfl ?_
                                                  refine VW.iload_n dlaw_983 3 rfl ?_
                                                  refine VW.iconst (v := 2) dlaw_984 ic_2 ?_
                                                  refine VW.iadd dlaw_985 ?_
                                                  obtain ⟨g271, hr⟩ := gdt hr
                                                  refine VW.sld X dlaw_986 g271 ?_
                                                  refine VW.aload_n dlaw_987 0 rfl ?_
                                                  refine VW.iload_n dlaw_988 3 rfl ?_
                                                  refine VW.iconst (v := 3) dlaw_989 ic_3 ?_
                                                  refine VW.iadd dlaw_990 ?_
                                                  obtain ⟨g272, hr⟩ := gdt hr
                                                  refine VW.sld X dlaw_991 g272 ?_
                                                  obtain ⟨r274, h275, e273, hr⟩ := bno2 hr
                                                  refine VW.callV (As := [.int (xs (ci (x3 + 1))), .int (xs (ci (x3 + 2))), .int (xs (ci (x3 + 3)))]) (st := [.int r268]) dlaw_992 mi_9_like cv_RL_108 (oo_9 o9_114) ⟨rfl, rfl⟩ (by decide) (dl1 hd) _ rfl (Nat.le_of_ble_eq_true rfl) rfl (c_9_like (dl hd rfl) e273) (kI ?_)
                                                  refine VW.icmp_eq 1492 dlaw_995 (by decide) (fun c276 => ?_) (fun c276 => ?_)
                                                  · replace hr := ip hr c276
                                                    refine VW.iinc (w := 6) (lo' := [(3, .int (x3 + 6)), (0, .ref b), (1, .ref (γ.2.2.1 0)), (2, .ref (γ.2.2.1 114))]) dlaw_1492 3 rfl ic_6 (by decide) rfl ?_
                                                    refine VW.goto 18 dlaw_1495 (by decide) ?_
                                                    exact VW.sub [1, 2, 3, 0] rfl (ih (x3 + 6) h275 hr)
                                                  · replace hr := im hr c276
                                                    refine VW.iconst (v := 0) dlaw_998 ic_0 ?_
                                                    exact nf hr
                                                · replace hr := im hr c263
                                                  by_cases c277 : ((xs (ci x3)) &&& 63) = 22
                                                  · replace hr := ip hr c277
                                                    refine VW.tableIn (off := 967) 1000 dlaw_33 (by rw [c277]; decide) (by rw [c277]; decide) (by rw [c277]; decide) (by decide) ?_
                                                    refine VW.aload_n dlaw_1000 1 rfl ?_
                                                    refine VW.aload_n dlaw_1001 0 rfl ?_
                                                    refine VW.iload_n dlaw_1002 3 rfl ?_
                                                    refine VW.iconst (v := 1) dlaw_1003 ic_1 ?_
                                                    refine VW.iadd dlaw_1004 ?_
                                                    obtain ⟨g278, hr⟩ := gdt hr
                                                    refine VW.sld X dlaw_1005 g278 ?_
                                                    obtain ⟨r280, h281, e279, hr⟩ := bno2 hr
                                                    refine VW.callV (As := [.int (xs (ci (x3 + 1)))]) (st := []) dlaw_1006 mi_8_cast cv_RL_109 (oo_8 o8_0) ⟨rfl, rfl⟩ (by decide) (dl1 hd) _ rfl (Nat.le_of_ble_eq_true rfl) rfl (c_8_cast (dl hd rfl) e279) (kI ?_)
                                                    refine VW.aload_n dlaw_1009 2 rfl ?_
                                                    refine VW.aload_n dlaw_1010 0 rfl ?_
                                                    refine VW.iload_n dlaw_1011 3 rfl ?_
                                                    refine VW.iconst (v := 1) dlaw_1012 ic_1 ?_
                                                    refine VW.iadd dlaw_1013 ?_
                                                    obtain ⟨g282, hr⟩ := gdt hr
                                                    refine VW.sld X dlaw_1014 g282 ?_
                                                    obtain ⟨r284, h285, e283, hr⟩ := bno2 hr
                                                    refine VW.callV (As := [.int (xs (ci (x3 + 1)))]) (st := [.int r280]) dlaw_1015 mi_9_cast cv_RL_112 (oo_9 o9_114) ⟨rfl, rfl⟩ (by decide) (dl1 hd) _ rfl (Nat.le_of_ble_eq_true rfl) rfl (c_9_cast (dl hd rfl) e283) (kI ?_)
                                                    refine VW.icmp_eq 1492 dlaw_1018 (by decide) (fun c286 => ?_) (fun c286 => ?_)
                                                    · replace hr := ip hr c286
                                                      refine VW.iinc (w := 6) (lo' := [(3, .int (x3 + 6)), (0, .ref b), (1, .ref (γ.2.2.1 0)), (2, .ref (γ.2.2.1 114))]) dlaw_1492 3 rfl ic_6 (by decide) rfl ?_
                                                      refine VW.goto 18 dlaw_1495 (by decide) ?_
                                                      exact VW.sub [1, 2, 3, 0] rfl (ih (x3 + 6) h285 hr)
                                                    · replace hr := im hr c286
                                                      refine VW.iconst (v := 0) dlaw_1021 ic_0 ?_
                                                      exact nf hr
                                                  · replace hr := im hr c277
                                                    by_cases c287 : ((xs (ci x3)) &&& 63) = 23
                                                    · replace hr := ip hr c287
                                                      refine VW.tableIn (off := 990) 1023 dlaw_33 (by rw [c287]; decide) (by rw [c287]; decide) (by rw [c287]; decide) (by decide) ?_
                                                      refine VW.aload_n dlaw_1023 1 rfl ?_
                                                      refine VW.aload_n dlaw_1024 0 rfl ?_
                                                      refine VW.iload_n dlaw_1025 3 rfl ?_
                                                      refine VW.iconst (v := 1) dlaw_1026 ic_1 ?_
                                                      refine VW.iadd dlaw_1027 ?_
                                                      obtain ⟨g288, hr⟩ := gdt hr
                                                      refine VW.sld X dlaw_1028 g288 ?_
                                                      refine VW.aload_n dlaw_1029 0 rfl ?_
                                                      refine VW.iload_n dlaw_1030 3 rfl ?_
                                                      refine VW.iconst (v := 2) dlaw_1031 ic_2 ?_
                                                      refine VW.iadd dlaw_1032 ?_
                                                      obtain ⟨g289, hr⟩ := gdt hr
                                                      refine VW.sld X dlaw_1033 g289 ?_
                                                      refine VW.aload_n dlaw_1034 0 rfl ?_
                                                      refine VW.iload_n dlaw_1035 3 rfl ?_
                                                      refine VW.iconst (v := 3) dlaw_1036 ic_3 ?_
                                                      refine VW.iadd dlaw_1037 ?_
                                                      obtain ⟨g290, hr⟩ := gdt hr
                                                      refine VW.sld X dlaw_1038 g290 ?_
                                                      obtain ⟨r292, h293, e291, hr⟩ := bno2 hr
                                                      refine VW.callV (As := [.int (xs (ci (x3 + 1))), .int (xs (ci (x3 + 2))), .int (xs (ci (x3 + 3)))]) (st := []) dlaw_1039 mi_8_takes cv_RL_113 (oo_8 o8_0) ⟨rfl, rfl⟩ (by decide) (dl1 hd) _ rfl (Nat.le_of_ble_eq_true rfl) rfl (c_8_takes (dl hd rfl) e291) (kL ?_)
                                                      refine VW.aload_n dlaw_1042 2 rfl ?_
                                                      refine VW.aload_n dlaw_1043 0 rfl ?_
                                                      refine VW.iload_n dlaw_1044 3 rfl ?_
                                                      refine VW.iconst (v := 1) dlaw_1045 ic_1 ?_
                                                      refine VW.iadd dlaw_1046 ?_
                                                      obtain ⟨g294, hr⟩ := gdt hr
                                                      refine VW.sld X dlaw_1047 g294 ?_
                                                      refine VW.aload_n dlaw_1048 0 rfl ?_
                                                      refine VW.iload_n dlaw_1049 3 rfl ?_
                                                      refine VW.iconst (v := 2) dlaw_1050 ic_2 ?_
                                                      refine VW.iadd dlaw_1051 ?_
                                                      obtain ⟨g295, hr⟩ := gdt hr
                                                      refine VW.sld X dlaw_1052 g295 ?_
                                                      refine VW.aload_n dlaw_1053 0 rfl ?_
                                                      refine VW.iload_n dlaw_1054 3 rfl ?_
                                                      refine VW.iconst (v := 3) dlaw_1055 ic_3 ?_
                                                      refine VW.iadd dlaw_1056 ?_
                                                      obtain ⟨g296, hr⟩ := gdt hr
                                                      refine VW.sld X dlaw_1057 g296 ?_
                                                      obtain ⟨r298, h299, e297, hr⟩ := bno2 hr
                                                      refine VW.callV (As := [.int (xs (ci (x3 + 1))), .int (xs (ci (x3 + 2))), .int (xs (ci (x3 + 3)))]) (st := [.long r292]) dlaw_1058 mi_9_takes_ cv_RL_117 (oo_9 o9_114) ⟨rfl, rfl⟩ (by decide) (dl1 hd) _ rfl (Nat.le_of_ble_eq_true rfl) rfl (c_9_takes_ (dl hd rfl) e297) (kL ?_)
                                                      refine VW.lcmp dlaw_1061 ?_
                                                      refine VW.if_eq 1492 dlaw_1062 (by decide) (fun c300 => ?_) (fun c300 => ?_)
                                                      · replace hr := ip hr c300
                                                        refine VW.iinc (w := 6) (lo' := [(3, .int (x3 + 6)), (0, .ref b), (1, .ref (γ.2.2.1 0)), (2, .ref (γ.2.2.1 114))]) dlaw_1492 3 rfl ic_6 (by decide) rfl ?_
                                                        refine VW.goto 18 dlaw_1495 (by decide) ?_
                                                        exact VW.sub [1, 2, 3, 0] rfl (ih (x3 + 6) h299 hr)
                                                      · replace hr := im hr c300
                                                        refine VW.iconst (v := 0) dlaw_1065 ic_0 ?_
                                                        exact nf hr
                                                    · replace hr := im hr c287
                                                      by_cases c301 : ((xs (ci x3)) &&& 63) = 24
                                                      · replace hr := ip hr c301
                                                        refine VW.tableIn (off := 1034) 1067 dlaw_33 (by rw [c301]; decide) (by rw [c301]; decide) (by rw [c301]; decide) (by decide) ?_
                                                        refine VW.aload_n dlaw_1067 1 rfl ?_
                                                        refine VW.aload_n dlaw_1068 0 rfl ?_
                                                        refine VW.iload_n dlaw_1069 3 rfl ?_
                                                        refine VW.iconst (v := 1) dlaw_1070 ic_1 ?_
                                                        refine VW.iadd dlaw_1071 ?_
                                                        obtain ⟨g302, hr⟩ := gdt hr
                                                        refine VW.sld X dlaw_1072 g302 ?_
                                                        refine VW.aload_n dlaw_1073 0 rfl ?_
                                                        refine VW.iload_n dlaw_1074 3 rfl ?_
                                                        refine VW.iconst (v := 2) dlaw_1075 ic_2 ?_
                                                        refine VW.iadd dlaw_1076 ?_
                                                        obtain ⟨g303, hr⟩ := gdt hr
                                                        refine VW.sld X dlaw_1077 g303 ?_
                                                        obtain ⟨r305, h306, e304, hr⟩ := bno2 hr
                                                        refine VW.callV (As := [.int (xs (ci (x3 + 1))), .int (xs (ci (x3 + 2)))]) (st := []) dlaw_1078 mi_8_enough cv_RL_118 (oo_8 o8_0) ⟨rfl, rfl⟩ (by decide) (dl1 hd) _ rfl (Nat.le_of_ble_eq_true rfl) rfl (c_8_enough (dl hd rfl) e304) (kI ?_)
                                                        refine VW.aload_n dlaw_1081 2 rfl ?_
                                                        refine VW.aload_n dlaw_1082 0 rfl ?_
                                                        refine VW.iload_n dlaw_1083 3 rfl ?_
                                                        refine VW.iconst (v := 1) dlaw_1084 ic_1 ?_
                                                        refine VW.iadd dlaw_1085 ?_
                                                        obtain ⟨g307, hr⟩ := gdt hr
                                                        refine VW.sld X dlaw_1086 g307 ?_
                                                        refine VW.aload_n dlaw_1087 0 rfl ?_
                                                        refine VW.iload_n dlaw_1088 3 rfl ?_
                                                        refine VW.iconst (v := 2) dlaw_1089 ic_2 ?_
                                                        refine VW.iadd dlaw_1090 ?_
                                                        obtain ⟨g308, hr⟩ := gdt hr
                                                        refine VW.sld X dlaw_1091 g308 ?_
                                                        obtain ⟨r310, h311, e309, hr⟩ := bno2 hr
                                                        refine VW.callV (As := [.int (xs (ci (x3 + 1))), .int (xs (ci (x3 + 2)))]) (st := [.int r305]) dlaw_1092 mi_9_enough cv_RL_121 (oo_9 o9_114) ⟨rfl, rfl⟩ (by decide) (dl1 hd) _ rfl (Nat.le_of_ble_eq_true rfl) rfl (c_9_enough (dl hd rfl) e309) (kI ?_)
                                                        refine VW.icmp_eq 1492 dlaw_1095 (by decide) (fun c312 => ?_) (fun c312 => ?_)
                                                        · replace hr := ip hr c312
                                                          refine VW.iinc (w := 6) (lo' := [(3, .int (x3 + 6)), (0, .ref b), (1, .ref (γ.2.2.1 0)), (2, .ref (γ.2.2.1 114))]) dlaw_1492 3 rfl ic_6 (by decide) rfl ?_
                                                          refine VW.goto 18 dlaw_1495 (by decide) ?_
                                                          exact VW.sub [1, 2, 3, 0] rfl (ih (x3 + 6) h311 hr)
                                                        · replace hr := im hr c312
                                                          refine VW.iconst (v := 0) dlaw_1098 ic_0 ?_
                                                          exact nf hr
                                                      · replace hr := im hr c301
                                                        by_cases c313 : ((xs (ci x3)) &&& 63) = 25
                                                        · replace hr := ip hr c313
                                                          refine VW.tableIn (off := 1067) 1100 dlaw_33 (by rw [c313]; decide) (by rw [c313]; decide) (by rw [c313]; decide) (by decide) ?_
                                                          refine VW.aload_n dlaw_1100 1 rfl ?_
                                                          refine VW.aload_n dlaw_1101 0 rfl ?_
                                                          refine VW.iload_n dlaw_1102 3 rfl ?_
                                                          refine VW.iconst (v := 1) dlaw_1103 ic_1 ?_
                                                          refine VW.iadd dlaw_1104 ?_
                                                          obtain ⟨g314, hr⟩ := gdt hr
                                                          refine VW.sld X dlaw_1105 g314 ?_
                                                          obtain ⟨r316, h317, e315, hr⟩ := bno2 hr
                                                          refine VW.callV (As := [.int (xs (ci (x3 + 1)))]) (st := []) dlaw_1106 mi_8_seed cv_RL_122 (oo_8 o8_0) ⟨rfl, rfl⟩ (by decide) (dl1 hd) _ rfl (Nat.le_of_ble_eq_true rfl) rfl (c_8_seed (dl hd rfl) e315) (kI ?_)
                                                          refine VW.aload_n dlaw_1109 2 rfl ?_
                                                          refine VW.aload_n dlaw_1110 0 rfl ?_
                                                          refine VW.iload_n dlaw_1111 3 rfl ?_
                                                          refine VW.iconst (v := 1) dlaw_1112 ic_1 ?_
                                                          refine VW.iadd dlaw_1113 ?_
                                                          obtain ⟨g318, hr⟩ := gdt hr
                                                          refine VW.sld X dlaw_1114 g318 ?_
                                                          obtain ⟨r320, h321, e319, hr⟩ := bno2 hr
                                                          refine VW.callV (As := [.int (xs (ci (x3 + 1)))]) (st := [.int r316]) dlaw_1115 mi_9_seed cv_RL_125 (oo_9 o9_114) ⟨rfl, rfl⟩ (by decide) (dl1 hd) _ rfl (Nat.le_of_ble_eq_true rfl) rfl (c_9_seed (dl hd rfl) e319) (kI ?_)
                                                          refine VW.icmp_eq 1492 dlaw_1118 (by decide) (fun c322 => ?_) (fun c322 => ?_)
                                                          · replace hr := ip hr c322
                                                            refine VW.iinc (w := 6) (lo' := [(3, .int (x3 + 6)), (0, .ref b), (1, .ref (γ.2.2.1 0)), (2, .ref (γ.2.2.1 114))]) dlaw_1492 3 rfl ic_6 (by decide) rfl ?_
                                                            refine VW.goto 18 dlaw_1495 (by decide) ?_
                                                            exact VW.sub [1, 2, 3, 0] rfl (ih (x3 + 6) h321 hr)
                                                          · replace hr := im hr c322
                                                            refine VW.iconst (v := 0) dlaw_1121 ic_0 ?_
                                                            exact nf hr
                                                        · replace hr := im hr c313
                                                          by_cases c323 : ((xs (ci x3)) &&& 63) = 26
                                                          · replace hr := ip hr c323
                                                            refine VW.tableIn (off := 1090) 1123 dlaw_33 (by rw [c323]; decide) (by rw [c323]; decide) (by rw [c323]; decide) (by decide) ?_
                                                            refine VW.aload_n dlaw_1123 1 rfl ?_
                                                            refine VW.aload_n dlaw_1124 0 rfl ?_
                                                            refine VW.iload_n dlaw_1125 3 rfl ?_
                                                            refine VW.iconst (v := 1) dlaw_1126 ic_1 ?_
                                                            refine VW.iadd dlaw_1127 ?_
                                                            obtain ⟨g324, hr⟩ := gdt hr
                                                            refine VW.sld X dlaw_1128 g324 ?_
                                                            refine VW.aload_n dlaw_1129 0 rfl ?_
                                                            refine VW.iload_n dlaw_1130 3 rfl ?_
                                                            refine VW.iconst (v := 2) dlaw_1131 ic_2 ?_
                                                            refine VW.iadd dlaw_1132 ?_
                                                            obtain ⟨g325, hr⟩ := gdt hr
                                                            refine VW.sld X dlaw_1133 g325 ?_
                                                            refine VW.aload_n dlaw_1134 0 rfl ?_
                                                            refine VW.iload_n dlaw_1135 3 rfl ?_
                                                            refine VW.iconst (v := 3) dlaw_1136 ic_3 ?_
                                                            refine VW.iadd dlaw_1137 ?_
                                                            obtain ⟨g326, hr⟩ := gdt hr
                                                            refine VW.sld X dlaw_1138 g326 ?_
                                                            obtain ⟨r328, h329, e327, hr⟩ := bno2 hr
                                                            refine VW.callV (As := [.int (xs (ci (x3 + 1))), .int (xs (ci (x3 + 2))), .int (xs (ci (x3 + 3)))]) (st := []) dlaw_1139 mi_8_voice cv_RL_126 (oo_8 o8_0) ⟨rfl, rfl⟩ (by decide) (dl1 hd) _ rfl (Nat.le_of_ble_eq_true rfl) rfl (c_8_voice (dl hd rfl) e327) (kI ?_)
                                                            refine VW.aload_n dlaw_1142 2 rfl ?_
                                                            refine VW.aload_n dlaw_1143 0 rfl ?_
                                                            refine VW.iload_n dlaw_1144 3 rfl ?_
                                                            refine VW.iconst (v := 1) dlaw_1145 ic_1 ?_
                                                            refine VW.iadd dlaw_1146 ?_
                                                            obtain ⟨g330, hr⟩ := gdt hr
                                                            refine VW.sld X dlaw_1147 g330 ?_
                                                            refine VW.aload_n dlaw_1148 0 rfl ?_
                                                            refine VW.iload_n dlaw_1149 3 rfl ?_
                                                            refine VW.iconst (v := 2) dlaw_1150 ic_2 ?_
                                                            refine VW.iadd dlaw_1151 ?_
                                                            obtain ⟨g331, hr⟩ := gdt hr
                                                            refine VW.sld X dlaw_1152 g331 ?_
                                                            refine VW.aload_n dlaw_1153 0 rfl ?_
                                                            refine VW.iload_n dlaw_1154 3 rfl ?_
                                                            refine VW.iconst (v := 3) dlaw_1155 ic_3 ?_
                                                            refine VW.iadd dlaw_1156 ?_
                                                            obtain ⟨g332, hr⟩ := gdt hr
                                                            refine VW.sld X dlaw_1157 g332 ?_
                                                            obtain ⟨r334, h335, e333, hr⟩ := bno2 hr
                                                            refine VW.callV (As := [.int (xs (ci (x3 + 1))), .int (xs (ci (x3 + 2))), .int (xs (ci (x3 + 3)))]) (st := [.int r328]) dlaw_1158 mi_9_voice cv_RL_129 (oo_9 o9_114) ⟨rfl, rfl⟩ (by decide) (dl1 hd) _ rfl (Nat.le_of_ble_eq_true rfl) rfl (c_9_voice (dl hd rfl) e333) (kI ?_)
                                                            refine VW.icmp_eq 1492 dlaw_1161 (by decide) (fun c336 => ?_) (fun c336 => ?_)
                                                            · replace hr := ip hr c336
                                                              refine VW.iinc (w := 6) (lo' := [(3, .int (x3 + 6)), (0, .ref b), (1, .ref (γ.2.2.1 0)), (2, .ref (γ.2.2.1 114))]) dlaw_1492 3 rfl ic_6 (by decide) rfl ?_
                                                              refine VW.goto 18 dlaw_1495 (by decide) ?_
                                                              exact VW.sub [1, 2, 3, 0] rfl (ih (x3 + 6) h335 hr)
                                                            · replace hr := im hr c336
                                                              refine VW.iconst (v := 0) dlaw_1164 ic_0 ?_
                                                              exact nf hr
                                                          · replace hr := im hr c323
                                                            by_cases c337 : ((xs (ci x3)) &&& 63) = 27
                                                            · replace hr := ip hr c337
                                                              refine VW.tableIn (off := 1133) 1166 dlaw_33 (by rw [c337]; decide) (by rw [c337]; decide) (by rw [c337]; decide) (by decide) ?_
                                                              refine VW.aload_n dlaw_1166 1 rfl ?_
                                                              refine VW.aload_n dlaw_1167 0 rfl ?_
                                                              refine VW.iload_n dlaw_1168 3 rfl ?_
                                                              refine VW.iconst (v := 1) dlaw_1169 ic_1 ?_
                                                              refine VW.iadd dlaw_1170 ?_
                                                              obtain ⟨g338, hr⟩ := gdt hr
                                                              refine VW.sld X dlaw_1171 g338 ?_
                                                              obtain ⟨r340, h341, e339, hr⟩ := bno2 hr
                                                              refine VW.callV (As := [.int (xs (ci (x3 + 1)))]) (st := []) dlaw_1172 mi_8_trace cv_RL_130 (oo_8 o8_0) ⟨rfl, rfl⟩ (by decide) (dl1 hd) _ rfl (Nat.le_of_ble_eq_true rfl) rfl (c_8_trace (dl hd rfl) e339) (kI ?_)
                                                              refine VW.aload_n dlaw_1175 2 rfl ?_
                                                              refine VW.aload_n dlaw_1176 0 rfl ?_
                                                              refine VW.iload_n dlaw_1177 3 rfl ?_
                                                              refine VW.iconst (v := 1) dlaw_1178 ic_1 ?_
                                                              refine VW.iadd dlaw_1179 ?_
                                                              obtain ⟨g342, hr⟩ := gdt hr
                                                              refine VW.sld X dlaw_1180 g342 ?_
                                                              obtain ⟨r344, h345, e343, hr⟩ := bno2 hr
                                                              refine VW.callV (As := [.int (xs (ci (x3 + 1)))]) (st := [.int r340]) dlaw_1181 mi_9_trace cv_RL_133 (oo_9 o9_114) ⟨rfl, rfl⟩ (by decide) (dl1 hd) _ rfl (Nat.le_of_ble_eq_true rfl) rfl (c_9_trace (dl hd rfl) e343) (kI ?_)
                                                              refine VW.icmp_eq 1492 dlaw_1184 (by decide) (fun c346 => ?_) (fun c346 => ?_)
                                                              · replace hr := ip hr c346
                                                                refine VW.iinc (w := 6) (lo' := [(3, .int (x3 + 6)), (0, .ref b), (1, .ref (γ.2.2.1 0)), (2, .ref (γ.2.2.1 114))]) dlaw_1492 3 rfl ic_6 (by decide) rfl ?_
                                                                refine VW.goto 18 dlaw_1495 (by decide) ?_
                                                                exact VW.sub [1, 2, 3, 0] rfl (ih (x3 + 6) h345 hr)
                                                              · replace hr := im hr c346
                                                                refine VW.iconst (v := 0) dlaw_1187 ic_0 ?_
                                                                exact nf hr
                                                            · replace hr := im hr c337
                                                              by_cases c347 : ((xs (ci x3)) &&& 63) = 28
                                                              · replace hr := ip hr c347
                                                                refine VW.tableIn (off := 1156) 1189 dlaw_33 (by rw [c347]; decide) (by rw [c347]; decide) (by rw [c347]; decide) (by decide) ?_
                                                                refine VW.aload_n dlaw_1189 1 rfl ?_
                                                                refine VW.aload_n dlaw_1190 0 rfl ?_
                                                                refine VW.iload_n dlaw_1191 3 rfl ?_
                                                                refine VW.iconst (v := 1) dlaw_1192 ic_1 ?_
                                                                refine VW.iadd dlaw_1193 ?_
                                                                obtain ⟨g348, hr⟩ := gdt hr
                                                                refine VW.sld X dlaw_1194 g348 ?_
                                                                refine VW.aload_n dlaw_1195 0 rfl ?_
                                                                refine VW.iload_n dlaw_1196 3 rfl ?_
                                                                refine VW.iconst (v := 2) dlaw_1197 ic_2 ?_
                                                                refine VW.iadd dlaw_1198 ?_
                                                                obtain ⟨g349, hr⟩ := gdt hr
                                                                refine VW.sld X dlaw_1199 g349 ?_
                                                                refine VW.aload_n dlaw_1200 0 rfl ?_
                                                                refine VW.iload_n dlaw_1201 3 rfl ?_
                                                                refine VW.iconst (v := 3) dlaw_1202 ic_3 ?_
                                                                refine VW.iadd dlaw_1203 ?_
                                                                obtain ⟨g350, hr⟩ := gdt hr
                                                                refine VW.sld X dlaw_1204 g350 ?_
                                                                obtain ⟨r352, h353, e351, hr⟩ := bno2 hr
                                                                refine VW.callV (As := [.int (xs (ci (x3 + 1))), .int (xs (ci (x3 + 2))), .int (xs (ci (x3 + 3)))]) (st := []) dlaw_1205 mi_8_sheet cv_RL_134 (oo_8 o8_0) ⟨rfl, rfl⟩ (by decide) (dl1 hd) _ rfl (Nat.le_of_ble_eq_true rfl) rfl (c_8_sheet (dl hd rfl) e351) (kI ?_)
                                                                refine VW.aload_n dlaw_1208 2 rfl ?_
                                                                refine VW.aload_n dlaw_1209 0 rfl ?_
                                                                refine VW.iload_n dlaw_1210 3 rfl ?_
                                                                refine VW.iconst (v := 1) dlaw_1211 ic_1 ?_
                                                                refine VW.iadd dlaw_1212 ?_
                                                                obtain ⟨g354, hr⟩ := gdt hr
                                                                refine VW.sld X dlaw_1213 g354 ?_
                                                                refine VW.aload_n dlaw_1214 0 rfl ?_
                                                                refine VW.iload_n dlaw_1215 3 rfl ?_
                                                                refine VW.iconst (v := 2) dlaw_1216 ic_2 ?_
                                                                refine VW.iadd dlaw_1217 ?_
                                                                obtain ⟨g355, hr⟩ := gdt hr
                                                                refine VW.sld X dlaw_1218 g355 ?_
                                                                refine VW.aload_n dlaw_1219 0 rfl ?_
                                                                refine VW.iload_n dlaw_1220 3 rfl ?_
                                                                refine VW.iconst (v := 3) dlaw_1221 ic_3 ?_
                                                                refine VW.iadd dlaw_1222 ?_
                                                                obtain ⟨g356, hr⟩ := gdt hr
                                                                refine VW.sld X dlaw_1223 g356 ?_
                                                                obtain ⟨r358, h359, e357, hr⟩ := bno2 hr
                                                                refine VW.callV (As := [.int (xs (ci (x3 + 1))), .int (xs (ci (x3 + 2))), .int (xs (ci (x3 + 3)))]) (st := [.int r352]) dlaw_1224 mi_9_sheet cv_RL_137 (oo_9 o9_114) ⟨rfl, rfl⟩ (by decide) (dl1 hd) _ rfl (Nat.le_of_ble_eq_true rfl) rfl (c_9_sheet (dl hd rfl) e357) (kI ?_)
                                                                refine VW.icmp_eq 1492 dlaw_1227 (by decide) (fun c360 => ?_) (fun c360 => ?_)
                                                                · replace hr := ip hr c360
                                                                  refine VW.iinc (w := 6) (lo' := [(3, .int (x3 + 6)), (0, .ref b), (1, .ref (γ.2.2.1 0)), (2, .ref (γ.2.2.1 114))]) dlaw_1492 3 rfl ic_6 (by decide) rfl ?_
                                                                  refine VW.goto 18 dlaw_1495 (by decide) ?_
                                                                  exact VW.sub [1, 2, 3, 0] rfl (ih (x3 + 6) h359 hr)
                                                                · replace hr := im hr c360
                                                                  refine VW.iconst (v := 0) dlaw_1230 ic_0 ?_
                                                                  exact nf hr
                                                              · replace hr := im hr c347
                                                                by_cases c361 : ((xs (ci x3)) &&& 63) = 29
                                                                · replace hr := ip hr c361
                                                                  refine VW.tableIn (off := 1199) 1232 dlaw_33 (by rw [c361]; decide) (by rw [c361]; decide) (by rw [c361]; decide) (by decide) ?_
                                                                  refine VW.aload_n dlaw_1232 1 rfl ?_
                                                                  refine VW.aload_n dlaw_1233 0 rfl ?_
                                                                  refine VW.iload_n dlaw_1234 3 rfl ?_
                                                                  refine VW.iconst (v := 1) dlaw_1235 ic_1 ?_
                                                                  refine VW.iadd dlaw_1236 ?_
                                                                  obtain ⟨g362, hr⟩ := gdt hr
                                                                  refine VW.sld X dlaw_1237 g362 ?_
                                                                  refine VW.aload_n dlaw_1238 0 rfl ?_
                                                                  refine VW.iload_n dlaw_1239 3 rfl ?_
                                                                  refine VW.iconst (v := 2) dlaw_1240 ic_2 ?_
                                                                  refine VW.iadd dlaw_1241 ?_
                                                                  obtain ⟨g363, hr⟩ := gdt hr
                                                                  refine VW.sld X dlaw_1242 g363 ?_
                                                                  refine VW.aload_n dlaw_1243 0 rfl ?_
                                                                  refine VW.iload_n dlaw_1244 3 rfl ?_
                                                                  refine VW.iconst (v := 3) dlaw_1245 ic_3 ?_
                                                                  refine VW.iadd dlaw_1246 ?_
                                                                  obtain ⟨g364, hr⟩ := gdt hr
                                                                  refine VW.sld X dlaw_1247 g364 ?_
                                                                  obtain ⟨r366, h367, e365, hr⟩ := bno2 hr
                                                                  refine VW.callV (As := [.int (xs (ci (x3 + 1))), .int (xs (ci (x3 + 2))), .int (xs (ci (x3 + 3)))]) (st := []) dlaw_1248 mi_8_put cv_RL_138 (oo_8 o8_0) ⟨rfl, rfl⟩ (by decide) (dl1 hd) _ rfl (Nat.le_of_ble_eq_true rfl) rfl (c_8_put (dl hd rfl) e365) (kI ?_)
                                                                  refine VW.aload_n dlaw_1251 2 rfl ?_
                                                                  refine VW.aload_n dlaw_1252 0 rfl ?_
                                                                  refine VW.iload_n dlaw_1253 3 rfl ?_
                                                                  refine VW.iconst (v := 1) dlaw_1254 ic_1 ?_
                                                                  refine VW.iadd dlaw_1255 ?_
                                                                  obtain ⟨g368, hr⟩ := gdt hr
                                                                  refine VW.sld X dlaw_1256 g368 ?_
                                                                  refine VW.aload_n dlaw_1257 0 rfl ?_
                                                                  refine VW.iload_n dlaw_1258 3 rfl ?_
                                                                  refine VW.iconst (v := 2) dlaw_1259 ic_2 ?_
                                                                  refine VW.iadd dlaw_1260 ?_
                                                                  obtain ⟨g369, hr⟩ := gdt hr
                                                                  refine VW.sld X dlaw_1261 g369 ?_
                                                                  refine VW.aload_n dlaw_1262 0 rfl ?_
                                                                  refine VW.iload_n dlaw_1263 3 rfl ?_
                                                                  refine VW.iconst (v := 3) dlaw_1264 ic_3 ?_
                                                                  refine VW.iadd dlaw_1265 ?_
                                                                  obtain ⟨g370, hr⟩ := gdt hr
                                                                  refine VW.sld X dlaw_1266 g370 ?_
                                                                  obtain ⟨r372, h373, e371, hr⟩ := bno2 hr
                                                                  refine VW.callV (As := [.int (xs (ci (x3 + 1))), .int (xs (ci (x3 + 2))), .int (xs (ci (x3 + 3)))]) (st := [.int r366]) dlaw_1267 mi_9_put cv_RL_141 (oo_9 o9_114) ⟨rfl, rfl⟩ (by decide) (dl1 hd) _ rfl (Nat.le_of_ble_eq_true rfl) rfl (c_9_put (dl hd rfl) e371) (kI ?_)
                                                                  refine VW.icmp_eq 1492 dlaw_1270 (by decide) (fun c374 => ?_) (fun c374 => ?_)
                                                                  · replace hr := ip hr c374
                                                                    refine VW.iinc (w := 6) (lo' := [(3, .int (x3 + 6)), (0, .ref b), (1, .ref (γ.2.2.1 0)), (2, .ref (γ.2.2.1 114))]) dlaw_1492 3 rfl ic_6 (by decide) rfl ?_
                                                                    refine VW.goto 18 dlaw_1495 (by decide) ?_
                                                                    exact VW.sub [1, 2, 3, 0] rfl (ih (x3 + 6) h373 hr)
                                                                  · replace hr := im hr c374
                                                                    refine VW.iconst (v := 0) dlaw_1273 ic_0 ?_
                                                                    exact nf hr
                                                                · replace hr := im hr c361
                                                                  by_cases c375 : ((xs (ci x3)) &&& 63) = 30
                                                                  · replace hr := ip hr c375
                                                                    refine VW.tableIn (off := 1242) 1275 dlaw_33 (by rw [c375]; decide) (by rw [c375]; decide) (by rw [c375]; decide) (by decide) ?_
                                                                    refine VW.aload_n dlaw_1275 1 rfl ?_
                                                                    refine VW.aload_n dlaw_1276 0 rfl ?_
                                                                    refine VW.iload_n dlaw_1277 3 rfl ?_
                                                                    refine VW.iconst (v := 1) dlaw_1278 ic_1 ?_
                                                                    refine VW.iadd dlaw_1279 ?_
                                                                    obtain ⟨g376, hr⟩ := gdt hr
                                                                    refine VW.sld X dlaw_1280 g376 ?_
                                                                    refine VW.aload_n dlaw_1281 0 rfl ?_
                                                                    refine VW.iload_n dlaw_1282 3 rfl ?_
                                                                    refine VW.iconst (v := 2) dlaw_1283 ic_2 ?_
                                                                    refine VW.iadd dlaw_1284 ?_
                                                                    obtain ⟨g377, hr⟩ := gdt hr
                                                                    refine VW.sld X dlaw_1285 g377 ?_
                                                                    refine VW.aload_n dlaw_1286 0 rfl ?_
                                                                    refine VW.iload_n dlaw_1287 3 rfl ?_
                                                                    refine VW.iconst (v := 3) dlaw_1288 ic_3 ?_
                                                                    refine VW.iadd dlaw_1289 ?_
                                                                    obtain ⟨g378, hr⟩ := gdt hr
                                                                    refine VW.sld X dlaw_1290 g378 ?_
                                                                    refine VW.aload_n dlaw_1291 0 rfl ?_
                                                                    refine VW.iload_n dlaw_1292 3 rfl ?_
                                                                    refine VW.iconst (v := 4) dlaw_1293 ic_4 ?_
                                                                    refine VW.iadd dlaw_1294 ?_
                                                                    obtain ⟨g379, hr⟩ := gdt hr
                                                                    refine VW.sld X dlaw_1295 g379 ?_
                                                                    refine VW.aload_n dlaw_1296 0 rfl ?_
                                                                    refine VW.iload_n dlaw_1297 3 rfl ?_
                                                                    refine VW.iconst (v := 5) dlaw_1298 ic_5 ?_
                                                                    refine VW.iadd dlaw_1299 ?_
                                                                    obtain ⟨g380, hr⟩ := gdt hr
                                                                    refine VW.sld X dlaw_1300 g380 ?_
                                                                    obtain ⟨r382, h383, e381, hr⟩ := bno2 hr
                                                                    refine VW.callV (As := [.int (xs (ci (x3 + 1))), .int (xs (ci (x3 + 2))), .int (xs (ci (x3 + 3))), .int (xs (ci (x3 + 4))), .int (xs (ci (x3 + 5)))]) (st := []) dlaw_1301 mi_8_move cv_RL_142 (oo_8 o8_0) ⟨rfl, rfl⟩ (by decide) (dl1 hd) _ rfl (Nat.le_of_ble_eq_true rfl) rfl (c_8_move (dl hd rfl) e381) (kI ?_)
                                                                    refine VW.aload_n dlaw_1304 2 rfl ?_
                                                                    refine VW.aload_n dlaw_1305 0 rfl ?_
                                                                    refine VW.iload_n dlaw_1306 3 rfl ?_
                                                                    refine VW.iconst (v := 1) dlaw_1307 ic_1 ?_
                                                                    refine VW.iadd dlaw_1308 ?_
                                                                    obtain ⟨g384, hr⟩ := gdt hr
                                                                    refine VW.sld X dlaw_1309 g384 ?_
                                                                    refine VW.aload_n dlaw_1310 0 rfl ?_
                                                                    refine VW.iload_n dlaw_1311 3 rfl ?_
                                                                    refine VW.iconst (v := 2) dlaw_1312 ic_2 ?_
                                                                    refine VW.iadd dlaw_1313 ?_
                                                                    obtain ⟨g385, hr⟩ := gdt hr
                                                                    refine VW.sld X dlaw_1314 g385 ?_
                                                                    refine VW.aload_n dlaw_1315 0 rfl ?_
                                                                    refine VW.iload_n dlaw_1316 3 rfl ?_
                                                                    refine VW.iconst (v := 3) dlaw_1317 ic_3 ?_
                                                                    refine VW.iadd dlaw_1318 ?_
                                                                    obtain ⟨g386, hr⟩ := gdt hr
                                                                    refine VW.sld X dlaw_1319 g386 ?_
                                                                    refine VW.aload_n dlaw_1320 0 rfl ?_
                                                                    refine VW.iload_n dlaw_1321 3 rfl ?_
                                                                    refine VW.iconst (v := 4) dlaw_1322 ic_4 ?_
                                                                    refine VW.iadd dlaw_1323 ?_
                                                                    obtain ⟨g387, hr⟩ := gdt hr
                                                                    refine VW.sld X dlaw_1324 g387 ?_
                                                                    refine VW.aload_n dlaw_1325 0 rfl ?_
                                                                    refine VW.iload_n dlaw_1326 3 rfl ?_
                                                                    refine VW.iconst (v := 5) dlaw_1327 ic_5 ?_
                                                                    refine VW.iadd dlaw_1328 ?_
                                                                    obtain ⟨g388, hr⟩ := gdt hr
                                                                    refine VW.sld X dlaw_1329 g388 ?_
                                                                    obtain ⟨r390, h391, e389, hr⟩ := bno2 hr
                                                                    refine VW.callV (As := [.int (xs (ci (x3 + 1))), .int (xs (ci (x3 + 2))), .int (xs (ci (x3 + 3))), .int (xs (ci (x3 + 4))), .int (xs (ci (x3 + 5)))]) (st := [.int r382]) dlaw_1330 mi_9_move cv_RL_145 (oo_9 o9_114) ⟨rfl, rfl⟩ (by decide) (dl1 hd) _ rfl (Nat.le_of_ble_eq_true rfl) rfl (c_9_move (dl hd rfl) e389) (kI ?_)
                                                                    refine VW.icmp_eq 1492 dlaw_1333 (by decide) (fun c392 => ?_) (fun c392 => ?_)
                                                                    · replace hr := ip hr c392
                                                                      refine VW.iinc (w := 6) (lo' := [(3, .int (x3 + 6)), (0, .ref b), (1, .ref (γ.2.2.1 0)), (2, .ref (γ.2.2.1 114))]) dlaw_1492 3 rfl ic_6 (by decide) rfl ?_
                                                                      refine VW.goto 18 dlaw_1495 (by decide) ?_
                                                                      exact VW.sub [1, 2, 3, 0] rfl (ih (x3 + 6) h391 hr)
                                                                    · replace hr := im hr c392
                                                                      refine VW.iconst (v := 0) dlaw_1336 ic_0 ?_
                                                                      exact nf hr
                                                                  · replace hr := im hr c375
                                                                    by_cases c393 : ((xs (ci x3)) &&& 63) = 31
                                                                    · replace hr := ip hr c393
                                                                      refine VW.tableIn (off := 1305) 1338 dlaw_33 (by rw [c393]; decide) (by rw [c393]; decide) (by rw [c393]; decide) (by decide) ?_
                                                                      refine VW.aload_n dlaw_1338 1 rfl ?_
                                                                      refine VW.aload_n dlaw_1339 0 rfl ?_
                                                                      refine VW.iload_n dlaw_1340 3 rfl ?_
                                                                      refine VW.iconst (v := 1) dlaw_1341 ic_1 ?_
                                                                      refine VW.iadd dlaw_1342 ?_
                                                                      obtain ⟨g394, hr⟩ := gdt hr
                                                                      refine VW.sld X dlaw_1343 g394 ?_
                                                                      obtain ⟨r396, h397, e395, hr⟩ := bno2 hr
                                                                      refine VW.callV (As := [.int (xs (ci (x3 + 1)))]) (st := []) dlaw_1344 mi_8_mouths cv_RL_146 (oo_8 o8_0) ⟨rfl, rfl⟩ (by decide) (dl1 hd) _ rfl (Nat.le_of_ble_eq_true rfl) rfl (c_8_mouths (dl hd rfl) e395) (kI ?_)
                                                                      refine VW.aload_n dlaw_1347 2 rfl ?_
                                                                      refine VW.aload_n dlaw_1348 0 rfl ?_
                                                                      refine VW.iload_n dlaw_1349 3 rfl ?_
                                                                      refine VW.iconst (v := 1) dlaw_1350 ic_1 ?_
                                                                      refine VW.iadd dlaw_1351 ?_
                                                                      obtain ⟨g398, hr⟩ := gdt hr
                                                                      refine VW.sld X dlaw_1352 g398 ?_
                                                                      obtain ⟨r400, h401, e399, hr⟩ := bno2 hr
                                                                      refine VW.callV (As := [.int (xs (ci (x3 + 1)))]) (st := [.int r396]) dlaw_1353 mi_9_mouths cv_RL_149 (oo_9 o9_114) ⟨rfl, rfl⟩ (by decide) (dl1 hd) _ rfl (Nat.le_of_ble_eq_true rfl) rfl (c_9_mouths (dl hd rfl) e399) (kI ?_)
                                                                      refine VW.icmp_eq 1492 dlaw_1356 (by decide) (fun c402 => ?_) (fun c402 => ?_)
                                                                      · replace hr := ip hr c402
                                                                        refine VW.iinc (w := 6) (lo' := [(3, .int (x3 + 6)), (0, .ref b), (1, .ref (γ.2.2.1 0)), (2, .ref (γ.2.2.1 114))]) dlaw_1492 3 rfl ic_6 (by decide) rfl ?_
                                                                        refine VW.goto 18 dlaw_1495 (by decide) ?_
                                                                        exact VW.sub [1, 2, 3, 0] rfl (ih (x3 + 6) h401 hr)
                                                                      · replace hr := im hr c402
                                                                        refine VW.iconst (v := 0) dlaw_1359 ic_0 ?_
                                                                        exact nf hr
                                                                    · replace hr := im hr c393
                                                                      by_cases c403 : ((xs (ci x3)) &&& 63) = 32
                                                                      · replace hr := ip hr c403
                                                                        refine VW.tableIn (off := 1328) 1361 dlaw_33 (by rw [c403]; decide) (by rw [c403]; decide) (by rw [c403]; decide) (by decide) ?_
                                                                        refine VW.aload_n dlaw_1361 1 rfl ?_
                                                                        refine VW.aload_n dlaw_1362 0 rfl ?_
                                                                        refine VW.iload_n dlaw_1363 3 rfl ?_
                                                                        refine VW.iconst (v := 1) dlaw_1364 ic_1 ?_
                                                                        refine VW.iadd dlaw_1365 ?_
                                                                        obtain ⟨g404, hr⟩ := gdt hr
                                                                        refine VW.sld X dlaw_1366 g404 ?_
                                                                        obtain ⟨r406, h407, e405, hr⟩ := bno2 hr
                                                                        refine VW.callV (As := [.int (xs (ci (x3 + 1)))]) (st := []) dlaw_1367 mi_8_judge cv_RL_150 (oo_8 o8_0) ⟨rfl, rfl⟩ (by decide) (dl1 hd) _ rfl (Nat.le_of_ble_eq_true rfl) rfl (c_8_judge (dl hd rfl) e405) (kI ?_)
                                                                        refine VW.aload_n dlaw_1370 2 rfl ?_
                                                                        refine VW.aload_n dlaw_1371 0 rfl ?_
                                                                        refine VW.iload_n dlaw_1372 3 rfl ?_
                                                                        refine VW.iconst (v := 1) dlaw_1373 ic_1 ?_
                                                                        refine VW.iadd dlaw_1374 ?_
                                                                        obtain ⟨g408, hr⟩ := gdt hr
                                                                        refine VW.sld X dlaw_1375 g408 ?_
                                                                        obtain ⟨r410, h411, e409, hr⟩ := bno2 hr
                                                                        refine VW.callV (As := [.int (xs (ci (x3 + 1)))]) (st := [.int r406]) dlaw_1376 mi_9_judge cv_RL_153 (oo_9 o9_114) ⟨rfl, rfl⟩ (by decide) (dl1 hd) _ rfl (Nat.le_of_ble_eq_true rfl) rfl (c_9_judge (dl hd rfl) e409) (kI ?_)
                                                                        refine VW.icmp_eq 1492 dlaw_1379 (by decide) (fun c412 => ?_) (fun c412 => ?_)
                                                                        · replace hr := ip hr c412
                                                                          refine VW.iinc (w := 6) (lo' := [(3, .int (x3 + 6)), (0, .ref b), (1, .ref (γ.2.2.1 0)), (2, .ref (γ.2.2.1 114))]) dlaw_1492 3 rfl ic_6 (by decide) rfl ?_
                                                                          refine VW.goto 18 dlaw_1495 (by decide) ?_
                                                                          exact VW.sub [1, 2, 3, 0] rfl (ih (x3 + 6) h411 hr)
                                                                        · replace hr := im hr c412
                                                                          refine VW.iconst (v := 0) dlaw_1382 ic_0 ?_
                                                                          exact nf hr
                                                                      · replace hr := im hr c403
                                                                        by_cases c413 : ((xs (ci x3)) &&& 63) = 33
                                                                        · replace hr := ip hr c413
                                                                          refine VW.tableIn (off := 1351) 1384 dlaw_33 (by rw [c413]; decide) (by rw [c413]; decide) (by rw [c413]; decide) (by decide) ?_
                                                                          refine VW.aload_n dlaw_1384 1 rfl ?_
                                                                          obtain ⟨r415, h416, e414, hr⟩ := bno2 hr
                                                                          refine VW.callV (As := []) (st := []) dlaw_1385 mi_8_image cv_RL_154 (oo_8 o8_0) ⟨rfl, rfl⟩ (by decide) (dl1 hd) _ rfl (Nat.le_of_ble_eq_true rfl) rfl (c_8_image (dl hd rfl) e414) (kI ?_)
                                                                          refine VW.aload_n dlaw_1388 2 rfl ?_
                                                                          obtain ⟨r418, h419, e417, hr⟩ := bno2 hr
                                                                          refine VW.callV (As := []) (st := [.int r415]) dlaw_1389 mi_9_image cv_RL_158 (oo_9 o9_114) ⟨rfl, rfl⟩ (by decide) (dl1 hd) _ rfl (Nat.le_of_ble_eq_true rfl) rfl (c_9_image (dl hd rfl) e417) (kI ?_)
                                                                          refine VW.icmp_eq 1492 dlaw_1392 (by decide) (fun c420 => ?_) (fun c420 => ?_)
                                                                          · replace hr := ip hr c420
                                                                            refine VW.iinc (w := 6) (lo' := [(3, .int (x3 + 6)), (0, .ref b), (1, .ref (γ.2.2.1 0)), (2, .ref (γ.2.2.1 114))]) dlaw_1492 3 rfl ic_6 (by decide) rfl ?_
                                                                            refine VW.goto 18 dlaw_1495 (by decide) ?_
                                                                            exact VW.sub [1, 2, 3, 0] rfl (ih (x3 + 6) h419 hr)
                                                                          · replace hr := im hr c420
                                                                            refine VW.iconst (v := 0) dlaw_1395 ic_0 ?_
                                                                            exact nf hr
                                                                        · replace hr := im hr c413
                                                                          by_cases c421 : ((xs (ci x3)) &&& 63) = 34
                                                                          · replace hr := ip hr c421
                                                                            refine VW.tableIn (off := 1364) 1397 dlaw_33 (by rw [c421]; decide) (by rw [c421]; decide) (by rw [c421]; decide) (by decide) ?_
                                                                            refine VW.aload_n dlaw_1397 1 rfl ?_
                                                                            obtain ⟨r423, h424, e422, hr⟩ := bno2 hr
                                                                            refine VW.callV (As := []) (st := []) dlaw_1398 mi_8_restore cv_RL_159 (oo_8 o8_0) ⟨rfl, rfl⟩ (by decide) (dl1 hd) _ rfl (Nat.le_of_ble_eq_true rfl) rfl (c_8_restore (dl hd rfl) e422) (kI ?_)
                                                                            refine VW.aload_n dlaw_1401 2 rfl ?_
                                                                            obtain ⟨r426, h427, e425, hr⟩ := bno2 hr
                                                                            refine VW.callV (As := []) (st := [.int r423]) dlaw_1402 mi_9_restore cv_RL_162 (oo_9 o9_114) ⟨rfl, rfl⟩ (by decide) (dl1 hd) _ rfl (Nat.le_of_ble_eq_true rfl) rfl (c_9_restore (dl hd rfl) e425) (kI ?_)
                                                                            refine VW.icmp_eq 1492 dlaw_1405 (by decide) (fun c428 => ?_) (fun c428 => ?_)
                                                                            · replace hr := ip hr c428
                                                                              refine VW.iinc (w := 6) (lo' := [(3, .int (x3 + 6)), (0, .ref b), (1, .ref (γ.2.2.1 0)), (2, .ref (γ.2.2.1 114))]) dlaw_1492 3 rfl ic_6 (by decide) rfl ?_
                                                                              refine VW.goto 18 dlaw_1495 (by decide) ?_
                                                                              exact VW.sub [1, 2, 3, 0] rfl (ih (x3 + 6) h427 hr)
                                                                            · replace hr := im hr c428
                                                                              refine VW.iconst (v := 0) dlaw_1408 ic_0 ?_
                                                                              exact nf hr
                                                                          · replace hr := im hr c421
                                                                            by_cases c429 : ((xs (ci x3)) &&& 63) = 35
                                                                            · replace hr := ip hr c429
                                                                              refine VW.tableIn (off := 1377) 1410 dlaw_33 (by rw [c429]; decide) (by rw [c429]; decide) (by rw [c429]; decide) (by decide) ?_
                                                                              refine VW.aload_n dlaw_1410 1 rfl ?_
                                                                              refine VW.aload_n dlaw_1411 0 rfl ?_
                                                                              refine VW.iload_n dlaw_1412 3 rfl ?_
                                                                              refine VW.iconst (v := 1) dlaw_1413 ic_1 ?_
                                                                              refine VW.iadd dlaw_1414 ?_
                                                                              obtain ⟨g430, hr⟩ := gdt hr
                                                                              refine VW.sld X dlaw_1415 g430 ?_
                                                                              obtain ⟨r432, h433, e431, hr⟩ := bno2 hr
                                                                              refine VW.callV (As := [.int (xs (ci (x3 + 1)))]) (st := []) dlaw_1416 mi_8_tell cv_RL_163 (oo_8 o8_0) ⟨rfl, rfl⟩ (by decide) (dl1 hd) _ rfl (Nat.le_of_ble_eq_true rfl) rfl (c_8_tell (dl hd rfl) e431) (kI ?_)
                                                                              refine VW.aload_n dlaw_1419 2 rfl ?_
                                                                              refine VW.aload_n dlaw_1420 0 rfl ?_
                                                                              refine VW.iload_n dlaw_1421 3 rfl ?_
                                                                              refine VW.iconst (v := 1) dlaw_1422 ic_1 ?_
                                                                              refine VW.iadd dlaw_1423 ?_
                                                                              obtain ⟨g434, hr⟩ := gdt hr
                                                                              refine VW.sld X dlaw_1424 g434 ?_
                                                                              obtain ⟨r436, h437, e435, hr⟩ := bno2 hr
                                                                              refine VW.callV (As := [.int (xs (ci (x3 + 1)))]) (st := [.int r432]) dlaw_1425 mi_9_tell cv_RL_166 (oo_9 o9_114) ⟨rfl, rfl⟩ (by decide) (dl1 hd) _ rfl (Nat.le_of_ble_eq_true rfl) rfl (c_9_tell (dl hd rfl) e435) (kI ?_)
                                                                              refine VW.icmp_eq 1492 dlaw_1428 (by decide) (fun c438 => ?_) (fun c438 => ?_)
                                                                              · replace hr := ip hr c438
                                                                                refine VW.iinc (w := 6) (lo' := [(3, .int (x3 + 6)), (0, .ref b), (1, .ref (γ.2.2.1 0)), (2, .ref (γ.2.2.1 114))]) dlaw_1492 3 rfl ic_6 (by decide) rfl ?_
                                                                                refine VW.goto 18 dlaw_1495 (by decide) ?_
                                                                                exact VW.sub [1, 2, 3, 0] rfl (ih (x3 + 6) h437 hr)
                                                                              · replace hr := im hr c438
                                                                                refine VW.iconst (v := 0) dlaw_1431 ic_0 ?_
                                                                                exact nf hr
                                                                            · replace hr := im hr c429
                                                                              by_cases c439 : ((xs (ci x3)) &&& 63) = 36
                                                                              · replace hr := ip hr c439
                                                                                refine VW.tableIn (off := 1400) 1433 dlaw_33 (by rw [c439]; decide) (by rw [c439]; decide) (by rw [c439]; decide) (by decide) ?_
                                                                                refine VW.aload_n dlaw_1433 1 rfl ?_
                                                                                obtain ⟨r441, h442, e440, hr⟩ := bno2 hr
                                                                                refine VW.callV (As := []) (st := []) dlaw_1434 mi_8_check cv_RL_167 (oo_8 o8_0) ⟨rfl, rfl⟩ (by decide) (dl1 hd) _ rfl (Nat.le_of_ble_eq_true rfl) rfl (c_8_check (dl hd rfl) e440) (kI ?_)
                                                                                refine VW.aload_n dlaw_1437 2 rfl ?_
                                                                                obtain ⟨r444, h445, e443, hr⟩ := bno2 hr
                                                                                refine VW.callV (As := []) (st := [.int r441]) dlaw_1438 mi_9_check cv_RL_170 (oo_9 o9_114) ⟨rfl, rfl⟩ (by decide) (dl1 hd) _ rfl (Nat.le_of_ble_eq_true rfl) rfl (c_9_check (dl hd rfl) e443) (kI ?_)
                                                                                refine VW.icmp_eq 1492 dlaw_1441 (by decide) (fun c446 => ?_) (fun c446 => ?_)
                                                                                · replace hr := ip hr c446
                                                                                  refine VW.iinc (w := 6) (lo' := [(3, .int (x3 + 6)), (0, .ref b), (1, .ref (γ.2.2.1 0)), (2, .ref (γ.2.2.1 114))]) dlaw_1492 3 rfl ic_6 (by decide) rfl ?_
                                                                                  refine VW.goto 18 dlaw_1495 (by decide) ?_
                                                                                  exact VW.sub [1, 2, 3, 0] rfl (ih (x3 + 6) h445 hr)
                                                                                · replace hr := im hr c446
                                                                                  refine VW.iconst (v := 0) dlaw_1444 ic_0 ?_
                                                                                  exact nf hr
                                                                              · replace hr := im hr c439
                                                                                by_cases c447 : ((xs (ci x3)) &&& 63) = 37
                                                                                · replace hr := ip hr c447
                                                                                  refine VW.tableIn (off := 1413) 1446 dlaw_33 (by rw [c447]; decide) (by rw [c447]; decide) (by rw [c447]; decide) (by decide) ?_
                                                                                  refine VW.aload_n dlaw_1446 1 rfl ?_
                                                                                  refine VW.aload_n dlaw_1447 0 rfl ?_
                                                                                  refine VW.iload_n dlaw_1448 3 rfl ?_
                                                                                  refine VW.iconst (v := 1) dlaw_1449 ic_1 ?_
                                                                                  refine VW.iadd dlaw_1450 ?_
                                                                                  obtain ⟨g448, hr⟩ := gdt hr
                                                                                  refine VW.sld X dlaw_1451 g448 ?_
                                                                                  obtain ⟨r450, h451, e449, hr⟩ := bno2 hr
                                                                                  refine VW.callV (As := [.int (xs (ci (x3 + 1)))]) (st := []) dlaw_1452 mi_8_count cv_RL_171 (oo_8 o8_0) ⟨rfl, rfl⟩ (by decide) (dl1 hd) _ rfl (Nat.le_of_ble_eq_true rfl) rfl (c_8_count (dl hd rfl) e449) (kI ?_)
                                                                                  refine VW.aload_n dlaw_1455 2 rfl ?_
                                                                                  refine VW.aload_n dlaw_1456 0 rfl ?_
                                                                                  refine VW.iload_n dlaw_1457 3 rfl ?_
                                                                                  refine VW.iconst (v := 1) dlaw_1458 ic_1 ?_
                                                                                  refine VW.iadd dlaw_1459 ?_
                                                                                  obtain ⟨g452, hr⟩ := gdt hr
                                                                                  refine VW.sld X dlaw_1460 g452 ?_
                                                                                  obtain ⟨r454, h455, e453, hr⟩ := bno2 hr
                                                                                  refine VW.callV (As := [.int (xs (ci (x3 + 1)))]) (st := [.int r450]) dlaw_1461 mi_9_count cv_RL_174 (oo_9 o9_114) ⟨rfl, rfl⟩ (by decide) (dl1 hd) _ rfl (Nat.le_of_ble_eq_true rfl) rfl (c_9_count (dl hd rfl) e453) (kI ?_)
                                                                                  refine VW.icmp_eq 1492 dlaw_1464 (by decide) (fun c456 => ?_) (fun c456 => ?_)
                                                                                  · replace hr := ip hr c456
                                                                                    refine VW.iinc (w := 6) (lo' := [(3, .int (x3 + 6)), (0, .ref b), (1, .ref (γ.2.2.1 0)), (2, .ref (γ.2.2.1 114))]) dlaw_1492 3 rfl ic_6 (by decide) rfl ?_
                                                                                    refine VW.goto 18 dlaw_1495 (by decide) ?_
                                                                                    exact VW.sub [1, 2, 3, 0] rfl (ih (x3 + 6) h455 hr)
                                                                                  · replace hr := im hr c456
                                                                                    refine VW.iconst (v := 0) dlaw_1467 ic_0 ?_
                                                                                    exact nf hr
                                                                                · replace hr := im hr c447
                                                                                  by_cases c457 : ((xs (ci x3)) &&& 63) = 38
                                                                                  · replace hr := ip hr c457
                                                                                    refine VW.tableIn (off := 1436) 1469 dlaw_33 (by rw [c457]; decide) (by rw [c457]; decide) (by rw [c457]; decide) (by decide) ?_
                                                                                    refine VW.aload_n dlaw_1469 1 rfl ?_
                                                                                    refine VW.aload_n dlaw_1470 0 rfl ?_
                                                                                    refine VW.iload_n dlaw_1471 3 rfl ?_
                                                                                    refine VW.iconst (v := 1) dlaw_1472 ic_1 ?_
                                                                                    refine VW.iadd dlaw_1473 ?_
                                                                                    obtain ⟨g458, hr⟩ := gdt hr
                                                                                    refine VW.sld X dlaw_1474 g458 ?_
                                                                                    obtain ⟨r460, h461, e459, hr⟩ := bno2 hr
                                                                                    refine VW.callV (As := [.int (xs (ci (x3 + 1)))]) (st := []) dlaw_1475 mi_8_told cv_RL_175 (oo_8 o8_0) ⟨rfl, rfl⟩ (by decide) (dl1 hd) _ rfl (Nat.le_of_ble_eq_true rfl) rfl (c_8_told (dl hd rfl) e459) (kI ?_)
                                                                                    refine VW.aload_n dlaw_1478 2 rfl ?_
                                                                                    refine VW.aload_n dlaw_1479 0 rfl ?_
                                                                                    refine VW.iload_n dlaw_1480 3 rfl ?_
                                                                                    refine VW.iconst (v := 1) dlaw_1481 ic_1 ?_
                                                                                    refine VW.iadd dlaw_1482 ?_
                                                                                    obtain ⟨g462, hr⟩ := gdt hr
                                                                                    refine VW.sld X dlaw_1483 g462 ?_
                                                                                    obtain ⟨r464, h465, e463, hr⟩ := bno2 hr
                                                                                    refine VW.callV (As := [.int (xs (ci (x3 + 1)))]) (st := [.int r460]) dlaw_1484 mi_9_told cv_RL_178 (oo_9 o9_114) ⟨rfl, rfl⟩ (by decide) (dl1 hd) _ rfl (Nat.le_of_ble_eq_true rfl) rfl (c_9_told (dl hd rfl) e463) (kI ?_)
                                                                                    refine VW.icmp_eq 1492 dlaw_1487 (by decide) (fun c466 => ?_) (fun c466 => ?_)
                                                                                    · replace hr := ip hr c466
                                                                                      refine VW.iinc (w := 6) (lo' := [(3, .int (x3 + 6)), (0, .ref b), (1, .ref (γ.2.2.1 0)), (2, .ref (γ.2.2.1 114))]) dlaw_1492 3 rfl ic_6 (by decide) rfl ?_
                                                                                      refine VW.goto 18 dlaw_1495 (by decide) ?_
                                                                                      exact VW.sub [1, 2, 3, 0] rfl (ih (x3 + 6) h465 hr)
                                                                                    · replace hr := im hr c466
                                                                                      refine VW.iconst (v := 0) dlaw_1490 ic_0 ?_
                                                                                      exact nf hr
                                                                                  · replace hr := im hr c457
                                                                                    have tc3 := lv_neT c3 (by decide : (0 : Int32).toInt = 0)
                                                                                    have tc17 := lv_neT c17 (by decide : (1 : Int32).toInt = 1)
                                                                                    have tc27 := lv_neT c27 (by decide : (2 : Int32).toInt = 2)
                                                                                    have tc39 := lv_neT c39 (by decide : (3 : Int32).toInt = 3)
                                                                                    have tc51 := lv_neT c51 (by decide : (4 : Int32).toInt = 4)
                                                                                    have tc65 := lv_neT c65 (by decide : (5 : Int32).toInt = 5)
                                                                                    have tc77 := lv_neT c77 (by decide : (6 : Int32).toInt = 6)
                                                                                    have tc89 := lv_neT c89 (by decide : (7 : Int32).toInt = 7)
                                                                                    have tc101 := lv_neT c101 (by decide : (8 : Int32).toInt = 8)
                                                                                    have tc113 := lv_neT c113 (by decide : (9 : Int32).toInt = 9)
                                                                                    have tc125 := lv_neT c125 (by decide : (10 : Int32).toInt = 10)
                                                                                    have tc143 := lv_neT c143 (by decide : (11 : Int32).toInt = 11)
                                                                                    have tc157 := lv_neT c157 (by decide : (12 : Int32).toInt = 12)
                                                                                    have tc167 := lv_neT c167 (by decide : (13 : Int32).toInt = 13)
                                                                                    have tc183 := lv_neT c183 (by decide : (14 : Int32).toInt = 14)
                                                                                    have tc193 := lv_neT c193 (by decide : (15 : Int32).toInt = 15)
                                                                                    have tc203 := lv_neT c203 (by decide : (16 : Int32).toInt = 16)
                                                                                    have tc217 := lv_neT c217 (by decide : (17 : Int32).toInt = 17)
                                                                                    have tc231 := lv_neT c231 (by decide : (18 : Int32).toInt = 18)
                                                                                    have tc243 := lv_neT c243 (by decide : (19 : Int32).toInt = 19)
                                                                                    have tc253 := lv_neT c253 (by decide : (20 : Int32).toInt = 20)
                                                                                    have tc263 := lv_neT c263 (by decide : (21 : Int32).toInt = 21)
                                                                                    have tc277 := lv_neT c277 (by decide : (22 : Int32).toInt = 22)
                                                                                    have tc287 := lv_neT c287 (by decide : (23 : Int32).toInt = 23)
                                                                                    have tc301 := lv_neT c301 (by decide : (24 : Int32).toInt = 24)
                                                                                    have tc313 := lv_neT c313 (by decide : (25 : Int32).toInt = 25)
                                                                                    have tc323 := lv_neT c323 (by decide : (26 : Int32).toInt = 26)
                                                                                    have tc337 := lv_neT c337 (by decide : (27 : Int32).toInt = 27)
                                                                                    have tc347 := lv_neT c347 (by decide : (28 : Int32).toInt = 28)
                                                                                    have tc361 := lv_neT c361 (by decide : (29 : Int32).toInt = 29)
                                                                                    have tc375 := lv_neT c375 (by decide : (30 : Int32).toInt = 30)
                                                                                    have tc393 := lv_neT c393 (by decide : (31 : Int32).toInt = 31)
                                                                                    have tc403 := lv_neT c403 (by decide : (32 : Int32).toInt = 32)
                                                                                    have tc413 := lv_neT c413 (by decide : (33 : Int32).toInt = 33)
                                                                                    have tc421 := lv_neT c421 (by decide : (34 : Int32).toInt = 34)
                                                                                    have tc429 := lv_neT c429 (by decide : (35 : Int32).toInt = 35)
                                                                                    have tc439 := lv_neT c439 (by decide : (36 : Int32).toInt = 36)
                                                                                    have tc447 := lv_neT c447 (by decide : (37 : Int32).toInt = 37)
                                                                                    have tc457 := lv_neT c457 (by decide : (38 : Int32).toInt = 38)
                                                                                    refine VW.tableOut 1492 dlaw_33 (by omega) (by decide) ?_
                                                                                    refine VW.iinc (w := 6) (lo' := [(3, .int (x3 + 6)), (0, .ref b), (1, .ref (γ.2.2.1 0)), (2, .ref (γ.2.2.1 114))]) dlaw_1492 3 rfl ic_6 (by decide) rfl ?_
                                                                                    refine VW.goto 18 dlaw_1495 (by decide) ?_
                                                                                    exact VW.sub [1, 2, 3, 0] rfl (ih (x3 + 6) h hr)
