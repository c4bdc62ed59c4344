def m_L_body (L : Nat) (xs : Nat → Int32) (nx : Nat) (zq3 : (Unit × Ce × Nat × Nat)) (nzs9 : Nat) (czs9 : Ce) (zs9 : Int32) : Option ((Int32 ⊕ Unit) × Ce × Nat × Nat) :=
  if ((Int32.ofNat L) - (6 : Int32)) < zs9 then
    some (Sum.inr (), czs9, 0, 0)
  else
    (scr L xs zs9).bind fun zx24 =>
    if (zx24 &&& (63 : Int32)) = (0 : Int32) then
      (scr L xs (zs9 + (1 : Int32))).bind fun zx25 =>
      (scr L xs (zs9 + (2 : Int32))).bind fun zx26 =>
      (scr L xs (zs9 + (3 : Int32))).bind fun zx27 =>
      (scr L xs (zs9 + (4 : Int32))).bind fun zx28 =>
      (scr L xs (zs9 + (5 : Int32))).bind fun zx29 =>
      (rcv czs9 8 nx).bind fun zz30 =>
      (m_X11_feed czs9 nx zx25 zx26 zx27 zx28 zx29).bind fun zq31 =>
      (scr L xs (zs9 + (1 : Int32))).bind fun zx32 =>
      (scr L xs (zs9 + (2 : Int32))).bind fun zx33 =>
      (scr L xs (zs9 + (3 : Int32))).bind fun zx34 =>
      (scr L xs (zs9 + (4 : Int32))).bind fun zx35 =>
      (scr L xs (zs9 + (5 : Int32))).bind fun zx36 =>
      (rcv zq31.2 9 ((nx + 1) + zq3.2.2.1)).bind fun zz37 =>
      (m_X12_feed zq31.2 ((nx + 1) + zq3.2.2.1) zx32 zx33 zx34 zx35 zx36).bind fun zq38 =>
      if zq31.1 = zq38.1 then
        some (Sum.inl (zs9 + (6 : Int32)), zq38.2, 0, 0)
      else
        none
    else
    if (zx24 &&& (63 : Int32)) = (1 : Int32) then
      (scr L xs (zs9 + (1 : Int32))).bind fun zx43 =>
      (rcv czs9 8 nx).bind fun zz44 =>
      (m_X11_end czs9 nx zx43).bind fun zq45 =>
      (scr L xs (zs9 + (1 : Int32))).bind fun zx46 =>
      (rcv zq45.2 9 ((nx + 1) + zq3.2.2.1)).bind fun zz47 =>
      (m_X12_end zq45.2 ((nx + 1) + zq3.2.2.1) zx46).bind fun zq48 =>
      if zq45.1 = zq48.1 then
        some (Sum.inl (zs9 + (6 : Int32)), zq48.2, 0, 0)
      else
        none
    else
    if (zx24 &&& (63 : Int32)) = (2 : Int32) then
      (rcv czs9 8 nx).bind fun zz53 =>
      adcB (m_X11_text nzs9 czs9 nx) fun zq54 =>
      (rcv zq54.2.1 9 ((nx + 1) + zq3.2.2.1)).bind fun zz56 =>
      (m_X12_text zq54.2.1 ((nx + 1) + zq3.2.2.1)).bind fun zq57 =>
      if zq54.1 = zq57.1 then
        some (Sum.inl (zs9 + (6 : Int32)), zq57.2, 0, 0)
      else
        none
    else
    if (zx24 &&& (63 : Int32)) = (3 : Int32) then
      (scr L xs (zs9 + (1 : Int32))).bind fun zx62 =>
      (rcv czs9 8 nx).bind fun zz63 =>
      (m_X11_fault czs9 nx zx62).bind fun zx64 =>
      (scr L xs (zs9 + (1 : Int32))).bind fun zx65 =>
      (rcv czs9 9 ((nx + 1) + zq3.2.2.1)).bind fun zz66 =>
      (m_X12_fault czs9 ((nx + 1) + zq3.2.2.1) zx65).bind fun zx67 =>
      if zx64 = zx67 then
        some (Sum.inl (zs9 + (6 : Int32)), czs9, 0, 0)
      else
        none
    else
    if (zx24 &&& (63 : Int32)) = (4 : Int32) then
      (scr L xs (zs9 + (1 : Int32))).bind fun zx72 =>
      (rcv czs9 8 nx).bind fun zz73 =>
      adcB (m_X11_load nzs9 czs9 nx zx72) fun zq74 =>
      (scr L xs (zs9 + (1 : Int32))).bind fun zx76 =>
      (rcv zq74.2.1 9 ((nx + 1) + zq3.2.2.1)).bind fun zz77 =>
      (m_X12_load zq74.2.1 ((nx + 1) + zq3.2.2.1) zx76).bind fun zq78 =>
      if zq74.1 = zq78.1 then
        some (Sum.inl (zs9 + (6 : Int32)), zq78.2, 0, 0)
      else
        none
    else
    if (zx24 &&& (63 : Int32)) = (5 : Int32) then
      (scr L xs (zs9 + (1 : Int32))).bind fun zx83 =>
      (scr L xs (zs9 + (2 : Int32))).bind fun zx84 =>
      (rcv czs9 8 nx).bind fun zz85 =>
      adcB (m_X11_drawn nzs9 czs9 nx zx83 zx84) fun zq86 =>
      (scr L xs (zs9 + (1 : Int32))).bind fun zx88 =>
      (scr L xs (zs9 + (2 : Int32))).bind fun zx89 =>
      (rcv zq86.2.1 9 ((nx + 1) + zq3.2.2.1)).bind fun zz90 =>
      (m_X12_drawn zq86.2.1 ((nx + 1) + zq3.2.2.1) zx88 zx89).bind fun zq91 =>
      if zq86.1 = zq91.1 then
        some (Sum.inl (zs9 + (6 : Int32)), zq91.2, 0, 0)
      else
        none
    else
    if (zx24 &&& (63 : Int32)) = (6 : Int32) then
      (scr L xs (zs9 + (1 : Int32))).bind fun zx96 =>
      (rcv czs9 8 nx).bind fun zz97 =>
      adcB (m_X11_aim nzs9 czs9 nx zx96) fun zq98 =>
      (scr L xs (zs9 + (1 : Int32))).bind fun zx100 =>
      (rcv zq98.2.1 9 ((nx + 1) + zq3.2.2.1)).bind fun zz101 =>
      (m_X12_aim zq98.2.1 ((nx + 1) + zq3.2.2.1) zx100).bind fun zq102 =>
      if zq98.1 = zq102.1 then
        some (Sum.inl (zs9 + (6 : Int32)), zq102.2, 0, 0)
      else
        none
    else
    if (zx24 &&& (63 : Int32)) = (7 : Int32) then
      (scr L xs (zs9 + (1 : Int32))).bind fun zx107 =>
      (rcv czs9 8 nx).bind fun zz108 =>
      adcB (m_X11_mode nzs9 czs9 nx zx107) fun zq109 =>
      (scr L xs (zs9 + (1 : Int32))).bind fun zx111 =>
      (rcv zq109.2.1 9 ((nx + 1) + zq3.2.2.1)).bind fun zz112 =>
      (m_X12_mode zq109.2.1 ((nx + 1) + zq3.2.2.1) zx111).bind fun zq113 =>
      if zq109.1 = zq113.1 then
        some (Sum.inl (zs9 + (6 : Int32)), zq113.2, 0, 0)
      else
        none
    else
    if (zx24 &&& (63 : Int32)) = (8 : Int32) then
      (scr L xs (zs9 + (1 : Int32))).bind fun zx118 =>
      (scr L xs (zs9 + (2 : Int32))).bind fun zx119 =>
      (scr L xs (zs9 + (3 : Int32))).bind fun zx120 =>
      (rcv czs9 8 nx).bind fun zz121 =>
      adcB (m_X11_bar nzs9 czs9 nx zx118 zx119 zx120) fun zq122 =>
      (scr L xs (zs9 + (1 : Int32))).bind fun zx124 =>
      (scr L xs (zs9 + (2 : Int32))).bind fun zx125 =>
      (scr L xs (zs9 + (3 : Int32))).bind fun zx126 =>
      (rcv zq122.2.1 9 ((nx + 1) + zq3.2.2.1)).bind fun zz127 =>
      (m_X12_bar zq122.2.1 ((nx + 1) + zq3.2.2.1) zx124 zx125 zx126).bind fun zq128 =>
      if zq122.1 = zq128.1 then
        some (Sum.inl (zs9 + (6 : Int32)), zq128.2, 0, 0)
      else
        none
    else
    if (zx24 &&& (63 : Int32)) = (9 : Int32) then
      (scr L xs (zs9 + (1 : Int32))).bind fun zx133 =>
      (rcv czs9 8 nx).bind fun zz134 =>
      adcB (m_X11_step nzs9 czs9 nx zx133) fun zq135 =>
      (scr L xs (zs9 + (1 : Int32))).bind fun zx137 =>
      (rcv zq135.2.1 9 ((nx + 1) + zq3.2.2.1)).bind fun zz138 =>
      (m_X12_step zq135.2.1 ((nx + 1) + zq3.2.2.1) zx137).bind fun zq139 =>
      if zq135.1 = zq139.1 then
        some (Sum.inl (zs9 + (6 : Int32)), zq139.2, 0, 0)
      else
        none
    else
    if (zx24 &&& (63 : Int32)) = (10 : Int32) then
      (rcv czs9 8 nx).bind fun zz144 =>
      adcB (m_X11_undo nzs9 czs9 nx) fun zq145 =>
      (rcv zq145.2.1 9 ((nx + 1) + zq3.2.2.1)).bind fun zz147 =>
      (m_X12_undo zq145.2.1 ((nx + 1) + zq3.2.2.1)).bind fun zq148 =>
      if zq145.1 = zq148.1 then
        some (Sum.inl (zs9 + (6 : Int32)), zq148.2, 0, 0)
      else
        none
    else
    if (zx24 &&& (63 : Int32)) = (11 : Int32) then
      (scr L xs (zs9 + (1 : Int32))).bind fun zx153 =>
      (rcv czs9 8 nx).bind fun zz154 =>
      (m_X11_is czs9 nx zx153).bind fun zx155 =>
      (scr L xs (zs9 + (1 : Int32))).bind fun zx156 =>
      (rcv czs9 9 ((nx + 1) + zq3.2.2.1)).bind fun zz157 =>
      (m_X12_is czs9 ((nx + 1) + zq3.2.2.1) zx156).bind fun zx158 =>
      if zx155 = zx158 then
        some (Sum.inl (zs9 + (6 : Int32)), czs9, 0, 0)
      else
        none
    else
    if (zx24 &&& (63 : Int32)) = (12 : Int32) then
      (scr L xs (zs9 + (1 : Int32))).bind fun zx163 =>
      (scr L xs (zs9 + (2 : Int32))).bind fun zx164 =>
      (rcv czs9 8 nx).bind fun zz165 =>
      (m_X11_successor czs9 nx zx163 zx164).bind fun zx166 =>
      (scr L xs (zs9 + (1 : Int32))).bind fun zx167 =>
      (scr L xs (zs9 + (2 : Int32))).bind fun zx168 =>
      (rcv czs9 9 ((nx + 1) + zq3.2.2.1)).bind fun zz169 =>
      (m_X12_successor czs9 ((nx + 1) + zq3.2.2.1) zx167 zx168).bind fun zx170 =>
      if zx166 = zx170 then
        some (Sum.inl (zs9 + (6 : Int32)), czs9, 0, 0)
      else
        none
    else
    if (zx24 &&& (63 : Int32)) = (13 : Int32) then
      (scr L xs (zs9 + (1 : Int32))).bind fun zx175 =>
      (scr L xs (zs9 + (2 : Int32))).bind fun zx176 =>
      (rcv czs9 8 nx).bind fun zz177 =>
      (m_X11_leads czs9 nx zx175 zx176).bind fun zx178 =>
      (scr L xs (zs9 + (1 : Int32))).bind fun zx179 =>
      (scr L xs (zs9 + (2 : Int32))).bind fun zx180 =>
      (rcv czs9 9 ((nx + 1) + zq3.2.2.1)).bind fun zz181 =>
      (m_X12_leads czs9 ((nx + 1) + zq3.2.2.1) zx179 zx180).bind fun zx182 =>
      if zx178 = zx182 then
        some (Sum.inl (zs9 + (6 : Int32)), czs9, 0, 0)
      else
        none
    else
    if (zx24 &&& (63 : Int32)) = (14 : Int32) then
      (scr L xs (zs9 + (1 : Int32))).bind fun zx187 =>
      (scr L xs (zs9 + (2 : Int32))).bind fun zx188 =>
      (rcv czs9 8 nx).bind fun zz189 =>
      (m_X11_of czs9 nx zx187 zx188).bind fun zx190 =>
      (scr L xs (zs9 + (1 : Int32))).bind fun zx191 =>
      (scr L xs (zs9 + (2 : Int32))).bind fun zx192 =>
      (rcv czs9 9 ((nx + 1) + zq3.2.2.1)).bind fun zz193 =>
      (m_X12_of czs9 ((nx + 1) + zq3.2.2.1) zx191 zx192).bind fun zx194 =>
      if zx190 = zx194 then
        some (Sum.inl (zs9 + (6 : Int32)), czs9, 0, 0)
      else
        none
    else
    if (zx24 &&& (63 : Int32)) = (15 : Int32) then
      (scr L xs (zs9 + (1 : Int32))).bind fun zx199 =>
      (scr L xs (zs9 + (2 : Int32))).bind fun zx200 =>
      (rcv czs9 8 nx).bind fun zz201 =>
      (m_X11_within czs9 nx zx199 zx200).bind fun zx202 =>
      (scr L xs (zs9 + (1 : Int32))).bind fun zx203 =>
      (scr L xs (zs9 + (2 : Int32))).bind fun zx204 =>
      (rcv czs9 9 ((nx + 1) + zq3.2.2.1)).bind fun zz205 =>
      (m_X12_within czs9 ((nx + 1) + zq3.2.2.1) zx203 zx204).bind fun zx206 =>
      if zx202 = zx206 then
        some (Sum.inl (zs9 + (6 : Int32)), czs9, 0, 0)
      else
        none
    else
    if (zx24 &&& (63 : Int32)) = (16 : Int32) then
      (scr L xs (zs9 + (1 : Int32))).bind fun zx211 =>
      (rcv czs9 8 nx).bind fun zz212 =>
      (m_X11_wide czs9 nx zx211).bind fun zx213 =>
      (scr L xs (zs9 + (1 : Int32))).bind fun zx214 =>
      (rcv czs9 9 ((nx + 1) + zq3.2.2.1)).bind fun zz215 =>
      (m_X12_wide czs9 ((nx + 1) + zq3.2.2.1) zx214).bind fun zx216 =>
      if zx213 = zx216 then
        some (Sum.inl (zs9 + (6 : Int32)), czs9, 0, 0)
      else
        none
    else
    if (zx24 &&& (63 : Int32)) = (17 : Int32) then
      (scr L xs (zs9 + (1 : Int32))).bind fun zx221 =>
      (rcv czs9 8 nx).bind fun zz222 =>
      (m_X11_bad czs9 nx zx221).bind fun zx223 =>
      (scr L xs (zs9 + (1 : Int32))).bind fun zx224 =>
      (rcv czs9 9 ((nx + 1) + zq3.2.2.1)).bind fun zz225 =>
      (m_X12_bad czs9 ((nx + 1) + zq3.2.2.1) zx224).bind fun zx226 =>
      if zx223 = zx226 then
        some (Sum.inl (zs9 + (6 : Int32)), czs9, 0, 0)
      else
        none
    else
    if (zx24 &&& (63 : Int32)) = (18 : Int32) then
      (scr L xs (zs9 + (1 : Int32))).bind fun zx231 =>
      (rcv czs9 8 nx).bind fun zz232 =>
      (m_X11_sought czs9 nx zx231).bind fun zx233 =>
      (scr L xs (zs9 + (1 : Int32))).bind fun zx234 =>
      (rcv czs9 9 ((nx + 1) + zq3.2.2.1)).bind fun zz235 =>
      (m_X12_sought czs9 ((nx + 1) + zq3.2.2.1) zx234).bind fun zx236 =>
      if zx233 = zx236 then
        some (Sum.inl (zs9 + (6 : Int32)), czs9, 0, 0)
      else
        none
    else
    if (zx24 &&& (63 : Int32)) = (19 : Int32) then
      (scr L xs (zs9 + (1 : Int32))).bind fun zx241 =>
      (rcv czs9 8 nx).bind fun zz242 =>
      (m_X11_weight czs9 nx zx241).bind fun zx243 =>
      (scr L xs (zs9 + (1 : Int32))).bind fun zx244 =>
      (rcv czs9 9 ((nx + 1) + zq3.2.2.1)).bind fun zz245 =>
      (m_X12_weight czs9 ((nx + 1) + zq3.2.2.1) zx244).bind fun zx246 =>
      if zx243 = zx246 then
        some (Sum.inl (zs9 + (6 : Int32)), czs9, 0, 0)
      else
        none
    else
    if (zx24 &&& (63 : Int32)) = (20 : Int32) then
      (scr L xs (zs9 + (1 : Int32))).bind fun zx251 =>
      (scr L xs (zs9 + (2 : Int32))).bind fun zx252 =>
      (scr L xs (zs9 + (3 : Int32))).bind fun zx253 =>
      (rcv czs9 8 nx).bind fun zz254 =>
      (m_X11_cube czs9 nx zx251 zx252 zx253).bind fun zx255 =>
      (scr L xs (zs9 + (1 : Int32))).bind fun zx256 =>
      (scr L xs (zs9 + (2 : Int32))).bind fun zx257 =>
      (scr L xs (zs9 + (3 : Int32))).bind fun zx258 =>
      (rcv czs9 9 ((nx + 1) + zq3.2.2.1)).bind fun zz259 =>
      (m_X12_cube czs9 ((nx + 1) + zq3.2.2.1) zx256 zx257 zx258).bind fun zx260 =>
      if zx255 = zx260 then
        some (Sum.inl (zs9 + (6 : Int32)), czs9, 0, 0)
      else
        none
    else
    if (zx24 &&& (63 : Int32)) = (21 : Int32) then
      (scr L xs (zs9 + (1 : Int32))).bind fun zx265 =>
      (scr L xs (zs9 + (2 : Int32))).bind fun zx266 =>
      (rcv czs9 8 nx).bind fun zz267 =>
      (m_X11_obligation czs9 nx zx265 zx266).bind fun zx268 =>
      (scr L xs (zs9 + (1 : Int32))).bind fun zx269 =>
      (scr L xs (zs9 + (2 : Int32))).bind fun zx270 =>
      (rcv czs9 9 ((nx + 1) + zq3.2.2.1)).bind fun zz271 =>
      (m_X12_obligation czs9 ((nx + 1) + zq3.2.2.1) zx269 zx270).bind fun zx272 =>
      if zx268 = zx272 then
        some (Sum.inl (zs9 + (6 : Int32)), czs9, 0, 0)
      else
        none
    else
    if (zx24 &&& (63 : Int32)) = (22 : Int32) then
      (scr L xs (zs9 + (1 : Int32))).bind fun zx277 =>
      (scr L xs (zs9 + (2 : Int32))).bind fun zx278 =>
      (rcv czs9 8 nx).bind fun zz279 =>
      (m_X11_trace czs9 nx zx277 zx278).bind fun zq280 =>
      (scr L xs (zs9 + (1 : Int32))).bind fun zx281 =>
      (scr L xs (zs9 + (2 : Int32))).bind fun zx282 =>
      (rcv zq280.2 9 ((nx + 1) + zq3.2.2.1)).bind fun zz283 =>
      (m_X12_trace zq280.2 ((nx + 1) + zq3.2.2.1) zx281 zx282).bind fun zq284 =>
      if zq280.1 = zq284.1 then
        some (Sum.inl (zs9 + (6 : Int32)), zq284.2, 0, 0)
      else
        none
    else
    if (zx24 &&& (63 : Int32)) = (23 : Int32) then
      (scr L xs (zs9 + (1 : Int32))).bind fun zx289 =>
      (scr L xs (zs9 + (2 : Int32))).bind fun zx290 =>
      (rcv czs9 8 nx).bind fun zz291 =>
      (m_X11_fence czs9 nx zx289 zx290).bind fun zx292 =>
      (scr L xs (zs9 + (1 : Int32))).bind fun zx293 =>
      (scr L xs (zs9 + (2 : Int32))).bind fun zx294 =>
      (rcv czs9 9 ((nx + 1) + zq3.2.2.1)).bind fun zz295 =>
      (m_X12_fence czs9 ((nx + 1) + zq3.2.2.1) zx293 zx294).bind fun zq296 =>
      if zx292 = zq296.1 then
        some (Sum.inl (zs9 + (6 : Int32)), zq296.2, 0, 0)
      else
        none
    else
    if (zx24 &&& (63 : Int32)) = (24 : Int32) then
      (scr L xs (zs9 + (1 : Int32))).bind fun zx301 =>
      (rcv czs9 8 nx).bind fun zz302 =>
      (m_X11_activity czs9 nx zx301).bind fun zx303 =>
      (scr L xs (zs9 + (1 : Int32))).bind fun zx304 =>
      (rcv czs9 9 ((nx + 1) + zq3.2.2.1)).bind fun zz305 =>
      (m_X12_activity czs9 ((nx + 1) + zq3.2.2.1) zx304).bind fun zx306 =>
      if zx303 = zx306 then
        some (Sum.inl (zs9 + (6 : Int32)), czs9, 0, 0)
      else
        none
    else
    if (zx24 &&& (63 : Int32)) = (25 : Int32) then
      (scr L xs (zs9 + (1 : Int32))).bind fun zx311 =>
      (rcv czs9 8 nx).bind fun zz312 =>
      (m_X11_order czs9 nx zx311).bind fun zx313 =>
      (scr L xs (zs9 + (1 : Int32))).bind fun zx314 =>
      (rcv czs9 9 ((nx + 1) + zq3.2.2.1)).bind fun zz315 =>
      (m_X12_order czs9 ((nx + 1) + zq3.2.2.1) zx314).bind fun zq316 =>
      if zx313 = zq316.1 then
        some (Sum.inl (zs9 + (6 : Int32)), zq316.2, 0, 0)
      else
        none
    else
    if (zx24 &&& (63 : Int32)) = (26 : Int32) then
      (scr L xs (zs9 + (1 : Int32))).bind fun zx321 =>
      (scr L xs (zs9 + (2 : Int32))).bind fun zx322 =>
      (scr L xs (zs9 + (3 : Int32))).bind fun zx323 =>
      (rcv czs9 8 nx).bind fun zz324 =>
      (m_X11_holds czs9 nx zx321 zx322 zx323).bind fun zx325 =>
      (scr L xs (zs9 + (1 : Int32))).bind fun zx326 =>
      (scr L xs (zs9 + (2 : Int32))).bind fun zx327 =>
      (scr L xs (zs9 + (3 : Int32))).bind fun zx328 =>
      (rcv czs9 9 ((nx + 1) + zq3.2.2.1)).bind fun zz329 =>
      (m_X12_holds czs9 ((nx + 1) + zq3.2.2.1) zx326 zx327 zx328).bind fun zx330 =>
      if zx325 = zx330 then
        some (Sum.inl (zs9 + (6 : Int32)), czs9, 0, 0)
      else
        none
    else
    if (zx24 &&& (63 : Int32)) = (27 : Int32) then
      (scr L xs (zs9 + (1 : Int32))).bind fun zx335 =>
      (scr L xs (zs9 + (2 : Int32))).bind fun zx336 =>
      (rcv czs9 8 nx).bind fun zz337 =>
      (m_X11_widened czs9 nx zx335 zx336).bind fun zq338 =>
      (scr L xs (zs9 + (1 : Int32))).bind fun zx339 =>
      (scr L xs (zs9 + (2 : Int32))).bind fun zx340 =>
      (rcv zq338.2 9 ((nx + 1) + zq3.2.2.1)).bind fun zz341 =>
      (m_X12_widened zq338.2 ((nx + 1) + zq3.2.2.1) zx339 zx340).bind fun zq342 =>
      if zq338.1 = zq342.1 then
        some (Sum.inl (zs9 + (6 : Int32)), zq342.2, 0, 0)
      else
        none
    else
    if (zx24 &&& (63 : Int32)) = (28 : Int32) then
      (scr L xs (zs9 + (1 : Int32))).bind fun zx347 =>
      (scr L xs (zs9 + (2 : Int32))).bind fun zx348 =>
      (rcv czs9 8 nx).bind fun zz349 =>
      (m_X11_ahead czs9 nx zx347 zx348).bind fun zx350 =>
      (scr L xs (zs9 + (1 : Int32))).bind fun zx351 =>
      (scr L xs (zs9 + (2 : Int32))).bind fun zx352 =>
      (rcv czs9 9 ((nx + 1) + zq3.2.2.1)).bind fun zz353 =>
      (m_X12_ahead czs9 ((nx + 1) + zq3.2.2.1) zx351 zx352).bind fun zx354 =>
      if zx350 = zx354 then
        some (Sum.inl (zs9 + (6 : Int32)), czs9, 0, 0)
      else
        none
    else
    if (zx24 &&& (63 : Int32)) = (29 : Int32) then
      (scr L xs (zs9 + (1 : Int32))).bind fun zx359 =>
      (rcv czs9 8 nx).bind fun zz360 =>
      (m_X11_distance czs9 nx zx359).bind fun zx361 =>
      (scr L xs (zs9 + (1 : Int32))).bind fun zx362 =>
      (rcv czs9 9 ((nx + 1) + zq3.2.2.1)).bind fun zz363 =>
      (m_X12_distance czs9 ((nx + 1) + zq3.2.2.1) zx362).bind fun zx364 =>
      if zx361 = zx364 then
        some (Sum.inl (zs9 + (6 : Int32)), czs9, 0, 0)
      else
        none
    else
    if (zx24 &&& (63 : Int32)) = (30 : Int32) then
      (scr L xs (zs9 + (1 : Int32))).bind fun zx369 =>
      (scr L xs (zs9 + (2 : Int32))).bind fun zx370 =>
      (rcv czs9 8 nx).bind fun zz371 =>
      (m_X11_distanceBy czs9 nx zx369 zx370).bind fun zx372 =>
      (scr L xs (zs9 + (1 : Int32))).bind fun zx373 =>
      (scr L xs (zs9 + (2 : Int32))).bind fun zx374 =>
      (rcv czs9 9 ((nx + 1) + zq3.2.2.1)).bind fun zz375 =>
      (m_X12_distanceBy czs9 ((nx + 1) + zq3.2.2.1) zx373 zx374).bind fun zx376 =>
      if zx372 = zx376 then
        some (Sum.inl (zs9 + (6 : Int32)), czs9, 0, 0)
      else
        none
    else
    if (zx24 &&& (63 : Int32)) = (31 : Int32) then
      (scr L xs (zs9 + (1 : Int32))).bind fun zx381 =>
      (rcv czs9 8 nx).bind fun zz382 =>
      (m_X11_far czs9 nx zx381).bind fun zx383 =>
      (scr L xs (zs9 + (1 : Int32))).bind fun zx384 =>
      (rcv czs9 9 ((nx + 1) + zq3.2.2.1)).bind fun zz385 =>
      (m_X12_far czs9 ((nx + 1) + zq3.2.2.1) zx384).bind fun zx386 =>
      if zx383 = zx386 then
        some (Sum.inl (zs9 + (6 : Int32)), czs9, 0, 0)
      else
        none
    else
    if (zx24 &&& (63 : Int32)) = (32 : Int32) then
      (scr L xs (zs9 + (1 : Int32))).bind fun zx391 =>
      (rcv czs9 8 nx).bind fun zz392 =>
      (m_X11_doomed czs9 nx zx391).bind fun zx393 =>
      (scr L xs (zs9 + (1 : Int32))).bind fun zx394 =>
      (rcv czs9 9 ((nx + 1) + zq3.2.2.1)).bind fun zz395 =>
      (m_X12_doomed czs9 ((nx + 1) + zq3.2.2.1) zx394).bind fun zx396 =>
      if zx393 = zx396 then
        some (Sum.inl (zs9 + (6 : Int32)), czs9, 0, 0)
      else
        none
    else
    if (zx24 &&& (63 : Int32)) = (33 : Int32) then
      (scr L xs (zs9 + (1 : Int32))).bind fun zx401 =>
      (scr L xs (zs9 + (2 : Int32))).bind fun zx402 =>
      (rcv czs9 8 nx).bind fun zz403 =>
      (m_X11_shortest czs9 nx zx401 zx402).bind fun zq404 =>
      (scr L xs (zs9 + (1 : Int32))).bind fun zx405 =>
      (scr L xs (zs9 + (2 : Int32))).bind fun zx406 =>
      (rcv zq404.2 9 ((nx + 1) + zq3.2.2.1)).bind fun zz407 =>
      (m_X12_shortest zq404.2 ((nx + 1) + zq3.2.2.1) zx405 zx406).bind fun zq408 =>
      if zq404.1 = zq408.1 then
        some (Sum.inl (zs9 + (6 : Int32)), zq408.2, 0, 0)
      else
        none
    else
    if (zx24 &&& (63 : Int32)) = (34 : Int32) then
      (rcv czs9 8 nx).bind fun zz413 =>
      (m_X11_detour czs9 nx).bind fun zq414 =>
      (rcv zq414.2 9 ((nx + 1) + zq3.2.2.1)).bind fun zz415 =>
      (m_X12_detour zq414.2 ((nx + 1) + zq3.2.2.1)).bind fun zq416 =>
      if zq414.1 = zq416.1 then
        some (Sum.inl (zs9 + (6 : Int32)), zq416.2, 0, 0)
      else
        none
    else
    if (zx24 &&& (63 : Int32)) = (35 : Int32) then
      (rcv czs9 8 nx).bind fun zz421 =>
      (m_X11_nearest czs9 nx).bind fun zx422 =>
      (rcv czs9 9 ((nx + 1) + zq3.2.2.1)).bind fun zz423 =>
      (m_X12_nearest czs9 ((nx + 1) + zq3.2.2.1)).bind fun zx424 =>
      if zx422 = zx424 then
        some (Sum.inl (zs9 + (6 : Int32)), czs9, 0, 0)
      else
        none
    else
    if (zx24 &&& (63 : Int32)) = (36 : Int32) then
      (scr L xs (zs9 + (1 : Int32))).bind fun zx429 =>
      (rcv czs9 8 nx).bind fun zz430 =>
      (m_X11_reach czs9 nx zx429).bind fun zx431 =>
      (scr L xs (zs9 + (1 : Int32))).bind fun zx432 =>
      (rcv czs9 9 ((nx + 1) + zq3.2.2.1)).bind fun zz433 =>
      (m_X12_reach czs9 ((nx + 1) + zq3.2.2.1) zx432).bind fun zx434 =>
      if zx431 = zx434 then
        some (Sum.inl (zs9 + (6 : Int32)), czs9, 0, 0)
      else
        none
    else
    if (zx24 &&& (63 : Int32)) = (37 : Int32) then
      (scr L xs (zs9 + (1 : Int32))).bind fun zx439 =>
      (rcv czs9 8 nx).bind fun zz440 =>
      (m_X11_slack czs9 nx zx439).bind fun zx441 =>
      (scr L xs (zs9 + (1 : Int32))).bind fun zx442 =>
      (rcv czs9 9 ((nx + 1) + zq3.2.2.1)).bind fun zz443 =>
      (m_X12_slack czs9 ((nx + 1) + zq3.2.2.1) zx442).bind fun zx444 =>
      if zx441 = zx444 then
        some (Sum.inl (zs9 + (6 : Int32)), czs9, 0, 0)
      else
        none
    else
    if (zx24 &&& (63 : Int32)) = (38 : Int32) then
      (scr L xs (zs9 + (1 : Int32))).bind fun zx449 =>
      (scr L xs (zs9 + (2 : Int32))).bind fun zx450 =>
      (rcv czs9 8 nx).bind fun zz451 =>
      adcB (m_X11_claim nzs9 czs9 nx zx449 zx450) fun zq452 =>
      (scr L xs (zs9 + (1 : Int32))).bind fun zx454 =>
      (scr L xs (zs9 + (2 : Int32))).bind fun zx455 =>
      (rcv zq452.2.1 9 ((nx + 1) + zq3.2.2.1)).bind fun zz456 =>
      (m_X12_claim zq452.2.1 ((nx + 1) + zq3.2.2.1) zx454 zx455).bind fun zq457 =>
      if zq452.1 = zq457.1 then
        some (Sum.inl (zs9 + (6 : Int32)), zq457.2, 0, 0)
      else
        none
    else
    if (zx24 &&& (63 : Int32)) = (39 : Int32) then
      (rcv czs9 8 nx).bind fun zz462 =>
      adcB (m_X11_adopt nzs9 czs9 nx) fun zq463 =>
      (rcv zq463.2.1 9 ((nx + 1) + zq3.2.2.1)).bind fun zz465 =>
      (m_X12_adopt zq463.2.1 ((nx + 1) + zq3.2.2.1)).bind fun zq466 =>
      if zq463.1 = zq466.1 then
        some (Sum.inl (zs9 + (6 : Int32)), zq466.2, 0, 0)
      else
        none
    else
    if (zx24 &&& (63 : Int32)) = (40 : Int32) then
      (scr L xs (zs9 + (1 : Int32))).bind fun zx471 =>
      (rcv czs9 8 nx).bind fun zz472 =>
      adcB (m_X11_unclaim nzs9 czs9 nx zx471) fun zq473 =>
      (scr L xs (zs9 + (1 : Int32))).bind fun zx475 =>
      (rcv zq473.2.1 9 ((nx + 1) + zq3.2.2.1)).bind fun zz476 =>
      (m_X12_unclaim zq473.2.1 ((nx + 1) + zq3.2.2.1) zx475).bind fun zq477 =>
      if zq473.1 = zq477.1 then
        some (Sum.inl (zs9 + (6 : Int32)), zq477.2, 0, 0)
      else
        none
    else
    if (zx24 &&& (63 : Int32)) = (41 : Int32) then
      (scr L xs (zs9 + (1 : Int32))).bind fun zx482 =>
      (rcv czs9 8 nx).bind fun zz483 =>
      adcB (m_X11_loosen nzs9 czs9 nx zx482) fun zq484 =>
      (scr L xs (zs9 + (1 : Int32))).bind fun zx486 =>
      (rcv zq484.2.1 9 ((nx + 1) + zq3.2.2.1)).bind fun zz487 =>
      (m_X12_loosen zq484.2.1 ((nx + 1) + zq3.2.2.1) zx486).bind fun zq488 =>
      if zq484.1 = zq488.1 then
        some (Sum.inl (zs9 + (6 : Int32)), zq488.2, 0, 0)
      else
        none
    else
    if (zx24 &&& (63 : Int32)) = (42 : Int32) then
      (scr L xs (zs9 + (1 : Int32))).bind fun zx493 =>
      (scr L xs (zs9 + (2 : Int32))).bind fun zx494 =>
      (rcv czs9 8 nx).bind fun zz495 =>
      (m_X11_claimed czs9 nx zx493 zx494).bind fun zx496 =>
      (scr L xs (zs9 + (1 : Int32))).bind fun zx497 =>
      (scr L xs (zs9 + (2 : Int32))).bind fun zx498 =>
      (rcv czs9 9 ((nx + 1) + zq3.2.2.1)).bind fun zz499 =>
      (m_X12_claimed czs9 ((nx + 1) + zq3.2.2.1) zx497 zx498).bind fun zx500 =>
      if zx496 = zx500 then
        some (Sum.inl (zs9 + (6 : Int32)), czs9, 0, 0)
      else
        none
    else
    if (zx24 &&& (63 : Int32)) = (43 : Int32) then
      (scr L xs (zs9 + (1 : Int32))).bind fun zx505 =>
      (rcv czs9 8 nx).bind fun zz506 =>
      (m_X11_judged czs9 nx zx505).bind fun zx507 =>
      (scr L xs (zs9 + (1 : Int32))).bind fun zx508 =>
      (rcv czs9 9 ((nx + 1) + zq3.2.2.1)).bind fun zz509 =>
      (m_X12_judged czs9 ((nx + 1) + zq3.2.2.1) zx508).bind fun zq510 =>
      if zx507 = zq510.1 then
        some (Sum.inl (zs9 + (6 : Int32)), zq510.2, 0, 0)
      else
        none
    else
    if (zx24 &&& (63 : Int32)) = (44 : Int32) then
      (scr L xs (zs9 + (1 : Int32))).bind fun zx515 =>
      (rcv czs9 8 nx).bind fun zz516 =>
      (m_X11_witness czs9 nx zx515).bind fun zx517 =>
      (scr L xs (zs9 + (1 : Int32))).bind fun zx518 =>
      (rcv czs9 9 ((nx + 1) + zq3.2.2.1)).bind fun zz519 =>
      (m_X12_witness czs9 ((nx + 1) + zq3.2.2.1) zx518).bind fun zq520 =>
      if zx517 = zq520.1 then
        some (Sum.inl (zs9 + (6 : Int32)), zq520.2, 0, 0)
      else
        none
    else
    if (zx24 &&& (63 : Int32)) = (45 : Int32) then
      (scr L xs (zs9 + (1 : Int32))).bind fun zx525 =>
      (rcv czs9 8 nx).bind fun zz526 =>
      adcB (m_X11_spare nzs9 czs9 nx zx525) fun zq527 =>
      (scr L xs (zs9 + (1 : Int32))).bind fun zx529 =>
      (rcv zq527.2.1 9 ((nx + 1) + zq3.2.2.1)).bind fun zz530 =>
      (m_X12_spare zq527.2.1 ((nx + 1) + zq3.2.2.1) zx529).bind fun zq531 =>
      if zq527.1 = zq531.1 then
        some (Sum.inl (zs9 + (6 : Int32)), zq531.2, 0, 0)
      else
        none
    else
    if (zx24 &&& (63 : Int32)) = (46 : Int32) then
      (scr L xs (zs9 + (1 : Int32))).bind fun zx536 =>
      (rcv czs9 8 nx).bind fun zz537 =>
      (m_X11_fewest czs9 nx zx536).bind fun zq538 =>
      (scr L xs (zs9 + (1 : Int32))).bind fun zx539 =>
      (rcv zq538.2 9 ((nx + 1) + zq3.2.2.1)).bind fun zz540 =>
      (m_X12_fewest zq538.2 ((nx + 1) + zq3.2.2.1) zx539).bind fun zq541 =>
      if zq538.1 = zq541.1 then
        some (Sum.inl (zs9 + (6 : Int32)), zq541.2, 0, 0)
      else
        none
    else
    if (zx24 &&& (63 : Int32)) = (47 : Int32) then
      (scr L xs (zs9 + (1 : Int32))).bind fun zx546 =>
      (rcv czs9 8 nx).bind fun zz547 =>
      (m_X11_chosen czs9 nx zx546).bind fun zq548 =>
      (scr L xs (zs9 + (1 : Int32))).bind fun zx549 =>
      (rcv zq548.2 9 ((nx + 1) + zq3.2.2.1)).bind fun zz550 =>
      (m_X12_chosen zq548.2 ((nx + 1) + zq3.2.2.1) zx549).bind fun zq551 =>
      if zq548.1 = zq551.1 then
        some (Sum.inl (zs9 + (6 : Int32)), zq551.2, 0, 0)
      else
        none
    else
    if (zx24 &&& (63 : Int32)) = (48 : Int32) then
      (scr L xs (zs9 + (1 : Int32))).bind fun zx556 =>
      (rcv czs9 8 nx).bind fun zz557 =>
      (m_X11_inside czs9 nx zx556).bind fun zx558 =>
      (scr L xs (zs9 + (1 : Int32))).bind fun zx559 =>
      (rcv czs9 9 ((nx + 1) + zq3.2.2.1)).bind fun zz560 =>
      (m_X12_inside czs9 ((nx + 1) + zq3.2.2.1) zx559).bind fun zq561 =>
      if zx558 = zq561.1 then
        some (Sum.inl (zs9 + (6 : Int32)), zq561.2, 0, 0)
      else
        none
    else
    if (zx24 &&& (63 : Int32)) = (49 : Int32) then
      (scr L xs (zs9 + (1 : Int32))).bind fun zx566 =>
      (rcv czs9 8 nx).bind fun zz567 =>
      adcB (m_X11_foretold nzs9 czs9 nx zx566) fun zq568 =>
      (scr L xs (zs9 + (1 : Int32))).bind fun zx570 =>
      (rcv zq568.2.1 9 ((nx + 1) + zq3.2.2.1)).bind fun zz571 =>
      (m_X12_foretold zq568.2.1 ((nx + 1) + zq3.2.2.1) zx570).bind fun zq572 =>
      if zq568.1 = zq572.1 then
        some (Sum.inl (zs9 + (6 : Int32)), zq572.2, 0, 0)
      else
        none
    else
    if (zx24 &&& (63 : Int32)) = (50 : Int32) then
      (rcv czs9 8 nx).bind fun zz577 =>
      adcB (m_X11_till nzs9 czs9 nx) fun zq578 =>
      (rcv zq578.2.1 9 ((nx + 1) + zq3.2.2.1)).bind fun zz580 =>
      (m_X12_till zq578.2.1 ((nx + 1) + zq3.2.2.1)).bind fun zq581 =>
      if zq578.1 = zq581.1 then
        some (Sum.inl (zs9 + (6 : Int32)), zq581.2, 0, 0)
      else
        none
    else
    if (zx24 &&& (63 : Int32)) = (51 : Int32) then
      (rcv czs9 8 nx).bind fun zz586 =>
      adcB (m_X11_quickest nzs9 czs9 nx) fun zq587 =>
      (rcv zq587.2.1 9 ((nx + 1) + zq3.2.2.1)).bind fun zz589 =>
      (m_X12_quickest zq587.2.1 ((nx + 1) + zq3.2.2.1)).bind fun zq590 =>
      if zq587.1 = zq590.1 then
        some (Sum.inl (zs9 + (6 : Int32)), zq590.2, 0, 0)
      else
        none
    else
    if (zx24 &&& (63 : Int32)) = (52 : Int32) then
      (rcv czs9 8 nx).bind fun zz595 =>
      adcB (m_X11_bestMode nzs9 czs9 nx) fun zq596 =>
      (rcv zq596.2.1 9 ((nx + 1) + zq3.2.2.1)).bind fun zz598 =>
      (m_X12_bestMode zq596.2.1 ((nx + 1) + zq3.2.2.1)).bind fun zq599 =>
      if zq596.1 = zq599.1 then
        some (Sum.inl (zs9 + (6 : Int32)), zq599.2, 0, 0)
      else
        none
    else
    if (zx24 &&& (63 : Int32)) = (53 : Int32) then
      (rcv czs9 8 nx).bind fun zz604 =>
      (m_X11_mean czs9 nx).bind fun zx605 =>
      (rcv czs9 9 ((nx + 1) + zq3.2.2.1)).bind fun zz606 =>
      (m_X12_mean czs9 ((nx + 1) + zq3.2.2.1)).bind fun zx607 =>
      if (lg_cmp zx605 zx607) = 0 then
        some (Sum.inl (zs9 + (6 : Int32)), czs9, 0, 0)
      else
        none
    else
    if (zx24 &&& (63 : Int32)) = (54 : Int32) then
      (rcv czs9 8 nx).bind fun zz612 =>
      adcB (m_X11_image nzs9 czs9 nx) fun zq613 =>
      (rcv zq613.2.1 9 ((nx + 1) + zq3.2.2.1)).bind fun zz615 =>
      (m_X12_image zq613.2.1 ((nx + 1) + zq3.2.2.1)).bind fun zq616 =>
      if zq613.1 = zq616.1 then
        some (Sum.inl (zs9 + (6 : Int32)), zq616.2, 0, 0)
      else
        none
    else
    if (zx24 &&& (63 : Int32)) = (55 : Int32) then
      (rcv czs9 8 nx).bind fun zz621 =>
      adcB (m_X11_back nzs9 czs9 nx) fun zq622 =>
      (rcv zq622.2.1 9 ((nx + 1) + zq3.2.2.1)).bind fun zz624 =>
      (m_X12_back zq622.2.1 ((nx + 1) + zq3.2.2.1)).bind fun zq625 =>
      if zq622.1 = zq625.1 then
        some (Sum.inl (zs9 + (6 : Int32)), zq625.2, 0, 0)
      else
        none
    else
    if (zx24 &&& (63 : Int32)) = (56 : Int32) then
      (scr L xs (zs9 + (1 : Int32))).bind fun zx630 =>
      (rcv czs9 8 nx).bind fun zz631 =>
      (m_X11_about czs9 nx zx630).bind fun zx632 =>
      (scr L xs (zs9 + (1 : Int32))).bind fun zx633 =>
      (rcv czs9 9 ((nx + 1) + zq3.2.2.1)).bind fun zz634 =>
      (m_X12_about czs9 ((nx + 1) + zq3.2.2.1) zx633).bind fun zx635 =>
      if zx632 = zx635 then
        some (Sum.inl (zs9 + (6 : Int32)), czs9, 0, 0)
      else
        none
    else
    some (Sum.inl (zs9 + (6 : Int32)), czs9, 0, 0)
def m_L_law (L : Nat) (xs : Nat → Int32) (nx : Nat) (ce : Ce) : Option (Int32 × Ce × Nat × Nat) :=
  adcK 1 13 fun _ =>
  (some (gx_up ce nx (.inr (8, df_X11)))).bind fun zc2 =>
  adcB (m_X11_init (nx + 1) zc2 nx) fun zq3 =>
  adcK 1 33 fun _ =>
  (some (gx_up zq3.2.1 ((nx + 1) + zq3.2.2.1) (.inr (9, df_X12)))).bind fun zc6 =>
  adcB (m_X12_init (((nx + 1) + zq3.2.2.1) + 1) zc6 ((nx + 1) + zq3.2.2.1)) fun zq7 =>
  adcB (itA (m_L_body L xs nx zq3) FU ((((nx + 1) + zq3.2.2.1) + 1) + zq7.2.2.1) zq7.2.1 (0 : Int32)) fun (zo10 : Unit × Ce × Nat × Nat) =>
  some ((1 : Int32), zo10.2.1, 0, 0)
set_option maxRecDepth 100000 in
set_option maxHeartbeats 40000000 in
theorem c_L_law {G : GC} {b L : Nat} {xs : Nat → Int32} {nx kS sS : Nat} {ce : Ce} {q : Int32 × Ce × Nat × Nat} (C : Cx G RL cL_law 4 74 2873) (HX : Scr G b L xs) (HQ : LawQ G b) (hr : m_L_law L xs nx ce = some q) : Jd G (kS + q.2.2.1) (sS + q.2.2.2) nx ce 0 [(0, .ref b)] [] := by
  unfold m_L_law at hr
  obtain ⟨zt1, hr, azt1, bzt1, czt1, dzt1⟩ := adcK_s hr
  obtain ⟨zc2, hzc2, hr⟩ := ob hr
  have hzc2 := Option.some.inj hzc2
  refine j_k (kc' := kS + zt1.2.2.1 + 1) (ks' := sS + zt1.2.2.2 + 13) (by omega) (by omega) ?_
  refine j_new (ci := 8) (N := 13) (C0 := RX11) (T := TX11) (ty := tyX11) (fs := df_X11) (pc' := 3) C dL_law_0 rfl iw_X11 tyX11_ok wm_151 wm_152 wm_125 dv_X11 rfl ?_
  rw [hzc2]
  refine j_dup (pc' := 4) C dL_law_3 rfl rfl ?_
  obtain ⟨zq3, zt4, hzq3, hr, azt4, bzt4, czt4, dzt4⟩ := adcB_s hr
  refine j_k (kc' := kS + zt4.2.2.1 + zq3.2.2.1) (ks' := sS + zt4.2.2.2 + zq3.2.2.2) (by omega) (by omega) ?_
  refine j_callIA (As := []) (rest := [.ref nx]) (st1 := [.ref nx]) (pc' := 7) C wm_154 rfl (c_X11_init hzq3) yw_X11_init wm_153 rfl rfl (Nat.le_of_ble_eq_true rfl) ⟨by decide, by decide⟩ dL_law_4 rfl rfl ?_
  refine j_astore_n (lv' := [(1, .ref nx), (0, .ref b)]) (pc' := 8) C dL_law_7 rfl (by decide) rfl rfl ?_
  obtain ⟨zt5, hr, azt5, bzt5, czt5, dzt5⟩ := adcK_s hr
  obtain ⟨zc6, hzc6, hr⟩ := ob hr
  have hzc6 := Option.some.inj hzc6
  refine j_k (kc' := kS + zt5.2.2.1 + 1) (ks' := sS + zt5.2.2.2 + 33) (by omega) (by omega) ?_
  refine j_new (ci := 9) (N := 33) (C0 := RX12) (T := TX12) (ty := tyX12) (fs := df_X12) (pc' := 11) C dL_law_8 rfl iw_X12 tyX12_ok wm_1395 wm_1396 wm_134 dv_X12 rfl ?_
  rw [hzc6]
  refine j_dup (pc' := 12) C dL_law_11 rfl rfl ?_
  obtain ⟨zq7, zt8, hzq7, hr, azt8, bzt8, czt8, dzt8⟩ := adcB_s hr
  refine j_k (kc' := kS + zt8.2.2.1 + zq7.2.2.1) (ks' := sS + zt8.2.2.2 + zq7.2.2.2) (by omega) (by omega) ?_
  refine j_callIA (As := []) (rest := [.ref ((nx + 1) + zq3.2.2.1)]) (st1 := [.ref ((nx + 1) + zq3.2.2.1)]) (pc' := 15) C wm_1398 rfl (c_X12_init hzq7) yw_X12_init wm_1397 rfl rfl (Nat.le_of_ble_eq_true rfl) ⟨by decide, by decide⟩ dL_law_12 rfl rfl ?_
  refine j_astore_n (lv' := [(2, .ref ((nx + 1) + zq3.2.2.1)), (1, .ref nx), (0, .ref b)]) (pc' := 16) C dL_law_15 rfl (by decide) rfl rfl ?_
  refine j_iconst (v := 0) (pc' := 17) C dL_law_16 kI_0 rfl ?_
  refine j_istore_n (lv' := [(3, .int (0 : Int32)), (2, .ref ((nx + 1) + zq3.2.2.1)), (1, .ref nx), (0, .ref b)]) (pc' := 18) C dL_law_17 rfl (by decide) rfl rfl ?_
  obtain ⟨zo10, zt11, hzo10, rzo10, azt11, bzt11, czt11, dzt11⟩ := adcB_s hr
  have kzo10 : ∀ (vzo10 : Unit) (czo10 : Ce) (nzo10 : Nat), zo10.1 = vzo10 → zo10.2.1 = czo10 → ((((nx + 1) + zq3.2.2.1) + 1) + zq7.2.2.1) + zo10.2.2.1 = nzo10 → Jd G (kS + zt11.2.2.1) (sS + zt11.2.2.2) nzo10 czo10 1724 [] [] := by
    rintro _ _ _ rfl rfl rfl
    have hr := rzo10
    refine j_iconst (v := 1) (pc' := 1725) C dL_law_1724 kI_1 rfl ?_
    exact j_lawret C HQ dL_law_1725
  refine j_k (kc' := kS + zt11.2.2.1 + zo10.2.2.1) (ks' := sS + zt11.2.2.2 + zo10.2.2.2) (by omega) (by omega) ?_
  refine j_lv (lv' := [(0, .ref b), (1, .ref nx), (2, .ref ((nx + 1) + zq3.2.2.1)), (3, .int (0 : Int32))]) [3, 2, 1, 0] rfl ?_
  refine itA_Jq (J := fun (nzs9 : Nat) (czs9 : Ce) (zs9 : Int32) (zK13 zS14 : Nat) => Jd G (kS + zt11.2.2.1 + zK13) (sS + zt11.2.2.2 + zS14) nzs9 czs9 18 [(0, .ref b), (1, .ref nx), (2, .ref ((nx + 1) + zq3.2.2.1)), (3, .int zs9)] []) ?_ hzo10
  clear hzo10
  intro nzs9 czs9 zs9 zb12 zK13 zS14 hr izs9 ezs9
  unfold m_L_body at hr
  refine j_k (kc' := kS + zt11.2.2.1 + zK13 + zb12.2.2.1) (ks' := sS + zt11.2.2.2 + zS14 + zb12.2.2.2) (by omega) (by omega) ?_
  refine j_iload_n (q := 3) (pc' := 19) C dL_law_18 rfl rfl rfl ?_
  refine j_aload_n (q := 0) (pc' := 20) C dL_law_19 rfl rfl rfl ?_
  refine j_scrlen (pc' := 21) C HX dL_law_20 rfl ?_
  refine j_bipush (v := 6) (pc' := 23) C dL_law_21 kB_6 rfl ?_
  refine j_isub (pc' := 24) C dL_law_23 rfl ?_
  refine j_ic_gt (tgt := 1724) (pc' := 27) C dL_law_24 rfl rfl (fun hc => ?_) (fun hc => ?_)
  · have hr := ifT hc hr
    clear hc
    obtain ⟨azf15, bzf16, czf17, dzf18⟩ := some4 hr
    obtain ⟨azg19, bzg20, czg21, dzg22, ezg23⟩ := ezs9 _ azf15
    refine j_k (kc' := kS + zt11.2.2.1) (ks' := sS + zt11.2.2.2) (by omega) (by omega) ?_
    exact j_lv [] rfl (kzo10 _ _ _ azg19.symm (bzg20.symm.trans bzf16) (by omega))
  · have hr := ifF hc hr
    clear hc
    refine j_aload_n (q := 0) (pc' := 28) C dL_law_27 rfl rfl rfl ?_
    refine j_iload_n (q := 3) (pc' := 29) C dL_law_28 rfl rfl rfl ?_
    obtain ⟨zx24, hzx24, hr⟩ := ob hr
    refine j_scrld (pc' := 30) C HX dL_law_29 hzx24 rfl ?_
    refine j_bipush (v := 63) (pc' := 32) C dL_law_30 kB_63 rfl ?_
    refine j_iand (pc' := 33) C dL_law_32 rfl ?_
    by_cases hc0 : (zx24 &&& (63 : Int32)) = (0 : Int32)
    · have hr := ifT hc0 hr
      refine j_tabIn (v := 0) (off := 243) (tgt := 276) C dL_law_33 hc0 (by decide) rfl ?_
      refine j_aload_n (q := 1) (pc' := 277) C dL_law_276 rfl rfl rfl ?_
      refine j_aload_n (q := 0) (pc' := 278) C dL_law_277 rfl rfl rfl ?_
      refine j_iload_n (q := 3) (pc' := 279) C dL_law_278 rfl rfl rfl ?_
      refine j_iconst (v := 1) (pc' := 280) C dL_law_279 kI_1 rfl ?_
      refine j_iadd (pc' := 281) C dL_law_280 rfl ?_
      obtain ⟨zx25, hzx25, hr⟩ := ob hr
      refine j_scrld (pc' := 282) C HX dL_law_281 hzx25 rfl ?_
      refine j_aload_n (q := 0) (pc' := 283) C dL_law_282 rfl rfl rfl ?_
      refine j_iload_n (q := 3) (pc' := 284) C dL_law_283 rfl rfl rfl ?_
      refine j_iconst (v := 2) (pc' := 285) C dL_law_284 kI_2 rfl ?_
      refine j_iadd (pc' := 286) C dL_law_285 rfl ?_
      obtain ⟨zx26, hzx26, hr⟩ := ob hr
      refine j_scrld (pc' := 287) C HX dL_law_286 hzx26 rfl ?_
      refine j_aload_n (q := 0) (pc' := 288) C dL_law_287 rfl rfl rfl ?_
      refine j_iload_n (q := 3) (pc' := 289) C dL_law_288 rfl rfl rfl ?_
      refine j_iconst (v := 3) (pc' := 290) C dL_law_289 kI_3 rfl ?_
      refine j_iadd (pc' := 291) C dL_law_290 rfl ?_
      obtain ⟨zx27, hzx27, hr⟩ := ob hr
      refine j_scrld (pc' := 292) C HX dL_law_291 hzx27 rfl ?_
      refine j_aload_n (q := 0) (pc' := 293) C dL_law_292 rfl rfl rfl ?_
      refine j_iload_n (q := 3) (pc' := 294) C dL_law_293 rfl rfl rfl ?_
      refine j_iconst (v := 4) (pc' := 295) C dL_law_294 kI_4 rfl ?_
      refine j_iadd (pc' := 296) C dL_law_295 rfl ?_
      obtain ⟨zx28, hzx28, hr⟩ := ob hr
      refine j_scrld (pc' := 297) C HX dL_law_296 hzx28 rfl ?_
      refine j_aload_n (q := 0) (pc' := 298) C dL_law_297 rfl rfl rfl ?_
      refine j_iload_n (q := 3) (pc' := 299) C dL_law_298 rfl rfl rfl ?_
      refine j_iconst (v := 5) (pc' := 300) C dL_law_299 kI_5 rfl ?_
      refine j_iadd (pc' := 301) C dL_law_300 rfl ?_
      obtain ⟨zx29, hzx29, hr⟩ := ob hr
      refine j_scrld (pc' := 302) C HX dL_law_301 hzx29 rfl ?_
      obtain ⟨zz30, hzz30, hr⟩ := ob hr
      obtain ⟨zq31, hzq31, hr⟩ := ob hr
      obtain ⟨fhzz30, hzz30⟩ := rcv_sp hzz30
      refine j_callV (ci := 8) (As := [.int zx25, .int zx26, .int zx27, .int zx28, .int zx29]) (rest := []) (st1 := [.int zq31.1]) (pc' := 305) C ⟨wm_464, wm_465⟩ rfl hzz30 (c_X11_feed (nx := nzs9) hzq31) yw_X11_feed wm_463 rfl rfl (Nat.le_of_ble_eq_true rfl) ⟨by decide, by decide⟩ dL_law_302 rfl rfl ?_
      refine j_aload_n (q := 2) (pc' := 306) C dL_law_305 rfl rfl rfl ?_
      refine j_aload_n (q := 0) (pc' := 307) C dL_law_306 rfl rfl rfl ?_
      refine j_iload_n (q := 3) (pc' := 308) C dL_law_307 rfl rfl rfl ?_
      refine j_iconst (v := 1) (pc' := 309) C dL_law_308 kI_1 rfl ?_
      refine j_iadd (pc' := 310) C dL_law_309 rfl ?_
      obtain ⟨zx32, hzx32, hr⟩ := ob hr
      refine j_scrld (pc' := 311) C HX dL_law_310 hzx32 rfl ?_
      refine j_aload_n (q := 0) (pc' := 312) C dL_law_311 rfl rfl rfl ?_
      refine j_iload_n (q := 3) (pc' := 313) C dL_law_312 rfl rfl rfl ?_
      refine j_iconst (v := 2) (pc' := 314) C dL_law_313 kI_2 rfl ?_
      refine j_iadd (pc' := 315) C dL_law_314 rfl ?_
      obtain ⟨zx33, hzx33, hr⟩ := ob hr
      refine j_scrld (pc' := 316) C HX dL_law_315 hzx33 rfl ?_
      refine j_aload_n (q := 0) (pc' := 317) C dL_law_316 rfl rfl rfl ?_
      refine j_iload_n (q := 3) (pc' := 318) C dL_law_317 rfl rfl rfl ?_
      refine j_iconst (v := 3) (pc' := 319) C dL_law_318 kI_3 rfl ?_
      refine j_iadd (pc' := 320) C dL_law_319 rfl ?_
      obtain ⟨zx34, hzx34, hr⟩ := ob hr
      refine j_scrld (pc' := 321) C HX dL_law_320 hzx34 rfl ?_
      refine j_aload_n (q := 0) (pc' := 322) C dL_law_321 rfl rfl rfl ?_
      refine j_iload_n (q := 3) (pc' := 323) C dL_law_322 rfl rfl rfl ?_
      refine j_iconst (v := 4) (pc' := 324) C dL_law_323 kI_4 rfl ?_
      refine j_iadd (pc' := 325) C dL_law_324 rfl ?_
      obtain ⟨zx35, hzx35, hr⟩ := ob hr
      refine j_scrld (pc' := 326) C HX dL_law_325 hzx35 rfl ?_
      refine j_aload_n (q := 0) (pc' := 327) C dL_law_326 rfl rfl rfl ?_
      refine j_iload_n (q := 3) (pc' := 328) C dL_law_327 rfl rfl rfl ?_
      refine j_iconst (v := 5) (pc' := 329) C dL_law_328 kI_5 rfl ?_
      refine j_iadd (pc' := 330) C dL_law_329 rfl ?_
      obtain ⟨zx36, hzx36, hr⟩ := ob hr
      refine j_scrld (pc' := 331) C HX dL_law_330 hzx36 rfl ?_
      obtain ⟨zz37, hzz37, hr⟩ := ob hr
      obtain ⟨zq38, hzq38, hr⟩ := ob hr
      obtain ⟨fhzz37, hzz37⟩ := rcv_sp hzz37
      refine j_callV (ci := 9) (As := [.int zx32, .int zx33, .int zx34, .int zx35, .int zx36]) (rest := [.int zq31.1]) (st1 := [.int zq38.1, .int zq31.1]) (pc' := 334) C ⟨wm_1517, wm_1518⟩ rfl hzz37 (c_X12_feed (nx := nzs9) hzq38) yw_X12_feed wm_1516 rfl rfl (Nat.le_of_ble_eq_true rfl) ⟨by decide, by decide⟩ dL_law_331 rfl rfl ?_
      refine j_ic_eq (tgt := 1718) (pc' := 337) C dL_law_334 rfl rfl (fun hc => ?_) (fun hc => ?_)
      · have hr := ifT hc hr
        clear hc
        refine j_iinc (q := 3) (v := 6) (lv' := [(3, .int (zs9 + (6 : Int32))), (0, .ref b), (1, .ref nx), (2, .ref ((nx + 1) + zq3.2.2.1))]) (pc' := 1721) C dL_law_1718 rfl kI_6 (by decide) rfl rfl ?_
        refine j_goto (tgt := 18) C dL_law_1721 rfl ?_
        obtain ⟨azf39, bzf40, czf41, dzf42⟩ := some4 hr
        refine j_k (kc' := kS + zt11.2.2.1 + zK13) (ks' := sS + zt11.2.2.2 + zS14) (by omega) (by omega) ?_
        refine j_at (nx' := nzs9 + zb12.2.2.1) (by omega) bzf40.symm ?_
        exact j_lv [1, 2, 3, 0] rfl (izs9 _ azf39)
      · have hr := ifF hc hr
        clear hc
        cases hr
    have hr := ifF hc0 hr
    by_cases hc1 : (zx24 &&& (63 : Int32)) = (1 : Int32)
    · have hr := ifT hc1 hr
      refine j_tabIn (v := 1) (off := 306) (tgt := 339) C dL_law_33 hc1 (by decide) rfl ?_
      refine j_aload_n (q := 1) (pc' := 340) C dL_law_339 rfl rfl rfl ?_
      refine j_aload_n (q := 0) (pc' := 341) C dL_law_340 rfl rfl rfl ?_
      refine j_iload_n (q := 3) (pc' := 342) C dL_law_341 rfl rfl rfl ?_
      refine j_iconst (v := 1) (pc' := 343) C dL_law_342 kI_1 rfl ?_
      refine j_iadd (pc' := 344) C dL_law_343 rfl ?_
      obtain ⟨zx43, hzx43, hr⟩ := ob hr
      refine j_scrld (pc' := 345) C HX dL_law_344 hzx43 rfl ?_
      obtain ⟨zz44, hzz44, hr⟩ := ob hr
      obtain ⟨zq45, hzq45, hr⟩ := ob hr
      obtain ⟨fhzz44, hzz44⟩ := rcv_sp hzz44
      refine j_callV (ci := 8) (As := [.int zx43]) (rest := []) (st1 := [.int zq45.1]) (pc' := 348) C ⟨wm_472, wm_473⟩ rfl hzz44 (c_X11_end (nx := nzs9) hzq45) yw_X11_end wm_471 rfl rfl (Nat.le_of_ble_eq_true rfl) ⟨by decide, by decide⟩ dL_law_345 rfl rfl ?_
      refine j_aload_n (q := 2) (pc' := 349) C dL_law_348 rfl rfl rfl ?_
      refine j_aload_n (q := 0) (pc' := 350) C dL_law_349 rfl rfl rfl ?_
      refine j_iload_n (q := 3) (pc' := 351) C dL_law_350 rfl rfl rfl ?_
      refine j_iconst (v := 1) (pc' := 352) C dL_law_351 kI_1 rfl ?_
      refine j_iadd (pc' := 353) C dL_law_352 rfl ?_
      obtain ⟨zx46, hzx46, hr⟩ := ob hr
      refine j_scrld (pc' := 354) C HX dL_law_353 hzx46 rfl ?_
      obtain ⟨zz47, hzz47, hr⟩ := ob hr
      obtain ⟨zq48, hzq48, hr⟩ := ob hr
      obtain ⟨fhzz47, hzz47⟩ := rcv_sp hzz47
      refine j_callV (ci := 9) (As := [.int zx46]) (rest := [.int zq45.1]) (st1 := [.int zq48.1, .int zq45.1]) (pc' := 357) C ⟨wm_1525, wm_1526⟩ rfl hzz47 (c_X12_end (nx := nzs9) hzq48) yw_X12_end wm_1524 rfl rfl (Nat.le_of_ble_eq_true rfl) ⟨by decide, by decide⟩ dL_law_354 rfl rfl ?_
      refine j_ic_eq (tgt := 1718) (pc' := 360) C dL_law_357 rfl rfl (fun hc => ?_) (fun hc => ?_)
      · have hr := ifT hc hr
        clear hc
        refine j_iinc (q := 3) (v := 6) (lv' := [(3, .int (zs9 + (6 : Int32))), (0, .ref b), (1, .ref nx), (2, .ref ((nx + 1) + zq3.2.2.1))]) (pc' := 1721) C dL_law_1718 rfl kI_6 (by decide) rfl rfl ?_
        refine j_goto (tgt := 18) C dL_law_1721 rfl ?_
        obtain ⟨azf49, bzf50, czf51, dzf52⟩ := some4 hr
        refine j_k (kc' := kS + zt11.2.2.1 + zK13) (ks' := sS + zt11.2.2.2 + zS14) (by omega) (by omega) ?_
        refine j_at (nx' := nzs9 + zb12.2.2.1) (by omega) bzf50.symm ?_
        exact j_lv [1, 2, 3, 0] rfl (izs9 _ azf49)
      · have hr := ifF hc hr
        clear hc
        cases hr
    have hr := ifF hc1 hr
    by_cases hc2 : (zx24 &&& (63 : Int32)) = (2 : Int32)
    · have hr := ifT hc2 hr
      refine j_tabIn (v := 2) (off := 329) (tgt := 362) C dL_law_33 hc2 (by decide) rfl ?_
      refine j_aload_n (q := 1) (pc' := 363) C dL_law_362 rfl rfl rfl ?_
      obtain ⟨zz53, hzz53, hr⟩ := ob hr
      obtain ⟨zq54, zt55, hzq54, hr, azt55, bzt55, czt55, dzt55⟩ := adcB_s hr
      refine j_k (kc' := kS + zt11.2.2.1 + zK13 + zt55.2.2.1 + zq54.2.2.1) (ks' := sS + zt11.2.2.2 + zS14 + zt55.2.2.2 + zq54.2.2.2) (by omega) (by omega) ?_
      obtain ⟨fhzz53, hzz53⟩ := rcv_sp hzz53
      refine j_callVA (ci := 8) (As := []) (rest := []) (st1 := [.int zq54.1]) (pc' := 366) C ⟨wm_476, wm_477⟩ rfl hzz53 (c_X11_text hzq54) yw_X11_text wm_475 rfl rfl (Nat.le_of_ble_eq_true rfl) ⟨by decide, by decide⟩ dL_law_363 rfl rfl ?_
      refine j_aload_n (q := 2) (pc' := 367) C dL_law_366 rfl rfl rfl ?_
      obtain ⟨zz56, hzz56, hr⟩ := ob hr
      obtain ⟨zq57, hzq57, hr⟩ := ob hr
      obtain ⟨fhzz56, hzz56⟩ := rcv_sp hzz56
      refine j_callV (ci := 9) (As := []) (rest := [.int zq54.1]) (st1 := [.int zq57.1, .int zq54.1]) (pc' := 370) C ⟨wm_1532, wm_1533⟩ rfl hzz56 (c_X12_text (nx := (nzs9 + zq54.2.2.1)) hzq57) yw_X12_text wm_1531 rfl rfl (Nat.le_of_ble_eq_true rfl) ⟨by decide, by decide⟩ dL_law_367 rfl rfl ?_
      refine j_ic_eq (tgt := 1718) (pc' := 373) C dL_law_370 rfl rfl (fun hc => ?_) (fun hc => ?_)
      · have hr := ifT hc hr
        clear hc
        refine j_iinc (q := 3) (v := 6) (lv' := [(3, .int (zs9 + (6 : Int32))), (0, .ref b), (1, .ref nx), (2, .ref ((nx + 1) + zq3.2.2.1))]) (pc' := 1721) C dL_law_1718 rfl kI_6 (by decide) rfl rfl ?_
        refine j_goto (tgt := 18) C dL_law_1721 rfl ?_
        obtain ⟨azf58, bzf59, czf60, dzf61⟩ := some4 hr
        refine j_k (kc' := kS + zt11.2.2.1 + zK13) (ks' := sS + zt11.2.2.2 + zS14) (by omega) (by omega) ?_
        refine j_at (nx' := nzs9 + zb12.2.2.1) (by omega) (bzt55.trans bzf59).symm ?_
        exact j_lv [1, 2, 3, 0] rfl (izs9 _ (azt55.trans azf58))
      · have hr := ifF hc hr
        clear hc
        cases hr
    have hr := ifF hc2 hr
    by_cases hc3 : (zx24 &&& (63 : Int32)) = (3 : Int32)
    · have hr := ifT hc3 hr
      refine j_tabIn (v := 3) (off := 342) (tgt := 375) C dL_law_33 hc3 (by decide) rfl ?_
      refine j_aload_n (q := 1) (pc' := 376) C dL_law_375 rfl rfl rfl ?_
      refine j_aload_n (q := 0) (pc' := 377) C dL_law_376 rfl rfl rfl ?_
      refine j_iload_n (q := 3) (pc' := 378) C dL_law_377 rfl rfl rfl ?_
      refine j_iconst (v := 1) (pc' := 379) C dL_law_378 kI_1 rfl ?_
      refine j_iadd (pc' := 380) C dL_law_379 rfl ?_
      obtain ⟨zx62, hzx62, hr⟩ := ob hr
      refine j_scrld (pc' := 381) C HX dL_law_380 hzx62 rfl ?_
      obtain ⟨zz63, hzz63, hr⟩ := ob hr
      obtain ⟨zx64, hzx64, hr⟩ := ob hr
      obtain ⟨fhzz63, hzz63⟩ := rcv_sp hzz63
      refine j_callV (ci := 8) (As := [.int zx62]) (rest := []) (st1 := [.int zx64]) (pc' := 384) C ⟨wm_715, wm_716⟩ rfl hzz63 (c_X11_fault (nx := nzs9) hzx64) yw_X11_fault wm_714 rfl rfl (Nat.le_of_ble_eq_true rfl) ⟨by decide, by decide⟩ dL_law_381 rfl rfl ?_
      refine j_aload_n (q := 2) (pc' := 385) C dL_law_384 rfl rfl rfl ?_
      refine j_aload_n (q := 0) (pc' := 386) C dL_law_385 rfl rfl rfl ?_
      refine j_iload_n (q := 3) (pc' := 387) C dL_law_386 rfl rfl rfl ?_
      refine j_iconst (v := 1) (pc' := 388) C dL_law_387 kI_1 rfl ?_
      refine j_iadd (pc' := 389) C dL_law_388 rfl ?_
      obtain ⟨zx65, hzx65, hr⟩ := ob hr
      refine j_scrld (pc' := 390) C HX dL_law_389 hzx65 rfl ?_
      obtain ⟨zz66, hzz66, hr⟩ := ob hr
      obtain ⟨zx67, hzx67, hr⟩ := ob hr
      obtain ⟨fhzz66, hzz66⟩ := rcv_sp hzz66
      refine j_callV (ci := 9) (As := [.int zx65]) (rest := [.int zx64]) (st1 := [.int zx67, .int zx64]) (pc' := 393) C ⟨wm_1619, wm_1620⟩ rfl hzz66 (c_X12_fault (nx := nzs9) hzx67) yw_X12_fault wm_1618 rfl rfl (Nat.le_of_ble_eq_true rfl) ⟨by decide, by decide⟩ dL_law_390 rfl rfl ?_
      refine j_ic_eq (tgt := 1718) (pc' := 396) C dL_law_393 rfl rfl (fun hc => ?_) (fun hc => ?_)
      · have hr := ifT hc hr
        clear hc
        refine j_iinc (q := 3) (v := 6) (lv' := [(3, .int (zs9 + (6 : Int32))), (0, .ref b), (1, .ref nx), (2, .ref ((nx + 1) + zq3.2.2.1))]) (pc' := 1721) C dL_law_1718 rfl kI_6 (by decide) rfl rfl ?_
        refine j_goto (tgt := 18) C dL_law_1721 rfl ?_
        obtain ⟨azf68, bzf69, czf70, dzf71⟩ := some4 hr
        refine j_k (kc' := kS + zt11.2.2.1 + zK13) (ks' := sS + zt11.2.2.2 + zS14) (by omega) (by omega) ?_
        refine j_at (nx' := nzs9 + zb12.2.2.1) (by omega) bzf69.symm ?_
        exact j_lv [1, 2, 3, 0] rfl (izs9 _ azf68)
      · have hr := ifF hc hr
        clear hc
        cases hr
    have hr := ifF hc3 hr
    by_cases hc4 : (zx24 &&& (63 : Int32)) = (4 : Int32)
    · have hr := ifT hc4 hr
      refine j_tabIn (v := 4) (off := 365) (tgt := 398) C dL_law_33 hc4 (by decide) rfl ?_
      refine j_aload_n (q := 1) (pc' := 399) C dL_law_398 rfl rfl rfl ?_
      refine j_aload_n (q := 0) (pc' := 400) C dL_law_399 rfl rfl rfl ?_
      refine j_iload_n (q := 3) (pc' := 401) C dL_law_400 rfl rfl rfl ?_
      refine j_iconst (v := 1) (pc' := 402) C dL_law_401 kI_1 rfl ?_
      refine j_iadd (pc' := 403) C dL_law_402 rfl ?_
      obtain ⟨zx72, hzx72, hr⟩ := ob hr
      refine j_scrld (pc' := 404) C HX dL_law_403 hzx72 rfl ?_
      obtain ⟨zz73, hzz73, hr⟩ := ob hr
      obtain ⟨zq74, zt75, hzq74, hr, azt75, bzt75, czt75, dzt75⟩ := adcB_s hr
      refine j_k (kc' := kS + zt11.2.2.1 + zK13 + zt75.2.2.1 + zq74.2.2.1) (ks' := sS + zt11.2.2.2 + zS14 + zt75.2.2.2 + zq74.2.2.2) (by omega) (by omega) ?_
      obtain ⟨fhzz73, hzz73⟩ := rcv_sp hzz73
      refine j_callVA (ci := 8) (As := [.int zx72]) (rest := []) (st1 := [.int zq74.1]) (pc' := 407) C ⟨wm_719, wm_720⟩ rfl hzz73 (c_X11_load hzq74) yw_X11_load wm_718 rfl rfl (Nat.le_of_ble_eq_true rfl) ⟨by decide, by decide⟩ dL_law_404 rfl rfl ?_
      refine j_aload_n (q := 2) (pc' := 408) C dL_law_407 rfl rfl rfl ?_
      refine j_aload_n (q := 0) (pc' := 409) C dL_law_408 rfl rfl rfl ?_
      refine j_iload_n (q := 3) (pc' := 410) C dL_law_409 rfl rfl rfl ?_
      refine j_iconst (v := 1) (pc' := 411) C dL_law_410 kI_1 rfl ?_
      refine j_iadd (pc' := 412) C dL_law_411 rfl ?_
      obtain ⟨zx76, hzx76, hr⟩ := ob hr
      refine j_scrld (pc' := 413) C HX dL_law_412 hzx76 rfl ?_
      obtain ⟨zz77, hzz77, hr⟩ := ob hr
      obtain ⟨zq78, hzq78, hr⟩ := ob hr
      obtain ⟨fhzz77, hzz77⟩ := rcv_sp hzz77
      refine j_callV (ci := 9) (As := [.int zx76]) (rest := [.int zq74.1]) (st1 := [.int zq78.1, .int zq74.1]) (pc' := 416) C ⟨wm_1623, wm_1624⟩ rfl hzz77 (c_X12_load (nx := (nzs9 + zq74.2.2.1)) hzq78) yw_X12_load wm_1622 rfl rfl (Nat.le_of_ble_eq_true rfl) ⟨by decide, by decide⟩ dL_law_413 rfl rfl ?_
      refine j_ic_eq (tgt := 1718) (pc' := 419) C dL_law_416 rfl rfl (fun hc => ?_) (fun hc => ?_)
      · have hr := ifT hc hr
        clear hc
        refine j_iinc (q := 3) (v := 6) (lv' := [(3, .int (zs9 + (6 : Int32))), (0, .ref b), (1, .ref nx), (2, .ref ((nx + 1) + zq3.2.2.1))]) (pc' := 1721) C dL_law_1718 rfl kI_6 (by decide) rfl rfl ?_
        refine j_goto (tgt := 18) C dL_law_1721 rfl ?_
        obtain ⟨azf79, bzf80, czf81, dzf82⟩ := some4 hr
        refine j_k (kc' := kS + zt11.2.2.1 + zK13) (ks' := sS + zt11.2.2.2 + zS14) (by omega) (by omega) ?_
        refine j_at (nx' := nzs9 + zb12.2.2.1) (by omega) (bzt75.trans bzf80).symm ?_
        exact j_lv [1, 2, 3, 0] rfl (izs9 _ (azt75.trans azf79))
      · have hr := ifF hc hr
        clear hc
        cases hr
    have hr := ifF hc4 hr
    by_cases hc5 : (zx24 &&& (63 : Int32)) = (5 : Int32)
    · have hr := ifT hc5 hr
      refine j_tabIn (v := 5) (off := 388) (tgt := 421) C dL_law_33 hc5 (by decide) rfl ?_
      refine j_aload_n (q := 1) (pc' := 422) C dL_law_421 rfl rfl rfl ?_
      refine j_aload_n (q := 0) (pc' := 423) C dL_law_422 rfl rfl rfl ?_
      refine j_iload_n (q := 3) (pc' := 424) C dL_law_423 rfl rfl rfl ?_
      refine j_iconst (v := 1) (pc' := 425) C dL_law_424 kI_1 rfl ?_
      refine j_iadd (pc' := 426) C dL_law_425 rfl ?_
      obtain ⟨zx83, hzx83, hr⟩ := ob hr
      refine j_scrld (pc' := 427) C HX dL_law_426 hzx83 rfl ?_
      refine j_aload_n (q := 0) (pc' := 428) C dL_law_427 rfl rfl rfl ?_
      refine j_iload_n (q := 3) (pc' := 429) C dL_law_428 rfl rfl rfl ?_
      refine j_iconst (v := 2) (pc' := 430) C dL_law_429 kI_2 rfl ?_
      refine j_iadd (pc' := 431) C dL_law_430 rfl ?_
      obtain ⟨zx84, hzx84, hr⟩ := ob hr
      refine j_scrld (pc' := 432) C HX dL_law_431 hzx84 rfl ?_
      obtain ⟨zz85, hzz85, hr⟩ := ob hr
      obtain ⟨zq86, zt87, hzq86, hr, azt87, bzt87, czt87, dzt87⟩ := adcB_s hr
      refine j_k (kc' := kS + zt11.2.2.1 + zK13 + zt87.2.2.1 + zq86.2.2.1) (ks' := sS + zt11.2.2.2 + zS14 + zt87.2.2.2 + zq86.2.2.2) (by omega) (by omega) ?_
      obtain ⟨fhzz85, hzz85⟩ := rcv_sp hzz85
      refine j_callVA (ci := 8) (As := [.int zx83, .int zx84]) (rest := []) (st1 := [.int zq86.1]) (pc' := 435) C ⟨wm_779, wm_780⟩ rfl hzz85 (c_X11_drawn hzq86) yw_X11_drawn wm_778 rfl rfl (Nat.le_of_ble_eq_true rfl) ⟨by decide, by decide⟩ dL_law_432 rfl rfl ?_
      refine j_aload_n (q := 2) (pc' := 436) C dL_law_435 rfl rfl rfl ?_
      refine j_aload_n (q := 0) (pc' := 437) C dL_law_436 rfl rfl rfl ?_
      refine j_iload_n (q := 3) (pc' := 438) C dL_law_437 rfl rfl rfl ?_
      refine j_iconst (v := 1) (pc' := 439) C dL_law_438 kI_1 rfl ?_
      refine j_iadd (pc' := 440) C dL_law_439 rfl ?_
      obtain ⟨zx88, hzx88, hr⟩ := ob hr
      refine j_scrld (pc' := 441) C HX dL_law_440 hzx88 rfl ?_
      refine j_aload_n (q := 0) (pc' := 442) C dL_law_441 rfl rfl rfl ?_
      refine j_iload_n (q := 3) (pc' := 443) C dL_law_442 rfl rfl rfl ?_
      refine j_iconst (v := 2) (pc' := 444) C dL_law_443 kI_2 rfl ?_
      refine j_iadd (pc' := 445) C dL_law_444 rfl ?_
      obtain ⟨zx89, hzx89, hr⟩ := ob hr
      refine j_scrld (pc' := 446) C HX dL_law_445 hzx89 rfl ?_
      obtain ⟨zz90, hzz90, hr⟩ := ob hr
      obtain ⟨zq91, hzq91, hr⟩ := ob hr
      obtain ⟨fhzz90, hzz90⟩ := rcv_sp hzz90
      refine j_callV (ci := 9) (As := [.int zx88, .int zx89]) (rest := [.int zq86.1]) (st1 := [.int zq91.1, .int zq86.1]) (pc' := 449) C ⟨wm_1648, wm_1649⟩ rfl hzz90 (c_X12_drawn (nx := (nzs9 + zq86.2.2.1)) hzq91) yw_X12_drawn wm_1647 rfl rfl (Nat.le_of_ble_eq_true rfl) ⟨by decide, by decide⟩ dL_law_446 rfl rfl ?_
      refine j_ic_eq (tgt := 1718) (pc' := 452) C dL_law_449 rfl rfl (fun hc => ?_) (fun hc => ?_)
      · have hr := ifT hc hr
        clear hc
        refine j_iinc (q := 3) (v := 6) (lv' := [(3, .int (zs9 + (6 : Int32))), (0, .ref b), (1, .ref nx), (2, .ref ((nx + 1) + zq3.2.2.1))]) (pc' := 1721) C dL_law_1718 rfl kI_6 (by decide) rfl rfl ?_
        refine j_goto (tgt := 18) C dL_law_1721 rfl ?_
        obtain ⟨azf92, bzf93, czf94, dzf95⟩ := some4 hr
        refine j_k (kc' := kS + zt11.2.2.1 + zK13) (ks' := sS + zt11.2.2.2 + zS14) (by omega) (by omega) ?_
        refine j_at (nx' := nzs9 + zb12.2.2.1) (by omega) (bzt87.trans bzf93).symm ?_
        exact j_lv [1, 2, 3, 0] rfl (izs9 _ (azt87.trans azf92))
      · have hr := ifF hc hr
        clear hc
        cases hr
    have hr := ifF hc5 hr
    by_cases hc6 : (zx24 &&& (63 : Int32)) = (6 : Int32)
    · have hr := ifT hc6 hr
      refine j_tabIn (v := 6) (off := 421) (tgt := 454) C dL_law_33 hc6 (by decide) rfl ?_
      refine j_aload_n (q := 1) (pc' := 455) C dL_law_454 rfl rfl rfl ?_
      refine j_aload_n (q := 0) (pc' := 456) C dL_law_455 rfl rfl rfl ?_
      refine j_iload_n (q := 3) (pc' := 457) C dL_law_456 rfl rfl rfl ?_
      refine j_iconst (v := 1) (pc' := 458) C dL_law_457 kI_1 rfl ?_
      refine j_iadd (pc' := 459) C dL_law_458 rfl ?_
      obtain ⟨zx96, hzx96, hr⟩ := ob hr
      refine j_scrld (pc' := 460) C HX dL_law_459 hzx96 rfl ?_
      obtain ⟨zz97, hzz97, hr⟩ := ob hr
      obtain ⟨zq98, zt99, hzq98, hr, azt99, bzt99, czt99, dzt99⟩ := adcB_s hr
      refine j_k (kc' := kS + zt11.2.2.1 + zK13 + zt99.2.2.1 + zq98.2.2.1) (ks' := sS + zt11.2.2.2 + zS14 + zt99.2.2.2 + zq98.2.2.2) (by omega) (by omega) ?_
      obtain ⟨fhzz97, hzz97⟩ := rcv_sp hzz97
      refine j_callVA (ci := 8) (As := [.int zx96]) (rest := []) (st1 := [.int zq98.1]) (pc' := 463) C ⟨wm_786, wm_787⟩ rfl hzz97 (c_X11_aim hzq98) yw_X11_aim wm_785 rfl rfl (Nat.le_of_ble_eq_true rfl) ⟨by decide, by decide⟩ dL_law_460 rfl rfl ?_
      refine j_aload_n (q := 2) (pc' := 464) C dL_law_463 rfl rfl rfl ?_
      refine j_aload_n (q := 0) (pc' := 465) C dL_law_464 rfl rfl rfl ?_
      refine j_iload_n (q := 3) (pc' := 466) C dL_law_465 rfl rfl rfl ?_
      refine j_iconst (v := 1) (pc' := 467) C dL_law_466 kI_1 rfl ?_
      refine j_iadd (pc' := 468) C dL_law_467 rfl ?_
      obtain ⟨zx100, hzx100, hr⟩ := ob hr
      refine j_scrld (pc' := 469) C HX dL_law_468 hzx100 rfl ?_
      obtain ⟨zz101, hzz101, hr⟩ := ob hr
      obtain ⟨zq102, hzq102, hr⟩ := ob hr
      obtain ⟨fhzz101, hzz101⟩ := rcv_sp hzz101
      refine j_callV (ci := 9) (As := [.int zx100]) (rest := [.int zq98.1]) (st1 := [.int zq102.1, .int zq98.1]) (pc' := 472) C ⟨wm_1652, wm_1653⟩ rfl hzz101 (c_X12_aim (nx := (nzs9 + zq98.2.2.1)) hzq102) yw_X12_aim wm_1651 rfl rfl (Nat.le_of_ble_eq_true rfl) ⟨by decide, by decide⟩ dL_law_469 rfl rfl ?_
      refine j_ic_eq (tgt := 1718) (pc' := 475) C dL_law_472 rfl rfl (fun hc => ?_) (fun hc => ?_)
      · have hr := ifT hc hr
        clear hc
        refine j_iinc (q := 3) (v := 6) (lv' := [(3, .int (zs9 + (6 : Int32))), (0, .ref b), (1, .ref nx), (2, .ref ((nx + 1) + zq3.2.2.1))]) (pc' := 1721) C dL_law_1718 rfl kI_6 (by decide) rfl rfl ?_
        refine j_goto (tgt := 18) C dL_law_1721 rfl ?_
        obtain ⟨azf103, bzf104, czf105, dzf106⟩ := some4 hr
        refine j_k (kc' := kS + zt11.2.2.1 + zK13) (ks' := sS + zt11.2.2.2 + zS14) (by omega) (by omega) ?_
        refine j_at (nx' := nzs9 + zb12.2.2.1) (by omega) (bzt99.trans bzf104).symm ?_
        exact j_lv [1, 2, 3, 0] rfl (izs9 _ (azt99.trans azf103))
      · have hr := ifF hc hr
        clear hc
        cases hr
    have hr := ifF hc6 hr
    by_cases hc7 : (zx24 &&& (63 : Int32)) = (7 : Int32)
    · have hr := ifT hc7 hr
      refine j_tabIn (v := 7) (off := 444) (tgt := 477) C dL_law_33 hc7 (by decide) rfl ?_
      refine j_aload_n (q := 1) (pc' := 478) C dL_law_477 rfl rfl rfl ?_
      refine j_aload_n (q := 0) (pc' := 479) C dL_law_478 rfl rfl rfl ?_
      refine j_iload_n (q := 3) (pc' := 480) C dL_law_479 rfl rfl rfl ?_
      refine j_iconst (v := 1) (pc' := 481) C dL_law_480 kI_1 rfl ?_
      refine j_iadd (pc' := 482) C dL_law_481 rfl ?_
      obtain ⟨zx107, hzx107, hr⟩ := ob hr
      refine j_scrld (pc' := 483) C HX dL_law_482 hzx107 rfl ?_
      obtain ⟨zz108, hzz108, hr⟩ := ob hr
      obtain ⟨zq109, zt110, hzq109, hr, azt110, bzt110, czt110, dzt110⟩ := adcB_s hr
      refine j_k (kc' := kS + zt11.2.2.1 + zK13 + zt110.2.2.1 + zq109.2.2.1) (ks' := sS + zt11.2.2.2 + zS14 + zt110.2.2.2 + zq109.2.2.2) (by omega) (by omega) ?_
      obtain ⟨fhzz108, hzz108⟩ := rcv_sp hzz108
      refine j_callVA (ci := 8) (As := [.int zx107]) (rest := []) (st1 := [.int zq109.1]) (pc' := 486) C ⟨wm_803, wm_804⟩ rfl hzz108 (c_X11_mode hzq109) yw_X11_mode wm_802 rfl rfl (Nat.le_of_ble_eq_true rfl) ⟨by decide, by decide⟩ dL_law_483 rfl rfl ?_
      refine j_aload_n (q := 2) (pc' := 487) C dL_law_486 rfl rfl rfl ?_
      refine j_aload_n (q := 0) (pc' := 488) C dL_law_487 rfl rfl rfl ?_
      refine j_iload_n (q := 3) (pc' := 489) C dL_law_488 rfl rfl rfl ?_
      refine j_iconst (v := 1) (pc' := 490) C dL_law_489 kI_1 rfl ?_
      refine j_iadd (pc' := 491) C dL_law_490 rfl ?_
      obtain ⟨zx111, hzx111, hr⟩ := ob hr
      refine j_scrld (pc' := 492) C HX dL_law_491 hzx111 rfl ?_
      obtain ⟨zz112, hzz112, hr⟩ := ob hr
      obtain ⟨zq113, hzq113, hr⟩ := ob hr
      obtain ⟨fhzz112, hzz112⟩ := rcv_sp hzz112
      refine j_callV (ci := 9) (As := [.int zx111]) (rest := [.int zq109.1]) (st1 := [.int zq113.1, .int zq109.1]) (pc' := 495) C ⟨wm_1668, wm_1669⟩ rfl hzz112 (c_X12_mode (nx := (nzs9 + zq109.2.2.1)) hzq113) yw_X12_mode wm_1667 rfl rfl (Nat.le_of_ble_eq_true rfl) ⟨by decide, by decide⟩ dL_law_492 rfl rfl ?_
      refine j_ic_eq (tgt := 1718) (pc' := 498) C dL_law_495 rfl rfl (fun hc => ?_) (fun hc => ?_)
      · have hr := ifT hc hr
        clear hc
        refine j_iinc (q := 3) (v := 6) (lv' := [(3, .int (zs9 + (6 : Int32))), (0, .ref b), (1, .ref nx), (2, .ref ((nx + 1) + zq3.2.2.1))]) (pc' := 1721) C dL_law_1718 rfl kI_6 (by decide) rfl rfl ?_
        refine j_goto (tgt := 18) C dL_law_1721 rfl ?_
        obtain ⟨azf114, bzf115, czf116, dzf117⟩ := some4 hr
        refine j_k (kc' := kS + zt11.2.2.1 + zK13) (ks' := sS + zt11.2.2.2 + zS14) (by omega) (by omega) ?_
        refine j_at (nx' := nzs9 + zb12.2.2.1) (by omega) (bzt110.trans bzf115).symm ?_
        exact j_lv [1, 2, 3, 0] rfl (izs9 _ (azt110.trans azf114))
      · have hr := ifF hc hr
        clear hc
        cases hr
    have hr := ifF hc7 hr
    by_cases hc8 : (zx24 &&& (63 : Int32)) = (8 : Int32)
    · have hr := ifT hc8 hr
      refine j_tabIn (v := 8) (off := 467) (tgt := 500) C dL_law_33 hc8 (by decide) rfl ?_
      refine j_aload_n (q := 1) (pc' := 501) C dL_law_500 rfl rfl rfl ?_
      refine j_aload_n (q := 0) (pc' := 502) C dL_law_501 rfl rfl rfl ?_
      refine j_iload_n (q := 3) (pc' := 503) C dL_law_502 rfl rfl rfl ?_
      refine j_iconst (v := 1) (pc' := 504) C dL_law_503 kI_1 rfl ?_
      refine j_iadd (pc' := 505) C dL_law_504 rfl ?_
      obtain ⟨zx118, hzx118, hr⟩ := ob hr
      refine j_scrld (pc' := 506) C HX dL_law_505 hzx118 rfl ?_
      refine j_aload_n (q := 0) (pc' := 507) C dL_law_506 rfl rfl rfl ?_
      refine j_iload_n (q := 3) (pc' := 508) C dL_law_507 rfl rfl rfl ?_
      refine j_iconst (v := 2) (pc' := 509) C dL_law_508 kI_2 rfl ?_
      refine j_iadd (pc' := 510) C dL_law_509 rfl ?_
      obtain ⟨zx119, hzx119, hr⟩ := ob hr
      refine j_scrld (pc' := 511) C HX dL_law_510 hzx119 rfl ?_
      refine j_aload_n (q := 0) (pc' := 512) C dL_law_511 rfl rfl rfl ?_
      refine j_iload_n (q := 3) (pc' := 513) C dL_law_512 rfl rfl rfl ?_
      refine j_iconst (v := 3) (pc' := 514) C dL_law_513 kI_3 rfl ?_
      refine j_iadd (pc' := 515) C dL_law_514 rfl ?_
      obtain ⟨zx120, hzx120, hr⟩ := ob hr
      refine j_scrld (pc' := 516) C HX dL_law_515 hzx120 rfl ?_
      obtain ⟨zz121, hzz121, hr⟩ := ob hr
      obtain ⟨zq122, zt123, hzq122, hr, azt123, bzt123, czt123, dzt123⟩ := adcB_s hr
      refine j_k (kc' := kS + zt11.2.2.1 + zK13 + zt123.2.2.1 + zq122.2.2.1) (ks' := sS + zt11.2.2.2 + zS14 + zt123.2.2.2 + zq122.2.2.2) (by omega) (by omega) ?_
      obtain ⟨fhzz121, hzz121⟩ := rcv_sp hzz121
      refine j_callVA (ci := 8) (As := [.int zx118, .int zx119, .int zx120]) (rest := []) (st1 := [.int zq122.1]) (pc' := 519) C ⟨wm_807, wm_808⟩ rfl hzz121 (c_X11_bar hzq122) yw_X11_bar wm_806 rfl rfl (Nat.le_of_ble_eq_true rfl) ⟨by decide, by decide⟩ dL_law_516 rfl rfl ?_
      refine j_aload_n (q := 2) (pc' := 520) C dL_law_519 rfl rfl rfl ?_
      refine j_aload_n (q := 0) (pc' := 521) C dL_law_520 rfl rfl rfl ?_
      refine j_iload_n (q := 3) (pc' := 522) C dL_law_521 rfl rfl rfl ?_
      refine j_iconst (v := 1) (pc' := 523) C dL_law_522 kI_1 rfl ?_
      refine j_iadd (pc' := 524) C dL_law_523 rfl ?_
      obtain ⟨zx124, hzx124, hr⟩ := ob hr
      refine j_scrld (pc' := 525) C HX dL_law_524 hzx124 rfl ?_
      refine j_aload_n (q := 0) (pc' := 526) C dL_law_525 rfl rfl rfl ?_
      refine j_iload_n (q := 3) (pc' := 527) C dL_law_526 rfl rfl rfl ?_
      refine j_iconst (v := 2) (pc' := 528) C dL_law_527 kI_2 rfl ?_
      refine j_iadd (pc' := 529) C dL_law_528 rfl ?_
      obtain ⟨zx125, hzx125, hr⟩ := ob hr
      refine j_scrld (pc' := 530) C HX dL_law_529 hzx125 rfl ?_
      refine j_aload_n (q := 0) (pc' := 531) C dL_law_530 rfl rfl rfl ?_
      refine j_iload_n (q := 3) (pc' := 532) C dL_law_531 rfl rfl rfl ?_
      refine j_iconst (v := 3) (pc' := 533) C dL_law_532 kI_3 rfl ?_
      refine j_iadd (pc' := 534) C dL_law_533 rfl ?_
      obtain ⟨zx126, hzx126, hr⟩ := ob hr
      refine j_scrld (pc' := 535) C HX dL_law_534 hzx126 rfl ?_
      obtain ⟨zz127, hzz127, hr⟩ := ob hr
      obtain ⟨zq128, hzq128, hr⟩ := ob hr
      obtain ⟨fhzz127, hzz127⟩ := rcv_sp hzz127
      refine j_callV (ci := 9) (As := [.int zx124, .int zx125, .int zx126]) (rest := [.int zq122.1]) (st1 := [.int zq128.1, .int zq122.1]) (pc' := 538) C ⟨wm_1826, wm_1827⟩ rfl hzz127 (c_X12_bar (nx := (nzs9 + zq122.2.2.1)) hzq128) yw_X12_bar wm_1825 rfl rfl (Nat.le_of_ble_eq_true rfl) ⟨by decide, by decide⟩ dL_law_535 rfl rfl ?_
      refine j_ic_eq (tgt := 1718) (pc' := 541) C dL_law_538 rfl rfl (fun hc => ?_) (fun hc => ?_)
      · have hr := ifT hc hr
        clear hc
        refine j_iinc (q := 3) (v := 6) (lv' := [(3, .int (zs9 + (6 : Int32))), (0, .ref b), (1, .ref nx), (2, .ref ((nx + 1) + zq3.2.2.1))]) (pc' := 1721) C dL_law_1718 rfl kI_6 (by decide) rfl rfl ?_
        refine j_goto (tgt := 18) C dL_law_1721 rfl ?_
        obtain ⟨azf129, bzf130, czf131, dzf132⟩ := some4 hr
        refine j_k (kc' := kS + zt11.2.2.1 + zK13) (ks' := sS + zt11.2.2.2 + zS14) (by omega) (by omega) ?_
        refine j_at (nx' := nzs9 + zb12.2.2.1) (by omega) (bzt123.trans bzf130).symm ?_
        exact j_lv [1, 2, 3, 0] rfl (izs9 _ (azt123.trans azf129))
      · have hr := ifF hc hr
        clear hc
        cases hr
    have hr := ifF hc8 hr
    by_cases hc9 : (zx24 &&& (63 : Int32)) = (9 : Int32)
    · have hr := ifT hc9 hr
      refine j_tabIn (v := 9) (off := 510) (tgt := 543) C dL_law_33 hc9 (by decide) rfl ?_
      refine j_aload_n (q := 1) (pc' := 544) C dL_law_543 rfl rfl rfl ?_
      refine j_aload_n (q := 0) (pc' := 545) C dL_law_544 rfl rfl rfl ?_
      refine j_iload_n (q := 3) (pc' := 546) C dL_law_545 rfl rfl rfl ?_
      refine j_iconst (v := 1) (pc' := 547) C dL_law_546 kI_1 rfl ?_
      refine j_iadd (pc' := 548) C dL_law_547 rfl ?_
      obtain ⟨zx133, hzx133, hr⟩ := ob hr
      refine j_scrld (pc' := 549) C HX dL_law_548 hzx133 rfl ?_
      obtain ⟨zz134, hzz134, hr⟩ := ob hr
      obtain ⟨zq135, zt136, hzq135, hr, azt136, bzt136, czt136, dzt136⟩ := adcB_s hr
      refine j_k (kc' := kS + zt11.2.2.1 + zK13 + zt136.2.2.1 + zq135.2.2.1) (ks' := sS + zt11.2.2.2 + zS14 + zt136.2.2.2 + zq135.2.2.2) (by omega) (by omega) ?_
      obtain ⟨fhzz134, hzz134⟩ := rcv_sp hzz134
      refine j_callVA (ci := 8) (As := [.int zx133]) (rest := []) (st1 := [.int zq135.1]) (pc' := 552) C ⟨wm_879, wm_880⟩ rfl hzz134 (c_X11_step hzq135) yw_X11_step wm_878 rfl rfl (Nat.le_of_ble_eq_true rfl) ⟨by decide, by decide⟩ dL_law_549 rfl rfl ?_
      refine j_aload_n (q := 2) (pc' := 553) C dL_law_552 rfl rfl rfl ?_
      refine j_aload_n (q := 0) (pc' := 554) C dL_law_553 rfl rfl rfl ?_
      refine j_iload_n (q := 3) (pc' := 555) C dL_law_554 rfl rfl rfl ?_
      refine j_iconst (v := 1) (pc' := 556) C dL_law_555 kI_1 rfl ?_
      refine j_iadd (pc' := 557) C dL_law_556 rfl ?_
      obtain ⟨zx137, hzx137, hr⟩ := ob hr
      refine j_scrld (pc' := 558) C HX dL_law_557 hzx137 rfl ?_
      obtain ⟨zz138, hzz138, hr⟩ := ob hr
      obtain ⟨zq139, hzq139, hr⟩ := ob hr
      obtain ⟨fhzz138, hzz138⟩ := rcv_sp hzz138
      refine j_callV (ci := 9) (As := [.int zx137]) (rest := [.int zq135.1]) (st1 := [.int zq139.1, .int zq135.1]) (pc' := 561) C ⟨wm_1676, wm_1677⟩ rfl hzz138 (c_X12_step (nx := (nzs9 + zq135.2.2.1)) hzq139) yw_X12_step wm_1675 rfl rfl (Nat.le_of_ble_eq_true rfl) ⟨by decide, by decide⟩ dL_law_558 rfl rfl ?_
      refine j_ic_eq (tgt := 1718) (pc' := 564) C dL_law_561 rfl rfl (fun hc => ?_) (fun hc => ?_)
      · have hr := ifT hc hr
        clear hc
        refine j_iinc (q := 3) (v := 6) (lv' := [(3, .int (zs9 + (6 : Int32))), (0, .ref b), (1, .ref nx), (2, .ref ((nx + 1) + zq3.2.2.1))]) (pc' := 1721) C dL_law_1718 rfl kI_6 (by decide) rfl rfl ?_
        refine j_goto (tgt := 18) C dL_law_1721 rfl ?_
        obtain ⟨azf140, bzf141, czf142, dzf143⟩ := some4 hr
        refine j_k (kc' := kS + zt11.2.2.1 + zK13) (ks' := sS + zt11.2.2.2 + zS14) (by omega) (by omega) ?_
        refine j_at (nx' := nzs9 + zb12.2.2.1) (by omega) (bzt136.trans bzf141).symm ?_
        exact j_lv [1, 2, 3, 0] rfl (izs9 _ (azt136.trans azf140))
      · have hr := ifF hc hr
        clear hc
        cases hr
    have hr := ifF hc9 hr
    by_cases hc10 : (zx24 &&& (63 : Int32)) = (10 : Int32)
    · have hr := ifT hc10 hr
      refine j_tabIn (v := 10) (off := 533) (tgt := 566) C dL_law_33 hc10 (by decide) rfl ?_
      refine j_aload_n (q := 1) (pc' := 567) C dL_law_566 rfl rfl rfl ?_
      obtain ⟨zz144, hzz144, hr⟩ := ob hr
      obtain ⟨zq145, zt146, hzq145, hr, azt146, bzt146, czt146, dzt146⟩ := adcB_s hr
      refine j_k (kc' := kS + zt11.2.2.1 + zK13 + zt146.2.2.1 + zq145.2.2.1) (ks' := sS + zt11.2.2.2 + zS14 + zt146.2.2.2 + zq145.2.2.2) (by omega) (by omega) ?_
      obtain ⟨fhzz144, hzz144⟩ := rcv_sp hzz144
      refine j_callVA (ci := 8) (As := []) (rest := []) (st1 := [.int zq145.1]) (pc' := 570) C ⟨wm_1004, wm_1005⟩ rfl hzz144 (c_X11_undo hzq145) yw_X11_undo wm_1003 rfl rfl (Nat.le_of_ble_eq_true rfl) ⟨by decide, by decide⟩ dL_law_567 rfl rfl ?_
      refine j_aload_n (q := 2) (pc' := 571) C dL_law_570 rfl rfl rfl ?_
      obtain ⟨zz147, hzz147, hr⟩ := ob hr
      obtain ⟨zq148, hzq148, hr⟩ := ob hr
      obtain ⟨fhzz147, hzz147⟩ := rcv_sp hzz147
      refine j_callV (ci := 9) (As := []) (rest := [.int zq145.1]) (st1 := [.int zq148.1, .int zq145.1]) (pc' := 574) C ⟨wm_1672, wm_1673⟩ rfl hzz147 (c_X12_undo (nx := (nzs9 + zq145.2.2.1)) hzq148) yw_X12_undo wm_1671 rfl rfl (Nat.le_of_ble_eq_true rfl) ⟨by decide, by decide⟩ dL_law_571 rfl rfl ?_
      refine j_ic_eq (tgt := 1718) (pc' := 577) C dL_law_574 rfl rfl (fun hc => ?_) (fun hc => ?_)
      · have hr := ifT hc hr
        clear hc
        refine j_iinc (q := 3) (v := 6) (lv' := [(3, .int (zs9 + (6 : Int32))), (0, .ref b), (1, .ref nx), (2, .ref ((nx + 1) + zq3.2.2.1))]) (pc' := 1721) C dL_law_1718 rfl kI_6 (by decide) rfl rfl ?_
        refine j_goto (tgt := 18) C dL_law_1721 rfl ?_
        obtain ⟨azf149, bzf150, czf151, dzf152⟩ := some4 hr
        refine j_k (kc' := kS + zt11.2.2.1 + zK13) (ks' := sS + zt11.2.2.2 + zS14) (by omega) (by omega) ?_
        refine j_at (nx' := nzs9 + zb12.2.2.1) (by omega) (bzt146.trans bzf150).symm ?_
        exact j_lv [1, 2, 3, 0] rfl (izs9 _ (azt146.trans azf149))
      · have hr := ifF hc hr
        clear hc
        cases hr
    have hr := ifF hc10 hr
    by_cases hc11 : (zx24 &&& (63 : Int32)) = (11 : Int32)
    · have hr := ifT hc11 hr
      refine j_tabIn (v := 11) (off := 546) (tgt := 579) C dL_law_33 hc11 (by decide) rfl ?_
      refine j_aload_n (q := 1) (pc' := 580) C dL_law_579 rfl rfl rfl ?_
      refine j_aload_n (q := 0) (pc' := 581) C dL_law_580 rfl rfl rfl ?_
      refine j_iload_n (q := 3) (pc' := 582) C dL_law_581 rfl rfl rfl ?_
      refine j_iconst (v := 1) (pc' := 583) C dL_law_582 kI_1 rfl ?_
      refine j_iadd (pc' := 584) C dL_law_583 rfl ?_
      obtain ⟨zx153, hzx153, hr⟩ := ob hr
      refine j_scrld (pc' := 585) C HX dL_law_584 hzx153 rfl ?_
      obtain ⟨zz154, hzz154, hr⟩ := ob hr
      obtain ⟨zx155, hzx155, hr⟩ := ob hr
      obtain ⟨fhzz154, hzz154⟩ := rcv_sp hzz154
      refine j_callV (ci := 8) (As := [.int zx153]) (rest := []) (st1 := [.int zx155]) (pc' := 588) C ⟨wm_1012, wm_1013⟩ rfl hzz154 (c_X11_is (nx := nzs9) hzx155) yw_X11_is wm_1011 rfl rfl (Nat.le_of_ble_eq_true rfl) ⟨by decide, by decide⟩ dL_law_585 rfl rfl ?_
      refine j_aload_n (q := 2) (pc' := 589) C dL_law_588 rfl rfl rfl ?_
      refine j_aload_n (q := 0) (pc' := 590) C dL_law_589 rfl rfl rfl ?_
      refine j_iload_n (q := 3) (pc' := 591) C dL_law_590 rfl rfl rfl ?_
      refine j_iconst (v := 1) (pc' := 592) C dL_law_591 kI_1 rfl ?_
      refine j_iadd (pc' := 593) C dL_law_592 rfl ?_
      obtain ⟨zx156, hzx156, hr⟩ := ob hr
      refine j_scrld (pc' := 594) C HX dL_law_593 hzx156 rfl ?_
      obtain ⟨zz157, hzz157, hr⟩ := ob hr
      obtain ⟨zx158, hzx158, hr⟩ := ob hr
      obtain ⟨fhzz157, hzz157⟩ := rcv_sp hzz157
      refine j_callV (ci := 9) (As := [.int zx156]) (rest := [.int zx155]) (st1 := [.int zx158, .int zx155]) (pc' := 597) C ⟨wm_1834, wm_1835⟩ rfl hzz157 (c_X12_is (nx := nzs9) hzx158) yw_X12_is wm_1833 rfl rfl (Nat.le_of_ble_eq_true rfl) ⟨by decide, by decide⟩ dL_law_594 rfl rfl ?_
      refine j_ic_eq (tgt := 1718) (pc' := 600) C dL_law_597 rfl rfl (fun hc => ?_) (fun hc => ?_)
      · have hr := ifT hc hr
        clear hc
        refine j_iinc (q := 3) (v := 6) (lv' := [(3, .int (zs9 + (6 : Int32))), (0, .ref b), (1, .ref nx), (2, .ref ((nx + 1) + zq3.2.2.1))]) (pc' := 1721) C dL_law_1718 rfl kI_6 (by decide) rfl rfl ?_
        refine j_goto (tgt := 18) C dL_law_1721 rfl ?_
        obtain ⟨azf159, bzf160, czf161, dzf162⟩ := some4 hr
        refine j_k (kc' := kS + zt11.2.2.1 + zK13) (ks' := sS + zt11.2.2.2 + zS14) (by omega) (by omega) ?_
        refine j_at (nx' := nzs9 + zb12.2.2.1) (by omega) bzf160.symm ?_
        exact j_lv [1, 2, 3, 0] rfl (izs9 _ azf159)
      · have hr := ifF hc hr
        clear hc
        cases hr
    have hr := ifF hc11 hr
    by_cases hc12 : (zx24 &&& (63 : Int32)) = (12 : Int32)
    · have hr := ifT hc12 hr
      refine j_tabIn (v := 12) (off := 569) (tgt := 602) C dL_law_33 hc12 (by decide) rfl ?_
      refine j_aload_n (q := 1) (pc' := 603) C dL_law_602 rfl rfl rfl ?_
      refine j_aload_n (q := 0) (pc' := 604) C dL_law_603 rfl rfl rfl ?_
      refine j_iload_n (q := 3) (pc' := 605) C dL_law_604 rfl rfl rfl ?_
      refine j_iconst (v := 1) (pc' := 606) C dL_law_605 kI_1 rfl ?_
      refine j_iadd (pc' := 607) C dL_law_606 rfl ?_
      obtain ⟨zx163, hzx163, hr⟩ := ob hr
      refine j_scrld (pc' := 608) C HX dL_law_607 hzx163 rfl ?_
      refine j_aload_n (q := 0) (pc' := 609) C dL_law_608 rfl rfl rfl ?_
      refine j_iload_n (q := 3) (pc' := 610) C dL_law_609 rfl rfl rfl ?_
      refine j_iconst (v := 2) (pc' := 611) C dL_law_610 kI_2 rfl ?_
      refine j_iadd (pc' := 612) C dL_law_611 rfl ?_
      obtain ⟨zx164, hzx164, hr⟩ := ob hr
      refine j_scrld (pc' := 613) C HX dL_law_612 hzx164 rfl ?_
      obtain ⟨zz165, hzz165, hr⟩ := ob hr
      obtain ⟨zx166, hzx166, hr⟩ := ob hr
      obtain ⟨fhzz165, hzz165⟩ := rcv_sp hzz165
      refine j_callV (ci := 8) (As := [.int zx163, .int zx164]) (rest := []) (st1 := [.int zx166]) (pc' := 616) C ⟨wm_1016, wm_1017⟩ rfl hzz165 (c_X11_successor (nx := nzs9) hzx166) yw_X11_successor wm_1015 rfl rfl (Nat.le_of_ble_eq_true rfl) ⟨by decide, by decide⟩ dL_law_613 rfl rfl ?_
      refine j_aload_n (q := 2) (pc' := 617) C dL_law_616 rfl rfl rfl ?_
      refine j_aload_n (q := 0) (pc' := 618) C dL_law_617 rfl rfl rfl ?_
      refine j_iload_n (q := 3) (pc' := 619) C dL_law_618 rfl rfl rfl ?_
      refine j_iconst (v := 1) (pc' := 620) C dL_law_619 kI_1 rfl ?_
      refine j_iadd (pc' := 621) C dL_law_620 rfl ?_
      obtain ⟨zx167, hzx167, hr⟩ := ob hr
      refine j_scrld (pc' := 622) C HX dL_law_621 hzx167 rfl ?_
      refine j_aload_n (q := 0) (pc' := 623) C dL_law_622 rfl rfl rfl ?_
      refine j_iload_n (q := 3) (pc' := 624) C dL_law_623 rfl rfl rfl ?_
      refine j_iconst (v := 2) (pc' := 625) C dL_law_624 kI_2 rfl ?_
      refine j_iadd (pc' := 626) C dL_law_625 rfl ?_
      obtain ⟨zx168, hzx168, hr⟩ := ob hr
      refine j_scrld (pc' := 627) C HX dL_law_626 hzx168 rfl ?_
      obtain ⟨zz169, hzz169, hr⟩ := ob hr
      obtain ⟨zx170, hzx170, hr⟩ := ob hr
      obtain ⟨fhzz169, hzz169⟩ := rcv_sp hzz169
      refine j_callV (ci := 9) (As := [.int zx167, .int zx168]) (rest := [.int zx166]) (st1 := [.int zx170, .int zx166]) (pc' := 630) C ⟨wm_1838, wm_1839⟩ rfl hzz169 (c_X12_successor (nx := nzs9) hzx170) yw_X12_successor wm_1837 rfl rfl (Nat.le_of_ble_eq_true rfl) ⟨by decide, by decide⟩ dL_law_627 rfl rfl ?_
      refine j_ic_eq (tgt := 1718) (pc' := 633) C dL_law_630 rfl rfl (fun hc => ?_) (fun hc => ?_)
      · have hr := ifT hc hr
        clear hc
        refine j_iinc (q := 3) (v := 6) (lv' := [(3, .int (zs9 + (6 : Int32))), (0, .ref b), (1, .ref nx), (2, .ref ((nx + 1) + zq3.2.2.1))]) (pc' := 1721) C dL_law_1718 rfl kI_6 (by decide) rfl rfl ?_
        refine j_goto (tgt := 18) C dL_law_1721 rfl ?_
        obtain ⟨azf171, bzf172, czf173, dzf174⟩ := some4 hr
        refine j_k (kc' := kS + zt11.2.2.1 + zK13) (ks' := sS + zt11.2.2.2 + zS14) (by omega) (by omega) ?_
        refine j_at (nx' := nzs9 + zb12.2.2.1) (by omega) bzf172.symm ?_
        exact j_lv [1, 2, 3, 0] rfl (izs9 _ azf171)
      · have hr := ifF hc hr
        clear hc
        cases hr
    have hr := ifF hc12 hr
    by_cases hc13 : (zx24 &&& (63 : Int32)) = (13 : Int32)
    · have hr := ifT hc13 hr
      refine j_tabIn (v := 13) (off := 602) (tgt := 635) C dL_law_33 hc13 (by decide) rfl ?_
      refine j_aload_n (q := 1) (pc' := 636) C dL_law_635 rfl rfl rfl ?_
      refine j_aload_n (q := 0) (pc' := 637) C dL_law_636 rfl rfl rfl ?_
      refine j_iload_n (q := 3) (pc' := 638) C dL_law_637 rfl rfl rfl ?_
      refine j_iconst (v := 1) (pc' := 639) C dL_law_638 kI_1 rfl ?_
      refine j_iadd (pc' := 640) C dL_law_639 rfl ?_
      obtain ⟨zx175, hzx175, hr⟩ := ob hr
      refine j_scrld (pc' := 641) C HX dL_law_640 hzx175 rfl ?_
      refine j_aload_n (q := 0) (pc' := 642) C dL_law_641 rfl rfl rfl ?_
      refine j_iload_n (q := 3) (pc' := 643) C dL_law_642 rfl rfl rfl ?_
      refine j_iconst (v := 2) (pc' := 644) C dL_law_643 kI_2 rfl ?_
      refine j_iadd (pc' := 645) C dL_law_644 rfl ?_
      obtain ⟨zx176, hzx176, hr⟩ := ob hr
      refine j_scrld (pc' := 646) C HX dL_law_645 hzx176 rfl ?_
      obtain ⟨zz177, hzz177, hr⟩ := ob hr
      obtain ⟨zx178, hzx178, hr⟩ := ob hr
      obtain ⟨fhzz177, hzz177⟩ := rcv_sp hzz177
      refine j_callV (ci := 8) (As := [.int zx175, .int zx176]) (rest := []) (st1 := [.int zx178]) (pc' := 649) C ⟨wm_1028, wm_1029⟩ rfl hzz177 (c_X11_leads (nx := nzs9) hzx178) yw_X11_leads wm_1027 rfl rfl (Nat.le_of_ble_eq_true rfl) ⟨by decide, by decide⟩ dL_law_646 rfl rfl ?_
      refine j_aload_n (q := 2) (pc' := 650) C dL_law_649 rfl rfl rfl ?_
      refine j_aload_n (q := 0) (pc' := 651) C dL_law_650 rfl rfl rfl ?_
      refine j_iload_n (q := 3) (pc' := 652) C dL_law_651 rfl rfl rfl ?_
      refine j_iconst (v := 1) (pc' := 653) C dL_law_652 kI_1 rfl ?_
      refine j_iadd (pc' := 654) C dL_law_653 rfl ?_
      obtain ⟨zx179, hzx179, hr⟩ := ob hr
      refine j_scrld (pc' := 655) C HX dL_law_654 hzx179 rfl ?_
      refine j_aload_n (q := 0) (pc' := 656) C dL_law_655 rfl rfl rfl ?_
      refine j_iload_n (q := 3) (pc' := 657) C dL_law_656 rfl rfl rfl ?_
      refine j_iconst (v := 2) (pc' := 658) C dL_law_657 kI_2 rfl ?_
      refine j_iadd (pc' := 659) C dL_law_658 rfl ?_
      obtain ⟨zx180, hzx180, hr⟩ := ob hr
      refine j_scrld (pc' := 660) C HX dL_law_659 hzx180 rfl ?_
      obtain ⟨zz181, hzz181, hr⟩ := ob hr
      obtain ⟨zx182, hzx182, hr⟩ := ob hr
      obtain ⟨fhzz181, hzz181⟩ := rcv_sp hzz181
      refine j_callV (ci := 9) (As := [.int zx179, .int zx180]) (rest := [.int zx178]) (st1 := [.int zx182, .int zx178]) (pc' := 663) C ⟨wm_1846, wm_1847⟩ rfl hzz181 (c_X12_leads (nx := nzs9) hzx182) yw_X12_leads wm_1845 rfl rfl (Nat.le_of_ble_eq_true rfl) ⟨by decide, by decide⟩ dL_law_660 rfl rfl ?_
      refine j_ic_eq (tgt := 1718) (pc' := 666) C dL_law_663 rfl rfl (fun hc => ?_) (fun hc => ?_)
      · have hr := ifT hc hr
        clear hc
        refine j_iinc (q := 3) (v := 6) (lv' := [(3, .int (zs9 + (6 : Int32))), (0, .ref b), (1, .ref nx), (2, .ref ((nx + 1) + zq3.2.2.1))]) (pc' := 1721) C dL_law_1718 rfl kI_6 (by decide) rfl rfl ?_
        refine j_goto (tgt := 18) C dL_law_1721 rfl ?_
        obtain ⟨azf183, bzf184, czf185, dzf186⟩ := some4 hr
        refine j_k (kc' := kS + zt11.2.2.1 + zK13) (ks' := sS + zt11.2.2.2 + zS14) (by omega) (by omega) ?_
        refine j_at (nx' := nzs9 + zb12.2.2.1) (by omega) bzf184.symm ?_
        exact j_lv [1, 2, 3, 0] rfl (izs9 _ azf183)
      · have hr := ifF hc hr
        clear hc
        cases hr
    have hr := ifF hc13 hr
    by_cases hc14 : (zx24 &&& (63 : Int32)) = (14 : Int32)
    · have hr := ifT hc14 hr
      refine j_tabIn (v := 14) (off := 635) (tgt := 668) C dL_law_33 hc14 (by decide) rfl ?_
      refine j_aload_n (q := 1) (pc' := 669) C dL_law_668 rfl rfl rfl ?_
      refine j_aload_n (q := 0) (pc' := 670) C dL_law_669 rfl rfl rfl ?_
      refine j_iload_n (q := 3) (pc' := 671) C dL_law_670 rfl rfl rfl ?_
      refine j_iconst (v := 1) (pc' := 672) C dL_law_671 kI_1 rfl ?_
      refine j_iadd (pc' := 673) C dL_law_672 rfl ?_
      obtain ⟨zx187, hzx187, hr⟩ := ob hr
      refine j_scrld (pc' := 674) C HX dL_law_673 hzx187 rfl ?_
      refine j_aload_n (q := 0) (pc' := 675) C dL_law_674 rfl rfl rfl ?_
      refine j_iload_n (q := 3) (pc' := 676) C dL_law_675 rfl rfl rfl ?_
      refine j_iconst (v := 2) (pc' := 677) C dL_law_676 kI_2 rfl ?_
      refine j_iadd (pc' := 678) C dL_law_677 rfl ?_
      obtain ⟨zx188, hzx188, hr⟩ := ob hr
      refine j_scrld (pc' := 679) C HX dL_law_678 hzx188 rfl ?_
      obtain ⟨zz189, hzz189, hr⟩ := ob hr
      obtain ⟨zx190, hzx190, hr⟩ := ob hr
      obtain ⟨fhzz189, hzz189⟩ := rcv_sp hzz189
      refine j_callV (ci := 8) (As := [.int zx187, .int zx188]) (rest := []) (st1 := [.int zx190]) (pc' := 682) C ⟨wm_1046, wm_1047⟩ rfl hzz189 (c_X11_of (nx := nzs9) hzx190) yw_X11_of wm_1045 rfl rfl (Nat.le_of_ble_eq_true rfl) ⟨by decide, by decide⟩ dL_law_679 rfl rfl ?_
      refine j_aload_n (q := 2) (pc' := 683) C dL_law_682 rfl rfl rfl ?_
      refine j_aload_n (q := 0) (pc' := 684) C dL_law_683 rfl rfl rfl ?_
      refine j_iload_n (q := 3) (pc' := 685) C dL_law_684 rfl rfl rfl ?_
      refine j_iconst (v := 1) (pc' := 686) C dL_law_685 kI_1 rfl ?_
      refine j_iadd (pc' := 687) C dL_law_686 rfl ?_
      obtain ⟨zx191, hzx191, hr⟩ := ob hr
      refine j_scrld (pc' := 688) C HX dL_law_687 hzx191 rfl ?_
      refine j_aload_n (q := 0) (pc' := 689) C dL_law_688 rfl rfl rfl ?_
      refine j_iload_n (q := 3) (pc' := 690) C dL_law_689 rfl rfl rfl ?_
      refine j_iconst (v := 2) (pc' := 691) C dL_law_690 kI_2 rfl ?_
      refine j_iadd (pc' := 692) C dL_law_691 rfl ?_
      obtain ⟨zx192, hzx192, hr⟩ := ob hr
      refine j_scrld (pc' := 693) C HX dL_law_692 hzx192 rfl ?_
      obtain ⟨zz193, hzz193, hr⟩ := ob hr
      obtain ⟨zx194, hzx194, hr⟩ := ob hr
      obtain ⟨fhzz193, hzz193⟩ := rcv_sp hzz193
      refine j_callV (ci := 9) (As := [.int zx191, .int zx192]) (rest := [.int zx190]) (st1 := [.int zx194, .int zx190]) (pc' := 696) C ⟨wm_1850, wm_1851⟩ rfl hzz193 (c_X12_of (nx := nzs9) hzx194) yw_X12_of wm_1849 rfl rfl (Nat.le_of_ble_eq_true rfl) ⟨by decide, by decide⟩ dL_law_693 rfl rfl ?_
      refine j_ic_eq (tgt := 1718) (pc' := 699) C dL_law_696 rfl rfl (fun hc => ?_) (fun hc => ?_)
      · have hr := ifT hc hr
        clear hc
        refine j_iinc (q := 3) (v := 6) (lv' := [(3, .int (zs9 + (6 : Int32))), (0, .ref b), (1, .ref nx), (2, .ref ((nx + 1) + zq3.2.2.1))]) (pc' := 1721) C dL_law_1718 rfl kI_6 (by decide) rfl rfl ?_
        refine j_goto (tgt := 18) C dL_law_1721 rfl ?_
        obtain ⟨azf195, bzf196, czf197, dzf198⟩ := some4 hr
        refine j_k (kc' := kS + zt11.2.2.1 + zK13) (ks' := sS + zt11.2.2.2 + zS14) (by omega) (by omega) ?_
        refine j_at (nx' := nzs9 + zb12.2.2.1) (by omega) bzf196.symm ?_
        exact j_lv [1, 2, 3, 0] rfl (izs9 _ azf195)
      · have hr := ifF hc hr
        clear hc
        cases hr
    have hr := ifF hc14 hr
    by_cases hc15 : (zx24 &&& (63 : Int32)) = (15 : Int32)
    · have hr := ifT hc15 hr
      refine j_tabIn (v := 15) (off := 668) (tgt := 701) C dL_law_33 hc15 (by decide) rfl ?_
      refine j_aload_n (q := 1) (pc' := 702) C dL_law_701 rfl rfl rfl ?_
      refine j_aload_n (q := 0) (pc' := 703) C dL_law_702 rfl rfl rfl ?_
      refine j_iload_n (q := 3) (pc' := 704) C dL_law_703 rfl rfl rfl ?_
      refine j_iconst (v := 1) (pc' := 705) C dL_law_704 kI_1 rfl ?_
      refine j_iadd (pc' := 706) C dL_law_705 rfl ?_
      obtain ⟨zx199, hzx199, hr⟩ := ob hr
      refine j_scrld (pc' := 707) C HX dL_law_706 hzx199 rfl ?_
      refine j_aload_n (q := 0) (pc' := 708) C dL_law_707 rfl rfl rfl ?_
      refine j_iload_n (q := 3) (pc' := 709) C dL_law_708 rfl rfl rfl ?_
      refine j_iconst (v := 2) (pc' := 710) C dL_law_709 kI_2 rfl ?_
      refine j_iadd (pc' := 711) C dL_law_710 rfl ?_
      obtain ⟨zx200, hzx200, hr⟩ := ob hr
      refine j_scrld (pc' := 712) C HX dL_law_711 hzx200 rfl ?_
      obtain ⟨zz201, hzz201, hr⟩ := ob hr
      obtain ⟨zx202, hzx202, hr⟩ := ob hr
      obtain ⟨fhzz201, hzz201⟩ := rcv_sp hzz201
      refine j_callV (ci := 8) (As := [.int zx199, .int zx200]) (rest := []) (st1 := [.int zx202]) (pc' := 715) C ⟨wm_1051, wm_1052⟩ rfl hzz201 (c_X11_within (nx := nzs9) hzx202) yw_X11_within wm_1050 rfl rfl (Nat.le_of_ble_eq_true rfl) ⟨by decide, by decide⟩ dL_law_712 rfl rfl ?_
      refine j_aload_n (q := 2) (pc' := 716) C dL_law_715 rfl rfl rfl ?_
      refine j_aload_n (q := 0) (pc' := 717) C dL_law_716 rfl rfl rfl ?_
      refine j_iload_n (q := 3) (pc' := 718) C dL_law_717 rfl rfl rfl ?_
      refine j_iconst (v := 1) (pc' := 719) C dL_law_718 kI_1 rfl ?_
      refine j_iadd (pc' := 720) C dL_law_719 rfl ?_
      obtain ⟨zx203, hzx203, hr⟩ := ob hr
      refine j_scrld (pc' := 721) C HX dL_law_720 hzx203 rfl ?_
      refine j_aload_n (q := 0) (pc' := 722) C dL_law_721 rfl rfl rfl ?_
      refine j_iload_n (q := 3) (pc' := 723) C dL_law_722 rfl rfl rfl ?_
      refine j_iconst (v := 2) (pc' := 724) C dL_law_723 kI_2 rfl ?_
      refine j_iadd (pc' := 725) C dL_law_724 rfl ?_
      obtain ⟨zx204, hzx204, hr⟩ := ob hr
      refine j_scrld (pc' := 726) C HX dL_law_725 hzx204 rfl ?_
      obtain ⟨zz205, hzz205, hr⟩ := ob hr
      obtain ⟨zx206, hzx206, hr⟩ := ob hr
      obtain ⟨fhzz205, hzz205⟩ := rcv_sp hzz205
      refine j_callV (ci := 9) (As := [.int zx203, .int zx204]) (rest := [.int zx202]) (st1 := [.int zx206, .int zx202]) (pc' := 729) C ⟨wm_1854, wm_1855⟩ rfl hzz205 (c_X12_within (nx := nzs9) hzx206) yw_X12_within wm_1853 rfl rfl (Nat.le_of_ble_eq_true rfl) ⟨by decide, by decide⟩ dL_law_726 rfl rfl ?_
      refine j_ic_eq (tgt := 1718) (pc' := 732) C dL_law_729 rfl rfl (fun hc => ?_) (fun hc => ?_)
      · have hr := ifT hc hr
        clear hc
        refine j_iinc (q := 3) (v := 6) (lv' := [(3, .int (zs9 + (6 : Int32))), (0, .ref b), (1, .ref nx), (2, .ref ((nx + 1) + zq3.2.2.1))]) (pc' := 1721) C dL_law_1718 rfl kI_6 (by decide) rfl rfl ?_
        refine j_goto (tgt := 18) C dL_law_1721 rfl ?_
        obtain ⟨azf207, bzf208, czf209, dzf210⟩ := some4 hr
        refine j_k (kc' := kS + zt11.2.2.1 + zK13) (ks' := sS + zt11.2.2.2 + zS14) (by omega) (by omega) ?_
        refine j_at (nx' := nzs9 + zb12.2.2.1) (by omega) bzf208.symm ?_
        exact j_lv [1, 2, 3, 0] rfl (izs9 _ azf207)
      · have hr := ifF hc hr
        clear hc
        cases hr
    have hr := ifF hc15 hr
    by_cases hc16 : (zx24 &&& (63 : Int32)) = (16 : Int32)
    · have hr := ifT hc16 hr
      refine j_tabIn (v := 16) (off := 701) (tgt := 734) C dL_law_33 hc16 (by decide) rfl ?_
      refine j_aload_n (q := 1) (pc' := 735) C dL_law_734 rfl rfl rfl ?_
      refine j_aload_n (q := 0) (pc' := 736) C dL_law_735 rfl rfl rfl ?_
      refine j_iload_n (q := 3) (pc' := 737) C dL_law_736 rfl rfl rfl ?_
      refine j_iconst (v := 1) (pc' := 738) C dL_law_737 kI_1 rfl ?_
      refine j_iadd (pc' := 739) C dL_law_738 rfl ?_
      obtain ⟨zx211, hzx211, hr⟩ := ob hr
      refine j_scrld (pc' := 740) C HX dL_law_739 hzx211 rfl ?_
      obtain ⟨zz212, hzz212, hr⟩ := ob hr
      obtain ⟨zx213, hzx213, hr⟩ := ob hr
      obtain ⟨fhzz212, hzz212⟩ := rcv_sp hzz212
      refine j_callV (ci := 8) (As := [.int zx211]) (rest := []) (st1 := [.int zx213]) (pc' := 743) C ⟨wm_1060, wm_1061⟩ rfl hzz212 (c_X11_wide (nx := nzs9) hzx213) yw_X11_wide wm_1059 rfl rfl (Nat.le_of_ble_eq_true rfl) ⟨by decide, by decide⟩ dL_law_740 rfl rfl ?_
      refine j_aload_n (q := 2) (pc' := 744) C dL_law_743 rfl rfl rfl ?_
      refine j_aload_n (q := 0) (pc' := 745) C dL_law_744 rfl rfl rfl ?_
      refine j_iload_n (q := 3) (pc' := 746) C dL_law_745 rfl rfl rfl ?_
      refine j_iconst (v := 1) (pc' := 747) C dL_law_746 kI_1 rfl ?_
      refine j_iadd (pc' := 748) C dL_law_747 rfl ?_
      obtain ⟨zx214, hzx214, hr⟩ := ob hr
      refine j_scrld (pc' := 749) C HX dL_law_748 hzx214 rfl ?_
      obtain ⟨zz215, hzz215, hr⟩ := ob hr
      obtain ⟨zx216, hzx216, hr⟩ := ob hr
      obtain ⟨fhzz215, hzz215⟩ := rcv_sp hzz215
      refine j_callV (ci := 9) (As := [.int zx214]) (rest := [.int zx213]) (st1 := [.int zx216, .int zx213]) (pc' := 752) C ⟨wm_1862, wm_1863⟩ rfl hzz215 (c_X12_wide (nx := nzs9) hzx216) yw_X12_wide wm_1861 rfl rfl (Nat.le_of_ble_eq_true rfl) ⟨by decide, by decide⟩ dL_law_749 rfl rfl ?_
      refine j_ic_eq (tgt := 1718) (pc' := 755) C dL_law_752 rfl rfl (fun hc => ?_) (fun hc => ?_)
      · have hr := ifT hc hr
        clear hc
        refine j_iinc (q := 3) (v := 6) (lv' := [(3, .int (zs9 + (6 : Int32))), (0, .ref b), (1, .ref nx), (2, .ref ((nx + 1) + zq3.2.2.1))]) (pc' := 1721) C dL_law_1718 rfl kI_6 (by decide) rfl rfl ?_
        refine j_goto (tgt := 18) C dL_law_1721 rfl ?_
        obtain ⟨azf217, bzf218, czf219, dzf220⟩ := some4 hr
        refine j_k (kc' := kS + zt11.2.2.1 + zK13) (ks' := sS + zt11.2.2.2 + zS14) (by omega) (by omega) ?_
        refine j_at (nx' := nzs9 + zb12.2.2.1) (by omega) bzf218.symm ?_
        exact j_lv [1, 2, 3, 0] rfl (izs9 _ azf217)
      · have hr := ifF hc hr
        clear hc
        cases hr
    have hr := ifF hc16 hr
    by_cases hc17 : (zx24 &&& (63 : Int32)) = (17 : Int32)
    · have hr := ifT hc17 hr
      refine j_tabIn (v := 17) (off := 724) (tgt := 757) C dL_law_33 hc17 (by decide) rfl ?_
      refine j_aload_n (q := 1) (pc' := 758) C dL_law_757 rfl rfl rfl ?_
      refine j_aload_n (q := 0) (pc' := 759) C dL_law_758 rfl rfl rfl ?_
      refine j_iload_n (q := 3) (pc' := 760) C dL_law_759 rfl rfl rfl ?_
      refine j_iconst (v := 1) (pc' := 761) C dL_law_760 kI_1 rfl ?_
      refine j_iadd (pc' := 762) C dL_law_761 rfl ?_
      obtain ⟨zx221, hzx221, hr⟩ := ob hr
      refine j_scrld (pc' := 763) C HX dL_law_762 hzx221 rfl ?_
      obtain ⟨zz222, hzz222, hr⟩ := ob hr
      obtain ⟨zx223, hzx223, hr⟩ := ob hr
      obtain ⟨fhzz222, hzz222⟩ := rcv_sp hzz222
      refine j_callV (ci := 8) (As := [.int zx221]) (rest := []) (st1 := [.int zx223]) (pc' := 766) C ⟨wm_1064, wm_1065⟩ rfl hzz222 (c_X11_bad (nx := nzs9) hzx223) yw_X11_bad wm_1063 rfl rfl (Nat.le_of_ble_eq_true rfl) ⟨by decide, by decide⟩ dL_law_763 rfl rfl ?_
      refine j_aload_n (q := 2) (pc' := 767) C dL_law_766 rfl rfl rfl ?_
      refine j_aload_n (q := 0) (pc' := 768) C dL_law_767 rfl rfl rfl ?_
      refine j_iload_n (q := 3) (pc' := 769) C dL_law_768 rfl rfl rfl ?_
      refine j_iconst (v := 1) (pc' := 770) C dL_law_769 kI_1 rfl ?_
      refine j_iadd (pc' := 771) C dL_law_770 rfl ?_
      obtain ⟨zx224, hzx224, hr⟩ := ob hr
      refine j_scrld (pc' := 772) C HX dL_law_771 hzx224 rfl ?_
      obtain ⟨zz225, hzz225, hr⟩ := ob hr
      obtain ⟨zx226, hzx226, hr⟩ := ob hr
      obtain ⟨fhzz225, hzz225⟩ := rcv_sp hzz225
      refine j_callV (ci := 9) (As := [.int zx224]) (rest := [.int zx223]) (st1 := [.int zx226, .int zx223]) (pc' := 775) C ⟨wm_1869, wm_1870⟩ rfl hzz225 (c_X12_bad (nx := nzs9) hzx226) yw_X12_bad wm_1868 rfl rfl (Nat.le_of_ble_eq_true rfl) ⟨by decide, by decide⟩ dL_law_772 rfl rfl ?_
      refine j_ic_eq (tgt := 1718) (pc' := 778) C dL_law_775 rfl rfl (fun hc => ?_) (fun hc => ?_)
      · have hr := ifT hc hr
        clear hc
        refine j_iinc (q := 3) (v := 6) (lv' := [(3, .int (zs9 + (6 : Int32))), (0, .ref b), (1, .ref nx), (2, .ref ((nx + 1) + zq3.2.2.1))]) (pc' := 1721) C dL_law_1718 rfl kI_6 (by decide) rfl rfl ?_
        refine j_goto (tgt := 18) C dL_law_1721 rfl ?_
        obtain ⟨azf227, bzf228, czf229, dzf230⟩ := some4 hr
        refine j_k (kc' := kS + zt11.2.2.1 + zK13) (ks' := sS + zt11.2.2.2 + zS14) (by omega) (by omega) ?_
        refine j_at (nx' := nzs9 + zb12.2.2.1) (by omega) bzf228.symm ?_
        exact j_lv [1, 2, 3, 0] rfl (izs9 _ azf227)
      · have hr := ifF hc hr
        clear hc
        cases hr
    have hr := ifF hc17 hr
    by_cases hc18 : (zx24 &&& (63 : Int32)) = (18 : Int32)
    · have hr := ifT hc18 hr
      refine j_tabIn (v := 18) (off := 747) (tgt := 780) C dL_law_33 hc18 (by decide) rfl ?_
      refine j_aload_n (q := 1) (pc' := 781) C dL_law_780 rfl rfl rfl ?_
      refine j_aload_n (q := 0) (pc' := 782) C dL_law_781 rfl rfl rfl ?_
      refine j_iload_n (q := 3) (pc' := 783) C dL_law_782 rfl rfl rfl ?_
      refine j_iconst (v := 1) (pc' := 784) C dL_law_783 kI_1 rfl ?_
      refine j_iadd (pc' := 785) C dL_law_784 rfl ?_
      obtain ⟨zx231, hzx231, hr⟩ := ob hr
      refine j_scrld (pc' := 786) C HX dL_law_785 hzx231 rfl ?_
      obtain ⟨zz232, hzz232, hr⟩ := ob hr
      obtain ⟨zx233, hzx233, hr⟩ := ob hr
      obtain ⟨fhzz232, hzz232⟩ := rcv_sp hzz232
      refine j_callV (ci := 8) (As := [.int zx231]) (rest := []) (st1 := [.int zx233]) (pc' := 789) C ⟨wm_1069, wm_1070⟩ rfl hzz232 (c_X11_sought (nx := nzs9) hzx233) yw_X11_sought wm_1068 rfl rfl (Nat.le_of_ble_eq_true rfl) ⟨by decide, by decide⟩ dL_law_786 rfl rfl ?_
      refine j_aload_n (q := 2) (pc' := 790) C dL_law_789 rfl rfl rfl ?_
      refine j_aload_n (q := 0) (pc' := 791) C dL_law_790 rfl rfl rfl ?_
      refine j_iload_n (q := 3) (pc' := 792) C dL_law_791 rfl rfl rfl ?_
      refine j_iconst (v := 1) (pc' := 793) C dL_law_792 kI_1 rfl ?_
      refine j_iadd (pc' := 794) C dL_law_793 rfl ?_
      obtain ⟨zx234, hzx234, hr⟩ := ob hr
      refine j_scrld (pc' := 795) C HX dL_law_794 hzx234 rfl ?_
      obtain ⟨zz235, hzz235, hr⟩ := ob hr
      obtain ⟨zx236, hzx236, hr⟩ := ob hr
      obtain ⟨fhzz235, hzz235⟩ := rcv_sp hzz235
      refine j_callV (ci := 9) (As := [.int zx234]) (rest := [.int zx233]) (st1 := [.int zx236, .int zx233]) (pc' := 798) C ⟨wm_1873, wm_1874⟩ rfl hzz235 (c_X12_sought (nx := nzs9) hzx236) yw_X12_sought wm_1872 rfl rfl (Nat.le_of_ble_eq_true rfl) ⟨by decide, by decide⟩ dL_law_795 rfl rfl ?_
      refine j_ic_eq (tgt := 1718) (pc' := 801) C dL_law_798 rfl rfl (fun hc => ?_) (fun hc => ?_)
      · have hr := ifT hc hr
        clear hc
        refine j_iinc (q := 3) (v := 6) (lv' := [(3, .int (zs9 + (6 : Int32))), (0, .ref b), (1, .ref nx), (2, .ref ((nx + 1) + zq3.2.2.1))]) (pc' := 1721) C dL_law_1718 rfl kI_6 (by decide) rfl rfl ?_
        refine j_goto (tgt := 18) C dL_law_1721 rfl ?_
        obtain ⟨azf237, bzf238, czf239, dzf240⟩ := some4 hr
        refine j_k (kc' := kS + zt11.2.2.1 + zK13) (ks' := sS + zt11.2.2.2 + zS14) (by omega) (by omega) ?_
        refine j_at (nx' := nzs9 + zb12.2.2.1) (by omega) bzf238.symm ?_
        exact j_lv [1, 2, 3, 0] rfl (izs9 _ azf237)
      · have hr := ifF hc hr
        clear hc
        cases hr
    have hr := ifF hc18 hr
    by_cases hc19 : (zx24 &&& (63 : Int32)) = (19 : Int32)
    · have hr := ifT hc19 hr
      refine j_tabIn (v := 19) (off := 770) (tgt := 803) C dL_law_33 hc19 (by decide) rfl ?_
      refine j_aload_n (q := 1) (pc' := 804) C dL_law_803 rfl rfl rfl ?_
      refine j_aload_n (q := 0) (pc' := 805) C dL_law_804 rfl rfl rfl ?_
      refine j_iload_n (q := 3) (pc' := 806) C dL_law_805 rfl rfl rfl ?_
      refine j_iconst (v := 1) (pc' := 807) C dL_law_806 kI_1 rfl ?_
      refine j_iadd (pc' := 808) C dL_law_807 rfl ?_
      obtain ⟨zx241, hzx241, hr⟩ := ob hr
      refine j_scrld (pc' := 809) C HX dL_law_808 hzx241 rfl ?_
      obtain ⟨zz242, hzz242, hr⟩ := ob hr
      obtain ⟨zx243, hzx243, hr⟩ := ob hr
      obtain ⟨fhzz242, hzz242⟩ := rcv_sp hzz242
      refine j_callV (ci := 8) (As := [.int zx241]) (rest := []) (st1 := [.int zx243]) (pc' := 812) C ⟨wm_1074, wm_1075⟩ rfl hzz242 (c_X11_weight (nx := nzs9) hzx243) yw_X11_weight wm_1073 rfl rfl (Nat.le_of_ble_eq_true rfl) ⟨by decide, by decide⟩ dL_law_809 rfl rfl ?_
      refine j_aload_n (q := 2) (pc' := 813) C dL_law_812 rfl rfl rfl ?_
      refine j_aload_n (q := 0) (pc' := 814) C dL_law_813 rfl rfl rfl ?_
      refine j_iload_n (q := 3) (pc' := 815) C dL_law_814 rfl rfl rfl ?_
      refine j_iconst (v := 1) (pc' := 816) C dL_law_815 kI_1 rfl ?_
      refine j_iadd (pc' := 817) C dL_law_816 rfl ?_
      obtain ⟨zx244, hzx244, hr⟩ := ob hr
      refine j_scrld (pc' := 818) C HX dL_law_817 hzx244 rfl ?_
      obtain ⟨zz245, hzz245, hr⟩ := ob hr
      obtain ⟨zx246, hzx246, hr⟩ := ob hr
      obtain ⟨fhzz245, hzz245⟩ := rcv_sp hzz245
      refine j_callV (ci := 9) (As := [.int zx244]) (rest := [.int zx243]) (st1 := [.int zx246, .int zx243]) (pc' := 821) C ⟨wm_1877, wm_1878⟩ rfl hzz245 (c_X12_weight (nx := nzs9) hzx246) yw_X12_weight wm_1876 rfl rfl (Nat.le_of_ble_eq_true rfl) ⟨by decide, by decide⟩ dL_law_818 rfl rfl ?_
      refine j_ic_eq (tgt := 1718) (pc' := 824) C dL_law_821 rfl rfl (fun hc => ?_) (fun hc => ?_)
      · have hr := ifT hc hr
        clear hc
        refine j_iinc (q := 3) (v := 6) (lv' := [(3, .int (zs9 + (6 : Int32))), (0, .ref b), (1, .ref nx), (2, .ref ((nx + 1) + zq3.2.2.1))]) (pc' := 1721) C dL_law_1718 rfl kI_6 (by decide) rfl rfl ?_
        refine j_goto (tgt := 18) C dL_law_1721 rfl ?_
        obtain ⟨azf247, bzf248, czf249, dzf250⟩ := some4 hr
        refine j_k (kc' := kS + zt11.2.2.1 + zK13) (ks' := sS + zt11.2.2.2 + zS14) (by omega) (by omega) ?_
        refine j_at (nx' := nzs9 + zb12.2.2.1) (by omega) bzf248.symm ?_
        exact j_lv [1, 2, 3, 0] rfl (izs9 _ azf247)
      · have hr := ifF hc hr
        clear hc
        cases hr
    have hr := ifF hc19 hr
    by_cases hc20 : (zx24 &&& (63 : Int32)) = (20 : Int32)
    · have hr := ifT hc20 hr
      refine j_tabIn (v := 20) (off := 793) (tgt := 826) C dL_law_33 hc20 (by decide) rfl ?_
      refine j_aload_n (q := 1) (pc' := 827) C dL_law_826 rfl rfl rfl ?_
      refine j_aload_n (q := 0) (pc' := 828) C dL_law_827 rfl rfl rfl ?_
      refine j_iload_n (q := 3) (pc' := 829) C dL_law_828 rfl rfl rfl ?_
      refine j_iconst (v := 1) (pc' := 830) C dL_law_829 kI_1 rfl ?_
      refine j_iadd (pc' := 831) C dL_law_830 rfl ?_
      obtain ⟨zx251, hzx251, hr⟩ := ob hr
      refine j_scrld (pc' := 832) C HX dL_law_831 hzx251 rfl ?_
      refine j_aload_n (q := 0) (pc' := 833) C dL_law_832 rfl rfl rfl ?_
      refine j_iload_n (q := 3) (pc' := 834) C dL_law_833 rfl rfl rfl ?_
      refine j_iconst (v := 2) (pc' := 835) C dL_law_834 kI_2 rfl ?_
      refine j_iadd (pc' := 836) C dL_law_835 rfl ?_
      obtain ⟨zx252, hzx252, hr⟩ := ob hr
      refine j_scrld (pc' := 837) C HX dL_law_836 hzx252 rfl ?_
      refine j_aload_n (q := 0) (pc' := 838) C dL_law_837 rfl rfl rfl ?_
      refine j_iload_n (q := 3) (pc' := 839) C dL_law_838 rfl rfl rfl ?_
      refine j_iconst (v := 3) (pc' := 840) C dL_law_839 kI_3 rfl ?_
      refine j_iadd (pc' := 841) C dL_law_840 rfl ?_
      obtain ⟨zx253, hzx253, hr⟩ := ob hr
      refine j_scrld (pc' := 842) C HX dL_law_841 hzx253 rfl ?_
      obtain ⟨zz254, hzz254, hr⟩ := ob hr
      obtain ⟨zx255, hzx255, hr⟩ := ob hr
      obtain ⟨fhzz254, hzz254⟩ := rcv_sp hzz254
      refine j_callV (ci := 8) (As := [.int zx251, .int zx252, .int zx253]) (rest := []) (st1 := [.int zx255]) (pc' := 845) C ⟨wm_1090, wm_1091⟩ rfl hzz254 (c_X11_cube (nx := nzs9) hzx255) yw_X11_cube wm_1089 rfl rfl (Nat.le_of_ble_eq_true rfl) ⟨by decide, by decide⟩ dL_law_842 rfl rfl ?_
      refine j_aload_n (q := 2) (pc' := 846) C dL_law_845 rfl rfl rfl ?_
      refine j_aload_n (q := 0) (pc' := 847) C dL_law_846 rfl rfl rfl ?_
      refine j_iload_n (q := 3) (pc' := 848) C dL_law_847 rfl rfl rfl ?_
      refine j_iconst (v := 1) (pc' := 849) C dL_law_848 kI_1 rfl ?_
      refine j_iadd (pc' := 850) C dL_law_849 rfl ?_
      obtain ⟨zx256, hzx256, hr⟩ := ob hr
      refine j_scrld (pc' := 851) C HX dL_law_850 hzx256 rfl ?_
      refine j_aload_n (q := 0) (pc' := 852) C dL_law_851 rfl rfl rfl ?_
      refine j_iload_n (q := 3) (pc' := 853) C dL_law_852 rfl rfl rfl ?_
      refine j_iconst (v := 2) (pc' := 854) C dL_law_853 kI_2 rfl ?_
      refine j_iadd (pc' := 855) C dL_law_854 rfl ?_
      obtain ⟨zx257, hzx257, hr⟩ := ob hr
      refine j_scrld (pc' := 856) C HX dL_law_855 hzx257 rfl ?_
      refine j_aload_n (q := 0) (pc' := 857) C dL_law_856 rfl rfl rfl ?_
      refine j_iload_n (q := 3) (pc' := 858) C dL_law_857 rfl rfl rfl ?_
      refine j_iconst (v := 3) (pc' := 859) C dL_law_858 kI_3 rfl ?_
      refine j_iadd (pc' := 860) C dL_law_859 rfl ?_
      obtain ⟨zx258, hzx258, hr⟩ := ob hr
      refine j_scrld (pc' := 861) C HX dL_law_860 hzx258 rfl ?_
      obtain ⟨zz259, hzz259, hr⟩ := ob hr
      obtain ⟨zx260, hzx260, hr⟩ := ob hr
      obtain ⟨fhzz259, hzz259⟩ := rcv_sp hzz259
      refine j_callV (ci := 9) (As := [.int zx256, .int zx257, .int zx258]) (rest := [.int zx255]) (st1 := [.int zx260, .int zx255]) (pc' := 864) C ⟨wm_1881, wm_1882⟩ rfl hzz259 (c_X12_cube (nx := nzs9) hzx260) yw_X12_cube wm_1880 rfl rfl (Nat.le_of_ble_eq_true rfl) ⟨by decide, by decide⟩ dL_law_861 rfl rfl ?_
      refine j_ic_eq (tgt := 1718) (pc' := 867) C dL_law_864 rfl rfl (fun hc => ?_) (fun hc => ?_)
      · have hr := ifT hc hr
        clear hc
        refine j_iinc (q := 3) (v := 6) (lv' := [(3, .int (zs9 + (6 : Int32))), (0, .ref b), (1, .ref nx), (2, .ref ((nx + 1) + zq3.2.2.1))]) (pc' := 1721) C dL_law_1718 rfl kI_6 (by decide) rfl rfl ?_
        refine j_goto (tgt := 18) C dL_law_1721 rfl ?_
        obtain ⟨azf261, bzf262, czf263, dzf264⟩ := some4 hr
        refine j_k (kc' := kS + zt11.2.2.1 + zK13) (ks' := sS + zt11.2.2.2 + zS14) (by omega) (by omega) ?_
        refine j_at (nx' := nzs9 + zb12.2.2.1) (by omega) bzf262.symm ?_
        exact j_lv [1, 2, 3, 0] rfl (izs9 _ azf261)
      · have hr := ifF hc hr
        clear hc
        cases hr
    have hr := ifF hc20 hr
    by_cases hc21 : (zx24 &&& (63 : Int32)) = (21 : Int32)
    · have hr := ifT hc21 hr
      refine j_tabIn (v := 21) (off := 836) (tgt := 869) C dL_law_33 hc21 (by decide) rfl ?_
      refine j_aload_n (q := 1) (pc' := 870) C dL_law_869 rfl rfl rfl ?_
      refine j_aload_n (q := 0) (pc' := 871) C dL_law_870 rfl rfl rfl ?_
      refine j_iload_n (q := 3) (pc' := 872) C dL_law_871 rfl rfl rfl ?_
      refine j_iconst (v := 1) (pc' := 873) C dL_law_872 kI_1 rfl ?_
      refine j_iadd (pc' := 874) C dL_law_873 rfl ?_
      obtain ⟨zx265, hzx265, hr⟩ := ob hr
      refine j_scrld (pc' := 875) C HX dL_law_874 hzx265 rfl ?_
      refine j_aload_n (q := 0) (pc' := 876) C dL_law_875 rfl rfl rfl ?_
      refine j_iload_n (q := 3) (pc' := 877) C dL_law_876 rfl rfl rfl ?_
      refine j_iconst (v := 2) (pc' := 878) C dL_law_877 kI_2 rfl ?_
      refine j_iadd (pc' := 879) C dL_law_878 rfl ?_
      obtain ⟨zx266, hzx266, hr⟩ := ob hr
      refine j_scrld (pc' := 880) C HX dL_law_879 hzx266 rfl ?_
      obtain ⟨zz267, hzz267, hr⟩ := ob hr
      obtain ⟨zx268, hzx268, hr⟩ := ob hr
      obtain ⟨fhzz267, hzz267⟩ := rcv_sp hzz267
      refine j_callV (ci := 8) (As := [.int zx265, .int zx266]) (rest := []) (st1 := [.int zx268]) (pc' := 883) C ⟨wm_1101, wm_1102⟩ rfl hzz267 (c_X11_obligation (nx := nzs9) hzx268) yw_X11_obligation wm_1100 rfl rfl (Nat.le_of_ble_eq_true rfl) ⟨by decide, by decide⟩ dL_law_880 rfl rfl ?_
      refine j_aload_n (q := 2) (pc' := 884) C dL_law_883 rfl rfl rfl ?_
      refine j_aload_n (q := 0) (pc' := 885) C dL_law_884 rfl rfl rfl ?_
      refine j_iload_n (q := 3) (pc' := 886) C dL_law_885 rfl rfl rfl ?_
      refine j_iconst (v := 1) (pc' := 887) C dL_law_886 kI_1 rfl ?_
      refine j_iadd (pc' := 888) C dL_law_887 rfl ?_
      obtain ⟨zx269, hzx269, hr⟩ := ob hr
      refine j_scrld (pc' := 889) C HX dL_law_888 hzx269 rfl ?_
      refine j_aload_n (q := 0) (pc' := 890) C dL_law_889 rfl rfl rfl ?_
      refine j_iload_n (q := 3) (pc' := 891) C dL_law_890 rfl rfl rfl ?_
      refine j_iconst (v := 2) (pc' := 892) C dL_law_891 kI_2 rfl ?_
      refine j_iadd (pc' := 893) C dL_law_892 rfl ?_
      obtain ⟨zx270, hzx270, hr⟩ := ob hr
      refine j_scrld (pc' := 894) C HX dL_law_893 hzx270 rfl ?_
      obtain ⟨zz271, hzz271, hr⟩ := ob hr
      obtain ⟨zx272, hzx272, hr⟩ := ob hr
      obtain ⟨fhzz271, hzz271⟩ := rcv_sp hzz271
      refine j_callV (ci := 9) (As := [.int zx269, .int zx270]) (rest := [.int zx268]) (st1 := [.int zx272, .int zx268]) (pc' := 897) C ⟨wm_1893, wm_1894⟩ rfl hzz271 (c_X12_obligation (nx := nzs9) hzx272) yw_X12_obligation wm_1892 rfl rfl (Nat.le_of_ble_eq_true rfl) ⟨by decide, by decide⟩ dL_law_894 rfl rfl ?_
      refine j_ic_eq (tgt := 1718) (pc' := 900) C dL_law_897 rfl rfl (fun hc => ?_) (fun hc => ?_)
      · have hr := ifT hc hr
        clear hc
        refine j_iinc (q := 3) (v := 6) (lv' := [(3, .int (zs9 + (6 : Int32))), (0, .ref b), (1, .ref nx), (2, .ref ((nx + 1) + zq3.2.2.1))]) (pc' := 1721) C dL_law_1718 rfl kI_6 (by decide) rfl rfl ?_
        refine j_goto (tgt := 18) C dL_law_1721 rfl ?_
        obtain ⟨azf273, bzf274, czf275, dzf276⟩ := some4 hr
        refine j_k (kc' := kS + zt11.2.2.1 + zK13) (ks' := sS + zt11.2.2.2 + zS14) (by omega) (by omega) ?_
        refine j_at (nx' := nzs9 + zb12.2.2.1) (by omega) bzf274.symm ?_
        exact j_lv [1, 2, 3, 0] rfl (izs9 _ azf273)
      · have hr := ifF hc hr
        clear hc
        cases hr
    have hr := ifF hc21 hr
    by_cases hc22 : (zx24 &&& (63 : Int32)) = (22 : Int32)
    · have hr := ifT hc22 hr
      refine j_tabIn (v := 22) (off := 869) (tgt := 902) C dL_law_33 hc22 (by decide) rfl ?_
      refine j_aload_n (q := 1) (pc' := 903) C dL_law_902 rfl rfl rfl ?_
      refine j_aload_n (q := 0) (pc' := 904) C dL_law_903 rfl rfl rfl ?_
      refine j_iload_n (q := 3) (pc' := 905) C dL_law_904 rfl rfl rfl ?_
      refine j_iconst (v := 1) (pc' := 906) C dL_law_905 kI_1 rfl ?_
      refine j_iadd (pc' := 907) C dL_law_906 rfl ?_
      obtain ⟨zx277, hzx277, hr⟩ := ob hr
      refine j_scrld (pc' := 908) C HX dL_law_907 hzx277 rfl ?_
      refine j_aload_n (q := 0) (pc' := 909) C dL_law_908 rfl rfl rfl ?_
      refine j_iload_n (q := 3) (pc' := 910) C dL_law_909 rfl rfl rfl ?_
      refine j_iconst (v := 2) (pc' := 911) C dL_law_910 kI_2 rfl ?_
      refine j_iadd (pc' := 912) C dL_law_911 rfl ?_
      obtain ⟨zx278, hzx278, hr⟩ := ob hr
      refine j_scrld (pc' := 913) C HX dL_law_912 hzx278 rfl ?_
      obtain ⟨zz279, hzz279, hr⟩ := ob hr
      obtain ⟨zq280, hzq280, hr⟩ := ob hr
      obtain ⟨fhzz279, hzz279⟩ := rcv_sp hzz279
      refine j_callV (ci := 8) (As := [.int zx277, .int zx278]) (rest := []) (st1 := [.int zq280.1]) (pc' := 916) C ⟨wm_1106, wm_1107⟩ rfl hzz279 (c_X11_trace (nx := nzs9) hzq280) yw_X11_trace wm_1105 rfl rfl (Nat.le_of_ble_eq_true rfl) ⟨by decide, by decide⟩ dL_law_913 rfl rfl ?_
      refine j_aload_n (q := 2) (pc' := 917) C dL_law_916 rfl rfl rfl ?_
      refine j_aload_n (q := 0) (pc' := 918) C dL_law_917 rfl rfl rfl ?_
      refine j_iload_n (q := 3) (pc' := 919) C dL_law_918 rfl rfl rfl ?_
      refine j_iconst (v := 1) (pc' := 920) C dL_law_919 kI_1 rfl ?_
      refine j_iadd (pc' := 921) C dL_law_920 rfl ?_
      obtain ⟨zx281, hzx281, hr⟩ := ob hr
      refine j_scrld (pc' := 922) C HX dL_law_921 hzx281 rfl ?_
      refine j_aload_n (q := 0) (pc' := 923) C dL_law_922 rfl rfl rfl ?_
      refine j_iload_n (q := 3) (pc' := 924) C dL_law_923 rfl rfl rfl ?_
      refine j_iconst (v := 2) (pc' := 925) C dL_law_924 kI_2 rfl ?_
      refine j_iadd (pc' := 926) C dL_law_925 rfl ?_
      obtain ⟨zx282, hzx282, hr⟩ := ob hr
      refine j_scrld (pc' := 927) C HX dL_law_926 hzx282 rfl ?_
      obtain ⟨zz283, hzz283, hr⟩ := ob hr
      obtain ⟨zq284, hzq284, hr⟩ := ob hr
      obtain ⟨fhzz283, hzz283⟩ := rcv_sp hzz283
      refine j_callV (ci := 9) (As := [.int zx281, .int zx282]) (rest := [.int zq280.1]) (st1 := [.int zq284.1, .int zq280.1]) (pc' := 930) C ⟨wm_1901, wm_1902⟩ rfl hzz283 (c_X12_trace (nx := nzs9) hzq284) yw_X12_trace wm_1900 rfl rfl (Nat.le_of_ble_eq_true rfl) ⟨by decide, by decide⟩ dL_law_927 rfl rfl ?_
      refine j_ic_eq (tgt := 1718) (pc' := 933) C dL_law_930 rfl rfl (fun hc => ?_) (fun hc => ?_)
      · have hr := ifT hc hr
        clear hc
        refine j_iinc (q := 3) (v := 6) (lv' := [(3, .int (zs9 + (6 : Int32))), (0, .ref b), (1, .ref nx), (2, .ref ((nx + 1) + zq3.2.2.1))]) (pc' := 1721) C dL_law_1718 rfl kI_6 (by decide) rfl rfl ?_
        refine j_goto (tgt := 18) C dL_law_1721 rfl ?_
        obtain ⟨azf285, bzf286, czf287, dzf288⟩ := some4 hr
        refine j_k (kc' := kS + zt11.2.2.1 + zK13) (ks' := sS + zt11.2.2.2 + zS14) (by omega) (by omega) ?_
        refine j_at (nx' := nzs9 + zb12.2.2.1) (by omega) bzf286.symm ?_
        exact j_lv [1, 2, 3, 0] rfl (izs9 _ azf285)
      · have hr := ifF hc hr
        clear hc
        cases hr
    have hr := ifF hc22 hr
    by_cases hc23 : (zx24 &&& (63 : Int32)) = (23 : Int32)
    · have hr := ifT hc23 hr
      refine j_tabIn (v := 23) (off := 902) (tgt := 935) C dL_law_33 hc23 (by decide) rfl ?_
      refine j_aload_n (q := 1) (pc' := 936) C dL_law_935 rfl rfl rfl ?_
      refine j_aload_n (q := 0) (pc' := 937) C dL_law_936 rfl rfl rfl ?_
      refine j_iload_n (q := 3) (pc' := 938) C dL_law_937 rfl rfl rfl ?_
      refine j_iconst (v := 1) (pc' := 939) C dL_law_938 kI_1 rfl ?_
      refine j_iadd (pc' := 940) C dL_law_939 rfl ?_
      obtain ⟨zx289, hzx289, hr⟩ := ob hr
      refine j_scrld (pc' := 941) C HX dL_law_940 hzx289 rfl ?_
      refine j_aload_n (q := 0) (pc' := 942) C dL_law_941 rfl rfl rfl ?_
      refine j_iload_n (q := 3) (pc' := 943) C dL_law_942 rfl rfl rfl ?_
      refine j_iconst (v := 2) (pc' := 944) C dL_law_943 kI_2 rfl ?_
      refine j_iadd (pc' := 945) C dL_law_944 rfl ?_
      obtain ⟨zx290, hzx290, hr⟩ := ob hr
      refine j_scrld (pc' := 946) C HX dL_law_945 hzx290 rfl ?_
      obtain ⟨zz291, hzz291, hr⟩ := ob hr
      obtain ⟨zx292, hzx292, hr⟩ := ob hr
      obtain ⟨fhzz291, hzz291⟩ := rcv_sp hzz291
      refine j_callV (ci := 8) (As := [.int zx289, .int zx290]) (rest := []) (st1 := [.int zx292]) (pc' := 949) C ⟨wm_1127, wm_1128⟩ rfl hzz291 (c_X11_fence (nx := nzs9) hzx292) yw_X11_fence wm_1126 rfl rfl (Nat.le_of_ble_eq_true rfl) ⟨by decide, by decide⟩ dL_law_946 rfl rfl ?_
      refine j_aload_n (q := 2) (pc' := 950) C dL_law_949 rfl rfl rfl ?_
      refine j_aload_n (q := 0) (pc' := 951) C dL_law_950 rfl rfl rfl ?_
      refine j_iload_n (q := 3) (pc' := 952) C dL_law_951 rfl rfl rfl ?_
      refine j_iconst (v := 1) (pc' := 953) C dL_law_952 kI_1 rfl ?_
      refine j_iadd (pc' := 954) C dL_law_953 rfl ?_
      obtain ⟨zx293, hzx293, hr⟩ := ob hr
      refine j_scrld (pc' := 955) C HX dL_law_954 hzx293 rfl ?_
      refine j_aload_n (q := 0) (pc' := 956) C dL_law_955 rfl rfl rfl ?_
      refine j_iload_n (q := 3) (pc' := 957) C dL_law_956 rfl rfl rfl ?_
      refine j_iconst (v := 2) (pc' := 958) C dL_law_957 kI_2 rfl ?_
      refine j_iadd (pc' := 959) C dL_law_958 rfl ?_
      obtain ⟨zx294, hzx294, hr⟩ := ob hr
      refine j_scrld (pc' := 960) C HX dL_law_959 hzx294 rfl ?_
      obtain ⟨zz295, hzz295, hr⟩ := ob hr
      obtain ⟨zq296, hzq296, hr⟩ := ob hr
      obtain ⟨fhzz295, hzz295⟩ := rcv_sp hzz295
      refine j_callV (ci := 9) (As := [.int zx293, .int zx294]) (rest := [.int zx292]) (st1 := [.int zq296.1, .int zx292]) (pc' := 963) C ⟨wm_1917, wm_1918⟩ rfl hzz295 (c_X12_fence (nx := nzs9) hzq296) yw_X12_fence wm_1916 rfl rfl (Nat.le_of_ble_eq_true rfl) ⟨by decide, by decide⟩ dL_law_960 rfl rfl ?_
      refine j_ic_eq (tgt := 1718) (pc' := 966) C dL_law_963 rfl rfl (fun hc => ?_) (fun hc => ?_)
      · have hr := ifT hc hr
        clear hc
        refine j_iinc (q := 3) (v := 6) (lv' := [(3, .int (zs9 + (6 : Int32))), (0, .ref b), (1, .ref nx), (2, .ref ((nx + 1) + zq3.2.2.1))]) (pc' := 1721) C dL_law_1718 rfl kI_6 (by decide) rfl rfl ?_
        refine j_goto (tgt := 18) C dL_law_1721 rfl ?_
        obtain ⟨azf297, bzf298, czf299, dzf300⟩ := some4 hr
        refine j_k (kc' := kS + zt11.2.2.1 + zK13) (ks' := sS + zt11.2.2.2 + zS14) (by omega) (by omega) ?_
        refine j_at (nx' := nzs9 + zb12.2.2.1) (by omega) bzf298.symm ?_
        exact j_lv [1, 2, 3, 0] rfl (izs9 _ azf297)
      · have hr := ifF hc hr
        clear hc
        cases hr
    have hr := ifF hc23 hr
    by_cases hc24 : (zx24 &&& (63 : Int32)) = (24 : Int32)
    · have hr := ifT hc24 hr
      refine j_tabIn (v := 24) (off := 935) (tgt := 968) C dL_law_33 hc24 (by decide) rfl ?_
      refine j_aload_n (q := 1) (pc' := 969) C dL_law_968 rfl rfl rfl ?_
      refine j_aload_n (q := 0) (pc' := 970) C dL_law_969 rfl rfl rfl ?_
      refine j_iload_n (q := 3) (pc' := 971) C dL_law_970 rfl rfl rfl ?_
      refine j_iconst (v := 1) (pc' := 972) C dL_law_971 kI_1 rfl ?_
      refine j_iadd (pc' := 973) C dL_law_972 rfl ?_
      obtain ⟨zx301, hzx301, hr⟩ := ob hr
      refine j_scrld (pc' := 974) C HX dL_law_973 hzx301 rfl ?_
      obtain ⟨zz302, hzz302, hr⟩ := ob hr
      obtain ⟨zx303, hzx303, hr⟩ := ob hr
      obtain ⟨fhzz302, hzz302⟩ := rcv_sp hzz302
      refine j_callV (ci := 8) (As := [.int zx301]) (rest := []) (st1 := [.int zx303]) (pc' := 977) C ⟨wm_1135, wm_1136⟩ rfl hzz302 (c_X11_activity (nx := nzs9) hzx303) yw_X11_activity wm_1134 rfl rfl (Nat.le_of_ble_eq_true rfl) ⟨by decide, by decide⟩ dL_law_974 rfl rfl ?_
      refine j_aload_n (q := 2) (pc' := 978) C dL_law_977 rfl rfl rfl ?_
      refine j_aload_n (q := 0) (pc' := 979) C dL_law_978 rfl rfl rfl ?_
      refine j_iload_n (q := 3) (pc' := 980) C dL_law_979 rfl rfl rfl ?_
      refine j_iconst (v := 1) (pc' := 981) C dL_law_980 kI_1 rfl ?_
      refine j_iadd (pc' := 982) C dL_law_981 rfl ?_
      obtain ⟨zx304, hzx304, hr⟩ := ob hr
      refine j_scrld (pc' := 983) C HX dL_law_982 hzx304 rfl ?_
      obtain ⟨zz305, hzz305, hr⟩ := ob hr
      obtain ⟨zx306, hzx306, hr⟩ := ob hr
      obtain ⟨fhzz305, hzz305⟩ := rcv_sp hzz305
      refine j_callV (ci := 9) (As := [.int zx304]) (rest := [.int zx303]) (st1 := [.int zx306, .int zx303]) (pc' := 986) C ⟨wm_1929, wm_1930⟩ rfl hzz305 (c_X12_activity (nx := nzs9) hzx306) yw_X12_activity wm_1928 rfl rfl (Nat.le_of_ble_eq_true rfl) ⟨by decide, by decide⟩ dL_law_983 rfl rfl ?_
      refine j_ic_eq (tgt := 1718) (pc' := 989) C dL_law_986 rfl rfl (fun hc => ?_) (fun hc => ?_)
      · have hr := ifT hc hr
        clear hc
        refine j_iinc (q := 3) (v := 6) (lv' := [(3, .int (zs9 + (6 : Int32))), (0, .ref b), (1, .ref nx), (2, .ref ((nx + 1) + zq3.2.2.1))]) (pc' := 1721) C dL_law_1718 rfl kI_6 (by decide) rfl rfl ?_
        refine j_goto (tgt := 18) C dL_law_1721 rfl ?_
        obtain ⟨azf307, bzf308, czf309, dzf310⟩ := some4 hr
        refine j_k (kc' := kS + zt11.2.2.1 + zK13) (ks' := sS + zt11.2.2.2 + zS14) (by omega) (by omega) ?_
        refine j_at (nx' := nzs9 + zb12.2.2.1) (by omega) bzf308.symm ?_
        exact j_lv [1, 2, 3, 0] rfl (izs9 _ azf307)
      · have hr := ifF hc hr
        clear hc
        cases hr
    have hr := ifF hc24 hr
    by_cases hc25 : (zx24 &&& (63 : Int32)) = (25 : Int32)
    · have hr := ifT hc25 hr
      refine j_tabIn (v := 25) (off := 958) (tgt := 991) C dL_law_33 hc25 (by decide) rfl ?_
      refine j_aload_n (q := 1) (pc' := 992) C dL_law_991 rfl rfl rfl ?_
      refine j_aload_n (q := 0) (pc' := 993) C dL_law_992 rfl rfl rfl ?_
      refine j_iload_n (q := 3) (pc' := 994) C dL_law_993 rfl rfl rfl ?_
      refine j_iconst (v := 1) (pc' := 995) C dL_law_994 kI_1 rfl ?_
      refine j_iadd (pc' := 996) C dL_law_995 rfl ?_
      obtain ⟨zx311, hzx311, hr⟩ := ob hr
      refine j_scrld (pc' := 997) C HX dL_law_996 hzx311 rfl ?_
      obtain ⟨zz312, hzz312, hr⟩ := ob hr
      obtain ⟨zx313, hzx313, hr⟩ := ob hr
      obtain ⟨fhzz312, hzz312⟩ := rcv_sp hzz312
      refine j_callV (ci := 8) (As := [.int zx311]) (rest := []) (st1 := [.int zx313]) (pc' := 1000) C ⟨wm_1145, wm_1146⟩ rfl hzz312 (c_X11_order (nx := nzs9) hzx313) yw_X11_order wm_1144 rfl rfl (Nat.le_of_ble_eq_true rfl) ⟨by decide, by decide⟩ dL_law_997 rfl rfl ?_
      refine j_aload_n (q := 2) (pc' := 1001) C dL_law_1000 rfl rfl rfl ?_
      refine j_aload_n (q := 0) (pc' := 1002) C dL_law_1001 rfl rfl rfl ?_
      refine j_iload_n (q := 3) (pc' := 1003) C dL_law_1002 rfl rfl rfl ?_
      refine j_iconst (v := 1) (pc' := 1004) C dL_law_1003 kI_1 rfl ?_
      refine j_iadd (pc' := 1005) C dL_law_1004 rfl ?_
      obtain ⟨zx314, hzx314, hr⟩ := ob hr
      refine j_scrld (pc' := 1006) C HX dL_law_1005 hzx314 rfl ?_
      obtain ⟨zz315, hzz315, hr⟩ := ob hr
      obtain ⟨zq316, hzq316, hr⟩ := ob hr
      obtain ⟨fhzz315, hzz315⟩ := rcv_sp hzz315
      refine j_callV (ci := 9) (As := [.int zx314]) (rest := [.int zx313]) (st1 := [.int zq316.1, .int zx313]) (pc' := 1009) C ⟨wm_1943, wm_1944⟩ rfl hzz315 (c_X12_order (nx := nzs9) hzq316) yw_X12_order wm_1942 rfl rfl (Nat.le_of_ble_eq_true rfl) ⟨by decide, by decide⟩ dL_law_1006 rfl rfl ?_
      refine j_ic_eq (tgt := 1718) (pc' := 1012) C dL_law_1009 rfl rfl (fun hc => ?_) (fun hc => ?_)
      · have hr := ifT hc hr
        clear hc
        refine j_iinc (q := 3) (v := 6) (lv' := [(3, .int (zs9 + (6 : Int32))), (0, .ref b), (1, .ref nx), (2, .ref ((nx + 1) + zq3.2.2.1))]) (pc' := 1721) C dL_law_1718 rfl kI_6 (by decide) rfl rfl ?_
        refine j_goto (tgt := 18) C dL_law_1721 rfl ?_
        obtain ⟨azf317, bzf318, czf319, dzf320⟩ := some4 hr
        refine j_k (kc' := kS + zt11.2.2.1 + zK13) (ks' := sS + zt11.2.2.2 + zS14) (by omega) (by omega) ?_
        refine j_at (nx' := nzs9 + zb12.2.2.1) (by omega) bzf318.symm ?_
        exact j_lv [1, 2, 3, 0] rfl (izs9 _ azf317)
      · have hr := ifF hc hr
        clear hc
        cases hr
    have hr := ifF hc25 hr
    by_cases hc26 : (zx24 &&& (63 : Int32)) = (26 : Int32)
    · have hr := ifT hc26 hr
      refine j_tabIn (v := 26) (off := 981) (tgt := 1014) C dL_law_33 hc26 (by decide) rfl ?_
      refine j_aload_n (q := 1) (pc' := 1015) C dL_law_1014 rfl rfl rfl ?_
      refine j_aload_n (q := 0) (pc' := 1016) C dL_law_1015 rfl rfl rfl ?_
      refine j_iload_n (q := 3) (pc' := 1017) C dL_law_1016 rfl rfl rfl ?_
      refine j_iconst (v := 1) (pc' := 1018) C dL_law_1017 kI_1 rfl ?_
      refine j_iadd (pc' := 1019) C dL_law_1018 rfl ?_
      obtain ⟨zx321, hzx321, hr⟩ := ob hr
      refine j_scrld (pc' := 1020) C HX dL_law_1019 hzx321 rfl ?_
      refine j_aload_n (q := 0) (pc' := 1021) C dL_law_1020 rfl rfl rfl ?_
      refine j_iload_n (q := 3) (pc' := 1022) C dL_law_1021 rfl rfl rfl ?_
      refine j_iconst (v := 2) (pc' := 1023) C dL_law_1022 kI_2 rfl ?_
      refine j_iadd (pc' := 1024) C dL_law_1023 rfl ?_
      obtain ⟨zx322, hzx322, hr⟩ := ob hr
      refine j_scrld (pc' := 1025) C HX dL_law_1024 hzx322 rfl ?_
      refine j_aload_n (q := 0) (pc' := 1026) C dL_law_1025 rfl rfl rfl ?_
      refine j_iload_n (q := 3) (pc' := 1027) C dL_law_1026 rfl rfl rfl ?_
      refine j_iconst (v := 3) (pc' := 1028) C dL_law_1027 kI_3 rfl ?_
      refine j_iadd (pc' := 1029) C dL_law_1028 rfl ?_
      obtain ⟨zx323, hzx323, hr⟩ := ob hr
      refine j_scrld (pc' := 1030) C HX dL_law_1029 hzx323 rfl ?_
      obtain ⟨zz324, hzz324, hr⟩ := ob hr
      obtain ⟨zx325, hzx325, hr⟩ := ob hr
      obtain ⟨fhzz324, hzz324⟩ := rcv_sp hzz324
      refine j_callV (ci := 8) (As := [.int zx321, .int zx322, .int zx323]) (rest := []) (st1 := [.int zx325]) (pc' := 1033) C ⟨wm_1150, wm_1151⟩ rfl hzz324 (c_X11_holds (nx := nzs9) hzx325) yw_X11_holds wm_1149 rfl rfl (Nat.le_of_ble_eq_true rfl) ⟨by decide, by decide⟩ dL_law_1030 rfl rfl ?_
      refine j_aload_n (q := 2) (pc' := 1034) C dL_law_1033 rfl rfl rfl ?_
      refine j_aload_n (q := 0) (pc' := 1035) C dL_law_1034 rfl rfl rfl ?_
      refine j_iload_n (q := 3) (pc' := 1036) C dL_law_1035 rfl rfl rfl ?_
      refine j_iconst (v := 1) (pc' := 1037) C dL_law_1036 kI_1 rfl ?_
      refine j_iadd (pc' := 1038) C dL_law_1037 rfl ?_
      obtain ⟨zx326, hzx326, hr⟩ := ob hr
      refine j_scrld (pc' := 1039) C HX dL_law_1038 hzx326 rfl ?_
      refine j_aload_n (q := 0) (pc' := 1040) C dL_law_1039 rfl rfl rfl ?_
      refine j_iload_n (q := 3) (pc' := 1041) C dL_law_1040 rfl rfl rfl ?_
      refine j_iconst (v := 2) (pc' := 1042) C dL_law_1041 kI_2 rfl ?_
      refine j_iadd (pc' := 1043) C dL_law_1042 rfl ?_
      obtain ⟨zx327, hzx327, hr⟩ := ob hr
      refine j_scrld (pc' := 1044) C HX dL_law_1043 hzx327 rfl ?_
      refine j_aload_n (q := 0) (pc' := 1045) C dL_law_1044 rfl rfl rfl ?_
      refine j_iload_n (q := 3) (pc' := 1046) C dL_law_1045 rfl rfl rfl ?_
      refine j_iconst (v := 3) (pc' := 1047) C dL_law_1046 kI_3 rfl ?_
      refine j_iadd (pc' := 1048) C dL_law_1047 rfl ?_
      obtain ⟨zx328, hzx328, hr⟩ := ob hr
      refine j_scrld (pc' := 1049) C HX dL_law_1048 hzx328 rfl ?_
      obtain ⟨zz329, hzz329, hr⟩ := ob hr
      obtain ⟨zx330, hzx330, hr⟩ := ob hr
      obtain ⟨fhzz329, hzz329⟩ := rcv_sp hzz329
      refine j_callV (ci := 9) (As := [.int zx326, .int zx327, .int zx328]) (rest := [.int zx325]) (st1 := [.int zx330, .int zx325]) (pc' := 1052) C ⟨wm_1947, wm_1948⟩ rfl hzz329 (c_X12_holds (nx := nzs9) hzx330) yw_X12_holds wm_1946 rfl rfl (Nat.le_of_ble_eq_true rfl) ⟨by decide, by decide⟩ dL_law_1049 rfl rfl ?_
      refine j_ic_eq (tgt := 1718) (pc' := 1055) C dL_law_1052 rfl rfl (fun hc => ?_) (fun hc => ?_)
      · have hr := ifT hc hr
        clear hc
        refine j_iinc (q := 3) (v := 6) (lv' := [(3, .int (zs9 + (6 : Int32))), (0, .ref b), (1, .ref nx), (2, .ref ((nx + 1) + zq3.2.2.1))]) (pc' := 1721) C dL_law_1718 rfl kI_6 (by decide) rfl rfl ?_
        refine j_goto (tgt := 18) C dL_law_1721 rfl ?_
        obtain ⟨azf331, bzf332, czf333, dzf334⟩ := some4 hr
        refine j_k (kc' := kS + zt11.2.2.1 + zK13) (ks' := sS + zt11.2.2.2 + zS14) (by omega) (by omega) ?_
        refine j_at (nx' := nzs9 + zb12.2.2.1) (by omega) bzf332.symm ?_
        exact j_lv [1, 2, 3, 0] rfl (izs9 _ azf331)
      · have hr := ifF hc hr
        clear hc
        cases hr
    have hr := ifF hc26 hr
    by_cases hc27 : (zx24 &&& (63 : Int32)) = (27 : Int32)
    · have hr := ifT hc27 hr
      refine j_tabIn (v := 27) (off := 1024) (tgt := 1057) C dL_law_33 hc27 (by decide) rfl ?_
      refine j_aload_n (q := 1) (pc' := 1058) C dL_law_1057 rfl rfl rfl ?_
      refine j_aload_n (q := 0) (pc' := 1059) C dL_law_1058 rfl rfl rfl ?_
      refine j_iload_n (q := 3) (pc' := 1060) C dL_law_1059 rfl rfl rfl ?_
      refine j_iconst (v := 1) (pc' := 1061) C dL_law_1060 kI_1 rfl ?_
      refine j_iadd (pc' := 1062) C dL_law_1061 rfl ?_
      obtain ⟨zx335, hzx335, hr⟩ := ob hr
      refine j_scrld (pc' := 1063) C HX dL_law_1062 hzx335 rfl ?_
      refine j_aload_n (q := 0) (pc' := 1064) C dL_law_1063 rfl rfl rfl ?_
      refine j_iload_n (q := 3) (pc' := 1065) C dL_law_1064 rfl rfl rfl ?_
      refine j_iconst (v := 2) (pc' := 1066) C dL_law_1065 kI_2 rfl ?_
      refine j_iadd (pc' := 1067) C dL_law_1066 rfl ?_
      obtain ⟨zx336, hzx336, hr⟩ := ob hr
      refine j_scrld (pc' := 1068) C HX dL_law_1067 hzx336 rfl ?_
      obtain ⟨zz337, hzz337, hr⟩ := ob hr
      obtain ⟨zq338, hzq338, hr⟩ := ob hr
      obtain ⟨fhzz337, hzz337⟩ := rcv_sp hzz337
      refine j_callV (ci := 8) (As := [.int zx335, .int zx336]) (rest := []) (st1 := [.int zq338.1]) (pc' := 1071) C ⟨wm_1155, wm_1156⟩ rfl hzz337 (c_X11_widened (nx := nzs9) hzq338) yw_X11_widened wm_1154 rfl rfl (Nat.le_of_ble_eq_true rfl) ⟨by decide, by decide⟩ dL_law_1068 rfl rfl ?_
      refine j_aload_n (q := 2) (pc' := 1072) C dL_law_1071 rfl rfl rfl ?_
      refine j_aload_n (q := 0) (pc' := 1073) C dL_law_1072 rfl rfl rfl ?_
      refine j_iload_n (q := 3) (pc' := 1074) C dL_law_1073 rfl rfl rfl ?_
      refine j_iconst (v := 1) (pc' := 1075) C dL_law_1074 kI_1 rfl ?_
      refine j_iadd (pc' := 1076) C dL_law_1075 rfl ?_
      obtain ⟨zx339, hzx339, hr⟩ := ob hr
      refine j_scrld (pc' := 1077) C HX dL_law_1076 hzx339 rfl ?_
      refine j_aload_n (q := 0) (pc' := 1078) C dL_law_1077 rfl rfl rfl ?_
      refine j_iload_n (q := 3) (pc' := 1079) C dL_law_1078 rfl rfl rfl ?_
      refine j_iconst (v := 2) (pc' := 1080) C dL_law_1079 kI_2 rfl ?_
      refine j_iadd (pc' := 1081) C dL_law_1080 rfl ?_
      obtain ⟨zx340, hzx340, hr⟩ := ob hr
      refine j_scrld (pc' := 1082) C HX dL_law_1081 hzx340 rfl ?_
      obtain ⟨zz341, hzz341, hr⟩ := ob hr
      obtain ⟨zq342, hzq342, hr⟩ := ob hr
      obtain ⟨fhzz341, hzz341⟩ := rcv_sp hzz341
      refine j_callV (ci := 9) (As := [.int zx339, .int zx340]) (rest := [.int zq338.1]) (st1 := [.int zq342.1, .int zq338.1]) (pc' := 1085) C ⟨wm_1951, wm_1952⟩ rfl hzz341 (c_X12_widened (nx := nzs9) hzq342) yw_X12_widened wm_1950 rfl rfl (Nat.le_of_ble_eq_true rfl) ⟨by decide, by decide⟩ dL_law_1082 rfl rfl ?_
      refine j_ic_eq (tgt := 1718) (pc' := 1088) C dL_law_1085 rfl rfl (fun hc => ?_) (fun hc => ?_)
      · have hr := ifT hc hr
        clear hc
        refine j_iinc (q := 3) (v := 6) (lv' := [(3, .int (zs9 + (6 : Int32))), (0, .ref b), (1, .ref nx), (2, .ref ((nx + 1) + zq3.2.2.1))]) (pc' := 1721) C dL_law_1718 rfl kI_6 (by decide) rfl rfl ?_
        refine j_goto (tgt := 18) C dL_law_1721 rfl ?_
        obtain ⟨azf343, bzf344, czf345, dzf346⟩ := some4 hr
        refine j_k (kc' := kS + zt11.2.2.1 + zK13) (ks' := sS + zt11.2.2.2 + zS14) (by omega) (by omega) ?_
        refine j_at (nx' := nzs9 + zb12.2.2.1) (by omega) bzf344.symm ?_
        exact j_lv [1, 2, 3, 0] rfl (izs9 _ azf343)
      · have hr := ifF hc hr
        clear hc
        cases hr
    have hr := ifF hc27 hr
    by_cases hc28 : (zx24 &&& (63 : Int32)) = (28 : Int32)
    · have hr := ifT hc28 hr
      refine j_tabIn (v := 28) (off := 1057) (tgt := 1090) C dL_law_33 hc28 (by decide) rfl ?_
      refine j_aload_n (q := 1) (pc' := 1091) C dL_law_1090 rfl rfl rfl ?_
      refine j_aload_n (q := 0) (pc' := 1092) C dL_law_1091 rfl rfl rfl ?_
      refine j_iload_n (q := 3) (pc' := 1093) C dL_law_1092 rfl rfl rfl ?_
      refine j_iconst (v := 1) (pc' := 1094) C dL_law_1093 kI_1 rfl ?_
      refine j_iadd (pc' := 1095) C dL_law_1094 rfl ?_
      obtain ⟨zx347, hzx347, hr⟩ := ob hr
      refine j_scrld (pc' := 1096) C HX dL_law_1095 hzx347 rfl ?_
      refine j_aload_n (q := 0) (pc' := 1097) C dL_law_1096 rfl rfl rfl ?_
      refine j_iload_n (q := 3) (pc' := 1098) C dL_law_1097 rfl rfl rfl ?_
      refine j_iconst (v := 2) (pc' := 1099) C dL_law_1098 kI_2 rfl ?_
      refine j_iadd (pc' := 1100) C dL_law_1099 rfl ?_
      obtain ⟨zx348, hzx348, hr⟩ := ob hr
      refine j_scrld (pc' := 1101) C HX dL_law_1100 hzx348 rfl ?_
      obtain ⟨zz349, hzz349, hr⟩ := ob hr
      obtain ⟨zx350, hzx350, hr⟩ := ob hr
      obtain ⟨fhzz349, hzz349⟩ := rcv_sp hzz349
      refine j_callV (ci := 8) (As := [.int zx347, .int zx348]) (rest := []) (st1 := [.int zx350]) (pc' := 1104) C ⟨wm_1161, wm_1162⟩ rfl hzz349 (c_X11_ahead (nx := nzs9) hzx350) yw_X11_ahead wm_1160 rfl rfl (Nat.le_of_ble_eq_true rfl) ⟨by decide, by decide⟩ dL_law_1101 rfl rfl ?_
      refine j_aload_n (q := 2) (pc' := 1105) C dL_law_1104 rfl rfl rfl ?_
      refine j_aload_n (q := 0) (pc' := 1106) C dL_law_1105 rfl rfl rfl ?_
      refine j_iload_n (q := 3) (pc' := 1107) C dL_law_1106 rfl rfl rfl ?_
      refine j_iconst (v := 1) (pc' := 1108) C dL_law_1107 kI_1 rfl ?_
      refine j_iadd (pc' := 1109) C dL_law_1108 rfl ?_
      obtain ⟨zx351, hzx351, hr⟩ := ob hr
      refine j_scrld (pc' := 1110) C HX dL_law_1109 hzx351 rfl ?_
      refine j_aload_n (q := 0) (pc' := 1111) C dL_law_1110 rfl rfl rfl ?_
      refine j_iload_n (q := 3) (pc' := 1112) C dL_law_1111 rfl rfl rfl ?_
      refine j_iconst (v := 2) (pc' := 1113) C dL_law_1112 kI_2 rfl ?_
      refine j_iadd (pc' := 1114) C dL_law_1113 rfl ?_
      obtain ⟨zx352, hzx352, hr⟩ := ob hr
      refine j_scrld (pc' := 1115) C HX dL_law_1114 hzx352 rfl ?_
      obtain ⟨zz353, hzz353, hr⟩ := ob hr
      obtain ⟨zx354, hzx354, hr⟩ := ob hr
      obtain ⟨fhzz353, hzz353⟩ := rcv_sp hzz353
      refine j_callV (ci := 9) (As := [.int zx351, .int zx352]) (rest := [.int zx350]) (st1 := [.int zx354, .int zx350]) (pc' := 1118) C ⟨wm_1955, wm_1956⟩ rfl hzz353 (c_X12_ahead (nx := nzs9) hzx354) yw_X12_ahead wm_1954 rfl rfl (Nat.le_of_ble_eq_true rfl) ⟨by decide, by decide⟩ dL_law_1115 rfl rfl ?_
      refine j_ic_eq (tgt := 1718) (pc' := 1121) C dL_law_1118 rfl rfl (fun hc => ?_) (fun hc => ?_)
      · have hr := ifT hc hr
        clear hc
        refine j_iinc (q := 3) (v := 6) (lv' := [(3, .int (zs9 + (6 : Int32))), (0, .ref b), (1, .ref nx), (2, .ref ((nx + 1) + zq3.2.2.1))]) (pc' := 1721) C dL_law_1718 rfl kI_6 (by decide) rfl rfl ?_
        refine j_goto (tgt := 18) C dL_law_1721 rfl ?_
        obtain ⟨azf355, bzf356, czf357, dzf358⟩ := some4 hr
        refine j_k (kc' := kS + zt11.2.2.1 + zK13) (ks' := sS + zt11.2.2.2 + zS14) (by omega) (by omega) ?_
        refine j_at (nx' := nzs9 + zb12.2.2.1) (by omega) bzf356.symm ?_
        exact j_lv [1, 2, 3, 0] rfl (izs9 _ azf355)
      · have hr := ifF hc hr
        clear hc
        cases hr
    have hr := ifF hc28 hr
    by_cases hc29 : (zx24 &&& (63 : Int32)) = (29 : Int32)
    · have hr := ifT hc29 hr
      refine j_tabIn (v := 29) (off := 1090) (tgt := 1123) C dL_law_33 hc29 (by decide) rfl ?_
      refine j_aload_n (q := 1) (pc' := 1124) C dL_law_1123 rfl rfl rfl ?_
      refine j_aload_n (q := 0) (pc' := 1125) C dL_law_1124 rfl rfl rfl ?_
      refine j_iload_n (q := 3) (pc' := 1126) C dL_law_1125 rfl rfl rfl ?_
      refine j_iconst (v := 1) (pc' := 1127) C dL_law_1126 kI_1 rfl ?_
      refine j_iadd (pc' := 1128) C dL_law_1127 rfl ?_
      obtain ⟨zx359, hzx359, hr⟩ := ob hr
      refine j_scrld (pc' := 1129) C HX dL_law_1128 hzx359 rfl ?_
      obtain ⟨zz360, hzz360, hr⟩ := ob hr
      obtain ⟨zx361, hzx361, hr⟩ := ob hr
      obtain ⟨fhzz360, hzz360⟩ := rcv_sp hzz360
      refine j_callV (ci := 8) (As := [.int zx359]) (rest := []) (st1 := [.int zx361]) (pc' := 1132) C ⟨wm_1165, wm_1166⟩ rfl hzz360 (c_X11_distance (nx := nzs9) hzx361) yw_X11_distance wm_1164 rfl rfl (Nat.le_of_ble_eq_true rfl) ⟨by decide, by decide⟩ dL_law_1129 rfl rfl ?_
      refine j_aload_n (q := 2) (pc' := 1133) C dL_law_1132 rfl rfl rfl ?_
      refine j_aload_n (q := 0) (pc' := 1134) C dL_law_1133 rfl rfl rfl ?_
      refine j_iload_n (q := 3) (pc' := 1135) C dL_law_1134 rfl rfl rfl ?_
      refine j_iconst (v := 1) (pc' := 1136) C dL_law_1135 kI_1 rfl ?_
      refine j_iadd (pc' := 1137) C dL_law_1136 rfl ?_
      obtain ⟨zx362, hzx362, hr⟩ := ob hr
      refine j_scrld (pc' := 1138) C HX dL_law_1137 hzx362 rfl ?_
      obtain ⟨zz363, hzz363, hr⟩ := ob hr
      obtain ⟨zx364, hzx364, hr⟩ := ob hr
      obtain ⟨fhzz363, hzz363⟩ := rcv_sp hzz363
      refine j_callV (ci := 9) (As := [.int zx362]) (rest := [.int zx361]) (st1 := [.int zx364, .int zx361]) (pc' := 1141) C ⟨wm_1959, wm_1960⟩ rfl hzz363 (c_X12_distance (nx := nzs9) hzx364) yw_X12_distance wm_1958 rfl rfl (Nat.le_of_ble_eq_true rfl) ⟨by decide, by decide⟩ dL_law_1138 rfl rfl ?_
      refine j_ic_eq (tgt := 1718) (pc' := 1144) C dL_law_1141 rfl rfl (fun hc => ?_) (fun hc => ?_)
      · have hr := ifT hc hr
        clear hc
        refine j_iinc (q := 3) (v := 6) (lv' := [(3, .int (zs9 + (6 : Int32))), (0, .ref b), (1, .ref nx), (2, .ref ((nx + 1) + zq3.2.2.1))]) (pc' := 1721) C dL_law_1718 rfl kI_6 (by decide) rfl rfl ?_
        refine j_goto (tgt := 18) C dL_law_1721 rfl ?_
        obtain ⟨azf365, bzf366, czf367, dzf368⟩ := some4 hr
        refine j_k (kc' := kS + zt11.2.2.1 + zK13) (ks' := sS + zt11.2.2.2 + zS14) (by omega) (by omega) ?_
        refine j_at (nx' := nzs9 + zb12.2.2.1) (by omega) bzf366.symm ?_
        exact j_lv [1, 2, 3, 0] rfl (izs9 _ azf365)
      · have hr := ifF hc hr
        clear hc
        cases hr
    have hr := ifF hc29 hr
    by_cases hc30 : (zx24 &&& (63 : Int32)) = (30 : Int32)
    · have hr := ifT hc30 hr
      refine j_tabIn (v := 30) (off := 1113) (tgt := 1146) C dL_law_33 hc30 (by decide) rfl ?_
      refine j_aload_n (q := 1) (pc' := 1147) C dL_law_1146 rfl rfl rfl ?_
      refine j_aload_n (q := 0) (pc' := 1148) C dL_law_1147 rfl rfl rfl ?_
      refine j_iload_n (q := 3) (pc' := 1149) C dL_law_1148 rfl rfl rfl ?_
      refine j_iconst (v := 1) (pc' := 1150) C dL_law_1149 kI_1 rfl ?_
      refine j_iadd (pc' := 1151) C dL_law_1150 rfl ?_
      obtain ⟨zx369, hzx369, hr⟩ := ob hr
      refine j_scrld (pc' := 1152) C HX dL_law_1151 hzx369 rfl ?_
      refine j_aload_n (q := 0) (pc' := 1153) C dL_law_1152 rfl rfl rfl ?_
      refine j_iload_n (q := 3) (pc' := 1154) C dL_law_1153 rfl rfl rfl ?_
      refine j_iconst (v := 2) (pc' := 1155) C dL_law_1154 kI_2 rfl ?_
      refine j_iadd (pc' := 1156) C dL_law_1155 rfl ?_
      obtain ⟨zx370, hzx370, hr⟩ := ob hr
      refine j_scrld (pc' := 1157) C HX dL_law_1156 hzx370 rfl ?_
      obtain ⟨zz371, hzz371, hr⟩ := ob hr
      obtain ⟨zx372, hzx372, hr⟩ := ob hr
      obtain ⟨fhzz371, hzz371⟩ := rcv_sp hzz371
      refine j_callV (ci := 8) (As := [.int zx369, .int zx370]) (rest := []) (st1 := [.int zx372]) (pc' := 1160) C ⟨wm_1169, wm_1170⟩ rfl hzz371 (c_X11_distanceBy (nx := nzs9) hzx372) yw_X11_distanceBy wm_1180 rfl rfl (Nat.le_of_ble_eq_true rfl) ⟨by decide, by decide⟩ dL_law_1157 rfl rfl ?_
      refine j_aload_n (q := 2) (pc' := 1161) C dL_law_1160 rfl rfl rfl ?_
      refine j_aload_n (q := 0) (pc' := 1162) C dL_law_1161 rfl rfl rfl ?_
      refine j_iload_n (q := 3) (pc' := 1163) C dL_law_1162 rfl rfl rfl ?_
      refine j_iconst (v := 1) (pc' := 1164) C dL_law_1163 kI_1 rfl ?_
      refine j_iadd (pc' := 1165) C dL_law_1164 rfl ?_
      obtain ⟨zx373, hzx373, hr⟩ := ob hr
      refine j_scrld (pc' := 1166) C HX dL_law_1165 hzx373 rfl ?_
      refine j_aload_n (q := 0) (pc' := 1167) C dL_law_1166 rfl rfl rfl ?_
      refine j_iload_n (q := 3) (pc' := 1168) C dL_law_1167 rfl rfl rfl ?_
      refine j_iconst (v := 2) (pc' := 1169) C dL_law_1168 kI_2 rfl ?_
      refine j_iadd (pc' := 1170) C dL_law_1169 rfl ?_
      obtain ⟨zx374, hzx374, hr⟩ := ob hr
      refine j_scrld (pc' := 1171) C HX dL_law_1170 hzx374 rfl ?_
      obtain ⟨zz375, hzz375, hr⟩ := ob hr
      obtain ⟨zx376, hzx376, hr⟩ := ob hr
      obtain ⟨fhzz375, hzz375⟩ := rcv_sp hzz375
      refine j_callV (ci := 9) (As := [.int zx373, .int zx374]) (rest := [.int zx372]) (st1 := [.int zx376, .int zx372]) (pc' := 1174) C ⟨wm_1971, wm_1972⟩ rfl hzz375 (c_X12_distanceBy (nx := nzs9) hzx376) yw_X12_distanceBy wm_1970 rfl rfl (Nat.le_of_ble_eq_true rfl) ⟨by decide, by decide⟩ dL_law_1171 rfl rfl ?_
      refine j_ic_eq (tgt := 1718) (pc' := 1177) C dL_law_1174 rfl rfl (fun hc => ?_) (fun hc => ?_)
      · have hr := ifT hc hr
        clear hc
        refine j_iinc (q := 3) (v := 6) (lv' := [(3, .int (zs9 + (6 : Int32))), (0, .ref b), (1, .ref nx), (2, .ref ((nx + 1) + zq3.2.2.1))]) (pc' := 1721) C dL_law_1718 rfl kI_6 (by decide) rfl rfl ?_
        refine j_goto (tgt := 18) C dL_law_1721 rfl ?_
        obtain ⟨azf377, bzf378, czf379, dzf380⟩ := some4 hr
        refine j_k (kc' := kS + zt11.2.2.1 + zK13) (ks' := sS + zt11.2.2.2 + zS14) (by omega) (by omega) ?_
        refine j_at (nx' := nzs9 + zb12.2.2.1) (by omega) bzf378.symm ?_
        exact j_lv [1, 2, 3, 0] rfl (izs9 _ azf377)
      · have hr := ifF hc hr
        clear hc
        cases hr
    have hr := ifF hc30 hr
    by_cases hc31 : (zx24 &&& (63 : Int32)) = (31 : Int32)
    · have hr := ifT hc31 hr
      refine j_tabIn (v := 31) (off := 1146) (tgt := 1179) C dL_law_33 hc31 (by decide) rfl ?_
      refine j_aload_n (q := 1) (pc' := 1180) C dL_law_1179 rfl rfl rfl ?_
      refine j_aload_n (q := 0) (pc' := 1181) C dL_law_1180 rfl rfl rfl ?_
      refine j_iload_n (q := 3) (pc' := 1182) C dL_law_1181 rfl rfl rfl ?_
      refine j_iconst (v := 1) (pc' := 1183) C dL_law_1182 kI_1 rfl ?_
      refine j_iadd (pc' := 1184) C dL_law_1183 rfl ?_
      obtain ⟨zx381, hzx381, hr⟩ := ob hr
      refine j_scrld (pc' := 1185) C HX dL_law_1184 hzx381 rfl ?_
      obtain ⟨zz382, hzz382, hr⟩ := ob hr
      obtain ⟨zx383, hzx383, hr⟩ := ob hr
      obtain ⟨fhzz382, hzz382⟩ := rcv_sp hzz382
      refine j_callV (ci := 8) (As := [.int zx381]) (rest := []) (st1 := [.int zx383]) (pc' := 1188) C ⟨wm_1182, wm_1183⟩ rfl hzz382 (c_X11_far (nx := nzs9) hzx383) yw_X11_far wm_1181 rfl rfl (Nat.le_of_ble_eq_true rfl) ⟨by decide, by decide⟩ dL_law_1185 rfl rfl ?_
      refine j_aload_n (q := 2) (pc' := 1189) C dL_law_1188 rfl rfl rfl ?_
      refine j_aload_n (q := 0) (pc' := 1190) C dL_law_1189 rfl rfl rfl ?_
      refine j_iload_n (q := 3) (pc' := 1191) C dL_law_1190 rfl rfl rfl ?_
      refine j_iconst (v := 1) (pc' := 1192) C dL_law_1191 kI_1 rfl ?_
      refine j_iadd (pc' := 1193) C dL_law_1192 rfl ?_
      obtain ⟨zx384, hzx384, hr⟩ := ob hr
      refine j_scrld (pc' := 1194) C HX dL_law_1193 hzx384 rfl ?_
      obtain ⟨zz385, hzz385, hr⟩ := ob hr
      obtain ⟨zx386, hzx386, hr⟩ := ob hr
      obtain ⟨fhzz385, hzz385⟩ := rcv_sp hzz385
      refine j_callV (ci := 9) (As := [.int zx384]) (rest := [.int zx383]) (st1 := [.int zx386, .int zx383]) (pc' := 1197) C ⟨wm_1987, wm_1988⟩ rfl hzz385 (c_X12_far (nx := nzs9) hzx386) yw_X12_far wm_1986 rfl rfl (Nat.le_of_ble_eq_true rfl) ⟨by decide, by decide⟩ dL_law_1194 rfl rfl ?_
      refine j_ic_eq (tgt := 1718) (pc' := 1200) C dL_law_1197 rfl rfl (fun hc => ?_) (fun hc => ?_)
      · have hr := ifT hc hr
        clear hc
        refine j_iinc (q := 3) (v := 6) (lv' := [(3, .int (zs9 + (6 : Int32))), (0, .ref b), (1, .ref nx), (2, .ref ((nx + 1) + zq3.2.2.1))]) (pc' := 1721) C dL_law_1718 rfl kI_6 (by decide) rfl rfl ?_
        refine j_goto (tgt := 18) C dL_law_1721 rfl ?_
        obtain ⟨azf387, bzf388, czf389, dzf390⟩ := some4 hr
        refine j_k (kc' := kS + zt11.2.2.1 + zK13) (ks' := sS + zt11.2.2.2 + zS14) (by omega) (by omega) ?_
        refine j_at (nx' := nzs9 + zb12.2.2.1) (by omega) bzf388.symm ?_
        exact j_lv [1, 2, 3, 0] rfl (izs9 _ azf387)
      · have hr := ifF hc hr
        clear hc
        cases hr
    have hr := ifF hc31 hr
    by_cases hc32 : (zx24 &&& (63 : Int32)) = (32 : Int32)
    · have hr := ifT hc32 hr
      refine j_tabIn (v := 32) (off := 1169) (tgt := 1202) C dL_law_33 hc32 (by decide) rfl ?_
      refine j_aload_n (q := 1) (pc' := 1203) C dL_law_1202 rfl rfl rfl ?_
      refine j_aload_n (q := 0) (pc' := 1204) C dL_law_1203 rfl rfl rfl ?_
      refine j_iload_n (q := 3) (pc' := 1205) C dL_law_1204 rfl rfl rfl ?_
      refine j_iconst (v := 1) (pc' := 1206) C dL_law_1205 kI_1 rfl ?_
      refine j_iadd (pc' := 1207) C dL_law_1206 rfl ?_
      obtain ⟨zx391, hzx391, hr⟩ := ob hr
      refine j_scrld (pc' := 1208) C HX dL_law_1207 hzx391 rfl ?_
      obtain ⟨zz392, hzz392, hr⟩ := ob hr
      obtain ⟨zx393, hzx393, hr⟩ := ob hr
      obtain ⟨fhzz392, hzz392⟩ := rcv_sp hzz392
      refine j_callV (ci := 8) (As := [.int zx391]) (rest := []) (st1 := [.int zx393]) (pc' := 1211) C ⟨wm_1192, wm_1193⟩ rfl hzz392 (c_X11_doomed (nx := nzs9) hzx393) yw_X11_doomed wm_1191 rfl rfl (Nat.le_of_ble_eq_true rfl) ⟨by decide, by decide⟩ dL_law_1208 rfl rfl ?_
      refine j_aload_n (q := 2) (pc' := 1212) C dL_law_1211 rfl rfl rfl ?_
      refine j_aload_n (q := 0) (pc' := 1213) C dL_law_1212 rfl rfl rfl ?_
      refine j_iload_n (q := 3) (pc' := 1214) C dL_law_1213 rfl rfl rfl ?_
      refine j_iconst (v := 1) (pc' := 1215) C dL_law_1214 kI_1 rfl ?_
      refine j_iadd (pc' := 1216) C dL_law_1215 rfl ?_
      obtain ⟨zx394, hzx394, hr⟩ := ob hr
      refine j_scrld (pc' := 1217) C HX dL_law_1216 hzx394 rfl ?_
      obtain ⟨zz395, hzz395, hr⟩ := ob hr
      obtain ⟨zx396, hzx396, hr⟩ := ob hr
      obtain ⟨fhzz395, hzz395⟩ := rcv_sp hzz395
      refine j_callV (ci := 9) (As := [.int zx394]) (rest := [.int zx393]) (st1 := [.int zx396, .int zx393]) (pc' := 1220) C ⟨wm_1999, wm_2000⟩ rfl hzz395 (c_X12_doomed (nx := nzs9) hzx396) yw_X12_doomed wm_1998 rfl rfl (Nat.le_of_ble_eq_true rfl) ⟨by decide, by decide⟩ dL_law_1217 rfl rfl ?_
      refine j_ic_eq (tgt := 1718) (pc' := 1223) C dL_law_1220 rfl rfl (fun hc => ?_) (fun hc => ?_)
      · have hr := ifT hc hr
        clear hc
        refine j_iinc (q := 3) (v := 6) (lv' := [(3, .int (zs9 + (6 : Int32))), (0, .ref b), (1, .ref nx), (2, .ref ((nx + 1) + zq3.2.2.1))]) (pc' := 1721) C dL_law_1718 rfl kI_6 (by decide) rfl rfl ?_
        refine j_goto (tgt := 18) C dL_law_1721 rfl ?_
        obtain ⟨azf397, bzf398, czf399, dzf400⟩ := some4 hr
        refine j_k (kc' := kS + zt11.2.2.1 + zK13) (ks' := sS + zt11.2.2.2 + zS14) (by omega) (by omega) ?_
        refine j_at (nx' := nzs9 + zb12.2.2.1) (by omega) bzf398.symm ?_
        exact j_lv [1, 2, 3, 0] rfl (izs9 _ azf397)
      · have hr := ifF hc hr
        clear hc
        cases hr
    have hr := ifF hc32 hr
    by_cases hc33 : (zx24 &&& (63 : Int32)) = (33 : Int32)
    · have hr := ifT hc33 hr
      refine j_tabIn (v := 33) (off := 1192) (tgt := 1225) C dL_law_33 hc33 (by decide) rfl ?_
      refine j_aload_n (q := 1) (pc' := 1226) C dL_law_1225 rfl rfl rfl ?_
      refine j_aload_n (q := 0) (pc' := 1227) C dL_law_1226 rfl rfl rfl ?_
      refine j_iload_n (q := 3) (pc' := 1228) C dL_law_1227 rfl rfl rfl ?_
      refine j_iconst (v := 1) (pc' := 1229) C dL_law_1228 kI_1 rfl ?_
      refine j_iadd (pc' := 1230) C dL_law_1229 rfl ?_
      obtain ⟨zx401, hzx401, hr⟩ := ob hr
      refine j_scrld (pc' := 1231) C HX dL_law_1230 hzx401 rfl ?_
      refine j_aload_n (q := 0) (pc' := 1232) C dL_law_1231 rfl rfl rfl ?_
      refine j_iload_n (q := 3) (pc' := 1233) C dL_law_1232 rfl rfl rfl ?_
      refine j_iconst (v := 2) (pc' := 1234) C dL_law_1233 kI_2 rfl ?_
      refine j_iadd (pc' := 1235) C dL_law_1234 rfl ?_
      obtain ⟨zx402, hzx402, hr⟩ := ob hr
      refine j_scrld (pc' := 1236) C HX dL_law_1235 hzx402 rfl ?_
      obtain ⟨zz403, hzz403, hr⟩ := ob hr
      obtain ⟨zq404, hzq404, hr⟩ := ob hr
      obtain ⟨fhzz403, hzz403⟩ := rcv_sp hzz403
      refine j_callV (ci := 8) (As := [.int zx401, .int zx402]) (rest := []) (st1 := [.int zq404.1]) (pc' := 1239) C ⟨wm_1200, wm_1201⟩ rfl hzz403 (c_X11_shortest (nx := nzs9) hzq404) yw_X11_shortest wm_1199 rfl rfl (Nat.le_of_ble_eq_true rfl) ⟨by decide, by decide⟩ dL_law_1236 rfl rfl ?_
      refine j_aload_n (q := 2) (pc' := 1240) C dL_law_1239 rfl rfl rfl ?_
      refine j_aload_n (q := 0) (pc' := 1241) C dL_law_1240 rfl rfl rfl ?_
      refine j_iload_n (q := 3) (pc' := 1242) C dL_law_1241 rfl rfl rfl ?_
      refine j_iconst (v := 1) (pc' := 1243) C dL_law_1242 kI_1 rfl ?_
      refine j_iadd (pc' := 1244) C dL_law_1243 rfl ?_
      obtain ⟨zx405, hzx405, hr⟩ := ob hr
      refine j_scrld (pc' := 1245) C HX dL_law_1244 hzx405 rfl ?_
      refine j_aload_n (q := 0) (pc' := 1246) C dL_law_1245 rfl rfl rfl ?_
      refine j_iload_n (q := 3) (pc' := 1247) C dL_law_1246 rfl rfl rfl ?_
      refine j_iconst (v := 2) (pc' := 1248) C dL_law_1247 kI_2 rfl ?_
      refine j_iadd (pc' := 1249) C dL_law_1248 rfl ?_
      obtain ⟨zx406, hzx406, hr⟩ := ob hr
      refine j_scrld (pc' := 1250) C HX dL_law_1249 hzx406 rfl ?_
      obtain ⟨zz407, hzz407, hr⟩ := ob hr
      obtain ⟨zq408, hzq408, hr⟩ := ob hr
      obtain ⟨fhzz407, hzz407⟩ := rcv_sp hzz407
      refine j_callV (ci := 9) (As := [.int zx405, .int zx406]) (rest := [.int zq404.1]) (st1 := [.int zq408.1, .int zq404.1]) (pc' := 1253) C ⟨wm_2003, wm_2004⟩ rfl hzz407 (c_X12_shortest (nx := nzs9) hzq408) yw_X12_shortest wm_2002 rfl rfl (Nat.le_of_ble_eq_true rfl) ⟨by decide, by decide⟩ dL_law_1250 rfl rfl ?_
      refine j_ic_eq (tgt := 1718) (pc' := 1256) C dL_law_1253 rfl rfl (fun hc => ?_) (fun hc => ?_)
      · have hr := ifT hc hr
        clear hc
        refine j_iinc (q := 3) (v := 6) (lv' := [(3, .int (zs9 + (6 : Int32))), (0, .ref b), (1, .ref nx), (2, .ref ((nx + 1) + zq3.2.2.1))]) (pc' := 1721) C dL_law_1718 rfl kI_6 (by decide) rfl rfl ?_
        refine j_goto (tgt := 18) C dL_law_1721 rfl ?_
        obtain ⟨azf409, bzf410, czf411, dzf412⟩ := some4 hr
        refine j_k (kc' := kS + zt11.2.2.1 + zK13) (ks' := sS + zt11.2.2.2 + zS14) (by omega) (by omega) ?_
        refine j_at (nx' := nzs9 + zb12.2.2.1) (by omega) bzf410.symm ?_
        exact j_lv [1, 2, 3, 0] rfl (izs9 _ azf409)
      · have hr := ifF hc hr
        clear hc
        cases hr
    have hr := ifF hc33 hr
    by_cases hc34 : (zx24 &&& (63 : Int32)) = (34 : Int32)
    · have hr := ifT hc34 hr
      refine j_tabIn (v := 34) (off := 1225) (tgt := 1258) C dL_law_33 hc34 (by decide) rfl ?_
      refine j_aload_n (q := 1) (pc' := 1259) C dL_law_1258 rfl rfl rfl ?_
      obtain ⟨zz413, hzz413, hr⟩ := ob hr
      obtain ⟨zq414, hzq414, hr⟩ := ob hr
      obtain ⟨fhzz413, hzz413⟩ := rcv_sp hzz413
      refine j_callV (ci := 8) (As := []) (rest := []) (st1 := [.int zq414.1]) (pc' := 1262) C ⟨wm_1213, wm_1214⟩ rfl hzz413 (c_X11_detour (nx := nzs9) hzq414) yw_X11_detour wm_1212 rfl rfl (Nat.le_of_ble_eq_true rfl) ⟨by decide, by decide⟩ dL_law_1259 rfl rfl ?_
      refine j_aload_n (q := 2) (pc' := 1263) C dL_law_1262 rfl rfl rfl ?_
      obtain ⟨zz415, hzz415, hr⟩ := ob hr
      obtain ⟨zq416, hzq416, hr⟩ := ob hr
      obtain ⟨fhzz415, hzz415⟩ := rcv_sp hzz415
      refine j_callV (ci := 9) (As := []) (rest := [.int zq414.1]) (st1 := [.int zq416.1, .int zq414.1]) (pc' := 1266) C ⟨wm_2011, wm_2012⟩ rfl hzz415 (c_X12_detour (nx := nzs9) hzq416) yw_X12_detour wm_2010 rfl rfl (Nat.le_of_ble_eq_true rfl) ⟨by decide, by decide⟩ dL_law_1263 rfl rfl ?_
      refine j_ic_eq (tgt := 1718) (pc' := 1269) C dL_law_1266 rfl rfl (fun hc => ?_) (fun hc => ?_)
      · have hr := ifT hc hr
        clear hc
        refine j_iinc (q := 3) (v := 6) (lv' := [(3, .int (zs9 + (6 : Int32))), (0, .ref b), (1, .ref nx), (2, .ref ((nx + 1) + zq3.2.2.1))]) (pc' := 1721) C dL_law_1718 rfl kI_6 (by decide) rfl rfl ?_
        refine j_goto (tgt := 18) C dL_law_1721 rfl ?_
        obtain ⟨azf417, bzf418, czf419, dzf420⟩ := some4 hr
        refine j_k (kc' := kS + zt11.2.2.1 + zK13) (ks' := sS + zt11.2.2.2 + zS14) (by omega) (by omega) ?_
        refine j_at (nx' := nzs9 + zb12.2.2.1) (by omega) bzf418.symm ?_
        exact j_lv [1, 2, 3, 0] rfl (izs9 _ azf417)
      · have hr := ifF hc hr
        clear hc
        cases hr
    have hr := ifF hc34 hr
    by_cases hc35 : (zx24 &&& (63 : Int32)) = (35 : Int32)
    · have hr := ifT hc35 hr
      refine j_tabIn (v := 35) (off := 1238) (tgt := 1271) C dL_law_33 hc35 (by decide) rfl ?_
      refine j_aload_n (q := 1) (pc' := 1272) C dL_law_1271 rfl rfl rfl ?_
      obtain ⟨zz421, hzz421, hr⟩ := ob hr
      obtain ⟨zx422, hzx422, hr⟩ := ob hr
      obtain ⟨fhzz421, hzz421⟩ := rcv_sp hzz421
      refine j_callV (ci := 8) (As := []) (rest := []) (st1 := [.int zx422]) (pc' := 1275) C ⟨wm_1217, wm_1218⟩ rfl hzz421 (c_X11_nearest (nx := nzs9) hzx422) yw_X11_nearest wm_1216 rfl rfl (Nat.le_of_ble_eq_true rfl) ⟨by decide, by decide⟩ dL_law_1272 rfl rfl ?_
      refine j_aload_n (q := 2) (pc' := 1276) C dL_law_1275 rfl rfl rfl ?_
      obtain ⟨zz423, hzz423, hr⟩ := ob hr
      obtain ⟨zx424, hzx424, hr⟩ := ob hr
      obtain ⟨fhzz423, hzz423⟩ := rcv_sp hzz423
      refine j_callV (ci := 9) (As := []) (rest := [.int zx422]) (st1 := [.int zx424, .int zx422]) (pc' := 1279) C ⟨wm_1975, wm_1976⟩ rfl hzz423 (c_X12_nearest (nx := nzs9) hzx424) yw_X12_nearest wm_1974 rfl rfl (Nat.le_of_ble_eq_true rfl) ⟨by decide, by decide⟩ dL_law_1276 rfl rfl ?_
      refine j_ic_eq (tgt := 1718) (pc' := 1282) C dL_law_1279 rfl rfl (fun hc => ?_) (fun hc => ?_)
      · have hr := ifT hc hr
        clear hc
        refine j_iinc (q := 3) (v := 6) (lv' := [(3, .int (zs9 + (6 : Int32))), (0, .ref b), (1, .ref nx), (2, .ref ((nx + 1) + zq3.2.2.1))]) (pc' := 1721) C dL_law_1718 rfl kI_6 (by decide) rfl rfl ?_
        refine j_goto (tgt := 18) C dL_law_1721 rfl ?_
        obtain ⟨azf425, bzf426, czf427, dzf428⟩ := some4 hr
        refine j_k (kc' := kS + zt11.2.2.1 + zK13) (ks' := sS + zt11.2.2.2 + zS14) (by omega) (by omega) ?_
        refine j_at (nx' := nzs9 + zb12.2.2.1) (by omega) bzf426.symm ?_
        exact j_lv [1, 2, 3, 0] rfl (izs9 _ azf425)
      · have hr := ifF hc hr
        clear hc
        cases hr
    have hr := ifF hc35 hr
    by_cases hc36 : (zx24 &&& (63 : Int32)) = (36 : Int32)
    · have hr := ifT hc36 hr
      refine j_tabIn (v := 36) (off := 1251) (tgt := 1284) C dL_law_33 hc36 (by decide) rfl ?_
      refine j_aload_n (q := 1) (pc' := 1285) C dL_law_1284 rfl rfl rfl ?_
      refine j_aload_n (q := 0) (pc' := 1286) C dL_law_1285 rfl rfl rfl ?_
      refine j_iload_n (q := 3) (pc' := 1287) C dL_law_1286 rfl rfl rfl ?_
      refine j_iconst (v := 1) (pc' := 1288) C dL_law_1287 kI_1 rfl ?_
      refine j_iadd (pc' := 1289) C dL_law_1288 rfl ?_
      obtain ⟨zx429, hzx429, hr⟩ := ob hr
      refine j_scrld (pc' := 1290) C HX dL_law_1289 hzx429 rfl ?_
      obtain ⟨zz430, hzz430, hr⟩ := ob hr
      obtain ⟨zx431, hzx431, hr⟩ := ob hr
      obtain ⟨fhzz430, hzz430⟩ := rcv_sp hzz430
      refine j_callV (ci := 8) (As := [.int zx429]) (rest := []) (st1 := [.int zx431]) (pc' := 1293) C ⟨wm_1221, wm_1222⟩ rfl hzz430 (c_X11_reach (nx := nzs9) hzx431) yw_X11_reach wm_1220 rfl rfl (Nat.le_of_ble_eq_true rfl) ⟨by decide, by decide⟩ dL_law_1290 rfl rfl ?_
      refine j_aload_n (q := 2) (pc' := 1294) C dL_law_1293 rfl rfl rfl ?_
      refine j_aload_n (q := 0) (pc' := 1295) C dL_law_1294 rfl rfl rfl ?_
      refine j_iload_n (q := 3) (pc' := 1296) C dL_law_1295 rfl rfl rfl ?_
      refine j_iconst (v := 1) (pc' := 1297) C dL_law_1296 kI_1 rfl ?_
      refine j_iadd (pc' := 1298) C dL_law_1297 rfl ?_
      obtain ⟨zx432, hzx432, hr⟩ := ob hr
      refine j_scrld (pc' := 1299) C HX dL_law_1298 hzx432 rfl ?_
      obtain ⟨zz433, hzz433, hr⟩ := ob hr
      obtain ⟨zx434, hzx434, hr⟩ := ob hr
      obtain ⟨fhzz433, hzz433⟩ := rcv_sp hzz433
      refine j_callV (ci := 9) (As := [.int zx432]) (rest := [.int zx431]) (st1 := [.int zx434, .int zx431]) (pc' := 1302) C ⟨wm_1979, wm_1980⟩ rfl hzz433 (c_X12_reach (nx := nzs9) hzx434) yw_X12_reach wm_1978 rfl rfl (Nat.le_of_ble_eq_true rfl) ⟨by decide, by decide⟩ dL_law_1299 rfl rfl ?_
      refine j_ic_eq (tgt := 1718) (pc' := 1305) C dL_law_1302 rfl rfl (fun hc => ?_) (fun hc => ?_)
      · have hr := ifT hc hr
        clear hc
        refine j_iinc (q := 3) (v := 6) (lv' := [(3, .int (zs9 + (6 : Int32))), (0, .ref b), (1, .ref nx), (2, .ref ((nx + 1) + zq3.2.2.1))]) (pc' := 1721) C dL_law_1718 rfl kI_6 (by decide) rfl rfl ?_
        refine j_goto (tgt := 18) C dL_law_1721 rfl ?_
        obtain ⟨azf435, bzf436, czf437, dzf438⟩ := some4 hr
        refine j_k (kc' := kS + zt11.2.2.1 + zK13) (ks' := sS + zt11.2.2.2 + zS14) (by omega) (by omega) ?_
        refine j_at (nx' := nzs9 + zb12.2.2.1) (by omega) bzf436.symm ?_
        exact j_lv [1, 2, 3, 0] rfl (izs9 _ azf435)
      · have hr := ifF hc hr
        clear hc
        cases hr
    have hr := ifF hc36 hr
    by_cases hc37 : (zx24 &&& (63 : Int32)) = (37 : Int32)
    · have hr := ifT hc37 hr
      refine j_tabIn (v := 37) (off := 1274) (tgt := 1307) C dL_law_33 hc37 (by decide) rfl ?_
      refine j_aload_n (q := 1) (pc' := 1308) C dL_law_1307 rfl rfl rfl ?_
      refine j_aload_n (q := 0) (pc' := 1309) C dL_law_1308 rfl rfl rfl ?_
      refine j_iload_n (q := 3) (pc' := 1310) C dL_law_1309 rfl rfl rfl ?_
      refine j_iconst (v := 1) (pc' := 1311) C dL_law_1310 kI_1 rfl ?_
      refine j_iadd (pc' := 1312) C dL_law_1311 rfl ?_
      obtain ⟨zx439, hzx439, hr⟩ := ob hr
      refine j_scrld (pc' := 1313) C HX dL_law_1312 hzx439 rfl ?_
      obtain ⟨zz440, hzz440, hr⟩ := ob hr
      obtain ⟨zx441, hzx441, hr⟩ := ob hr
      obtain ⟨fhzz440, hzz440⟩ := rcv_sp hzz440
      refine j_callV (ci := 8) (As := [.int zx439]) (rest := []) (st1 := [.int zx441]) (pc' := 1316) C ⟨wm_1229, wm_1230⟩ rfl hzz440 (c_X11_slack (nx := nzs9) hzx441) yw_X11_slack wm_1228 rfl rfl (Nat.le_of_ble_eq_true rfl) ⟨by decide, by decide⟩ dL_law_1313 rfl rfl ?_
      refine j_aload_n (q := 2) (pc' := 1317) C dL_law_1316 rfl rfl rfl ?_
      refine j_aload_n (q := 0) (pc' := 1318) C dL_law_1317 rfl rfl rfl ?_
      refine j_iload_n (q := 3) (pc' := 1319) C dL_law_1318 rfl rfl rfl ?_
      refine j_iconst (v := 1) (pc' := 1320) C dL_law_1319 kI_1 rfl ?_
      refine j_iadd (pc' := 1321) C dL_law_1320 rfl ?_
      obtain ⟨zx442, hzx442, hr⟩ := ob hr
      refine j_scrld (pc' := 1322) C HX dL_law_1321 hzx442 rfl ?_
      obtain ⟨zz443, hzz443, hr⟩ := ob hr
      obtain ⟨zx444, hzx444, hr⟩ := ob hr
      obtain ⟨fhzz443, hzz443⟩ := rcv_sp hzz443
      refine j_callV (ci := 9) (As := [.int zx442]) (rest := [.int zx441]) (st1 := [.int zx444, .int zx441]) (pc' := 1325) C ⟨wm_1983, wm_1984⟩ rfl hzz443 (c_X12_slack (nx := nzs9) hzx444) yw_X12_slack wm_1982 rfl rfl (Nat.le_of_ble_eq_true rfl) ⟨by decide, by decide⟩ dL_law_1322 rfl rfl ?_
      refine j_ic_eq (tgt := 1718) (pc' := 1328) C dL_law_1325 rfl rfl (fun hc => ?_) (fun hc => ?_)
      · have hr := ifT hc hr
        clear hc
        refine j_iinc (q := 3) (v := 6) (lv' := [(3, .int (zs9 + (6 : Int32))), (0, .ref b), (1, .ref nx), (2, .ref ((nx + 1) + zq3.2.2.1))]) (pc' := 1721) C dL_law_1718 rfl kI_6 (by decide) rfl rfl ?_
        refine j_goto (tgt := 18) C dL_law_1721 rfl ?_
        obtain ⟨azf445, bzf446, czf447, dzf448⟩ := some4 hr
        refine j_k (kc' := kS + zt11.2.2.1 + zK13) (ks' := sS + zt11.2.2.2 + zS14) (by omega) (by omega) ?_
        refine j_at (nx' := nzs9 + zb12.2.2.1) (by omega) bzf446.symm ?_
        exact j_lv [1, 2, 3, 0] rfl (izs9 _ azf445)
      · have hr := ifF hc hr
        clear hc
        cases hr
    have hr := ifF hc37 hr
    by_cases hc38 : (zx24 &&& (63 : Int32)) = (38 : Int32)
    · have hr := ifT hc38 hr
      refine j_tabIn (v := 38) (off := 1297) (tgt := 1330) C dL_law_33 hc38 (by decide) rfl ?_
      refine j_aload_n (q := 1) (pc' := 1331) C dL_law_1330 rfl rfl rfl ?_
      refine j_aload_n (q := 0) (pc' := 1332) C dL_law_1331 rfl rfl rfl ?_
      refine j_iload_n (q := 3) (pc' := 1333) C dL_law_1332 rfl rfl rfl ?_
      refine j_iconst (v := 1) (pc' := 1334) C dL_law_1333 kI_1 rfl ?_
      refine j_iadd (pc' := 1335) C dL_law_1334 rfl ?_
      obtain ⟨zx449, hzx449, hr⟩ := ob hr
      refine j_scrld (pc' := 1336) C HX dL_law_1335 hzx449 rfl ?_
      refine j_aload_n (q := 0) (pc' := 1337) C dL_law_1336 rfl rfl rfl ?_
      refine j_iload_n (q := 3) (pc' := 1338) C dL_law_1337 rfl rfl rfl ?_
      refine j_iconst (v := 2) (pc' := 1339) C dL_law_1338 kI_2 rfl ?_
      refine j_iadd (pc' := 1340) C dL_law_1339 rfl ?_
      obtain ⟨zx450, hzx450, hr⟩ := ob hr
      refine j_scrld (pc' := 1341) C HX dL_law_1340 hzx450 rfl ?_
      obtain ⟨zz451, hzz451, hr⟩ := ob hr
      obtain ⟨zq452, zt453, hzq452, hr, azt453, bzt453, czt453, dzt453⟩ := adcB_s hr
      refine j_k (kc' := kS + zt11.2.2.1 + zK13 + zt453.2.2.1 + zq452.2.2.1) (ks' := sS + zt11.2.2.2 + zS14 + zt453.2.2.2 + zq452.2.2.2) (by omega) (by omega) ?_
      obtain ⟨fhzz451, hzz451⟩ := rcv_sp hzz451
      refine j_callVA (ci := 8) (As := [.int zx449, .int zx450]) (rest := []) (st1 := [.int zq452.1]) (pc' := 1344) C ⟨wm_1234, wm_1235⟩ rfl hzz451 (c_X11_claim hzq452) yw_X11_claim wm_1233 rfl rfl (Nat.le_of_ble_eq_true rfl) ⟨by decide, by decide⟩ dL_law_1341 rfl rfl ?_
      refine j_aload_n (q := 2) (pc' := 1345) C dL_law_1344 rfl rfl rfl ?_
      refine j_aload_n (q := 0) (pc' := 1346) C dL_law_1345 rfl rfl rfl ?_
      refine j_iload_n (q := 3) (pc' := 1347) C dL_law_1346 rfl rfl rfl ?_
      refine j_iconst (v := 1) (pc' := 1348) C dL_law_1347 kI_1 rfl ?_
      refine j_iadd (pc' := 1349) C dL_law_1348 rfl ?_
      obtain ⟨zx454, hzx454, hr⟩ := ob hr
      refine j_scrld (pc' := 1350) C HX dL_law_1349 hzx454 rfl ?_
      refine j_aload_n (q := 0) (pc' := 1351) C dL_law_1350 rfl rfl rfl ?_
      refine j_iload_n (q := 3) (pc' := 1352) C dL_law_1351 rfl rfl rfl ?_
      refine j_iconst (v := 2) (pc' := 1353) C dL_law_1352 kI_2 rfl ?_
      refine j_iadd (pc' := 1354) C dL_law_1353 rfl ?_
      obtain ⟨zx455, hzx455, hr⟩ := ob hr
      refine j_scrld (pc' := 1355) C HX dL_law_1354 hzx455 rfl ?_
      obtain ⟨zz456, hzz456, hr⟩ := ob hr
      obtain ⟨zq457, hzq457, hr⟩ := ob hr
      obtain ⟨fhzz456, hzz456⟩ := rcv_sp hzz456
      refine j_callV (ci := 9) (As := [.int zx454, .int zx455]) (rest := [.int zq452.1]) (st1 := [.int zq457.1, .int zq452.1]) (pc' := 1358) C ⟨wm_2015, wm_2016⟩ rfl hzz456 (c_X12_claim (nx := (nzs9 + zq452.2.2.1)) hzq457) yw_X12_claim wm_2014 rfl rfl (Nat.le_of_ble_eq_true rfl) ⟨by decide, by decide⟩ dL_law_1355 rfl rfl ?_
      refine j_ic_eq (tgt := 1718) (pc' := 1361) C dL_law_1358 rfl rfl (fun hc => ?_) (fun hc => ?_)
      · have hr := ifT hc hr
        clear hc
        refine j_iinc (q := 3) (v := 6) (lv' := [(3, .int (zs9 + (6 : Int32))), (0, .ref b), (1, .ref nx), (2, .ref ((nx + 1) + zq3.2.2.1))]) (pc' := 1721) C dL_law_1718 rfl kI_6 (by decide) rfl rfl ?_
        refine j_goto (tgt := 18) C dL_law_1721 rfl ?_
        obtain ⟨azf458, bzf459, czf460, dzf461⟩ := some4 hr
        refine j_k (kc' := kS + zt11.2.2.1 + zK13) (ks' := sS + zt11.2.2.2 + zS14) (by omega) (by omega) ?_
        refine j_at (nx' := nzs9 + zb12.2.2.1) (by omega) (bzt453.trans bzf459).symm ?_
        exact j_lv [1, 2, 3, 0] rfl (izs9 _ (azt453.trans azf458))
      · have hr := ifF hc hr
        clear hc
        cases hr
    have hr := ifF hc38 hr
    by_cases hc39 : (zx24 &&& (63 : Int32)) = (39 : Int32)
    · have hr := ifT hc39 hr
      refine j_tabIn (v := 39) (off := 1330) (tgt := 1363) C dL_law_33 hc39 (by decide) rfl ?_
      refine j_aload_n (q := 1) (pc' := 1364) C dL_law_1363 rfl rfl rfl ?_
      obtain ⟨zz462, hzz462, hr⟩ := ob hr
      obtain ⟨zq463, zt464, hzq463, hr, azt464, bzt464, czt464, dzt464⟩ := adcB_s hr
      refine j_k (kc' := kS + zt11.2.2.1 + zK13 + zt464.2.2.1 + zq463.2.2.1) (ks' := sS + zt11.2.2.2 + zS14 + zt464.2.2.2 + zq463.2.2.2) (by omega) (by omega) ?_
      obtain ⟨fhzz462, hzz462⟩ := rcv_sp hzz462
      refine j_callVA (ci := 8) (As := []) (rest := []) (st1 := [.int zq463.1]) (pc' := 1367) C ⟨wm_1242, wm_1243⟩ rfl hzz462 (c_X11_adopt hzq463) yw_X11_adopt wm_1241 rfl rfl (Nat.le_of_ble_eq_true rfl) ⟨by decide, by decide⟩ dL_law_1364 rfl rfl ?_
      refine j_aload_n (q := 2) (pc' := 1368) C dL_law_1367 rfl rfl rfl ?_
      obtain ⟨zz465, hzz465, hr⟩ := ob hr
      obtain ⟨zq466, hzq466, hr⟩ := ob hr
      obtain ⟨fhzz465, hzz465⟩ := rcv_sp hzz465
      refine j_callV (ci := 9) (As := []) (rest := [.int zq463.1]) (st1 := [.int zq466.1, .int zq463.1]) (pc' := 1371) C ⟨wm_2019, wm_2020⟩ rfl hzz465 (c_X12_adopt (nx := (nzs9 + zq463.2.2.1)) hzq466) yw_X12_adopt wm_2018 rfl rfl (Nat.le_of_ble_eq_true rfl) ⟨by decide, by decide⟩ dL_law_1368 rfl rfl ?_
      refine j_ic_eq (tgt := 1718) (pc' := 1374) C dL_law_1371 rfl rfl (fun hc => ?_) (fun hc => ?_)
      · have hr := ifT hc hr
        clear hc
        refine j_iinc (q := 3) (v := 6) (lv' := [(3, .int (zs9 + (6 : Int32))), (0, .ref b), (1, .ref nx), (2, .ref ((nx + 1) + zq3.2.2.1))]) (pc' := 1721) C dL_law_1718 rfl kI_6 (by decide) rfl rfl ?_
        refine j_goto (tgt := 18) C dL_law_1721 rfl ?_
        obtain ⟨azf467, bzf468, czf469, dzf470⟩ := some4 hr
        refine j_k (kc' := kS + zt11.2.2.1 + zK13) (ks' := sS + zt11.2.2.2 + zS14) (by omega) (by omega) ?_
        refine j_at (nx' := nzs9 + zb12.2.2.1) (by omega) (bzt464.trans bzf468).symm ?_
        exact j_lv [1, 2, 3, 0] rfl (izs9 _ (azt464.trans azf467))
      · have hr := ifF hc hr
        clear hc
        cases hr
    have hr := ifF hc39 hr
    by_cases hc40 : (zx24 &&& (63 : Int32)) = (40 : Int32)
    · have hr := ifT hc40 hr
      refine j_tabIn (v := 40) (off := 1343) (tgt := 1376) C dL_law_33 hc40 (by decide) rfl ?_
      refine j_aload_n (q := 1) (pc' := 1377) C dL_law_1376 rfl rfl rfl ?_
      refine j_aload_n (q := 0) (pc' := 1378) C dL_law_1377 rfl rfl rfl ?_
      refine j_iload_n (q := 3) (pc' := 1379) C dL_law_1378 rfl rfl rfl ?_
      refine j_iconst (v := 1) (pc' := 1380) C dL_law_1379 kI_1 rfl ?_
      refine j_iadd (pc' := 1381) C dL_law_1380 rfl ?_
      obtain ⟨zx471, hzx471, hr⟩ := ob hr
      refine j_scrld (pc' := 1382) C HX dL_law_1381 hzx471 rfl ?_
      obtain ⟨zz472, hzz472, hr⟩ := ob hr
      obtain ⟨zq473, zt474, hzq473, hr, azt474, bzt474, czt474, dzt474⟩ := adcB_s hr
      refine j_k (kc' := kS + zt11.2.2.1 + zK13 + zt474.2.2.1 + zq473.2.2.1) (ks' := sS + zt11.2.2.2 + zS14 + zt474.2.2.2 + zq473.2.2.2) (by omega) (by omega) ?_
      obtain ⟨fhzz472, hzz472⟩ := rcv_sp hzz472
      refine j_callVA (ci := 8) (As := [.int zx471]) (rest := []) (st1 := [.int zq473.1]) (pc' := 1385) C ⟨wm_1252, wm_1253⟩ rfl hzz472 (c_X11_unclaim hzq473) yw_X11_unclaim wm_1251 rfl rfl (Nat.le_of_ble_eq_true rfl) ⟨by decide, by decide⟩ dL_law_1382 rfl rfl ?_
      refine j_aload_n (q := 2) (pc' := 1386) C dL_law_1385 rfl rfl rfl ?_
      refine j_aload_n (q := 0) (pc' := 1387) C dL_law_1386 rfl rfl rfl ?_
      refine j_iload_n (q := 3) (pc' := 1388) C dL_law_1387 rfl rfl rfl ?_
      refine j_iconst (v := 1) (pc' := 1389) C dL_law_1388 kI_1 rfl ?_
      refine j_iadd (pc' := 1390) C dL_law_1389 rfl ?_
      obtain ⟨zx475, hzx475, hr⟩ := ob hr
      refine j_scrld (pc' := 1391) C HX dL_law_1390 hzx475 rfl ?_
      obtain ⟨zz476, hzz476, hr⟩ := ob hr
      obtain ⟨zq477, hzq477, hr⟩ := ob hr
      obtain ⟨fhzz476, hzz476⟩ := rcv_sp hzz476
      refine j_callV (ci := 9) (As := [.int zx475]) (rest := [.int zq473.1]) (st1 := [.int zq477.1, .int zq473.1]) (pc' := 1394) C ⟨wm_2023, wm_2024⟩ rfl hzz476 (c_X12_unclaim (nx := (nzs9 + zq473.2.2.1)) hzq477) yw_X12_unclaim wm_2022 rfl rfl (Nat.le_of_ble_eq_true rfl) ⟨by decide, by decide⟩ dL_law_1391 rfl rfl ?_
      refine j_ic_eq (tgt := 1718) (pc' := 1397) C dL_law_1394 rfl rfl (fun hc => ?_) (fun hc => ?_)
      · have hr := ifT hc hr
        clear hc
        refine j_iinc (q := 3) (v := 6) (lv' := [(3, .int (zs9 + (6 : Int32))), (0, .ref b), (1, .ref nx), (2, .ref ((nx + 1) + zq3.2.2.1))]) (pc' := 1721) C dL_law_1718 rfl kI_6 (by decide) rfl rfl ?_
        refine j_goto (tgt := 18) C dL_law_1721 rfl ?_
        obtain ⟨azf478, bzf479, czf480, dzf481⟩ := some4 hr
        refine j_k (kc' := kS + zt11.2.2.1 + zK13) (ks' := sS + zt11.2.2.2 + zS14) (by omega) (by omega) ?_
        refine j_at (nx' := nzs9 + zb12.2.2.1) (by omega) (bzt474.trans bzf479).symm ?_
        exact j_lv [1, 2, 3, 0] rfl (izs9 _ (azt474.trans azf478))
      · have hr := ifF hc hr
        clear hc
        cases hr
    have hr := ifF hc40 hr
    by_cases hc41 : (zx24 &&& (63 : Int32)) = (41 : Int32)
    · have hr := ifT hc41 hr
      refine j_tabIn (v := 41) (off := 1366) (tgt := 1399) C dL_law_33 hc41 (by decide) rfl ?_
      refine j_aload_n (q := 1) (pc' := 1400) C dL_law_1399 rfl rfl rfl ?_
      refine j_aload_n (q := 0) (pc' := 1401) C dL_law_1400 rfl rfl rfl ?_
      refine j_iload_n (q := 3) (pc' := 1402) C dL_law_1401 rfl rfl rfl ?_
      refine j_iconst (v := 1) (pc' := 1403) C dL_law_1402 kI_1 rfl ?_
      refine j_iadd (pc' := 1404) C dL_law_1403 rfl ?_
      obtain ⟨zx482, hzx482, hr⟩ := ob hr
      refine j_scrld (pc' := 1405) C HX dL_law_1404 hzx482 rfl ?_
      obtain ⟨zz483, hzz483, hr⟩ := ob hr
      obtain ⟨zq484, zt485, hzq484, hr, azt485, bzt485, czt485, dzt485⟩ := adcB_s hr
      refine j_k (kc' := kS + zt11.2.2.1 + zK13 + zt485.2.2.1 + zq484.2.2.1) (ks' := sS + zt11.2.2.2 + zS14 + zt485.2.2.2 + zq484.2.2.2) (by omega) (by omega) ?_
      obtain ⟨fhzz483, hzz483⟩ := rcv_sp hzz483
      refine j_callVA (ci := 8) (As := [.int zx482]) (rest := []) (st1 := [.int zq484.1]) (pc' := 1408) C ⟨wm_1260, wm_1261⟩ rfl hzz483 (c_X11_loosen hzq484) yw_X11_loosen wm_1259 rfl rfl (Nat.le_of_ble_eq_true rfl) ⟨by decide, by decide⟩ dL_law_1405 rfl rfl ?_
      refine j_aload_n (q := 2) (pc' := 1409) C dL_law_1408 rfl rfl rfl ?_
      refine j_aload_n (q := 0) (pc' := 1410) C dL_law_1409 rfl rfl rfl ?_
      refine j_iload_n (q := 3) (pc' := 1411) C dL_law_1410 rfl rfl rfl ?_
      refine j_iconst (v := 1) (pc' := 1412) C dL_law_1411 kI_1 rfl ?_
      refine j_iadd (pc' := 1413) C dL_law_1412 rfl ?_
      obtain ⟨zx486, hzx486, hr⟩ := ob hr
      refine j_scrld (pc' := 1414) C HX dL_law_1413 hzx486 rfl ?_
      obtain ⟨zz487, hzz487, hr⟩ := ob hr
      obtain ⟨zq488, hzq488, hr⟩ := ob hr
      obtain ⟨fhzz487, hzz487⟩ := rcv_sp hzz487
      refine j_callV (ci := 9) (As := [.int zx486]) (rest := [.int zq484.1]) (st1 := [.int zq488.1, .int zq484.1]) (pc' := 1417) C ⟨wm_2027, wm_2028⟩ rfl hzz487 (c_X12_loosen (nx := (nzs9 + zq484.2.2.1)) hzq488) yw_X12_loosen wm_2026 rfl rfl (Nat.le_of_ble_eq_true rfl) ⟨by decide, by decide⟩ dL_law_1414 rfl rfl ?_
      refine j_ic_eq (tgt := 1718) (pc' := 1420) C dL_law_1417 rfl rfl (fun hc => ?_) (fun hc => ?_)
      · have hr := ifT hc hr
        clear hc
        refine j_iinc (q := 3) (v := 6) (lv' := [(3, .int (zs9 + (6 : Int32))), (0, .ref b), (1, .ref nx), (2, .ref ((nx + 1) + zq3.2.2.1))]) (pc' := 1721) C dL_law_1718 rfl kI_6 (by decide) rfl rfl ?_
        refine j_goto (tgt := 18) C dL_law_1721 rfl ?_
        obtain ⟨azf489, bzf490, czf491, dzf492⟩ := some4 hr
        refine j_k (kc' := kS + zt11.2.2.1 + zK13) (ks' := sS + zt11.2.2.2 + zS14) (by omega) (by omega) ?_
        refine j_at (nx' := nzs9 + zb12.2.2.1) (by omega) (bzt485.trans bzf490).symm ?_
        exact j_lv [1, 2, 3, 0] rfl (izs9 _ (azt485.trans azf489))
      · have hr := ifF hc hr
        clear hc
        cases hr
    have hr := ifF hc41 hr
    by_cases hc42 : (zx24 &&& (63 : Int32)) = (42 : Int32)
    · have hr := ifT hc42 hr
      refine j_tabIn (v := 42) (off := 1389) (tgt := 1422) C dL_law_33 hc42 (by decide) rfl ?_
      refine j_aload_n (q := 1) (pc' := 1423) C dL_law_1422 rfl rfl rfl ?_
      refine j_aload_n (q := 0) (pc' := 1424) C dL_law_1423 rfl rfl rfl ?_
      refine j_iload_n (q := 3) (pc' := 1425) C dL_law_1424 rfl rfl rfl ?_
      refine j_iconst (v := 1) (pc' := 1426) C dL_law_1425 kI_1 rfl ?_
      refine j_iadd (pc' := 1427) C dL_law_1426 rfl ?_
      obtain ⟨zx493, hzx493, hr⟩ := ob hr
      refine j_scrld (pc' := 1428) C HX dL_law_1427 hzx493 rfl ?_
      refine j_aload_n (q := 0) (pc' := 1429) C dL_law_1428 rfl rfl rfl ?_
      refine j_iload_n (q := 3) (pc' := 1430) C dL_law_1429 rfl rfl rfl ?_
      refine j_iconst (v := 2) (pc' := 1431) C dL_law_1430 kI_2 rfl ?_
      refine j_iadd (pc' := 1432) C dL_law_1431 rfl ?_
      obtain ⟨zx494, hzx494, hr⟩ := ob hr
      refine j_scrld (pc' := 1433) C HX dL_law_1432 hzx494 rfl ?_
      obtain ⟨zz495, hzz495, hr⟩ := ob hr
      obtain ⟨zx496, hzx496, hr⟩ := ob hr
      obtain ⟨fhzz495, hzz495⟩ := rcv_sp hzz495
      refine j_callV (ci := 8) (As := [.int zx493, .int zx494]) (rest := []) (st1 := [.int zx496]) (pc' := 1436) C ⟨wm_1294, wm_1295⟩ rfl hzz495 (c_X11_claimed (nx := nzs9) hzx496) yw_X11_claimed wm_1293 rfl rfl (Nat.le_of_ble_eq_true rfl) ⟨by decide, by decide⟩ dL_law_1433 rfl rfl ?_
      refine j_aload_n (q := 2) (pc' := 1437) C dL_law_1436 rfl rfl rfl ?_
      refine j_aload_n (q := 0) (pc' := 1438) C dL_law_1437 rfl rfl rfl ?_
      refine j_iload_n (q := 3) (pc' := 1439) C dL_law_1438 rfl rfl rfl ?_
      refine j_iconst (v := 1) (pc' := 1440) C dL_law_1439 kI_1 rfl ?_
      refine j_iadd (pc' := 1441) C dL_law_1440 rfl ?_
      obtain ⟨zx497, hzx497, hr⟩ := ob hr
      refine j_scrld (pc' := 1442) C HX dL_law_1441 hzx497 rfl ?_
      refine j_aload_n (q := 0) (pc' := 1443) C dL_law_1442 rfl rfl rfl ?_
      refine j_iload_n (q := 3) (pc' := 1444) C dL_law_1443 rfl rfl rfl ?_
      refine j_iconst (v := 2) (pc' := 1445) C dL_law_1444 kI_2 rfl ?_
      refine j_iadd (pc' := 1446) C dL_law_1445 rfl ?_
      obtain ⟨zx498, hzx498, hr⟩ := ob hr
      refine j_scrld (pc' := 1447) C HX dL_law_1446 hzx498 rfl ?_
      obtain ⟨zz499, hzz499, hr⟩ := ob hr
      obtain ⟨zx500, hzx500, hr⟩ := ob hr
      obtain ⟨fhzz499, hzz499⟩ := rcv_sp hzz499
      refine j_callV (ci := 9) (As := [.int zx497, .int zx498]) (rest := [.int zx496]) (st1 := [.int zx500, .int zx496]) (pc' := 1450) C ⟨wm_2055, wm_2056⟩ rfl hzz499 (c_X12_claimed (nx := nzs9) hzx500) yw_X12_claimed wm_2054 rfl rfl (Nat.le_of_ble_eq_true rfl) ⟨by decide, by decide⟩ dL_law_1447 rfl rfl ?_
      refine j_ic_eq (tgt := 1718) (pc' := 1453) C dL_law_1450 rfl rfl (fun hc => ?_) (fun hc => ?_)
      · have hr := ifT hc hr
        clear hc
        refine j_iinc (q := 3) (v := 6) (lv' := [(3, .int (zs9 + (6 : Int32))), (0, .ref b), (1, .ref nx), (2, .ref ((nx + 1) + zq3.2.2.1))]) (pc' := 1721) C dL_law_1718 rfl kI_6 (by decide) rfl rfl ?_
        refine j_goto (tgt := 18) C dL_law_1721 rfl ?_
        obtain ⟨azf501, bzf502, czf503, dzf504⟩ := some4 hr
        refine j_k (kc' := kS + zt11.2.2.1 + zK13) (ks' := sS + zt11.2.2.2 + zS14) (by omega) (by omega) ?_
        refine j_at (nx' := nzs9 + zb12.2.2.1) (by omega) bzf502.symm ?_
        exact j_lv [1, 2, 3, 0] rfl (izs9 _ azf501)
      · have hr := ifF hc hr
        clear hc
        cases hr
    have hr := ifF hc42 hr
    by_cases hc43 : (zx24 &&& (63 : Int32)) = (43 : Int32)
    · have hr := ifT hc43 hr
      refine j_tabIn (v := 43) (off := 1422) (tgt := 1455) C dL_law_33 hc43 (by decide) rfl ?_
      refine j_aload_n (q := 1) (pc' := 1456) C dL_law_1455 rfl rfl rfl ?_
      refine j_aload_n (q := 0) (pc' := 1457) C dL_law_1456 rfl rfl rfl ?_
      refine j_iload_n (q := 3) (pc' := 1458) C dL_law_1457 rfl rfl rfl ?_
      refine j_iconst (v := 1) (pc' := 1459) C dL_law_1458 kI_1 rfl ?_
      refine j_iadd (pc' := 1460) C dL_law_1459 rfl ?_
      obtain ⟨zx505, hzx505, hr⟩ := ob hr
      refine j_scrld (pc' := 1461) C HX dL_law_1460 hzx505 rfl ?_
      obtain ⟨zz506, hzz506, hr⟩ := ob hr
      obtain ⟨zx507, hzx507, hr⟩ := ob hr
      obtain ⟨fhzz506, hzz506⟩ := rcv_sp hzz506
      refine j_callV (ci := 8) (As := [.int zx505]) (rest := []) (st1 := [.int zx507]) (pc' := 1464) C ⟨wm_1264, wm_1265⟩ rfl hzz506 (c_X11_judged (nx := nzs9) hzx507) yw_X11_judged wm_1297 rfl rfl (Nat.le_of_ble_eq_true rfl) ⟨by decide, by decide⟩ dL_law_1461 rfl rfl ?_
      refine j_aload_n (q := 2) (pc' := 1465) C dL_law_1464 rfl rfl rfl ?_
      refine j_aload_n (q := 0) (pc' := 1466) C dL_law_1465 rfl rfl rfl ?_
      refine j_iload_n (q := 3) (pc' := 1467) C dL_law_1466 rfl rfl rfl ?_
      refine j_iconst (v := 1) (pc' := 1468) C dL_law_1467 kI_1 rfl ?_
      refine j_iadd (pc' := 1469) C dL_law_1468 rfl ?_
      obtain ⟨zx508, hzx508, hr⟩ := ob hr
      refine j_scrld (pc' := 1470) C HX dL_law_1469 hzx508 rfl ?_
      obtain ⟨zz509, hzz509, hr⟩ := ob hr
      obtain ⟨zq510, hzq510, hr⟩ := ob hr
      obtain ⟨fhzz509, hzz509⟩ := rcv_sp hzz509
      refine j_callV (ci := 9) (As := [.int zx508]) (rest := [.int zx507]) (st1 := [.int zq510.1, .int zx507]) (pc' := 1473) C ⟨wm_2059, wm_2060⟩ rfl hzz509 (c_X12_judged (nx := nzs9) hzq510) yw_X12_judged wm_2058 rfl rfl (Nat.le_of_ble_eq_true rfl) ⟨by decide, by decide⟩ dL_law_1470 rfl rfl ?_
      refine j_ic_eq (tgt := 1718) (pc' := 1476) C dL_law_1473 rfl rfl (fun hc => ?_) (fun hc => ?_)
      · have hr := ifT hc hr
        clear hc
        refine j_iinc (q := 3) (v := 6) (lv' := [(3, .int (zs9 + (6 : Int32))), (0, .ref b), (1, .ref nx), (2, .ref ((nx + 1) + zq3.2.2.1))]) (pc' := 1721) C dL_law_1718 rfl kI_6 (by decide) rfl rfl ?_
        refine j_goto (tgt := 18) C dL_law_1721 rfl ?_
        obtain ⟨azf511, bzf512, czf513, dzf514⟩ := some4 hr
        refine j_k (kc' := kS + zt11.2.2.1 + zK13) (ks' := sS + zt11.2.2.2 + zS14) (by omega) (by omega) ?_
        refine j_at (nx' := nzs9 + zb12.2.2.1) (by omega) bzf512.symm ?_
        exact j_lv [1, 2, 3, 0] rfl (izs9 _ azf511)
      · have hr := ifF hc hr
        clear hc
        cases hr
    have hr := ifF hc43 hr
    by_cases hc44 : (zx24 &&& (63 : Int32)) = (44 : Int32)
    · have hr := ifT hc44 hr
      refine j_tabIn (v := 44) (off := 1445) (tgt := 1478) C dL_law_33 hc44 (by decide) rfl ?_
      refine j_aload_n (q := 1) (pc' := 1479) C dL_law_1478 rfl rfl rfl ?_
      refine j_aload_n (q := 0) (pc' := 1480) C dL_law_1479 rfl rfl rfl ?_
      refine j_iload_n (q := 3) (pc' := 1481) C dL_law_1480 rfl rfl rfl ?_
      refine j_iconst (v := 1) (pc' := 1482) C dL_law_1481 kI_1 rfl ?_
      refine j_iadd (pc' := 1483) C dL_law_1482 rfl ?_
      obtain ⟨zx515, hzx515, hr⟩ := ob hr
      refine j_scrld (pc' := 1484) C HX dL_law_1483 hzx515 rfl ?_
      obtain ⟨zz516, hzz516, hr⟩ := ob hr
      obtain ⟨zx517, hzx517, hr⟩ := ob hr
      obtain ⟨fhzz516, hzz516⟩ := rcv_sp hzz516
      refine j_callV (ci := 8) (As := [.int zx515]) (rest := []) (st1 := [.int zx517]) (pc' := 1487) C ⟨wm_1299, wm_1300⟩ rfl hzz516 (c_X11_witness (nx := nzs9) hzx517) yw_X11_witness wm_1298 rfl rfl (Nat.le_of_ble_eq_true rfl) ⟨by decide, by decide⟩ dL_law_1484 rfl rfl ?_
      refine j_aload_n (q := 2) (pc' := 1488) C dL_law_1487 rfl rfl rfl ?_
      refine j_aload_n (q := 0) (pc' := 1489) C dL_law_1488 rfl rfl rfl ?_
      refine j_iload_n (q := 3) (pc' := 1490) C dL_law_1489 rfl rfl rfl ?_
      refine j_iconst (v := 1) (pc' := 1491) C dL_law_1490 kI_1 rfl ?_
      refine j_iadd (pc' := 1492) C dL_law_1491 rfl ?_
      obtain ⟨zx518, hzx518, hr⟩ := ob hr
      refine j_scrld (pc' := 1493) C HX dL_law_1492 hzx518 rfl ?_
      obtain ⟨zz519, hzz519, hr⟩ := ob hr
      obtain ⟨zq520, hzq520, hr⟩ := ob hr
      obtain ⟨fhzz519, hzz519⟩ := rcv_sp hzz519
      refine j_callV (ci := 9) (As := [.int zx518]) (rest := [.int zx517]) (st1 := [.int zq520.1, .int zx517]) (pc' := 1496) C ⟨wm_2067, wm_2068⟩ rfl hzz519 (c_X12_witness (nx := nzs9) hzq520) yw_X12_witness wm_2066 rfl rfl (Nat.le_of_ble_eq_true rfl) ⟨by decide, by decide⟩ dL_law_1493 rfl rfl ?_
      refine j_ic_eq (tgt := 1718) (pc' := 1499) C dL_law_1496 rfl rfl (fun hc => ?_) (fun hc => ?_)
      · have hr := ifT hc hr
        clear hc
        refine j_iinc (q := 3) (v := 6) (lv' := [(3, .int (zs9 + (6 : Int32))), (0, .ref b), (1, .ref nx), (2, .ref ((nx + 1) + zq3.2.2.1))]) (pc' := 1721) C dL_law_1718 rfl kI_6 (by decide) rfl rfl ?_
        refine j_goto (tgt := 18) C dL_law_1721 rfl ?_
        obtain ⟨azf521, bzf522, czf523, dzf524⟩ := some4 hr
        refine j_k (kc' := kS + zt11.2.2.1 + zK13) (ks' := sS + zt11.2.2.2 + zS14) (by omega) (by omega) ?_
        refine j_at (nx' := nzs9 + zb12.2.2.1) (by omega) bzf522.symm ?_
        exact j_lv [1, 2, 3, 0] rfl (izs9 _ azf521)
      · have hr := ifF hc hr
        clear hc
        cases hr
    have hr := ifF hc44 hr
    by_cases hc45 : (zx24 &&& (63 : Int32)) = (45 : Int32)
    · have hr := ifT hc45 hr
      refine j_tabIn (v := 45) (off := 1468) (tgt := 1501) C dL_law_33 hc45 (by decide) rfl ?_
      refine j_aload_n (q := 1) (pc' := 1502) C dL_law_1501 rfl rfl rfl ?_
      refine j_aload_n (q := 0) (pc' := 1503) C dL_law_1502 rfl rfl rfl ?_
      refine j_iload_n (q := 3) (pc' := 1504) C dL_law_1503 rfl rfl rfl ?_
      refine j_iconst (v := 1) (pc' := 1505) C dL_law_1504 kI_1 rfl ?_
      refine j_iadd (pc' := 1506) C dL_law_1505 rfl ?_
      obtain ⟨zx525, hzx525, hr⟩ := ob hr
      refine j_scrld (pc' := 1507) C HX dL_law_1506 hzx525 rfl ?_
      obtain ⟨zz526, hzz526, hr⟩ := ob hr
      obtain ⟨zq527, zt528, hzq527, hr, azt528, bzt528, czt528, dzt528⟩ := adcB_s hr
      refine j_k (kc' := kS + zt11.2.2.1 + zK13 + zt528.2.2.1 + zq527.2.2.1) (ks' := sS + zt11.2.2.2 + zS14 + zt528.2.2.2 + zq527.2.2.2) (by omega) (by omega) ?_
      obtain ⟨fhzz526, hzz526⟩ := rcv_sp hzz526
      refine j_callVA (ci := 8) (As := [.int zx525]) (rest := []) (st1 := [.int zq527.1]) (pc' := 1510) C ⟨wm_1307, wm_1308⟩ rfl hzz526 (c_X11_spare hzq527) yw_X11_spare wm_1306 rfl rfl (Nat.le_of_ble_eq_true rfl) ⟨by decide, by decide⟩ dL_law_1507 rfl rfl ?_
      refine j_aload_n (q := 2) (pc' := 1511) C dL_law_1510 rfl rfl rfl ?_
      refine j_aload_n (q := 0) (pc' := 1512) C dL_law_1511 rfl rfl rfl ?_
      refine j_iload_n (q := 3) (pc' := 1513) C dL_law_1512 rfl rfl rfl ?_
      refine j_iconst (v := 1) (pc' := 1514) C dL_law_1513 kI_1 rfl ?_
      refine j_iadd (pc' := 1515) C dL_law_1514 rfl ?_
      obtain ⟨zx529, hzx529, hr⟩ := ob hr
      refine j_scrld (pc' := 1516) C HX dL_law_1515 hzx529 rfl ?_
      obtain ⟨zz530, hzz530, hr⟩ := ob hr
      obtain ⟨zq531, hzq531, hr⟩ := ob hr
      obtain ⟨fhzz530, hzz530⟩ := rcv_sp hzz530
      refine j_callV (ci := 9) (As := [.int zx529]) (rest := [.int zq527.1]) (st1 := [.int zq531.1, .int zq527.1]) (pc' := 1519) C ⟨wm_2071, wm_2072⟩ rfl hzz530 (c_X12_spare (nx := (nzs9 + zq527.2.2.1)) hzq531) yw_X12_spare wm_2070 rfl rfl (Nat.le_of_ble_eq_true rfl) ⟨by decide, by decide⟩ dL_law_1516 rfl rfl ?_
      refine j_ic_eq (tgt := 1718) (pc' := 1522) C dL_law_1519 rfl rfl (fun hc => ?_) (fun hc => ?_)
      · have hr := ifT hc hr
        clear hc
        refine j_iinc (q := 3) (v := 6) (lv' := [(3, .int (zs9 + (6 : Int32))), (0, .ref b), (1, .ref nx), (2, .ref ((nx + 1) + zq3.2.2.1))]) (pc' := 1721) C dL_law_1718 rfl kI_6 (by decide) rfl rfl ?_
        refine j_goto (tgt := 18) C dL_law_1721 rfl ?_
        obtain ⟨azf532, bzf533, czf534, dzf535⟩ := some4 hr
        refine j_k (kc' := kS + zt11.2.2.1 + zK13) (ks' := sS + zt11.2.2.2 + zS14) (by omega) (by omega) ?_
        refine j_at (nx' := nzs9 + zb12.2.2.1) (by omega) (bzt528.trans bzf533).symm ?_
        exact j_lv [1, 2, 3, 0] rfl (izs9 _ (azt528.trans azf532))
      · have hr := ifF hc hr
        clear hc
        cases hr
    have hr := ifF hc45 hr
    by_cases hc46 : (zx24 &&& (63 : Int32)) = (46 : Int32)
    · have hr := ifT hc46 hr
      refine j_tabIn (v := 46) (off := 1491) (tgt := 1524) C dL_law_33 hc46 (by decide) rfl ?_
      refine j_aload_n (q := 1) (pc' := 1525) C dL_law_1524 rfl rfl rfl ?_
      refine j_aload_n (q := 0) (pc' := 1526) C dL_law_1525 rfl rfl rfl ?_
      refine j_iload_n (q := 3) (pc' := 1527) C dL_law_1526 rfl rfl rfl ?_
      refine j_iconst (v := 1) (pc' := 1528) C dL_law_1527 kI_1 rfl ?_
      refine j_iadd (pc' := 1529) C dL_law_1528 rfl ?_
      obtain ⟨zx536, hzx536, hr⟩ := ob hr
      refine j_scrld (pc' := 1530) C HX dL_law_1529 hzx536 rfl ?_
      obtain ⟨zz537, hzz537, hr⟩ := ob hr
      obtain ⟨zq538, hzq538, hr⟩ := ob hr
      obtain ⟨fhzz537, hzz537⟩ := rcv_sp hzz537
      refine j_callV (ci := 8) (As := [.int zx536]) (rest := []) (st1 := [.int zq538.1]) (pc' := 1533) C ⟨wm_1316, wm_1317⟩ rfl hzz537 (c_X11_fewest (nx := nzs9) hzq538) yw_X11_fewest wm_1315 rfl rfl (Nat.le_of_ble_eq_true rfl) ⟨by decide, by decide⟩ dL_law_1530 rfl rfl ?_
      refine j_aload_n (q := 2) (pc' := 1534) C dL_law_1533 rfl rfl rfl ?_
      refine j_aload_n (q := 0) (pc' := 1535) C dL_law_1534 rfl rfl rfl ?_
      refine j_iload_n (q := 3) (pc' := 1536) C dL_law_1535 rfl rfl rfl ?_
      refine j_iconst (v := 1) (pc' := 1537) C dL_law_1536 kI_1 rfl ?_
      refine j_iadd (pc' := 1538) C dL_law_1537 rfl ?_
      obtain ⟨zx539, hzx539, hr⟩ := ob hr
      refine j_scrld (pc' := 1539) C HX dL_law_1538 hzx539 rfl ?_
      obtain ⟨zz540, hzz540, hr⟩ := ob hr
      obtain ⟨zq541, hzq541, hr⟩ := ob hr
      obtain ⟨fhzz540, hzz540⟩ := rcv_sp hzz540
      refine j_callV (ci := 9) (As := [.int zx539]) (rest := [.int zq538.1]) (st1 := [.int zq541.1, .int zq538.1]) (pc' := 1542) C ⟨wm_2079, wm_2080⟩ rfl hzz540 (c_X12_fewest (nx := nzs9) hzq541) yw_X12_fewest wm_2078 rfl rfl (Nat.le_of_ble_eq_true rfl) ⟨by decide, by decide⟩ dL_law_1539 rfl rfl ?_
      refine j_ic_eq (tgt := 1718) (pc' := 1545) C dL_law_1542 rfl rfl (fun hc => ?_) (fun hc => ?_)
      · have hr := ifT hc hr
        clear hc
        refine j_iinc (q := 3) (v := 6) (lv' := [(3, .int (zs9 + (6 : Int32))), (0, .ref b), (1, .ref nx), (2, .ref ((nx + 1) + zq3.2.2.1))]) (pc' := 1721) C dL_law_1718 rfl kI_6 (by decide) rfl rfl ?_
        refine j_goto (tgt := 18) C dL_law_1721 rfl ?_
        obtain ⟨azf542, bzf543, czf544, dzf545⟩ := some4 hr
        refine j_k (kc' := kS + zt11.2.2.1 + zK13) (ks' := sS + zt11.2.2.2 + zS14) (by omega) (by omega) ?_
        refine j_at (nx' := nzs9 + zb12.2.2.1) (by omega) bzf543.symm ?_
        exact j_lv [1, 2, 3, 0] rfl (izs9 _ azf542)
      · have hr := ifF hc hr
        clear hc
        cases hr
    have hr := ifF hc46 hr
    by_cases hc47 : (zx24 &&& (63 : Int32)) = (47 : Int32)
    · have hr := ifT hc47 hr
      refine j_tabIn (v := 47) (off := 1514) (tgt := 1547) C dL_law_33 hc47 (by decide) rfl ?_
      refine j_aload_n (q := 1) (pc' := 1548) C dL_law_1547 rfl rfl rfl ?_
      refine j_aload_n (q := 0) (pc' := 1549) C dL_law_1548 rfl rfl rfl ?_
      refine j_iload_n (q := 3) (pc' := 1550) C dL_law_1549 rfl rfl rfl ?_
      refine j_iconst (v := 1) (pc' := 1551) C dL_law_1550 kI_1 rfl ?_
      refine j_iadd (pc' := 1552) C dL_law_1551 rfl ?_
      obtain ⟨zx546, hzx546, hr⟩ := ob hr
      refine j_scrld (pc' := 1553) C HX dL_law_1552 hzx546 rfl ?_
      obtain ⟨zz547, hzz547, hr⟩ := ob hr
      obtain ⟨zq548, hzq548, hr⟩ := ob hr
      obtain ⟨fhzz547, hzz547⟩ := rcv_sp hzz547
      refine j_callV (ci := 8) (As := [.int zx546]) (rest := []) (st1 := [.int zq548.1]) (pc' := 1556) C ⟨wm_1320, wm_1321⟩ rfl hzz547 (c_X11_chosen (nx := nzs9) hzq548) yw_X11_chosen wm_1347 rfl rfl (Nat.le_of_ble_eq_true rfl) ⟨by decide, by decide⟩ dL_law_1553 rfl rfl ?_
      refine j_aload_n (q := 2) (pc' := 1557) C dL_law_1556 rfl rfl rfl ?_
      refine j_aload_n (q := 0) (pc' := 1558) C dL_law_1557 rfl rfl rfl ?_
      refine j_iload_n (q := 3) (pc' := 1559) C dL_law_1558 rfl rfl rfl ?_
      refine j_iconst (v := 1) (pc' := 1560) C dL_law_1559 kI_1 rfl ?_
      refine j_iadd (pc' := 1561) C dL_law_1560 rfl ?_
      obtain ⟨zx549, hzx549, hr⟩ := ob hr
      refine j_scrld (pc' := 1562) C HX dL_law_1561 hzx549 rfl ?_
      obtain ⟨zz550, hzz550, hr⟩ := ob hr
      obtain ⟨zq551, hzq551, hr⟩ := ob hr
      obtain ⟨fhzz550, hzz550⟩ := rcv_sp hzz550
      refine j_callV (ci := 9) (As := [.int zx549]) (rest := [.int zq548.1]) (st1 := [.int zq551.1, .int zq548.1]) (pc' := 1565) C ⟨wm_2087, wm_2088⟩ rfl hzz550 (c_X12_chosen (nx := nzs9) hzq551) yw_X12_chosen wm_2086 rfl rfl (Nat.le_of_ble_eq_true rfl) ⟨by decide, by decide⟩ dL_law_1562 rfl rfl ?_
      refine j_ic_eq (tgt := 1718) (pc' := 1568) C dL_law_1565 rfl rfl (fun hc => ?_) (fun hc => ?_)
      · have hr := ifT hc hr
        clear hc
        refine j_iinc (q := 3) (v := 6) (lv' := [(3, .int (zs9 + (6 : Int32))), (0, .ref b), (1, .ref nx), (2, .ref ((nx + 1) + zq3.2.2.1))]) (pc' := 1721) C dL_law_1718 rfl kI_6 (by decide) rfl rfl ?_
        refine j_goto (tgt := 18) C dL_law_1721 rfl ?_
        obtain ⟨azf552, bzf553, czf554, dzf555⟩ := some4 hr
        refine j_k (kc' := kS + zt11.2.2.1 + zK13) (ks' := sS + zt11.2.2.2 + zS14) (by omega) (by omega) ?_
        refine j_at (nx' := nzs9 + zb12.2.2.1) (by omega) bzf553.symm ?_
        exact j_lv [1, 2, 3, 0] rfl (izs9 _ azf552)
      · have hr := ifF hc hr
        clear hc
        cases hr
    have hr := ifF hc47 hr
    by_cases hc48 : (zx24 &&& (63 : Int32)) = (48 : Int32)
    · have hr := ifT hc48 hr
      refine j_tabIn (v := 48) (off := 1537) (tgt := 1570) C dL_law_33 hc48 (by decide) rfl ?_
      refine j_aload_n (q := 1) (pc' := 1571) C dL_law_1570 rfl rfl rfl ?_
      refine j_aload_n (q := 0) (pc' := 1572) C dL_law_1571 rfl rfl rfl ?_
      refine j_iload_n (q := 3) (pc' := 1573) C dL_law_1572 rfl rfl rfl ?_
      refine j_iconst (v := 1) (pc' := 1574) C dL_law_1573 kI_1 rfl ?_
      refine j_iadd (pc' := 1575) C dL_law_1574 rfl ?_
      obtain ⟨zx556, hzx556, hr⟩ := ob hr
      refine j_scrld (pc' := 1576) C HX dL_law_1575 hzx556 rfl ?_
      obtain ⟨zz557, hzz557, hr⟩ := ob hr
      obtain ⟨zx558, hzx558, hr⟩ := ob hr
      obtain ⟨fhzz557, hzz557⟩ := rcv_sp hzz557
      refine j_callV (ci := 8) (As := [.int zx556]) (rest := []) (st1 := [.int zx558]) (pc' := 1579) C ⟨wm_1349, wm_1350⟩ rfl hzz557 (c_X11_inside (nx := nzs9) hzx558) yw_X11_inside wm_1348 rfl rfl (Nat.le_of_ble_eq_true rfl) ⟨by decide, by decide⟩ dL_law_1576 rfl rfl ?_
      refine j_aload_n (q := 2) (pc' := 1580) C dL_law_1579 rfl rfl rfl ?_
      refine j_aload_n (q := 0) (pc' := 1581) C dL_law_1580 rfl rfl rfl ?_
      refine j_iload_n (q := 3) (pc' := 1582) C dL_law_1581 rfl rfl rfl ?_
      refine j_iconst (v := 1) (pc' := 1583) C dL_law_1582 kI_1 rfl ?_
      refine j_iadd (pc' := 1584) C dL_law_1583 rfl ?_
      obtain ⟨zx559, hzx559, hr⟩ := ob hr
      refine j_scrld (pc' := 1585) C HX dL_law_1584 hzx559 rfl ?_
      obtain ⟨zz560, hzz560, hr⟩ := ob hr
      obtain ⟨zq561, hzq561, hr⟩ := ob hr
      obtain ⟨fhzz560, hzz560⟩ := rcv_sp hzz560
      refine j_callV (ci := 9) (As := [.int zx559]) (rest := [.int zx558]) (st1 := [.int zq561.1, .int zx558]) (pc' := 1588) C ⟨wm_2091, wm_2092⟩ rfl hzz560 (c_X12_inside (nx := nzs9) hzq561) yw_X12_inside wm_2090 rfl rfl (Nat.le_of_ble_eq_true rfl) ⟨by decide, by decide⟩ dL_law_1585 rfl rfl ?_
      refine j_ic_eq (tgt := 1718) (pc' := 1591) C dL_law_1588 rfl rfl (fun hc => ?_) (fun hc => ?_)
      · have hr := ifT hc hr
        clear hc
        refine j_iinc (q := 3) (v := 6) (lv' := [(3, .int (zs9 + (6 : Int32))), (0, .ref b), (1, .ref nx), (2, .ref ((nx + 1) + zq3.2.2.1))]) (pc' := 1721) C dL_law_1718 rfl kI_6 (by decide) rfl rfl ?_
        refine j_goto (tgt := 18) C dL_law_1721 rfl ?_
        obtain ⟨azf562, bzf563, czf564, dzf565⟩ := some4 hr
        refine j_k (kc' := kS + zt11.2.2.1 + zK13) (ks' := sS + zt11.2.2.2 + zS14) (by omega) (by omega) ?_
        refine j_at (nx' := nzs9 + zb12.2.2.1) (by omega) bzf563.symm ?_
        exact j_lv [1, 2, 3, 0] rfl (izs9 _ azf562)
      · have hr := ifF hc hr
        clear hc
        cases hr
    have hr := ifF hc48 hr
    by_cases hc49 : (zx24 &&& (63 : Int32)) = (49 : Int32)
    · have hr := ifT hc49 hr
      refine j_tabIn (v := 49) (off := 1560) (tgt := 1593) C dL_law_33 hc49 (by decide) rfl ?_
      refine j_aload_n (q := 1) (pc' := 1594) C dL_law_1593 rfl rfl rfl ?_
      refine j_aload_n (q := 0) (pc' := 1595) C dL_law_1594 rfl rfl rfl ?_
      refine j_iload_n (q := 3) (pc' := 1596) C dL_law_1595 rfl rfl rfl ?_
      refine j_iconst (v := 1) (pc' := 1597) C dL_law_1596 kI_1 rfl ?_
      refine j_iadd (pc' := 1598) C dL_law_1597 rfl ?_
      obtain ⟨zx566, hzx566, hr⟩ := ob hr
      refine j_scrld (pc' := 1599) C HX dL_law_1598 hzx566 rfl ?_
      obtain ⟨zz567, hzz567, hr⟩ := ob hr
      obtain ⟨zq568, zt569, hzq568, hr, azt569, bzt569, czt569, dzt569⟩ := adcB_s hr
      refine j_k (kc' := kS + zt11.2.2.1 + zK13 + zt569.2.2.1 + zq568.2.2.1) (ks' := sS + zt11.2.2.2 + zS14 + zt569.2.2.2 + zq568.2.2.2) (by omega) (by omega) ?_
      obtain ⟨fhzz567, hzz567⟩ := rcv_sp hzz567
      refine j_callVA (ci := 8) (As := [.int zx566]) (rest := []) (st1 := [.int zq568.1]) (pc' := 1602) C ⟨wm_1353, wm_1354⟩ rfl hzz567 (c_X11_foretold hzq568) yw_X11_foretold wm_1352 rfl rfl (Nat.le_of_ble_eq_true rfl) ⟨by decide, by decide⟩ dL_law_1599 rfl rfl ?_
      refine j_aload_n (q := 2) (pc' := 1603) C dL_law_1602 rfl rfl rfl ?_
      refine j_aload_n (q := 0) (pc' := 1604) C dL_law_1603 rfl rfl rfl ?_
      refine j_iload_n (q := 3) (pc' := 1605) C dL_law_1604 rfl rfl rfl ?_
      refine j_iconst (v := 1) (pc' := 1606) C dL_law_1605 kI_1 rfl ?_
      refine j_iadd (pc' := 1607) C dL_law_1606 rfl ?_
      obtain ⟨zx570, hzx570, hr⟩ := ob hr
      refine j_scrld (pc' := 1608) C HX dL_law_1607 hzx570 rfl ?_
      obtain ⟨zz571, hzz571, hr⟩ := ob hr
      obtain ⟨zq572, hzq572, hr⟩ := ob hr
      obtain ⟨fhzz571, hzz571⟩ := rcv_sp hzz571
      refine j_callV (ci := 9) (As := [.int zx570]) (rest := [.int zq568.1]) (st1 := [.int zq572.1, .int zq568.1]) (pc' := 1611) C ⟨wm_2095, wm_2096⟩ rfl hzz571 (c_X12_foretold (nx := (nzs9 + zq568.2.2.1)) hzq572) yw_X12_foretold wm_2094 rfl rfl (Nat.le_of_ble_eq_true rfl) ⟨by decide, by decide⟩ dL_law_1608 rfl rfl ?_
      refine j_ic_eq (tgt := 1718) (pc' := 1614) C dL_law_1611 rfl rfl (fun hc => ?_) (fun hc => ?_)
      · have hr := ifT hc hr
        clear hc
        refine j_iinc (q := 3) (v := 6) (lv' := [(3, .int (zs9 + (6 : Int32))), (0, .ref b), (1, .ref nx), (2, .ref ((nx + 1) + zq3.2.2.1))]) (pc' := 1721) C dL_law_1718 rfl kI_6 (by decide) rfl rfl ?_
        refine j_goto (tgt := 18) C dL_law_1721 rfl ?_
        obtain ⟨azf573, bzf574, czf575, dzf576⟩ := some4 hr
        refine j_k (kc' := kS + zt11.2.2.1 + zK13) (ks' := sS + zt11.2.2.2 + zS14) (by omega) (by omega) ?_
        refine j_at (nx' := nzs9 + zb12.2.2.1) (by omega) (bzt569.trans bzf574).symm ?_
        exact j_lv [1, 2, 3, 0] rfl (izs9 _ (azt569.trans azf573))
      · have hr := ifF hc hr
        clear hc
        cases hr
    have hr := ifF hc49 hr
    by_cases hc50 : (zx24 &&& (63 : Int32)) = (50 : Int32)
    · have hr := ifT hc50 hr
      refine j_tabIn (v := 50) (off := 1583) (tgt := 1616) C dL_law_33 hc50 (by decide) rfl ?_
      refine j_aload_n (q := 1) (pc' := 1617) C dL_law_1616 rfl rfl rfl ?_
      obtain ⟨zz577, hzz577, hr⟩ := ob hr
      obtain ⟨zq578, zt579, hzq578, hr, azt579, bzt579, czt579, dzt579⟩ := adcB_s hr
      refine j_k (kc' := kS + zt11.2.2.1 + zK13 + zt579.2.2.1 + zq578.2.2.1) (ks' := sS + zt11.2.2.2 + zS14 + zt579.2.2.2 + zq578.2.2.2) (by omega) (by omega) ?_
      obtain ⟨fhzz577, hzz577⟩ := rcv_sp hzz577
      refine j_callVA (ci := 8) (As := []) (rest := []) (st1 := [.int zq578.1]) (pc' := 1620) C ⟨wm_1358, wm_1359⟩ rfl hzz577 (c_X11_till hzq578) yw_X11_till wm_1357 rfl rfl (Nat.le_of_ble_eq_true rfl) ⟨by decide, by decide⟩ dL_law_1617 rfl rfl ?_
      refine j_aload_n (q := 2) (pc' := 1621) C dL_law_1620 rfl rfl rfl ?_
      obtain ⟨zz580, hzz580, hr⟩ := ob hr
      obtain ⟨zq581, hzq581, hr⟩ := ob hr
      obtain ⟨fhzz580, hzz580⟩ := rcv_sp hzz580
      refine j_callV (ci := 9) (As := []) (rest := [.int zq578.1]) (st1 := [.int zq581.1, .int zq578.1]) (pc' := 1624) C ⟨wm_2107, wm_2108⟩ rfl hzz580 (c_X12_till (nx := (nzs9 + zq578.2.2.1)) hzq581) yw_X12_till wm_2106 rfl rfl (Nat.le_of_ble_eq_true rfl) ⟨by decide, by decide⟩ dL_law_1621 rfl rfl ?_
      refine j_ic_eq (tgt := 1718) (pc' := 1627) C dL_law_1624 rfl rfl (fun hc => ?_) (fun hc => ?_)
      · have hr := ifT hc hr
        clear hc
        refine j_iinc (q := 3) (v := 6) (lv' := [(3, .int (zs9 + (6 : Int32))), (0, .ref b), (1, .ref nx), (2, .ref ((nx + 1) + zq3.2.2.1))]) (pc' := 1721) C dL_law_1718 rfl kI_6 (by decide) rfl rfl ?_
        refine j_goto (tgt := 18) C dL_law_1721 rfl ?_
        obtain ⟨azf582, bzf583, czf584, dzf585⟩ := some4 hr
        refine j_k (kc' := kS + zt11.2.2.1 + zK13) (ks' := sS + zt11.2.2.2 + zS14) (by omega) (by omega) ?_
        refine j_at (nx' := nzs9 + zb12.2.2.1) (by omega) (bzt579.trans bzf583).symm ?_
        exact j_lv [1, 2, 3, 0] rfl (izs9 _ (azt579.trans azf582))
      · have hr := ifF hc hr
        clear hc
        cases hr
    have hr := ifF hc50 hr
    by_cases hc51 : (zx24 &&& (63 : Int32)) = (51 : Int32)
    · have hr := ifT hc51 hr
      refine j_tabIn (v := 51) (off := 1596) (tgt := 1629) C dL_law_33 hc51 (by decide) rfl ?_
      refine j_aload_n (q := 1) (pc' := 1630) C dL_law_1629 rfl rfl rfl ?_
      obtain ⟨zz586, hzz586, hr⟩ := ob hr
      obtain ⟨zq587, zt588, hzq587, hr, azt588, bzt588, czt588, dzt588⟩ := adcB_s hr
      refine j_k (kc' := kS + zt11.2.2.1 + zK13 + zt588.2.2.1 + zq587.2.2.1) (ks' := sS + zt11.2.2.2 + zS14 + zt588.2.2.2 + zq587.2.2.2) (by omega) (by omega) ?_
      obtain ⟨fhzz586, hzz586⟩ := rcv_sp hzz586
      refine j_callVA (ci := 8) (As := []) (rest := []) (st1 := [.int zq587.1]) (pc' := 1633) C ⟨wm_1362, wm_1363⟩ rfl hzz586 (c_X11_quickest hzq587) yw_X11_quickest wm_1361 rfl rfl (Nat.le_of_ble_eq_true rfl) ⟨by decide, by decide⟩ dL_law_1630 rfl rfl ?_
      refine j_aload_n (q := 2) (pc' := 1634) C dL_law_1633 rfl rfl rfl ?_
      obtain ⟨zz589, hzz589, hr⟩ := ob hr
      obtain ⟨zq590, hzq590, hr⟩ := ob hr
      obtain ⟨fhzz589, hzz589⟩ := rcv_sp hzz589
      refine j_callV (ci := 9) (As := []) (rest := [.int zq587.1]) (st1 := [.int zq590.1, .int zq587.1]) (pc' := 1637) C ⟨wm_2115, wm_2116⟩ rfl hzz589 (c_X12_quickest (nx := (nzs9 + zq587.2.2.1)) hzq590) yw_X12_quickest wm_2114 rfl rfl (Nat.le_of_ble_eq_true rfl) ⟨by decide, by decide⟩ dL_law_1634 rfl rfl ?_
      refine j_ic_eq (tgt := 1718) (pc' := 1640) C dL_law_1637 rfl rfl (fun hc => ?_) (fun hc => ?_)
      · have hr := ifT hc hr
        clear hc
        refine j_iinc (q := 3) (v := 6) (lv' := [(3, .int (zs9 + (6 : Int32))), (0, .ref b), (1, .ref nx), (2, .ref ((nx + 1) + zq3.2.2.1))]) (pc' := 1721) C dL_law_1718 rfl kI_6 (by decide) rfl rfl ?_
        refine j_goto (tgt := 18) C dL_law_1721 rfl ?_
        obtain ⟨azf591, bzf592, czf593, dzf594⟩ := some4 hr
        refine j_k (kc' := kS + zt11.2.2.1 + zK13) (ks' := sS + zt11.2.2.2 + zS14) (by omega) (by omega) ?_
        refine j_at (nx' := nzs9 + zb12.2.2.1) (by omega) (bzt588.trans bzf592).symm ?_
        exact j_lv [1, 2, 3, 0] rfl (izs9 _ (azt588.trans azf591))
      · have hr := ifF hc hr
        clear hc
        cases hr
    have hr := ifF hc51 hr
    by_cases hc52 : (zx24 &&& (63 : Int32)) = (52 : Int32)
    · have hr := ifT hc52 hr
      refine j_tabIn (v := 52) (off := 1609) (tgt := 1642) C dL_law_33 hc52 (by decide) rfl ?_
      refine j_aload_n (q := 1) (pc' := 1643) C dL_law_1642 rfl rfl rfl ?_
      obtain ⟨zz595, hzz595, hr⟩ := ob hr
      obtain ⟨zq596, zt597, hzq596, hr, azt597, bzt597, czt597, dzt597⟩ := adcB_s hr
      refine j_k (kc' := kS + zt11.2.2.1 + zK13 + zt597.2.2.1 + zq596.2.2.1) (ks' := sS + zt11.2.2.2 + zS14 + zt597.2.2.2 + zq596.2.2.2) (by omega) (by omega) ?_
      obtain ⟨fhzz595, hzz595⟩ := rcv_sp hzz595
      refine j_callVA (ci := 8) (As := []) (rest := []) (st1 := [.int zq596.1]) (pc' := 1646) C ⟨wm_1366, wm_1367⟩ rfl hzz595 (c_X11_bestMode hzq596) yw_X11_bestMode wm_1365 rfl rfl (Nat.le_of_ble_eq_true rfl) ⟨by decide, by decide⟩ dL_law_1643 rfl rfl ?_
      refine j_aload_n (q := 2) (pc' := 1647) C dL_law_1646 rfl rfl rfl ?_
      obtain ⟨zz598, hzz598, hr⟩ := ob hr
      obtain ⟨zq599, hzq599, hr⟩ := ob hr
      obtain ⟨fhzz598, hzz598⟩ := rcv_sp hzz598
      refine j_callV (ci := 9) (As := []) (rest := [.int zq596.1]) (st1 := [.int zq599.1, .int zq596.1]) (pc' := 1650) C ⟨wm_2119, wm_2120⟩ rfl hzz598 (c_X12_bestMode (nx := (nzs9 + zq596.2.2.1)) hzq599) yw_X12_bestMode wm_2118 rfl rfl (Nat.le_of_ble_eq_true rfl) ⟨by decide, by decide⟩ dL_law_1647 rfl rfl ?_
      refine j_ic_eq (tgt := 1718) (pc' := 1653) C dL_law_1650 rfl rfl (fun hc => ?_) (fun hc => ?_)
      · have hr := ifT hc hr
        clear hc
        refine j_iinc (q := 3) (v := 6) (lv' := [(3, .int (zs9 + (6 : Int32))), (0, .ref b), (1, .ref nx), (2, .ref ((nx + 1) + zq3.2.2.1))]) (pc' := 1721) C dL_law_1718 rfl kI_6 (by decide) rfl rfl ?_
        refine j_goto (tgt := 18) C dL_law_1721 rfl ?_
        obtain ⟨azf600, bzf601, czf602, dzf603⟩ := some4 hr
        refine j_k (kc' := kS + zt11.2.2.1 + zK13) (ks' := sS + zt11.2.2.2 + zS14) (by omega) (by omega) ?_
        refine j_at (nx' := nzs9 + zb12.2.2.1) (by omega) (bzt597.trans bzf601).symm ?_
        exact j_lv [1, 2, 3, 0] rfl (izs9 _ (azt597.trans azf600))
      · have hr := ifF hc hr
        clear hc
        cases hr
    have hr := ifF hc52 hr
    by_cases hc53 : (zx24 &&& (63 : Int32)) = (53 : Int32)
    · have hr := ifT hc53 hr
      refine j_tabIn (v := 53) (off := 1622) (tgt := 1655) C dL_law_33 hc53 (by decide) rfl ?_
      refine j_aload_n (q := 1) (pc' := 1656) C dL_law_1655 rfl rfl rfl ?_
      obtain ⟨zz604, hzz604, hr⟩ := ob hr
      obtain ⟨zx605, hzx605, hr⟩ := ob hr
      obtain ⟨fhzz604, hzz604⟩ := rcv_sp hzz604
      refine j_callV (ci := 8) (As := []) (rest := []) (st1 := [.long zx605]) (pc' := 1659) C ⟨wm_1370, wm_1371⟩ rfl hzz604 (c_X11_mean (nx := nzs9) hzx605) yw_X11_mean wm_1369 rfl rfl (Nat.le_of_ble_eq_true rfl) ⟨by decide, by decide⟩ dL_law_1656 rfl rfl ?_
      refine j_aload_n (q := 2) (pc' := 1660) C dL_law_1659 rfl rfl rfl ?_
      obtain ⟨zz606, hzz606, hr⟩ := ob hr
      obtain ⟨zx607, hzx607, hr⟩ := ob hr
      obtain ⟨fhzz606, hzz606⟩ := rcv_sp hzz606
      refine j_callV (ci := 9) (As := []) (rest := [.long zx605]) (st1 := [.long zx607, .long zx605]) (pc' := 1663) C ⟨wm_2123, wm_2124⟩ rfl hzz606 (c_X12_mean (nx := nzs9) hzx607) yw_X12_mean wm_2122 rfl rfl (Nat.le_of_ble_eq_true rfl) ⟨by decide, by decide⟩ dL_law_1660 rfl rfl ?_
      refine j_lcmp (pc' := 1664) C dL_law_1663 rfl ?_
      refine j_if_eq (tgt := 1718) (pc' := 1667) C dL_law_1664 rfl rfl (fun hc => ?_) (fun hc => ?_)
      · have hr := ifT hc hr
        clear hc
        refine j_iinc (q := 3) (v := 6) (lv' := [(3, .int (zs9 + (6 : Int32))), (0, .ref b), (1, .ref nx), (2, .ref ((nx + 1) + zq3.2.2.1))]) (pc' := 1721) C dL_law_1718 rfl kI_6 (by decide) rfl rfl ?_
        refine j_goto (tgt := 18) C dL_law_1721 rfl ?_
        obtain ⟨azf608, bzf609, czf610, dzf611⟩ := some4 hr
        refine j_k (kc' := kS + zt11.2.2.1 + zK13) (ks' := sS + zt11.2.2.2 + zS14) (by omega) (by omega) ?_
        refine j_at (nx' := nzs9 + zb12.2.2.1) (by omega) bzf609.symm ?_
        exact j_lv [1, 2, 3, 0] rfl (izs9 _ azf608)
      · have hr := ifF hc hr
        clear hc
        cases hr
    have hr := ifF hc53 hr
    by_cases hc54 : (zx24 &&& (63 : Int32)) = (54 : Int32)
    · have hr := ifT hc54 hr
      refine j_tabIn (v := 54) (off := 1636) (tgt := 1669) C dL_law_33 hc54 (by decide) rfl ?_
      refine j_aload_n (q := 1) (pc' := 1670) C dL_law_1669 rfl rfl rfl ?_
      obtain ⟨zz612, hzz612, hr⟩ := ob hr
      obtain ⟨zq613, zt614, hzq613, hr, azt614, bzt614, czt614, dzt614⟩ := adcB_s hr
      refine j_k (kc' := kS + zt11.2.2.1 + zK13 + zt614.2.2.1 + zq613.2.2.1) (ks' := sS + zt11.2.2.2 + zS14 + zt614.2.2.2 + zq613.2.2.2) (by omega) (by omega) ?_
      obtain ⟨fhzz612, hzz612⟩ := rcv_sp hzz612
      refine j_callVA (ci := 8) (As := []) (rest := []) (st1 := [.int zq613.1]) (pc' := 1673) C ⟨wm_1380, wm_1381⟩ rfl hzz612 (c_X11_image hzq613) yw_X11_image wm_1379 rfl rfl (Nat.le_of_ble_eq_true rfl) ⟨by decide, by decide⟩ dL_law_1670 rfl rfl ?_
      refine j_aload_n (q := 2) (pc' := 1674) C dL_law_1673 rfl rfl rfl ?_
      obtain ⟨zz615, hzz615, hr⟩ := ob hr
      obtain ⟨zq616, hzq616, hr⟩ := ob hr
      obtain ⟨fhzz615, hzz615⟩ := rcv_sp hzz615
      refine j_callV (ci := 9) (As := []) (rest := [.int zq613.1]) (st1 := [.int zq616.1, .int zq613.1]) (pc' := 1677) C ⟨wm_2137, wm_2138⟩ rfl hzz615 (c_X12_image (nx := (nzs9 + zq613.2.2.1)) hzq616) yw_X12_image wm_2136 rfl rfl (Nat.le_of_ble_eq_true rfl) ⟨by decide, by decide⟩ dL_law_1674 rfl rfl ?_
      refine j_ic_eq (tgt := 1718) (pc' := 1680) C dL_law_1677 rfl rfl (fun hc => ?_) (fun hc => ?_)
      · have hr := ifT hc hr
        clear hc
        refine j_iinc (q := 3) (v := 6) (lv' := [(3, .int (zs9 + (6 : Int32))), (0, .ref b), (1, .ref nx), (2, .ref ((nx + 1) + zq3.2.2.1))]) (pc' := 1721) C dL_law_1718 rfl kI_6 (by decide) rfl rfl ?_
        refine j_goto (tgt := 18) C dL_law_1721 rfl ?_
        obtain ⟨azf617, bzf618, czf619, dzf620⟩ := some4 hr
        refine j_k (kc' := kS + zt11.2.2.1 + zK13) (ks' := sS + zt11.2.2.2 + zS14) (by omega) (by omega) ?_
        refine j_at (nx' := nzs9 + zb12.2.2.1) (by omega) (bzt614.trans bzf618).symm ?_
        exact j_lv [1, 2, 3, 0] rfl (izs9 _ (azt614.trans azf617))
      · have hr := ifF hc hr
        clear hc
        cases hr
    have hr := ifF hc54 hr
    by_cases hc55 : (zx24 &&& (63 : Int32)) = (55 : Int32)
    · have hr := ifT hc55 hr
      refine j_tabIn (v := 55) (off := 1649) (tgt := 1682) C dL_law_33 hc55 (by decide) rfl ?_
      refine j_aload_n (q := 1) (pc' := 1683) C dL_law_1682 rfl rfl rfl ?_
      obtain ⟨zz621, hzz621, hr⟩ := ob hr
      obtain ⟨zq622, zt623, hzq622, hr, azt623, bzt623, czt623, dzt623⟩ := adcB_s hr
      refine j_k (kc' := kS + zt11.2.2.1 + zK13 + zt623.2.2.1 + zq622.2.2.1) (ks' := sS + zt11.2.2.2 + zS14 + zt623.2.2.2 + zq622.2.2.2) (by omega) (by omega) ?_
      obtain ⟨fhzz621, hzz621⟩ := rcv_sp hzz621
      refine j_callVA (ci := 8) (As := []) (rest := []) (st1 := [.int zq622.1]) (pc' := 1686) C ⟨wm_1388, wm_1389⟩ rfl hzz621 (c_X11_back hzq622) yw_X11_back wm_1387 rfl rfl (Nat.le_of_ble_eq_true rfl) ⟨by decide, by decide⟩ dL_law_1683 rfl rfl ?_
      refine j_aload_n (q := 2) (pc' := 1687) C dL_law_1686 rfl rfl rfl ?_
      obtain ⟨zz624, hzz624, hr⟩ := ob hr
      obtain ⟨zq625, hzq625, hr⟩ := ob hr
      obtain ⟨fhzz624, hzz624⟩ := rcv_sp hzz624
      refine j_callV (ci := 9) (As := []) (rest := [.int zq622.1]) (st1 := [.int zq625.1, .int zq622.1]) (pc' := 1690) C ⟨wm_2141, wm_2142⟩ rfl hzz624 (c_X12_back (nx := (nzs9 + zq622.2.2.1)) hzq625) yw_X12_back wm_2140 rfl rfl (Nat.le_of_ble_eq_true rfl) ⟨by decide, by decide⟩ dL_law_1687 rfl rfl ?_
      refine j_ic_eq (tgt := 1718) (pc' := 1693) C dL_law_1690 rfl rfl (fun hc => ?_) (fun hc => ?_)
      · have hr := ifT hc hr
        clear hc
        refine j_iinc (q := 3) (v := 6) (lv' := [(3, .int (zs9 + (6 : Int32))), (0, .ref b), (1, .ref nx), (2, .ref ((nx + 1) + zq3.2.2.1))]) (pc' := 1721) C dL_law_1718 rfl kI_6 (by decide) rfl rfl ?_
        refine j_goto (tgt := 18) C dL_law_1721 rfl ?_
        obtain ⟨azf626, bzf627, czf628, dzf629⟩ := some4 hr
        refine j_k (kc' := kS + zt11.2.2.1 + zK13) (ks' := sS + zt11.2.2.2 + zS14) (by omega) (by omega) ?_
        refine j_at (nx' := nzs9 + zb12.2.2.1) (by omega) (bzt623.trans bzf627).symm ?_
        exact j_lv [1, 2, 3, 0] rfl (izs9 _ (azt623.trans azf626))
      · have hr := ifF hc hr
        clear hc
        cases hr
    have hr := ifF hc55 hr
    by_cases hc56 : (zx24 &&& (63 : Int32)) = (56 : Int32)
    · have hr := ifT hc56 hr
      refine j_tabIn (v := 56) (off := 1662) (tgt := 1695) C dL_law_33 hc56 (by decide) rfl ?_
      refine j_aload_n (q := 1) (pc' := 1696) C dL_law_1695 rfl rfl rfl ?_
      refine j_aload_n (q := 0) (pc' := 1697) C dL_law_1696 rfl rfl rfl ?_
      refine j_iload_n (q := 3) (pc' := 1698) C dL_law_1697 rfl rfl rfl ?_
      refine j_iconst (v := 1) (pc' := 1699) C dL_law_1698 kI_1 rfl ?_
      refine j_iadd (pc' := 1700) C dL_law_1699 rfl ?_
      obtain ⟨zx630, hzx630, hr⟩ := ob hr
      refine j_scrld (pc' := 1701) C HX dL_law_1700 hzx630 rfl ?_
      obtain ⟨zz631, hzz631, hr⟩ := ob hr
      obtain ⟨zx632, hzx632, hr⟩ := ob hr
      obtain ⟨fhzz631, hzz631⟩ := rcv_sp hzz631
      refine j_callV (ci := 8) (As := [.int zx630]) (rest := []) (st1 := [.int zx632]) (pc' := 1704) C ⟨wm_1392, wm_1393⟩ rfl hzz631 (c_X11_about (nx := nzs9) hzx632) yw_X11_about wm_1391 rfl rfl (Nat.le_of_ble_eq_true rfl) ⟨by decide, by decide⟩ dL_law_1701 rfl rfl ?_
      refine j_aload_n (q := 2) (pc' := 1705) C dL_law_1704 rfl rfl rfl ?_
      refine j_aload_n (q := 0) (pc' := 1706) C dL_law_1705 rfl rfl rfl ?_
      refine j_iload_n (q := 3) (pc' := 1707) C dL_law_1706 rfl rfl rfl ?_
      refine j_iconst (v := 1) (pc' := 1708) C dL_law_1707 kI_1 rfl ?_
      refine j_iadd (pc' := 1709) C dL_law_1708 rfl ?_
      obtain ⟨zx633, hzx633, hr⟩ := ob hr
      refine j_scrld (pc' := 1710) C HX dL_law_1709 hzx633 rfl ?_
      obtain ⟨zz634, hzz634, hr⟩ := ob hr
      obtain ⟨zx635, hzx635, hr⟩ := ob hr
      obtain ⟨fhzz634, hzz634⟩ := rcv_sp hzz634
      refine j_callV (ci := 9) (As := [.int zx633]) (rest := [.int zx632]) (st1 := [.int zx635, .int zx632]) (pc' := 1713) C ⟨wm_2145, wm_2146⟩ rfl hzz634 (c_X12_about (nx := nzs9) hzx635) yw_X12_about wm_2144 rfl rfl (Nat.le_of_ble_eq_true rfl) ⟨by decide, by decide⟩ dL_law_1710 rfl rfl ?_
      refine j_ic_eq (tgt := 1718) (pc' := 1716) C dL_law_1713 rfl rfl (fun hc => ?_) (fun hc => ?_)
      · have hr := ifT hc hr
        clear hc
        refine j_iinc (q := 3) (v := 6) (lv' := [(3, .int (zs9 + (6 : Int32))), (0, .ref b), (1, .ref nx), (2, .ref ((nx + 1) + zq3.2.2.1))]) (pc' := 1721) C dL_law_1718 rfl kI_6 (by decide) rfl rfl ?_
        refine j_goto (tgt := 18) C dL_law_1721 rfl ?_
        obtain ⟨azf636, bzf637, czf638, dzf639⟩ := some4 hr
        refine j_k (kc' := kS + zt11.2.2.1 + zK13) (ks' := sS + zt11.2.2.2 + zS14) (by omega) (by omega) ?_
        refine j_at (nx' := nzs9 + zb12.2.2.1) (by omega) bzf637.symm ?_
        exact j_lv [1, 2, 3, 0] rfl (izs9 _ azf636)
      · have hr := ifF hc hr
        clear hc
        cases hr
    have hr := ifF hc56 hr
    refine j_tabOut (tgt := 1718) C dL_law_33 (tab_out 57 (by decide) (by decide) (by decide) (fun i hi => by
      match i, hi with
      | 0, _ => exact hc0
      | 1, _ => exact hc1
      | 2, _ => exact hc2
      | 3, _ => exact hc3
      | 4, _ => exact hc4
      | 5, _ => exact hc5
      | 6, _ => exact hc6
      | 7, _ => exact hc7
      | 8, _ => exact hc8
      | 9, _ => exact hc9
      | 10, _ => exact hc10
      | 11, _ => exact hc11
      | 12, _ => exact hc12
      | 13, _ => exact hc13
      | 14, _ => exact hc14
      | 15, _ => exact hc15
      | 16, _ => exact hc16
      | 17, _ => exact hc17
      | 18, _ => exact hc18
      | 19, _ => exact hc19
      | 20, _ => exact hc20
      | 21, _ => exact hc21
      | 22, _ => exact hc22
      | 23, _ => exact hc23
      | 24, _ => exact hc24
      | 25, _ => exact hc25
      | 26, _ => exact hc26
      | 27, _ => exact hc27
      | 28, _ => exact hc28
      | 29, _ => exact hc29
      | 30, _ => exact hc30
      | 31, _ => exact hc31
      | 32, _ => exact hc32
      | 33, _ => exact hc33
      | 34, _ => exact hc34
      | 35, _ => exact hc35
      | 36, _ => exact hc36
      | 37, _ => exact hc37
      | 38, _ => exact hc38
      | 39, _ => exact hc39
      | 40, _ => exact hc40
      | 41, _ => exact hc41
      | 42, _ => exact hc42
      | 43, _ => exact hc43
      | 44, _ => exact hc44
      | 45, _ => exact hc45
      | 46, _ => exact hc46
      | 47, _ => exact hc47
      | 48, _ => exact hc48
      | 49, _ => exact hc49
      | 50, _ => exact hc50
      | 51, _ => exact hc51
      | 52, _ => exact hc52
      | 53, _ => exact hc53
      | 54, _ => exact hc54
      | 55, _ => exact hc55
      | 56, _ => exact hc56
      | i + 57, hi => omega)) rfl ?_
    refine j_iinc (q := 3) (v := 6) (lv' := [(3, .int (zs9 + (6 : Int32))), (0, .ref b), (1, .ref nx), (2, .ref ((nx + 1) + zq3.2.2.1))]) (pc' := 1721) C dL_law_1718 rfl kI_6 (by decide) rfl rfl ?_
    refine j_goto (tgt := 18) C dL_law_1721 rfl ?_
    obtain ⟨azf640, bzf641, czf642, dzf643⟩ := some4 hr
    refine j_k (kc' := kS + zt11.2.2.1 + zK13) (ks' := sS + zt11.2.2.2 + zS14) (by omega) (by omega) ?_
    refine j_at (nx' := nzs9 + zb12.2.2.1) (by omega) bzf641.symm ?_
    exact j_lv [1, 2, 3, 0] rfl (izs9 _ azf640)
