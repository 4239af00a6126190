def lpL_law (L : Nat) (xs : Nat → Int32) : Nat → zW → Int32 → Option zW
  | 0, _, _ => none
  | n + 1, w, i => (if ((Int32.ofNat L) - (6 : Int32)) < i then (some w) else (Option.bind (zrs L xs i) fun v1 => (if (v1 &&& (63 : Int32)) = 0 then (Option.bind (zrs L xs (i + (1 : Int32))) fun v50 => zb2 (fX6_village w v50) fun v53 w54 => Option.bind (zrs L xs (i + (1 : Int32))) fun v55 => zb2 (fX7_village w54 v55) fun v58 w59 => (if v53 = v58 then (lpL_law L xs n w59 (i + 6)) else (none))) else (if (v1 &&& (63 : Int32)) = 1 then (Option.bind (zrs L xs (i + (1 : Int32))) fun v61 => Option.bind (zrs L xs (i + (2 : Int32))) fun v63 => zb2 (fX6_villageOf w v61 v63) fun v66 w67 => Option.bind (zrs L xs (i + (1 : Int32))) fun v68 => Option.bind (zrs L xs (i + (2 : Int32))) fun v70 => zb2 (fX7_villageOf w67 v68 v70) fun v73 w74 => (if v66 = v73 then (lpL_law L xs n w74 (i + 6)) else (none))) else (if (v1 &&& (63 : Int32)) = 2 then (Option.bind (zrs L xs (i + (1 : Int32))) fun v76 => Option.bind (zrs L xs (i + (2 : Int32))) fun v78 => zb2 (fX6_slide w v76 v78) fun v81 w82 => Option.bind (zrs L xs (i + (1 : Int32))) fun v83 => Option.bind (zrs L xs (i + (2 : Int32))) fun v85 => zb2 (fX7_slide w82 v83 v85) fun v88 w89 => (if v81 = v88 then (lpL_law L xs n w89 (i + 6)) else (none))) else (if (v1 &&& (63 : Int32)) = 3 then (Option.bind (zrs L xs (i + (1 : Int32))) fun v91 => Option.bind (zrs L xs (i + (2 : Int32))) fun v93 => Option.bind (if v93 = 0 then (some (0 : Int32)) else (some (1 : Int32))) fun x95 => zb2 (fX6_hermit w v91 x95) fun v99 w100 => Option.bind (zrs L xs (i + (1 : Int32))) fun v101 => Option.bind (zrs L xs (i + (2 : Int32))) fun v103 => Option.bind (if v103 = 0 then (some (0 : Int32)) else (some (1 : Int32))) fun x105 => zb2 (fX7_hermit w100 v101 x105) fun v109 w110 => (if v99 = v109 then (lpL_law L xs n w110 (i + 6)) else (none))) else (if (v1 &&& (63 : Int32)) = 4 then (Option.bind (zrs L xs (i + (1 : Int32))) fun v114 => Option.bind (zrs L xs (i + (2 : Int32))) fun v116 => Option.bind (zrs L xs (i + (3 : Int32))) fun v118 => zb2 (fX6_road w v114 v116 v118) fun v121 w122 => Option.bind (zrs L xs (i + (1 : Int32))) fun v123 => Option.bind (zrs L xs (i + (2 : Int32))) fun v125 => Option.bind (zrs L xs (i + (3 : Int32))) fun v127 => zb2 (fX7_road w122 v123 v125 v127) fun v130 w131 => (if v121 = v130 then (lpL_law L xs n w131 (i + 6)) else (none))) else (if (v1 &&& (63 : Int32)) = 5 then (Option.bind (zrs L xs (i + (1 : Int32))) fun v133 => Option.bind (zrs L xs (i + (2 : Int32))) fun v135 => zb2 (fX6_roadOf w v133 v135) fun v138 w139 => Option.bind (zrs L xs (i + (1 : Int32))) fun v140 => Option.bind (zrs L xs (i + (2 : Int32))) fun v142 => zb2 (fX7_roadOf w139 v140 v142) fun v145 w146 => (if v138 = v145 then (lpL_law L xs n w146 (i + 6)) else (none))) else (if (v1 &&& (63 : Int32)) = 6 then (Option.bind (zrs L xs (i + (1 : Int32))) fun v148 => zb2 (fX6_every w v148) fun v151 w152 => Option.bind (zrs L xs (i + (1 : Int32))) fun v153 => zb2 (fX7_every w152 v153) fun v156 w157 => (if v151 = v156 then (lpL_law L xs n w157 (i + 6)) else (none))) else (if (v1 &&& (63 : Int32)) = 7 then (zb2 (fX6_sea w) fun v160 w161 => zb2 (fX7_sea w161) fun v163 w164 => (if v160 = v163 then (lpL_law L xs n w164 (i + 6)) else (none))) else (if (v1 &&& (63 : Int32)) = 8 then (zb2 (fX6_peak w) fun v167 w168 => zb2 (fX7_peak w168) fun v170 w171 => (if v167 = v170 then (lpL_law L xs n w171 (i + 6)) else (none))) else (if (v1 &&& (63 : Int32)) = 9 then (Option.bind (zrs L xs (i + (1 : Int32))) fun v173 => Option.bind (zrs L xs (i + (2 : Int32))) fun v175 => zb2 (fX6_needs w v173 v175) fun v178 w179 => Option.bind (zrs L xs (i + (1 : Int32))) fun v180 => Option.bind (zrs L xs (i + (2 : Int32))) fun v182 => zb2 (fX7_needs w179 v180 v182) fun v185 w186 => (if v178 = v185 then (lpL_law L xs n w186 (i + 6)) else (none))) else (if (v1 &&& (63 : Int32)) = 10 then (Option.bind (zrs L xs (i + (1 : Int32))) fun v188 => Option.bind (zrs L xs (i + (2 : Int32))) fun v190 => Option.bind (zrs L xs (i + (3 : Int32))) fun v192 => Option.bind (if v192 = 0 then (some (0 : Int32)) else (some (1 : Int32))) fun x194 => zb2 (fX6_goes w v188 v190 x194) fun v198 w199 => Option.bind (zrs L xs (i + (1 : Int32))) fun v200 => Option.bind (zrs L xs (i + (2 : Int32))) fun v202 => Option.bind (zrs L xs (i + (3 : Int32))) fun v204 => Option.bind (if v204 = 0 then (some (0 : Int32)) else (some (1 : Int32))) fun x206 => zb2 (fX7_goes w199 v200 v202 x206) fun v210 w211 => (if v198 = v210 then (lpL_law L xs n w211 (i + 6)) else (none))) else (if (v1 &&& (63 : Int32)) = 11 then (Option.bind (zrs L xs (i + (1 : Int32))) fun v215 => Option.bind (zrs L xs (i + (2 : Int32))) fun v217 => Option.bind (zrs L xs (i + (3 : Int32))) fun v219 => zb2 (fX6_least w v215 v217 v219) fun v222 w223 => Option.bind (zrs L xs (i + (1 : Int32))) fun v224 => Option.bind (zrs L xs (i + (2 : Int32))) fun v226 => Option.bind (zrs L xs (i + (3 : Int32))) fun v228 => zb2 (fX7_least w223 v224 v226 v228) fun v231 w232 => (if v222 = v231 then (lpL_law L xs n w232 (i + 6)) else (none))) else (if (v1 &&& (63 : Int32)) = 12 then (Option.bind (zrs L xs (i + (1 : Int32))) fun v234 => Option.bind (zrs L xs (i + (2 : Int32))) fun v236 => zb2 (fX6_reach w v234 v236) fun v239 w240 => Option.bind (zrs L xs (i + (1 : Int32))) fun v241 => Option.bind (zrs L xs (i + (2 : Int32))) fun v243 => zb2 (fX7_reach w240 v241 v243) fun v246 w247 => (if v239 = v246 then (lpL_law L xs n w247 (i + 6)) else (none))) else (if (v1 &&& (63 : Int32)) = 13 then (Option.bind (zrs L xs (i + (1 : Int32))) fun v249 => Option.bind (zrs L xs (i + (2 : Int32))) fun v251 => zb2 (fX6_whence w v249 v251) fun v254 w255 => Option.bind (zrs L xs (i + (1 : Int32))) fun v256 => Option.bind (zrs L xs (i + (2 : Int32))) fun v258 => zb2 (fX7_whence w255 v256 v258) fun v261 w262 => (if v254 = v261 then (lpL_law L xs n w262 (i + 6)) else (none))) else (if (v1 &&& (63 : Int32)) = 14 then (Option.bind (zrs L xs (i + (1 : Int32))) fun v264 => Option.bind (zrs L xs (i + (2 : Int32))) fun v266 => zb2 (fX6_below w v264 v266) fun v269 w270 => Option.bind (zrs L xs (i + (1 : Int32))) fun v271 => Option.bind (zrs L xs (i + (2 : Int32))) fun v273 => zb2 (fX7_below w270 v271 v273) fun v276 w277 => (if v269 = v276 then (lpL_law L xs n w277 (i + 6)) else (none))) else (if (v1 &&& (63 : Int32)) = 15 then (Option.bind (zrs L xs (i + (1 : Int32))) fun v279 => Option.bind (zrs L xs (i + (2 : Int32))) fun v281 => Option.bind (zrs L xs (i + (3 : Int32))) fun v283 => zb2 (fX6_round w v279 v281 v283) fun v286 w287 => Option.bind (zrs L xs (i + (1 : Int32))) fun v288 => Option.bind (zrs L xs (i + (2 : Int32))) fun v290 => Option.bind (zrs L xs (i + (3 : Int32))) fun v292 => zb2 (fX7_round w287 v288 v290 v292) fun v295 w296 => (if v286 = v295 then (lpL_law L xs n w296 (i + 6)) else (none))) else (if (v1 &&& (63 : Int32)) = 16 then (Option.bind (zrs L xs (i + (1 : Int32))) fun v298 => Option.bind (zrs L xs (i + (2 : Int32))) fun v300 => zb2 (fX6_live w v298 v300) fun v303 w304 => Option.bind (zrs L xs (i + (1 : Int32))) fun v305 => Option.bind (zrs L xs (i + (2 : Int32))) fun v307 => zb2 (fX7_live w304 v305 v307) fun v310 w311 => (if v303 = v310 then (lpL_law L xs n w311 (i + 6)) else (none))) else (if (v1 &&& (63 : Int32)) = 17 then (Option.bind (zrs L xs (i + (1 : Int32))) fun v313 => zb2 (fX6_quiet w v313) fun v316 w317 => Option.bind (zrs L xs (i + (1 : Int32))) fun v318 => zb2 (fX7_quiet w317 v318) fun v321 w322 => (if v316 = v321 then (lpL_law L xs n w322 (i + 6)) else (none))) else (if (v1 &&& (63 : Int32)) = 18 then (Option.bind (zrs L xs (i + (1 : Int32))) fun v324 => Option.bind (zrs L xs (i + (2 : Int32))) fun v326 => zb2 (fX6_kind w v324 v326) fun v329 w330 => Option.bind (zrs L xs (i + (1 : Int32))) fun v331 => Option.bind (zrs L xs (i + (2 : Int32))) fun v333 => zb2 (fX7_kind w330 v331 v333) fun v336 w337 => (if v329 = v336 then (lpL_law L xs n w337 (i + 6)) else (none))) else (if (v1 &&& (63 : Int32)) = 19 then (Option.bind (zrs L xs (i + (1 : Int32))) fun v339 => Option.bind (zrs L xs (i + (2 : Int32))) fun v341 => Option.bind (zrs L xs (i + (3 : Int32))) fun v343 => zb2 (fX6_rise w v339 v341 v343) fun v346 w347 => Option.bind (zrs L xs (i + (1 : Int32))) fun v348 => Option.bind (zrs L xs (i + (2 : Int32))) fun v350 => Option.bind (zrs L xs (i + (3 : Int32))) fun v352 => zb2 (fX7_rise w347 v348 v350 v352) fun v355 w356 => (if v346 = v355 then (lpL_law L xs n w356 (i + 6)) else (none))) else (if (v1 &&& (63 : Int32)) = 20 then (Option.bind (zrs L xs (i + (1 : Int32))) fun v358 => Option.bind (zrs L xs (i + (2 : Int32))) fun v360 => Option.bind (zrs L xs (i + (3 : Int32))) fun v362 => zb2 (fX6_fall w v358 v360 v362) fun v365 w366 => Option.bind (zrs L xs (i + (1 : Int32))) fun v367 => Option.bind (zrs L xs (i + (2 : Int32))) fun v369 => Option.bind (zrs L xs (i + (3 : Int32))) fun v371 => zb2 (fX7_fall w366 v367 v369 v371) fun v374 w375 => (if v365 = v374 then (lpL_law L xs n w375 (i + 6)) else (none))) else (if (v1 &&& (63 : Int32)) = 21 then (Option.bind (zrs L xs (i + (1 : Int32))) fun v377 => Option.bind (zrs L xs (i + (2 : Int32))) fun v379 => zb2 (fX6_dig w v377 v379) fun v382 w383 => Option.bind (zrs L xs (i + (1 : Int32))) fun v384 => Option.bind (zrs L xs (i + (2 : Int32))) fun v386 => zb2 (fX7_dig w383 v384 v386) fun v389 w390 => (if v382 = v389 then (lpL_law L xs n w390 (i + 6)) else (none))) else (if (v1 &&& (63 : Int32)) = 22 then (Option.bind (zrs L xs (i + (1 : Int32))) fun v392 => Option.bind (zrs L xs (i + (2 : Int32))) fun v394 => Option.bind (zrs L xs (i + (3 : Int32))) fun v396 => zb2 (fX6_send w v392 v394 v396) fun v399 w400 => Option.bind (zrs L xs (i + (1 : Int32))) fun v401 => Option.bind (zrs L xs (i + (2 : Int32))) fun v403 => Option.bind (zrs L xs (i + (3 : Int32))) fun v405 => zb2 (fX7_send w400 v401 v403 v405) fun v408 w409 => (if v399 = v408 then (lpL_law L xs n w409 (i + 6)) else (none))) else (if (v1 &&& (63 : Int32)) = 23 then (Option.bind (zrs L xs (i + (1 : Int32))) fun v411 => Option.bind (zrs L xs (i + (2 : Int32))) fun v413 => zb2 (fX6_of w v411 v413) fun v416 w417 => Option.bind (zrs L xs (i + (1 : Int32))) fun v418 => Option.bind (zrs L xs (i + (2 : Int32))) fun v420 => zb2 (fX7_of w417 v418 v420) fun v423 w424 => (if v416 = v423 then (lpL_law L xs n w424 (i + 6)) else (none))) else (if (v1 &&& (63 : Int32)) = 24 then (Option.bind (zrs L xs (i + (1 : Int32))) fun v426 => Option.bind (zrs L xs (i + (2 : Int32))) fun v428 => zb2 (fX6_turn w v426 v428) fun v431 w432 => Option.bind (zrs L xs (i + (1 : Int32))) fun v433 => Option.bind (zrs L xs (i + (2 : Int32))) fun v435 => zb2 (fX7_turn w432 v433 v435) fun v438 w439 => (if v431 = v438 then (lpL_law L xs n w439 (i + 6)) else (none))) else (if (v1 &&& (63 : Int32)) = 25 then (Option.bind (zrs L xs (i + (1 : Int32))) fun v441 => Option.bind (zrs L xs (i + (2 : Int32))) fun v443 => zb2 (fX6_as w v441 v443) fun v446 w447 => Option.bind (zrs L xs (i + (1 : Int32))) fun v448 => Option.bind (zrs L xs (i + (2 : Int32))) fun v450 => zb2 (fX7_as w447 v448 v450) fun v453 w454 => (if v446 = v453 then (lpL_law L xs n w454 (i + 6)) else (none))) else (if (v1 &&& (63 : Int32)) = 26 then (Option.bind (zrs L xs (i + (1 : Int32))) fun v456 => zb2 (fX6_next w v456) fun v459 w460 => Option.bind (zrs L xs (i + (1 : Int32))) fun v461 => zb2 (fX7_next w460 v461) fun v464 w465 => (if v459 = v464 then (lpL_law L xs n w465 (i + 6)) else (none))) else (if (v1 &&& (63 : Int32)) = 27 then (Option.bind (zrs L xs (i + (1 : Int32))) fun v467 => zb2 (fX6_days w v467) fun v470 w471 => Option.bind (zrs L xs (i + (1 : Int32))) fun v472 => zb2 (fX7_days w471 v472) fun v475 w476 => (if v470 = v475 then (lpL_law L xs n w476 (i + 6)) else (none))) else (if (v1 &&& (63 : Int32)) = 28 then (Option.bind (zrs L xs (i + (1 : Int32))) fun v478 => zb2 (fX6_day w v478) fun v481 w482 => Option.bind (zrs L xs (i + (1 : Int32))) fun v483 => zb2 (fX7_day w482 v483) fun v486 w487 => (if v481 = v486 then (lpL_law L xs n w487 (i + 6)) else (none))) else (if (v1 &&& (63 : Int32)) = 29 then (Option.bind (zrs L xs (i + (1 : Int32))) fun v489 => zb2 (fX6_now w v489) fun v492 w493 => Option.bind (zrs L xs (i + (1 : Int32))) fun v494 => zb2 (fX7_now w493 v494) fun v497 w498 => (if v492 = v497 then (lpL_law L xs n w498 (i + 6)) else (none))) else (if (v1 &&& (63 : Int32)) = 30 then (Option.bind (zrs L xs (i + (1 : Int32))) fun v500 => Option.bind (zrs L xs (i + (2 : Int32))) fun v502 => zb2 (fX6_on w v500 v502) fun v505 w506 => Option.bind (zrs L xs (i + (1 : Int32))) fun v507 => Option.bind (zrs L xs (i + (2 : Int32))) fun v509 => zb2 (fX7_on w506 v507 v509) fun v512 w513 => (if v505 = v512 then (lpL_law L xs n w513 (i + 6)) else (none))) else (if (v1 &&& (63 : Int32)) = 31 then (Option.bind (zrs L xs (i + (1 : Int32))) fun v515 => zb2 (fX6_when w v515) fun v518 w519 => Option.bind (zrs L xs (i + (1 : Int32))) fun v520 => zb2 (fX7_when w519 v520) fun v523 w524 => (if v518 = v523 then (lpL_law L xs n w524 (i + 6)) else (none))) else (if (v1 &&& (63 : Int32)) = 32 then (Option.bind (zrs L xs (i + (1 : Int32))) fun v526 => Option.bind (zrs L xs (i + (2 : Int32))) fun v528 => zb2 (fX6_first w v526 v528) fun v531 w532 => Option.bind (zrs L xs (i + (1 : Int32))) fun v533 => Option.bind (zrs L xs (i + (2 : Int32))) fun v535 => zb2 (fX7_first w532 v533 v535) fun v538 w539 => (if v531 = v538 then (lpL_law L xs n w539 (i + 6)) else (none))) else (if (v1 &&& (63 : Int32)) = 33 then (Option.bind (zrs L xs (i + (1 : Int32))) fun v541 => Option.bind (zrs L xs (i + (2 : Int32))) fun v543 => zb2 (fX6_feed w v541 v543) fun v546 w547 => Option.bind (zrs L xs (i + (1 : Int32))) fun v548 => Option.bind (zrs L xs (i + (2 : Int32))) fun v550 => zb2 (fX7_feed w547 v548 v550) fun v553 w554 => (if v546 = v553 then (lpL_law L xs n w554 (i + 6)) else (none))) else (if (v1 &&& (63 : Int32)) = 34 then (zb2 (fX6_wipe w) fun v557 w558 => zb2 (fX7_wipe w558) fun v560 w561 => (if v557 = v560 then (lpL_law L xs n w561 (i + 6)) else (none))) else (if (v1 &&& (63 : Int32)) = 35 then (zb2 (fX6_text w) fun v564 w565 => zb2 (fX7_text w565) fun v567 w568 => (if v564 = v567 then (lpL_law L xs n w568 (i + 6)) else (none))) else (if (v1 &&& (63 : Int32)) = 36 then (Option.bind (zrs L xs (i + (1 : Int32))) fun v570 => Option.bind (zrs L xs (i + (2 : Int32))) fun v572 => Option.bind (zrs L xs (i + (3 : Int32))) fun v574 => zb2 (fX6_sheet w v570 v572 v574) fun v577 w578 => Option.bind (zrs L xs (i + (1 : Int32))) fun v579 => Option.bind (zrs L xs (i + (2 : Int32))) fun v581 => Option.bind (zrs L xs (i + (3 : Int32))) fun v583 => zb2 (fX7_sheet w578 v579 v581 v583) fun v586 w587 => (if v577 = v586 then (lpL_law L xs n w587 (i + 6)) else (none))) else (if (v1 &&& (63 : Int32)) = 37 then (Option.bind (zrs L xs (i + (1 : Int32))) fun v589 => Option.bind (zrs L xs (i + (2 : Int32))) fun v591 => Option.bind (zrs L xs (i + (3 : Int32))) fun v593 => Option.bind (zrs L xs (i + (4 : Int32))) fun v595 => zb2 (fX6_write w v589 v591 ((((v593).toInt64) <<< ((32 : Int32).toInt64 &&& 63)) ||| (((v595).toInt64) &&& (4294967295 : Int64)))) fun v598 w599 => Option.bind (zrs L xs (i + (1 : Int32))) fun v600 => Option.bind (zrs L xs (i + (2 : Int32))) fun v602 => Option.bind (zrs L xs (i + (3 : Int32))) fun v604 => Option.bind (zrs L xs (i + (4 : Int32))) fun v606 => zb2 (fX7_write w599 v600 v602 ((((v604).toInt64) <<< ((32 : Int32).toInt64 &&& 63)) ||| (((v606).toInt64) &&& (4294967295 : Int64)))) fun v609 w610 => (if (lg_cmp v598 v609) = 0 then (lpL_law L xs n w610 (i + 6)) else (none))) else (if (v1 &&& (63 : Int32)) = 38 then (Option.bind (zrs L xs (i + (1 : Int32))) fun v612 => Option.bind (zrs L xs (i + (2 : Int32))) fun v614 => Option.bind (zrs L xs (i + (3 : Int32))) fun v616 => Option.bind (zrs L xs (i + (4 : Int32))) fun v618 => Option.bind (zrs L xs (i + (5 : Int32))) fun v620 => zb2 (fX6_copy w v612 v614 v616 v618 v620) fun v623 w624 => Option.bind (zrs L xs (i + (1 : Int32))) fun v625 => Option.bind (zrs L xs (i + (2 : Int32))) fun v627 => Option.bind (zrs L xs (i + (3 : Int32))) fun v629 => Option.bind (zrs L xs (i + (4 : Int32))) fun v631 => Option.bind (zrs L xs (i + (5 : Int32))) fun v633 => zb2 (fX7_copy w624 v625 v627 v629 v631 v633) fun v636 w637 => (if v623 = v636 then (lpL_law L xs n w637 (i + 6)) else (none))) else (if (v1 &&& (63 : Int32)) = 39 then (Option.bind (zrs L xs (i + (1 : Int32))) fun v639 => zb2 (fX6_lays w v639) fun v642 w643 => Option.bind (zrs L xs (i + (1 : Int32))) fun v644 => zb2 (fX7_lays w643 v644) fun v647 w648 => (if v642 = v647 then (lpL_law L xs n w648 (i + 6)) else (none))) else (if (v1 &&& (63 : Int32)) = 40 then (Option.bind (zrs L xs (i + (1 : Int32))) fun v650 => Option.bind (zrs L xs (i + (2 : Int32))) fun v652 => Option.bind (zrs L xs (i + (3 : Int32))) fun v654 => zb2 (fX6_table w v650 v652 v654) fun v657 w658 => Option.bind (zrs L xs (i + (1 : Int32))) fun v659 => Option.bind (zrs L xs (i + (2 : Int32))) fun v661 => Option.bind (zrs L xs (i + (3 : Int32))) fun v663 => zb2 (fX7_table w658 v659 v661 v663) fun v666 w667 => (if v657 = v666 then (lpL_law L xs n w667 (i + 6)) else (none))) else (if (v1 &&& (63 : Int32)) = 41 then (Option.bind (zrs L xs (i + (1 : Int32))) fun v669 => Option.bind (zrs L xs (i + (2 : Int32))) fun v671 => zb2 (fX6_read w v669 v671) fun v674 w675 => Option.bind (zrs L xs (i + (1 : Int32))) fun v676 => Option.bind (zrs L xs (i + (2 : Int32))) fun v678 => zb2 (fX7_read w675 v676 v678) fun v681 w682 => (if v674 = v681 then (lpL_law L xs n w682 (i + 6)) else (none))) else (if (v1 &&& (63 : Int32)) = 42 then (zb2 (fX6_image w) fun v685 w686 => zb2 (fX7_image w686) fun v688 w689 => (if v685 = v688 then (lpL_law L xs n w689 (i + 6)) else (none))) else (if (v1 &&& (63 : Int32)) = 43 then (zb2 (fX6_undo w) fun v692 w693 => zb2 (fX7_undo w693) fun v695 w696 => (if v692 = v695 then (lpL_law L xs n w696 (i + 6)) else (none))) else (if (v1 &&& (63 : Int32)) = 44 then (zb2 (fX6_tear w) fun v699 w700 => zb2 (fX7_tear w700) fun v702 w703 => (if v699 = v702 then (lpL_law L xs n w703 (i + 6)) else (none))) else (if (v1 &&& (63 : Int32)) = 45 then (Option.bind (zrs L xs (i + (1 : Int32))) fun v705 => zb2 (fX6_count w v705) fun v708 w709 => Option.bind (zrs L xs (i + (1 : Int32))) fun v710 => zb2 (fX7_count w709 v710) fun v713 w714 => (if v708 = v713 then (lpL_law L xs n w714 (i + 6)) else (none))) else (if (v1 &&& (63 : Int32)) = 46 then (Option.bind (zrs L xs (i + (1 : Int32))) fun v716 => zb2 (fX6_status w v716) fun v719 w720 => Option.bind (zrs L xs (i + (1 : Int32))) fun v721 => zb2 (fX7_status w720 v721) fun v724 w725 => (if v719 = v724 then (lpL_law L xs n w725 (i + 6)) else (none))) else (lpL_law L xs n w (i + 6)))))))))))))))))))))))))))))))))))))))))))))))))))
set_option maxRecDepth 1000000 in
set_option maxHeartbeats 40000000 in
theorem tlL_law {L : Nat} {xs : Nat → Int32} : ∀ (n : Nat) (w : zW) (i : Int32) (u : zW), lpL_law L xs n w i = some u → zWP RL cL_law (zBL L xs) 18 [some (.ref 90), some (.ref 0), some (.ref 60), some (.int i)] [] w := by
  intro n
  induction n with
  | zero => intro w i u h; simp [lpL_law] at h
  | succ n ih =>
    intro w i u h
    rw [lpL_law] at h
    refine zs_iload_n dL_law_18 rfl ?_
    refine zs_aload_n dL_law_19 rfl ?_
    refine zs_slen dL_law_20 ?_
    refine zs_bipush (6 : Int32) dL_law_21 zbipush_6 ?_
    refine zs_isub dL_law_23 ?_
    refine zs_icmp_gt 1736 dL_law_24 rfl (fun c727 => ?_) (fun c727 => ?_)
    · replace h := zite_t c727 h
      refine zs_fo [false, false, false, false] rfl ?_
      exact zs_iconst (1 : Int32) dL_law_1736 ziconst_1 (zs_lret1 dL_law_1737)
    · replace h := zite_f c727 h
      refine zs_aload_n dL_law_27 rfl ?_
      refine zs_iload_n dL_law_28 rfl ?_
      obtain ⟨v1, e2, h⟩ := zbind h
      refine zs_sld dL_law_29 e2 ?_
      refine zs_bipush (63 : Int32) dL_law_30 zbipush_63 ?_
      refine zs_iand dL_law_32 ?_
      by_cases c3 : (v1 &&& (63 : Int32)) = 0
      · replace h := zite_t c3 h
        refine zs_tswIn (0 : Int32) 236 dL_law_33 c3 (by decide) (by decide) rfl rfl ?_
        refine zs_aload_n dL_law_236 rfl ?_
        refine zs_aload_n dL_law_237 rfl ?_
        refine zs_iload_n dL_law_238 rfl ?_
        refine zs_iconst (1 : Int32) dL_law_239 ziconst_1 ?_
        refine zs_iadd dL_law_240 ?_
        obtain ⟨v50, e51, h⟩ := zbind h
        refine zs_sld dL_law_241 e51 ?_
        obtain ⟨v53, w54, e52, h⟩ := zb2_inv h
        refine zc_V1i moX6_village mvX6_village kL_13 rfl dL_law_242 za_0 (Nat.le_of_ble_eq_true rfl) (zrmL (by decide)) (tX6_village e52) ?_
        refine zs_aload_n dL_law_245 rfl ?_
        refine zs_aload_n dL_law_246 rfl ?_
        refine zs_iload_n dL_law_247 rfl ?_
        refine zs_iconst (1 : Int32) dL_law_248 ziconst_1 ?_
        refine zs_iadd dL_law_249 ?_
        obtain ⟨v55, e56, h⟩ := zbind h
        refine zs_sld dL_law_250 e56 ?_
        obtain ⟨v58, w59, e57, h⟩ := zb2_inv h
        refine zc_V1i moX7_village mvX7_village kL_17 rfl dL_law_251 za_60 (Nat.le_of_ble_eq_true rfl) (zrmL (by decide)) (tX7_village e57) ?_
        refine zs_icmp_eq 1730 dL_law_254 rfl (fun c60 => ?_) (fun c60 => ?_)
        · replace h := zite_t c60 h
          refine zs_iinc (i + 6) [some (.ref 90), some (.ref 0), some (.ref 60), some (.int (i + 6))] dL_law_1730 rfl rfl (Nat.le_of_ble_eq_true rfl) rfl rfl ?_
          refine zs_goto 18 dL_law_1733 rfl ?_
          exact ih _ _ _ h
        · replace h := zite_f c60 h
          refine zs_iconst (0 : Int32) dL_law_257 ziconst_0 ?_
          cases h
      · replace h := zite_f c3 h
        by_cases c4 : (v1 &&& (63 : Int32)) = 1
        · replace h := zite_t c4 h
          refine zs_tswIn (1 : Int32) 259 dL_law_33 c4 (by decide) (by decide) rfl rfl ?_
          refine zs_aload_n dL_law_259 rfl ?_
          refine zs_aload_n dL_law_260 rfl ?_
          refine zs_iload_n dL_law_261 rfl ?_
          refine zs_iconst (1 : Int32) dL_law_262 ziconst_1 ?_
          refine zs_iadd dL_law_263 ?_
          obtain ⟨v61, e62, h⟩ := zbind h
          refine zs_sld dL_law_264 e62 ?_
          refine zs_aload_n dL_law_265 rfl ?_
          refine zs_iload_n dL_law_266 rfl ?_
          refine zs_iconst (2 : Int32) dL_law_267 ziconst_2 ?_
          refine zs_iadd dL_law_268 ?_
          obtain ⟨v63, e64, h⟩ := zbind h
          refine zs_sld dL_law_269 e64 ?_
          obtain ⟨v66, w67, e65, h⟩ := zb2_inv h
          refine zc_V2i moX6_villageOf mvX6_villageOf kL_18 rfl dL_law_270 za_0 (Nat.le_of_ble_eq_true rfl) (zrmL (by decide)) (tX6_villageOf e65) ?_
          refine zs_aload_n dL_law_273 rfl ?_
          refine zs_aload_n dL_law_274 rfl ?_
          refine zs_iload_n dL_law_275 rfl ?_
          refine zs_iconst (1 : Int32) dL_law_276 ziconst_1 ?_
          refine zs_iadd dL_law_277 ?_
          obtain ⟨v68, e69, h⟩ := zbind h
          refine zs_sld dL_law_278 e69 ?_
          refine zs_aload_n dL_law_279 rfl ?_
          refine zs_iload_n dL_law_280 rfl ?_
          refine zs_iconst (2 : Int32) dL_law_281 ziconst_2 ?_
          refine zs_iadd dL_law_282 ?_
          obtain ⟨v70, e71, h⟩ := zbind h
          refine zs_sld dL_law_283 e71 ?_
          obtain ⟨v73, w74, e72, h⟩ := zb2_inv h
          refine zc_V2i moX7_villageOf mvX7_villageOf kL_22 rfl dL_law_284 za_60 (Nat.le_of_ble_eq_true rfl) (zrmL (by decide)) (tX7_villageOf e72) ?_
          refine zs_icmp_eq 1730 dL_law_287 rfl (fun c75 => ?_) (fun c75 => ?_)
          · replace h := zite_t c75 h
            refine zs_iinc (i + 6) [some (.ref 90), some (.ref 0), some (.ref 60), some (.int (i + 6))] dL_law_1730 rfl rfl (Nat.le_of_ble_eq_true rfl) rfl rfl ?_
            refine zs_goto 18 dL_law_1733 rfl ?_
            exact ih _ _ _ h
          · replace h := zite_f c75 h
            refine zs_iconst (0 : Int32) dL_law_290 ziconst_0 ?_
            cases h
        · replace h := zite_f c4 h
          by_cases c5 : (v1 &&& (63 : Int32)) = 2
          · replace h := zite_t c5 h
            refine zs_tswIn (2 : Int32) 292 dL_law_33 c5 (by decide) (by decide) rfl rfl ?_
            refine zs_aload_n dL_law_292 rfl ?_
            refine zs_aload_n dL_law_293 rfl ?_
            refine zs_iload_n dL_law_294 rfl ?_
            refine zs_iconst (1 : Int32) dL_law_295 ziconst_1 ?_
            refine zs_iadd dL_law_296 ?_
            obtain ⟨v76, e77, h⟩ := zbind h
            refine zs_sld dL_law_297 e77 ?_
            refine zs_aload_n dL_law_298 rfl ?_
            refine zs_iload_n dL_law_299 rfl ?_
            refine zs_iconst (2 : Int32) dL_law_300 ziconst_2 ?_
            refine zs_iadd dL_law_301 ?_
            obtain ⟨v78, e79, h⟩ := zbind h
            refine zs_sld dL_law_302 e79 ?_
            obtain ⟨v81, w82, e80, h⟩ := zb2_inv h
            refine zc_V2i moX6_slide mvX6_slide kL_23 rfl dL_law_303 za_0 (Nat.le_of_ble_eq_true rfl) (zrmL (by decide)) (tX6_slide e80) ?_
            refine zs_aload_n dL_law_306 rfl ?_
            refine zs_aload_n dL_law_307 rfl ?_
            refine zs_iload_n dL_law_308 rfl ?_
            refine zs_iconst (1 : Int32) dL_law_309 ziconst_1 ?_
            refine zs_iadd dL_law_310 ?_
            obtain ⟨v83, e84, h⟩ := zbind h
            refine zs_sld dL_law_311 e84 ?_
            refine zs_aload_n dL_law_312 rfl ?_
            refine zs_iload_n dL_law_313 rfl ?_
            refine zs_iconst (2 : Int32) dL_law_314 ziconst_2 ?_
            refine zs_iadd dL_law_315 ?_
            obtain ⟨v85, e86, h⟩ := zbind h
            refine zs_sld dL_law_316 e86 ?_
            obtain ⟨v88, w89, e87, h⟩ := zb2_inv h
            refine zc_V2i moX7_slide mvX7_slide kL_26 rfl dL_law_317 za_60 (Nat.le_of_ble_eq_true rfl) (zrmL (by decide)) (tX7_slide e87) ?_
            refine zs_icmp_eq 1730 dL_law_320 rfl (fun c90 => ?_) (fun c90 => ?_)
            · replace h := zite_t c90 h
              refine zs_iinc (i + 6) [some (.ref 90), some (.ref 0), some (.ref 60), some (.int (i + 6))] dL_law_1730 rfl rfl (Nat.le_of_ble_eq_true rfl) rfl rfl ?_
              refine zs_goto 18 dL_law_1733 rfl ?_
              exact ih _ _ _ h
            · replace h := zite_f c90 h
              refine zs_iconst (0 : Int32) dL_law_323 ziconst_0 ?_
              cases h
          · replace h := zite_f c5 h
            by_cases c6 : (v1 &&& (63 : Int32)) = 3
            · replace h := zite_t c6 h
              refine zs_tswIn (3 : Int32) 325 dL_law_33 c6 (by decide) (by decide) rfl rfl ?_
              refine zs_aload_n dL_law_325 rfl ?_
              refine zs_aload_n dL_law_326 rfl ?_
              refine zs_iload_n dL_law_327 rfl ?_
              refine zs_iconst (1 : Int32) dL_law_328 ziconst_1 ?_
              refine zs_iadd dL_law_329 ?_
              obtain ⟨v91, e92, h⟩ := zbind h
              refine zs_sld dL_law_330 e92 ?_
              refine zs_aload_n dL_law_331 rfl ?_
              refine zs_iload_n dL_law_332 rfl ?_
              refine zs_iconst (2 : Int32) dL_law_333 ziconst_2 ?_
              refine zs_iadd dL_law_334 ?_
              obtain ⟨v93, e94, h⟩ := zbind h
              refine zs_sld dL_law_335 e94 ?_
              obtain ⟨x95, m97, h⟩ := zbind h
              have K96 : zWP RL cL_law (zBL L xs) 344 [some (.ref 90), some (.ref 0), some (.ref 60), some (.int i)] [.int x95, .int v91, .ref 0] w := by
                obtain ⟨v99, w100, e98, h⟩ := zb2_inv h
                refine zc_V2i moX6_hermit mvX6_hermit kL_27 rfl dL_law_344 za_0 (Nat.le_of_ble_eq_true rfl) (zrmL (by decide)) (tX6_hermit e98) ?_
                refine zs_aload_n dL_law_347 rfl ?_
                refine zs_aload_n dL_law_348 rfl ?_
                refine zs_iload_n dL_law_349 rfl ?_
                refine zs_iconst (1 : Int32) dL_law_350 ziconst_1 ?_
                refine zs_iadd dL_law_351 ?_
                obtain ⟨v101, e102, h⟩ := zbind h
                refine zs_sld dL_law_352 e102 ?_
                refine zs_aload_n dL_law_353 rfl ?_
                refine zs_iload_n dL_law_354 rfl ?_
                refine zs_iconst (2 : Int32) dL_law_355 ziconst_2 ?_
                refine zs_iadd dL_law_356 ?_
                obtain ⟨v103, e104, h⟩ := zbind h
                refine zs_sld dL_law_357 e104 ?_
                obtain ⟨x105, m107, h⟩ := zbind h
                have K106 : zWP RL cL_law (zBL L xs) 366 [some (.ref 90), some (.ref 0), some (.ref 60), some (.int i)] [.int x105, .int v101, .ref 60, .int v99] w100 := by
                  obtain ⟨v109, w110, e108, h⟩ := zb2_inv h
                  refine zc_V2i moX7_hermit mvX7_hermit kL_31 rfl dL_law_366 za_60 (Nat.le_of_ble_eq_true rfl) (zrmL (by decide)) (tX7_hermit e108) ?_
                  refine zs_icmp_eq 1730 dL_law_369 rfl (fun c111 => ?_) (fun c111 => ?_)
                  · replace h := zite_t c111 h
                    refine zs_iinc (i + 6) [some (.ref 90), some (.ref 0), some (.ref 60), some (.int (i + 6))] dL_law_1730 rfl rfl (Nat.le_of_ble_eq_true rfl) rfl rfl ?_
                    refine zs_goto 18 dL_law_1733 rfl ?_
                    exact ih _ _ _ h
                  · replace h := zite_f c111 h
                    refine zs_iconst (0 : Int32) dL_law_372 ziconst_0 ?_
                    cases h
                refine zs_if_eq 365 dL_law_358 rfl (fun c112 => ?_) (fun c112 => ?_)
                · replace m107 := zite_t c112 m107
                  refine zs_iconst (0 : Int32) dL_law_365 ziconst_0 ?_
                  obtain rfl := Option.some.inj m107
                  exact K106
                · replace m107 := zite_f c112 m107
                  refine zs_iconst (1 : Int32) dL_law_361 ziconst_1 ?_
                  refine zs_goto 366 dL_law_362 rfl ?_
                  obtain rfl := Option.some.inj m107
                  exact K106
              refine zs_if_eq 343 dL_law_336 rfl (fun c113 => ?_) (fun c113 => ?_)
              · replace m97 := zite_t c113 m97
                refine zs_iconst (0 : Int32) dL_law_343 ziconst_0 ?_
                obtain rfl := Option.some.inj m97
                exact K96
              · replace m97 := zite_f c113 m97
                refine zs_iconst (1 : Int32) dL_law_339 ziconst_1 ?_
                refine zs_goto 344 dL_law_340 rfl ?_
                obtain rfl := Option.some.inj m97
                exact K96
            · replace h := zite_f c6 h
              by_cases c7 : (v1 &&& (63 : Int32)) = 4
              · replace h := zite_t c7 h
                refine zs_tswIn (4 : Int32) 374 dL_law_33 c7 (by decide) (by decide) rfl rfl ?_
                refine zs_aload_n dL_law_374 rfl ?_
                refine zs_aload_n dL_law_375 rfl ?_
                refine zs_iload_n dL_law_376 rfl ?_
                refine zs_iconst (1 : Int32) dL_law_377 ziconst_1 ?_
                refine zs_iadd dL_law_378 ?_
                obtain ⟨v114, e115, h⟩ := zbind h
                refine zs_sld dL_law_379 e115 ?_
                refine zs_aload_n dL_law_380 rfl ?_
                refine zs_iload_n dL_law_381 rfl ?_
                refine zs_iconst (2 : Int32) dL_law_382 ziconst_2 ?_
                refine zs_iadd dL_law_383 ?_
                obtain ⟨v116, e117, h⟩ := zbind h
                refine zs_sld dL_law_384 e117 ?_
                refine zs_aload_n dL_law_385 rfl ?_
                refine zs_iload_n dL_law_386 rfl ?_
                refine zs_iconst (3 : Int32) dL_law_387 ziconst_3 ?_
                refine zs_iadd dL_law_388 ?_
                obtain ⟨v118, e119, h⟩ := zbind h
                refine zs_sld dL_law_389 e119 ?_
                obtain ⟨v121, w122, e120, h⟩ := zb2_inv h
                refine zc_V3i moX6_road mvX6_road kL_32 rfl dL_law_390 za_0 (Nat.le_of_ble_eq_true rfl) (zrmL (by decide)) (tX6_road e120) ?_
                refine zs_aload_n dL_law_393 rfl ?_
                refine zs_aload_n dL_law_394 rfl ?_
                refine zs_iload_n dL_law_395 rfl ?_
                refine zs_iconst (1 : Int32) dL_law_396 ziconst_1 ?_
                refine zs_iadd dL_law_397 ?_
                obtain ⟨v123, e124, h⟩ := zbind h
                refine zs_sld dL_law_398 e124 ?_
                refine zs_aload_n dL_law_399 rfl ?_
                refine zs_iload_n dL_law_400 rfl ?_
                refine zs_iconst (2 : Int32) dL_law_401 ziconst_2 ?_
                refine zs_iadd dL_law_402 ?_
                obtain ⟨v125, e126, h⟩ := zbind h
                refine zs_sld dL_law_403 e126 ?_
                refine zs_aload_n dL_law_404 rfl ?_
                refine zs_iload_n dL_law_405 rfl ?_
                refine zs_iconst (3 : Int32) dL_law_406 ziconst_3 ?_
                refine zs_iadd dL_law_407 ?_
                obtain ⟨v127, e128, h⟩ := zbind h
                refine zs_sld dL_law_408 e128 ?_
                obtain ⟨v130, w131, e129, h⟩ := zb2_inv h
                refine zc_V3i moX7_road mvX7_road kL_36 rfl dL_law_409 za_60 (Nat.le_of_ble_eq_true rfl) (zrmL (by decide)) (tX7_road e129) ?_
                refine zs_icmp_eq 1730 dL_law_412 rfl (fun c132 => ?_) (fun c132 => ?_)
                · replace h := zite_t c132 h
                  refine zs_iinc (i + 6) [some (.ref 90), some (.ref 0), some (.ref 60), some (.int (i + 6))] dL_law_1730 rfl rfl (Nat.le_of_ble_eq_true rfl) rfl rfl ?_
                  refine zs_goto 18 dL_law_1733 rfl ?_
                  exact ih _ _ _ h
                · replace h := zite_f c132 h
                  refine zs_iconst (0 : Int32) dL_law_415 ziconst_0 ?_
                  cases h
              · replace h := zite_f c7 h
                by_cases c8 : (v1 &&& (63 : Int32)) = 5
                · replace h := zite_t c8 h
                  refine zs_tswIn (5 : Int32) 417 dL_law_33 c8 (by decide) (by decide) rfl rfl ?_
                  refine zs_aload_n dL_law_417 rfl ?_
                  refine zs_aload_n dL_law_418 rfl ?_
                  refine zs_iload_n dL_law_419 rfl ?_
                  refine zs_iconst (1 : Int32) dL_law_420 ziconst_1 ?_
                  refine zs_iadd dL_law_421 ?_
                  obtain ⟨v133, e134, h⟩ := zbind h
                  refine zs_sld dL_law_422 e134 ?_
                  refine zs_aload_n dL_law_423 rfl ?_
                  refine zs_iload_n dL_law_424 rfl ?_
                  refine zs_iconst (2 : Int32) dL_law_425 ziconst_2 ?_
                  refine zs_iadd dL_law_426 ?_
                  obtain ⟨v135, e136, h⟩ := zbind h
                  refine zs_sld dL_law_427 e136 ?_
                  obtain ⟨v138, w139, e137, h⟩ := zb2_inv h
                  refine zc_V2i moX6_roadOf mvX6_roadOf kL_37 rfl dL_law_428 za_0 (Nat.le_of_ble_eq_true rfl) (zrmL (by decide)) (tX6_roadOf e137) ?_
                  refine zs_aload_n dL_law_431 rfl ?_
                  refine zs_aload_n dL_law_432 rfl ?_
                  refine zs_iload_n dL_law_433 rfl ?_
                  refine zs_iconst (1 : Int32) dL_law_434 ziconst_1 ?_
                  refine zs_iadd dL_law_435 ?_
                  obtain ⟨v140, e141, h⟩ := zbind h
                  refine zs_sld dL_law_436 e141 ?_
                  refine zs_aload_n dL_law_437 rfl ?_
                  refine zs_iload_n dL_law_438 rfl ?_
                  refine zs_iconst (2 : Int32) dL_law_439 ziconst_2 ?_
                  refine zs_iadd dL_law_440 ?_
                  obtain ⟨v142, e143, h⟩ := zbind h
                  refine zs_sld dL_law_441 e143 ?_
                  obtain ⟨v145, w146, e144, h⟩ := zb2_inv h
                  refine zc_V2i moX7_roadOf mvX7_roadOf kL_40 rfl dL_law_442 za_60 (Nat.le_of_ble_eq_true rfl) (zrmL (by decide)) (tX7_roadOf e144) ?_
                  refine zs_icmp_eq 1730 dL_law_445 rfl (fun c147 => ?_) (fun c147 => ?_)
                  · replace h := zite_t c147 h
                    refine zs_iinc (i + 6) [some (.ref 90), some (.ref 0), some (.ref 60), some (.int (i + 6))] dL_law_1730 rfl rfl (Nat.le_of_ble_eq_true rfl) rfl rfl ?_
                    refine zs_goto 18 dL_law_1733 rfl ?_
                    exact ih _ _ _ h
                  · replace h := zite_f c147 h
                    refine zs_iconst (0 : Int32) dL_law_448 ziconst_0 ?_
                    cases h
                · replace h := zite_f c8 h
                  by_cases c9 : (v1 &&& (63 : Int32)) = 6
                  · replace h := zite_t c9 h
                    refine zs_tswIn (6 : Int32) 450 dL_law_33 c9 (by decide) (by decide) rfl rfl ?_
                    refine zs_aload_n dL_law_450 rfl ?_
                    refine zs_aload_n dL_law_451 rfl ?_
                    refine zs_iload_n dL_law_452 rfl ?_
                    refine zs_iconst (1 : Int32) dL_law_453 ziconst_1 ?_
                    refine zs_iadd dL_law_454 ?_
                    obtain ⟨v148, e149, h⟩ := zbind h
                    refine zs_sld dL_law_455 e149 ?_
                    obtain ⟨v151, w152, e150, h⟩ := zb2_inv h
                    refine zc_V1i moX6_every mvX6_every kL_41 rfl dL_law_456 za_0 (Nat.le_of_ble_eq_true rfl) (zrmL (by decide)) (tX6_every e150) ?_
                    refine zs_aload_n dL_law_459 rfl ?_
                    refine zs_aload_n dL_law_460 rfl ?_
                    refine zs_iload_n dL_law_461 rfl ?_
                    refine zs_iconst (1 : Int32) dL_law_462 ziconst_1 ?_
                    refine zs_iadd dL_law_463 ?_
                    obtain ⟨v153, e154, h⟩ := zbind h
                    refine zs_sld dL_law_464 e154 ?_
                    obtain ⟨v156, w157, e155, h⟩ := zb2_inv h
                    refine zc_V1i moX7_every mvX7_every kL_44 rfl dL_law_465 za_60 (Nat.le_of_ble_eq_true rfl) (zrmL (by decide)) (tX7_every e155) ?_
                    refine zs_icmp_eq 1730 dL_law_468 rfl (fun c158 => ?_) (fun c158 => ?_)
                    · replace h := zite_t c158 h
                      refine zs_iinc (i + 6) [some (.ref 90), some (.ref 0), some (.ref 60), some (.int (i + 6))] dL_law_1730 rfl rfl (Nat.le_of_ble_eq_true rfl) rfl rfl ?_
                      refine zs_goto 18 dL_law_1733 rfl ?_
                      exact ih _ _ _ h
                    · replace h := zite_f c158 h
                      refine zs_iconst (0 : Int32) dL_law_471 ziconst_0 ?_
                      cases h
                  · replace h := zite_f c9 h
                    by_cases c10 : (v1 &&& (63 : Int32)) = 7
                    · replace h := zite_t c10 h
                      refine zs_tswIn (7 : Int32) 473 dL_law_33 c10 (by decide) (by decide) rfl rfl ?_
                      refine zs_aload_n dL_law_473 rfl ?_
                      obtain ⟨v160, w161, e159, h⟩ := zb2_inv h
                      refine zc_V0i moX6_sea mvX6_sea kL_45 rfl dL_law_474 za_0 (Nat.le_of_ble_eq_true rfl) (zrmL (by decide)) (tX6_sea e159) ?_
                      refine zs_aload_n dL_law_477 rfl ?_
                      obtain ⟨v163, w164, e162, h⟩ := zb2_inv h
                      refine zc_V0i moX7_sea mvX7_sea kL_49 rfl dL_law_478 za_60 (Nat.le_of_ble_eq_true rfl) (zrmL (by decide)) (tX7_sea e162) ?_
                      refine zs_icmp_eq 1730 dL_law_481 rfl (fun c165 => ?_) (fun c165 => ?_)
                      · replace h := zite_t c165 h
                        refine zs_iinc (i + 6) [some (.ref 90), some (.ref 0), some (.ref 60), some (.int (i + 6))] dL_law_1730 rfl rfl (Nat.le_of_ble_eq_true rfl) rfl rfl ?_
                        refine zs_goto 18 dL_law_1733 rfl ?_
                        exact ih _ _ _ h
                      · replace h := zite_f c165 h
                        refine zs_iconst (0 : Int32) dL_law_484 ziconst_0 ?_
                        cases h
                    · replace h := zite_f c10 h
                      by_cases c11 : (v1 &&& (63 : Int32)) = 8
                      · replace h := zite_t c11 h
                        refine zs_tswIn (8 : Int32) 486 dL_law_33 c11 (by decide) (by decide) rfl rfl ?_
                        refine zs_aload_n dL_law_486 rfl ?_
                        obtain ⟨v167, w168, e166, h⟩ := zb2_inv h
                        refine zc_V0i moX6_peak mvX6_peak kL_50 rfl dL_law_487 za_0 (Nat.le_of_ble_eq_true rfl) (zrmL (by decide)) (tX6_peak e166) ?_
                        refine zs_aload_n dL_law_490 rfl ?_
                        obtain ⟨v170, w171, e169, h⟩ := zb2_inv h
                        refine zc_V0i moX7_peak mvX7_peak kL_53 rfl dL_law_491 za_60 (Nat.le_of_ble_eq_true rfl) (zrmL (by decide)) (tX7_peak e169) ?_
                        refine zs_icmp_eq 1730 dL_law_494 rfl (fun c172 => ?_) (fun c172 => ?_)
                        · replace h := zite_t c172 h
                          refine zs_iinc (i + 6) [some (.ref 90), some (.ref 0), some (.ref 60), some (.int (i + 6))] dL_law_1730 rfl rfl (Nat.le_of_ble_eq_true rfl) rfl rfl ?_
                          refine zs_goto 18 dL_law_1733 rfl ?_
                          exact ih _ _ _ h
                        · replace h := zite_f c172 h
                          refine zs_iconst (0 : Int32) dL_law_497 ziconst_0 ?_
                          cases h
                      · replace h := zite_f c11 h
                        by_cases c12 : (v1 &&& (63 : Int32)) = 9
                        · replace h := zite_t c12 h
                          refine zs_tswIn (9 : Int32) 499 dL_law_33 c12 (by decide) (by decide) rfl rfl ?_
                          refine zs_aload_n dL_law_499 rfl ?_
                          refine zs_aload_n dL_law_500 rfl ?_
                          refine zs_iload_n dL_law_501 rfl ?_
                          refine zs_iconst (1 : Int32) dL_law_502 ziconst_1 ?_
                          refine zs_iadd dL_law_503 ?_
                          obtain ⟨v173, e174, h⟩ := zbind h
                          refine zs_sld dL_law_504 e174 ?_
                          refine zs_aload_n dL_law_505 rfl ?_
                          refine zs_iload_n dL_law_506 rfl ?_
                          refine zs_iconst (2 : Int32) dL_law_507 ziconst_2 ?_
                          refine zs_iadd dL_law_508 ?_
                          obtain ⟨v175, e176, h⟩ := zbind h
                          refine zs_sld dL_law_509 e176 ?_
                          obtain ⟨v178, w179, e177, h⟩ := zb2_inv h
                          refine zc_V2i moX6_needs mvX6_needs kL_54 rfl dL_law_510 za_0 (Nat.le_of_ble_eq_true rfl) (zrmL (by decide)) (tX6_needs e177) ?_
                          refine zs_aload_n dL_law_513 rfl ?_
                          refine zs_aload_n dL_law_514 rfl ?_
                          refine zs_iload_n dL_law_515 rfl ?_
                          refine zs_iconst (1 : Int32) dL_law_516 ziconst_1 ?_
                          refine zs_iadd dL_law_517 ?_
                          obtain ⟨v180, e181, h⟩ := zbind h
                          refine zs_sld dL_law_518 e181 ?_
                          refine zs_aload_n dL_law_519 rfl ?_
                          refine zs_iload_n dL_law_520 rfl ?_
                          refine zs_iconst (2 : Int32) dL_law_521 ziconst_2 ?_
                          refine zs_iadd dL_law_522 ?_
                          obtain ⟨v182, e183, h⟩ := zbind h
                          refine zs_sld dL_law_523 e183 ?_
                          obtain ⟨v185, w186, e184, h⟩ := zb2_inv h
                          refine zc_V2i moX7_needs mvX7_needs kL_57 rfl dL_law_524 za_60 (Nat.le_of_ble_eq_true rfl) (zrmL (by decide)) (tX7_needs e184) ?_
                          refine zs_icmp_eq 1730 dL_law_527 rfl (fun c187 => ?_) (fun c187 => ?_)
                          · replace h := zite_t c187 h
                            refine zs_iinc (i + 6) [some (.ref 90), some (.ref 0), some (.ref 60), some (.int (i + 6))] dL_law_1730 rfl rfl (Nat.le_of_ble_eq_true rfl) rfl rfl ?_
                            refine zs_goto 18 dL_law_1733 rfl ?_
                            exact ih _ _ _ h
                          · replace h := zite_f c187 h
                            refine zs_iconst (0 : Int32) dL_law_530 ziconst_0 ?_
                            cases h
                        · replace h := zite_f c12 h
                          by_cases c13 : (v1 &&& (63 : Int32)) = 10
                          · replace h := zite_t c13 h
                            refine zs_tswIn (10 : Int32) 532 dL_law_33 c13 (by decide) (by decide) rfl rfl ?_
                            refine zs_aload_n dL_law_532 rfl ?_
                            refine zs_aload_n dL_law_533 rfl ?_
                            refine zs_iload_n dL_law_534 rfl ?_
                            refine zs_iconst (1 : Int32) dL_law_535 ziconst_1 ?_
                            refine zs_iadd dL_law_536 ?_
                            obtain ⟨v188, e189, h⟩ := zbind h
                            refine zs_sld dL_law_537 e189 ?_
                            refine zs_aload_n dL_law_538 rfl ?_
                            refine zs_iload_n dL_law_539 rfl ?_
                            refine zs_iconst (2 : Int32) dL_law_540 ziconst_2 ?_
                            refine zs_iadd dL_law_541 ?_
                            obtain ⟨v190, e191, h⟩ := zbind h
                            refine zs_sld dL_law_542 e191 ?_
                            refine zs_aload_n dL_law_543 rfl ?_
                            refine zs_iload_n dL_law_544 rfl ?_
                            refine zs_iconst (3 : Int32) dL_law_545 ziconst_3 ?_
                            refine zs_iadd dL_law_546 ?_
                            obtain ⟨v192, e193, h⟩ := zbind h
                            refine zs_sld dL_law_547 e193 ?_
                            obtain ⟨x194, m196, h⟩ := zbind h
                            have K195 : zWP RL cL_law (zBL L xs) 556 [some (.ref 90), some (.ref 0), some (.ref 60), some (.int i)] [.int x194, .int v190, .int v188, .ref 0] w := by
                              obtain ⟨v198, w199, e197, h⟩ := zb2_inv h
                              refine zc_V3i moX6_goes mvX6_goes kL_58 rfl dL_law_556 za_0 (Nat.le_of_ble_eq_true rfl) (zrmL (by decide)) (tX6_goes e197) ?_
                              refine zs_aload_n dL_law_559 rfl ?_
                              refine zs_aload_n dL_law_560 rfl ?_
                              refine zs_iload_n dL_law_561 rfl ?_
                              refine zs_iconst (1 : Int32) dL_law_562 ziconst_1 ?_
                              refine zs_iadd dL_law_563 ?_
                              obtain ⟨v200, e201, h⟩ := zbind h
                              refine zs_sld dL_law_564 e201 ?_
                              refine zs_aload_n dL_law_565 rfl ?_
                              refine zs_iload_n dL_law_566 rfl ?_
                              refine zs_iconst (2 : Int32) dL_law_567 ziconst_2 ?_
                              refine zs_iadd dL_law_568 ?_
                              obtain ⟨v202, e203, h⟩ := zbind h
                              refine zs_sld dL_law_569 e203 ?_
                              refine zs_aload_n dL_law_570 rfl ?_
                              refine zs_iload_n dL_law_571 rfl ?_
                              refine zs_iconst (3 : Int32) dL_law_572 ziconst_3 ?_
                              refine zs_iadd dL_law_573 ?_
                              obtain ⟨v204, e205, h⟩ := zbind h
                              refine zs_sld dL_law_574 e205 ?_
                              obtain ⟨x206, m208, h⟩ := zbind h
                              have K207 : zWP RL cL_law (zBL L xs) 583 [some (.ref 90), some (.ref 0), some (.ref 60), some (.int i)] [.int x206, .int v202, .int v200, .ref 60, .int v198] w199 := by
                                obtain ⟨v210, w211, e209, h⟩ := zb2_inv h
                                refine zc_V3i moX7_goes mvX7_goes kL_62 rfl dL_law_583 za_60 (Nat.le_of_ble_eq_true rfl) (zrmL (by decide)) (tX7_goes e209) ?_
                                refine zs_icmp_eq 1730 dL_law_586 rfl (fun c212 => ?_) (fun c212 => ?_)
                                · replace h := zite_t c212 h
                                  refine zs_iinc (i + 6) [some (.ref 90), some (.ref 0), some (.ref 60), some (.int (i + 6))] dL_law_1730 rfl rfl (Nat.le_of_ble_eq_true rfl) rfl rfl ?_
                                  refine zs_goto 18 dL_law_1733 rfl ?_
                                  exact ih _ _ _ h
                                · replace h := zite_f c212 h
                                  refine zs_iconst (0 : Int32) dL_law_589 ziconst_0 ?_
                                  cases h
                              refine zs_if_eq 582 dL_law_575 rfl (fun c213 => ?_) (fun c213 => ?_)
                              · replace m208 := zite_t c213 m208
                                refine zs_iconst (0 : Int32) dL_law_582 ziconst_0 ?_
                                obtain rfl := Option.some.inj m208
                                exact K207
                              · replace m208 := zite_f c213 m208
                                refine zs_iconst (1 : Int32) dL_law_578 ziconst_1 ?_
                                refine zs_goto 583 dL_law_579 rfl ?_
                                obtain rfl := Option.some.inj m208
                                exact K207
                            refine zs_if_eq 555 dL_law_548 rfl (fun c214 => ?_) (fun c214 => ?_)
                            · replace m196 := zite_t c214 m196
                              refine zs_iconst (0 : Int32) dL_law_555 ziconst_0 ?_
                              obtain rfl := Option.some.inj m196
                              exact K195
                            · replace m196 := zite_f c214 m196
                              refine zs_iconst (1 : Int32) dL_law_551 ziconst_1 ?_
                              refine zs_goto 556 dL_law_552 rfl ?_
                              obtain rfl := Option.some.inj m196
                              exact K195
                          · replace h := zite_f c13 h
                            by_cases c14 : (v1 &&& (63 : Int32)) = 11
                            · replace h := zite_t c14 h
                              refine zs_tswIn (11 : Int32) 591 dL_law_33 c14 (by decide) (by decide) rfl rfl ?_
                              refine zs_aload_n dL_law_591 rfl ?_
                              refine zs_aload_n dL_law_592 rfl ?_
                              refine zs_iload_n dL_law_593 rfl ?_
                              refine zs_iconst (1 : Int32) dL_law_594 ziconst_1 ?_
                              refine zs_iadd dL_law_595 ?_
                              obtain ⟨v215, e216, h⟩ := zbind h
                              refine zs_sld dL_law_596 e216 ?_
                              refine zs_aload_n dL_law_597 rfl ?_
                              refine zs_iload_n dL_law_598 rfl ?_
                              refine zs_iconst (2 : Int32) dL_law_599 ziconst_2 ?_
                              refine zs_iadd dL_law_600 ?_
                              obtain ⟨v217, e218, h⟩ := zbind h
                              refine zs_sld dL_law_601 e218 ?_
                              refine zs_aload_n dL_law_602 rfl ?_
                              refine zs_iload_n dL_law_603 rfl ?_
                              refine zs_iconst (3 : Int32) dL_law_604 ziconst_3 ?_
                              refine zs_iadd dL_law_605 ?_
                              obtain ⟨v219, e220, h⟩ := zbind h
                              refine zs_sld dL_law_606 e220 ?_
                              obtain ⟨v222, w223, e221, h⟩ := zb2_inv h
                              refine zc_V3i moX6_least mvX6_least kL_63 rfl dL_law_607 za_0 (Nat.le_of_ble_eq_true rfl) (zrmL (by decide)) (tX6_least e221) ?_
                              refine zs_aload_n dL_law_610 rfl ?_
                              refine zs_aload_n dL_law_611 rfl ?_
                              refine zs_iload_n dL_law_612 rfl ?_
                              refine zs_iconst (1 : Int32) dL_law_613 ziconst_1 ?_
                              refine zs_iadd dL_law_614 ?_
                              obtain ⟨v224, e225, h⟩ := zbind h
                              refine zs_sld dL_law_615 e225 ?_
                              refine zs_aload_n dL_law_616 rfl ?_
                              refine zs_iload_n dL_law_617 rfl ?_
                              refine zs_iconst (2 : Int32) dL_law_618 ziconst_2 ?_
                              refine zs_iadd dL_law_619 ?_
                              obtain ⟨v226, e227, h⟩ := zbind h
                              refine zs_sld dL_law_620 e227 ?_
                              refine zs_aload_n dL_law_621 rfl ?_
                              refine zs_iload_n dL_law_622 rfl ?_
                              refine zs_iconst (3 : Int32) dL_law_623 ziconst_3 ?_
                              refine zs_iadd dL_law_624 ?_
                              obtain ⟨v228, e229, h⟩ := zbind h
                              refine zs_sld dL_law_625 e229 ?_
                              obtain ⟨v231, w232, e230, h⟩ := zb2_inv h
                              refine zc_V3i moX7_least mvX7_least kL_66 rfl dL_law_626 za_60 (Nat.le_of_ble_eq_true rfl) (zrmL (by decide)) (tX7_least e230) ?_
                              refine zs_icmp_eq 1730 dL_law_629 rfl (fun c233 => ?_) (fun c233 => ?_)
                              · replace h := zite_t c233 h
                                refine zs_iinc (i + 6) [some (.ref 90), some (.ref 0), some (.ref 60), some (.int (i + 6))] dL_law_1730 rfl rfl (Nat.le_of_ble_eq_true rfl) rfl rfl ?_
                                refine zs_goto 18 dL_law_1733 rfl ?_
                                exact ih _ _ _ h
                              · replace h := zite_f c233 h
                                refine zs_iconst (0 : Int32) dL_law_632 ziconst_0 ?_
                                cases h
                            · replace h := zite_f c14 h
                              by_cases c15 : (v1 &&& (63 : Int32)) = 12
                              · replace h := zite_t c15 h
                                refine zs_tswIn (12 : Int32) 634 dL_law_33 c15 (by decide) (by decide) rfl rfl ?_
                                refine zs_aload_n dL_law_634 rfl ?_
                                refine zs_aload_n dL_law_635 rfl ?_
                                refine zs_iload_n dL_law_636 rfl ?_
                                refine zs_iconst (1 : Int32) dL_law_637 ziconst_1 ?_
                                refine zs_iadd dL_law_638 ?_
                                obtain ⟨v234, e235, h⟩ := zbind h
                                refine zs_sld dL_law_639 e235 ?_
                                refine zs_aload_n dL_law_640 rfl ?_
                                refine zs_iload_n dL_law_641 rfl ?_
                                refine zs_iconst (2 : Int32) dL_law_642 ziconst_2 ?_
                                refine zs_iadd dL_law_643 ?_
                                obtain ⟨v236, e237, h⟩ := zbind h
                                refine zs_sld dL_law_644 e237 ?_
                                obtain ⟨v239, w240, e238, h⟩ := zb2_inv h
                                refine zc_V2i moX6_reach mvX6_reach kL_67 rfl dL_law_645 za_0 (Nat.le_of_ble_eq_true rfl) (zrmL (by decide)) (tX6_reach e238) ?_
                                refine zs_aload_n dL_law_648 rfl ?_
                                refine zs_aload_n dL_law_649 rfl ?_
                                refine zs_iload_n dL_law_650 rfl ?_
                                refine zs_iconst (1 : Int32) dL_law_651 ziconst_1 ?_
                                refine zs_iadd dL_law_652 ?_
                                obtain ⟨v241, e242, h⟩ := zbind h
                                refine zs_sld dL_law_653 e242 ?_
                                refine zs_aload_n dL_law_654 rfl ?_
                                refine zs_iload_n dL_law_655 rfl ?_
                                refine zs_iconst (2 : Int32) dL_law_656 ziconst_2 ?_
                                refine zs_iadd dL_law_657 ?_
                                obtain ⟨v243, e244, h⟩ := zbind h
                                refine zs_sld dL_law_658 e244 ?_
                                obtain ⟨v246, w247, e245, h⟩ := zb2_inv h
                                refine zc_V2i moX7_reach mvX7_reach kL_70 rfl dL_law_659 za_60 (Nat.le_of_ble_eq_true rfl) (zrmL (by decide)) (tX7_reach e245) ?_
                                refine zs_icmp_eq 1730 dL_law_662 rfl (fun c248 => ?_) (fun c248 => ?_)
                                · replace h := zite_t c248 h
                                  refine zs_iinc (i + 6) [some (.ref 90), some (.ref 0), some (.ref 60), some (.int (i + 6))] dL_law_1730 rfl rfl (Nat.le_of_ble_eq_true rfl) rfl rfl ?_
                                  refine zs_goto 18 dL_law_1733 rfl ?_
                                  exact ih _ _ _ h
                                · replace h := zite_f c248 h
                                  refine zs_iconst (0 : Int32) dL_law_665 ziconst_0 ?_
                                  cases h
                              · replace h := zite_f c15 h
                                by_cases c16 : (v1 &&& (63 : Int32)) = 13
                                · replace h := zite_t c16 h
                                  refine zs_tswIn (13 : Int32) 667 dL_law_33 c16 (by decide) (by decide) rfl rfl ?_
                                  refine zs_aload_n dL_law_667 rfl ?_
                                  refine zs_aload_n dL_law_668 rfl ?_
                                  refine zs_iload_n dL_law_669 rfl ?_
                                  refine zs_iconst (1 : Int32) dL_law_670 ziconst_1 ?_
                                  refine zs_iadd dL_law_671 ?_
                                  obtain ⟨v249, e250, h⟩ := zbind h
                                  refine zs_sld dL_law_672 e250 ?_
                                  refine zs_aload_n dL_law_673 rfl ?_
                                  refine zs_iload_n dL_law_674 rfl ?_
                                  refine zs_iconst (2 : Int32) dL_law_675 ziconst_2 ?_
                                  refine zs_iadd dL_law_676 ?_
                                  obtain ⟨v251, e252, h⟩ := zbind h
                                  refine zs_sld dL_law_677 e252 ?_
                                  obtain ⟨v254, w255, e253, h⟩ := zb2_inv h
                                  refine zc_V2i moX6_whence mvX6_whence kL_71 rfl dL_law_678 za_0 (Nat.le_of_ble_eq_true rfl) (zrmL (by decide)) (tX6_whence e253) ?_
                                  refine zs_aload_n dL_law_681 rfl ?_
                                  refine zs_aload_n dL_law_682 rfl ?_
                                  refine zs_iload_n dL_law_683 rfl ?_
                                  refine zs_iconst (1 : Int32) dL_law_684 ziconst_1 ?_
                                  refine zs_iadd dL_law_685 ?_
                                  obtain ⟨v256, e257, h⟩ := zbind h
                                  refine zs_sld dL_law_686 e257 ?_
                                  refine zs_aload_n dL_law_687 rfl ?_
                                  refine zs_iload_n dL_law_688 rfl ?_
                                  refine zs_iconst (2 : Int32) dL_law_689 ziconst_2 ?_
                                  refine zs_iadd dL_law_690 ?_
                                  obtain ⟨v258, e259, h⟩ := zbind h
                                  refine zs_sld dL_law_691 e259 ?_
                                  obtain ⟨v261, w262, e260, h⟩ := zb2_inv h
                                  refine zc_V2i moX7_whence mvX7_whence kL_74 rfl dL_law_692 za_60 (Nat.le_of_ble_eq_true rfl) (zrmL (by decide)) (tX7_whence e260) ?_
                                  refine zs_icmp_eq 1730 dL_law_695 rfl (fun c263 => ?_) (fun c263 => ?_)
                                  · replace h := zite_t c263 h
                                    refine zs_iinc (i + 6) [some (.ref 90), some (.ref 0), some (.ref 60), some (.int (i + 6))] dL_law_1730 rfl rfl (Nat.le_of_ble_eq_true rfl) rfl rfl ?_
                                    refine zs_goto 18 dL_law_1733 rfl ?_
                                    exact ih _ _ _ h
                                  · replace h := zite_f c263 h
                                    refine zs_iconst (0 : Int32) dL_law_698 ziconst_0 ?_
                                    cases h
                                · replace h := zite_f c16 h
                                  by_cases c17 : (v1 &&& (63 : Int32)) = 14
                                  · replace h := zite_t c17 h
                                    refine zs_tswIn (14 : Int32) 700 dL_law_33 c17 (by decide) (by decide) rfl rfl ?_
                                    refine zs_aload_n dL_law_700 rfl ?_
                                    refine zs_aload_n dL_law_701 rfl ?_
                                    refine zs_iload_n dL_law_702 rfl ?_
                                    refine zs_iconst (1 : Int32) dL_law_703 ziconst_1 ?_
                                    refine zs_iadd dL_law_704 ?_
                                    obtain ⟨v264, e265, h⟩ := zbind h
                                    refine zs_sld dL_law_705 e265 ?_
                                    refine zs_aload_n dL_law_706 rfl ?_
                                    refine zs_iload_n dL_law_707 rfl ?_
                                    refine zs_iconst (2 : Int32) dL_law_708 ziconst_2 ?_
                                    refine zs_iadd dL_law_709 ?_
                                    obtain ⟨v266, e267, h⟩ := zbind h
                                    refine zs_sld dL_law_710 e267 ?_
                                    obtain ⟨v269, w270, e268, h⟩ := zb2_inv h
                                    refine zc_V2i moX6_below mvX6_below kL_75 rfl dL_law_711 za_0 (Nat.le_of_ble_eq_true rfl) (zrmL (by decide)) (tX6_below e268) ?_
                                    refine zs_aload_n dL_law_714 rfl ?_
                                    refine zs_aload_n dL_law_715 rfl ?_
                                    refine zs_iload_n dL_law_716 rfl ?_
                                    refine zs_iconst (1 : Int32) dL_law_717 ziconst_1 ?_
                                    refine zs_iadd dL_law_718 ?_
                                    obtain ⟨v271, e272, h⟩ := zbind h
                                    refine zs_sld dL_law_719 e272 ?_
                                    refine zs_aload_n dL_law_720 rfl ?_
                                    refine zs_iload_n dL_law_721 rfl ?_
                                    refine zs_iconst (2 : Int32) dL_law_722 ziconst_2 ?_
                                    refine zs_iadd dL_law_723 ?_
                                    obtain ⟨v273, e274, h⟩ := zbind h
                                    refine zs_sld dL_law_724 e274 ?_
                                    obtain ⟨v276, w277, e275, h⟩ := zb2_inv h
                                    refine zc_V2i moX7_below mvX7_below kL_78 rfl dL_law_725 za_60 (Nat.le_of_ble_eq_true rfl) (zrmL (by decide)) (tX7_below e275) ?_
                                    refine zs_icmp_eq 1730 dL_law_728 rfl (fun c278 => ?_) (fun c278 => ?_)
                                    · replace h := zite_t c278 h
                                      refine zs_iinc (i + 6) [some (.ref 90), some (.ref 0), some (.ref 60), some (.int (i + 6))] dL_law_1730 rfl rfl (Nat.le_of_ble_eq_true rfl) rfl rfl ?_
                                      refine zs_goto 18 dL_law_1733 rfl ?_
                                      exact ih _ _ _ h
                                    · replace h := zite_f c278 h
                                      refine zs_iconst (0 : Int32) dL_law_731 ziconst_0 ?_
                                      cases h
                                  · replace h := zite_f c17 h
                                    by_cases c18 : (v1 &&& (63 : Int32)) = 15
                                    · replace h := zite_t c18 h
                                      refine zs_tswIn (15 : Int32) 733 dL_law_33 c18 (by decide) (by decide) rfl rfl ?_
                                      refine zs_aload_n dL_law_733 rfl ?_
                                      refine zs_aload_n dL_law_734 rfl ?_
                                      refine zs_iload_n dL_law_735 rfl ?_
                                      refine zs_iconst (1 : Int32) dL_law_736 ziconst_1 ?_
                                      refine zs_iadd dL_law_737 ?_
                                      obtain ⟨v279, e280, h⟩ := zbind h
                                      refine zs_sld dL_law_738 e280 ?_
                                      refine zs_aload_n dL_law_739 rfl ?_
                                      refine zs_iload_n dL_law_740 rfl ?_
                                      refine zs_iconst (2 : Int32) dL_law_741 ziconst_2 ?_
                                      refine zs_iadd dL_law_742 ?_
                                      obtain ⟨v281, e282, h⟩ := zbind h
                                      refine zs_sld dL_law_743 e282 ?_
                                      refine zs_aload_n dL_law_744 rfl ?_
                                      refine zs_iload_n dL_law_745 rfl ?_
                                      refine zs_iconst (3 : Int32) dL_law_746 ziconst_3 ?_
                                      refine zs_iadd dL_law_747 ?_
                                      obtain ⟨v283, e284, h⟩ := zbind h
                                      refine zs_sld dL_law_748 e284 ?_
                                      obtain ⟨v286, w287, e285, h⟩ := zb2_inv h
                                      refine zc_V3i moX6_round mvX6_round kL_79 rfl dL_law_749 za_0 (Nat.le_of_ble_eq_true rfl) (zrmL (by decide)) (tX6_round e285) ?_
                                      refine zs_aload_n dL_law_752 rfl ?_
                                      refine zs_aload_n dL_law_753 rfl ?_
                                      refine zs_iload_n dL_law_754 rfl ?_
                                      refine zs_iconst (1 : Int32) dL_law_755 ziconst_1 ?_
                                      refine zs_iadd dL_law_756 ?_
                                      obtain ⟨v288, e289, h⟩ := zbind h
                                      refine zs_sld dL_law_757 e289 ?_
                                      refine zs_aload_n dL_law_758 rfl ?_
                                      refine zs_iload_n dL_law_759 rfl ?_
                                      refine zs_iconst (2 : Int32) dL_law_760 ziconst_2 ?_
                                      refine zs_iadd dL_law_761 ?_
                                      obtain ⟨v290, e291, h⟩ := zbind h
                                      refine zs_sld dL_law_762 e291 ?_
                                      refine zs_aload_n dL_law_763 rfl ?_
                                      refine zs_iload_n dL_law_764 rfl ?_
                                      refine zs_iconst (3 : Int32) dL_law_765 ziconst_3 ?_
                                      refine zs_iadd dL_law_766 ?_
                                      obtain ⟨v292, e293, h⟩ := zbind h
                                      refine zs_sld dL_law_767 e293 ?_
                                      obtain ⟨v295, w296, e294, h⟩ := zb2_inv h
                                      refine zc_V3i moX7_round mvX7_round kL_82 rfl dL_law_768 za_60 (Nat.le_of_ble_eq_true rfl) (zrmL (by decide)) (tX7_round e294) ?_
                                      refine zs_icmp_eq 1730 dL_law_771 rfl (fun c297 => ?_) (fun c297 => ?_)
                                      · replace h := zite_t c297 h
                                        refine zs_iinc (i + 6) [some (.ref 90), some (.ref 0), some (.ref 60), some (.int (i + 6))] dL_law_1730 rfl rfl (Nat.le_of_ble_eq_true rfl) rfl rfl ?_
                                        refine zs_goto 18 dL_law_1733 rfl ?_
                                        exact ih _ _ _ h
                                      · replace h := zite_f c297 h
                                        refine zs_iconst (0 : Int32) dL_law_774 ziconst_0 ?_
                                        cases h
                                    · replace h := zite_f c18 h
                                      by_cases c19 : (v1 &&& (63 : Int32)) = 16
                                      · replace h := zite_t c19 h
                                        refine zs_tswIn (16 : Int32) 776 dL_law_33 c19 (by decide) (by decide) rfl rfl ?_
                                        refine zs_aload_n dL_law_776 rfl ?_
                                        refine zs_aload_n dL_law_777 rfl ?_
                                        refine zs_iload_n dL_law_778 rfl ?_
                                        refine zs_iconst (1 : Int32) dL_law_779 ziconst_1 ?_
                                        refine zs_iadd dL_law_780 ?_
                                        obtain ⟨v298, e299, h⟩ := zbind h
                                        refine zs_sld dL_law_781 e299 ?_
                                        refine zs_aload_n dL_law_782 rfl ?_
                                        refine zs_iload_n dL_law_783 rfl ?_
                                        refine zs_iconst (2 : Int32) dL_law_784 ziconst_2 ?_
                                        refine zs_iadd dL_law_785 ?_
                                        obtain ⟨v300, e301, h⟩ := zbind h
                                        refine zs_sld dL_law_786 e301 ?_
                                        obtain ⟨v303, w304, e302, h⟩ := zb2_inv h
                                        refine zc_V2i moX6_live mvX6_live kL_83 rfl dL_law_787 za_0 (Nat.le_of_ble_eq_true rfl) (zrmL (by decide)) (tX6_live e302) ?_
                                        refine zs_aload_n dL_law_790 rfl ?_
                                        refine zs_aload_n dL_law_791 rfl ?_
                                        refine zs_iload_n dL_law_792 rfl ?_
                                        refine zs_iconst (1 : Int32) dL_law_793 ziconst_1 ?_
                                        refine zs_iadd dL_law_794 ?_
                                        obtain ⟨v305, e306, h⟩ := zbind h
                                        refine zs_sld dL_law_795 e306 ?_
                                        refine zs_aload_n dL_law_796 rfl ?_
                                        refine zs_iload_n dL_law_797 rfl ?_
                                        refine zs_iconst (2 : Int32) dL_law_798 ziconst_2 ?_
                                        refine zs_iadd dL_law_799 ?_
                                        obtain ⟨v307, e308, h⟩ := zbind h
                                        refine zs_sld dL_law_800 e308 ?_
                                        obtain ⟨v310, w311, e309, h⟩ := zb2_inv h
                                        refine zc_V2i moX7_live mvX7_live kL_86 rfl dL_law_801 za_60 (Nat.le_of_ble_eq_true rfl) (zrmL (by decide)) (tX7_live e309) ?_
                                        refine zs_icmp_eq 1730 dL_law_804 rfl (fun c312 => ?_) (fun c312 => ?_)
                                        · replace h := zite_t c312 h
                                          refine zs_iinc (i + 6) [some (.ref 90), some (.ref 0), some (.ref 60), some (.int (i + 6))] dL_law_1730 rfl rfl (Nat.le_of_ble_eq_true rfl) rfl rfl ?_
                                          refine zs_goto 18 dL_law_1733 rfl ?_
                                          exact ih _ _ _ h
                                        · replace h := zite_f c312 h
                                          refine zs_iconst (0 : Int32) dL_law_807 ziconst_0 ?_
                                          cases h
                                      · replace h := zite_f c19 h
                                        by_cases c20 : (v1 &&& (63 : Int32)) = 17
                                        · replace h := zite_t c20 h
                                          refine zs_tswIn (17 : Int32) 809 dL_law_33 c20 (by decide) (by decide) rfl rfl ?_
                                          refine zs_aload_n dL_law_809 rfl ?_
                                          refine zs_aload_n dL_law_810 rfl ?_
                                          refine zs_iload_n dL_law_811 rfl ?_
                                          refine zs_iconst (1 : Int32) dL_law_812 ziconst_1 ?_
                                          refine zs_iadd dL_law_813 ?_
                                          obtain ⟨v313, e314, h⟩ := zbind h
                                          refine zs_sld dL_law_814 e314 ?_
                                          obtain ⟨v316, w317, e315, h⟩ := zb2_inv h
                                          refine zc_V1i moX6_quiet mvX6_quiet kL_87 rfl dL_law_815 za_0 (Nat.le_of_ble_eq_true rfl) (zrmL (by decide)) (tX6_quiet e315) ?_
                                          refine zs_aload_n dL_law_818 rfl ?_
                                          refine zs_aload_n dL_law_819 rfl ?_
                                          refine zs_iload_n dL_law_820 rfl ?_
                                          refine zs_iconst (1 : Int32) dL_law_821 ziconst_1 ?_
                                          refine zs_iadd dL_law_822 ?_
                                          obtain ⟨v318, e319, h⟩ := zbind h
                                          refine zs_sld dL_law_823 e319 ?_
                                          obtain ⟨v321, w322, e320, h⟩ := zb2_inv h
                                          refine zc_V1i moX7_quiet mvX7_quiet kL_90 rfl dL_law_824 za_60 (Nat.le_of_ble_eq_true rfl) (zrmL (by decide)) (tX7_quiet e320) ?_
                                          refine zs_icmp_eq 1730 dL_law_827 rfl (fun c323 => ?_) (fun c323 => ?_)
                                          · replace h := zite_t c323 h
                                            refine zs_iinc (i + 6) [some (.ref 90), some (.ref 0), some (.ref 60), some (.int (i + 6))] dL_law_1730 rfl rfl (Nat.le_of_ble_eq_true rfl) rfl rfl ?_
                                            refine zs_goto 18 dL_law_1733 rfl ?_
                                            exact ih _ _ _ h
                                          · replace h := zite_f c323 h
                                            refine zs_iconst (0 : Int32) dL_law_830 ziconst_0 ?_
                                            cases h
                                        · replace h := zite_f c20 h
                                          by_cases c21 : (v1 &&& (63 : Int32)) = 18
                                          · replace h := zite_t c21 h
                                            refine zs_tswIn (18 : Int32) 832 dL_law_33 c21 (by decide) (by decide) rfl rfl ?_
                                            refine zs_aload_n dL_law_832 rfl ?_
                                            refine zs_aload_n dL_law_833 rfl ?_
                                            refine zs_iload_n dL_law_834 rfl ?_
                                            refine zs_iconst (1 : Int32) dL_law_835 ziconst_1 ?_
                                            refine zs_iadd dL_law_836 ?_
                                            obtain ⟨v324, e325, h⟩ := zbind h
                                            refine zs_sld dL_law_837 e325 ?_
                                            refine zs_aload_n dL_law_838 rfl ?_
                                            refine zs_iload_n dL_law_839 rfl ?_
                                            refine zs_iconst (2 : Int32) dL_law_840 ziconst_2 ?_
                                            refine zs_iadd dL_law_841 ?_
                                            obtain ⟨v326, e327, h⟩ := zbind h
                                            refine zs_sld dL_law_842 e327 ?_
                                            obtain ⟨v329, w330, e328, h⟩ := zb2_inv h
                                            refine zc_V2i moX6_kind mvX6_kind kL_91 rfl dL_law_843 za_0 (Nat.le_of_ble_eq_true rfl) (zrmL (by decide)) (tX6_kind e328) ?_
                                            refine zs_aload_n dL_law_846 rfl ?_
                                            refine zs_aload_n dL_law_847 rfl ?_
                                            refine zs_iload_n dL_law_848 rfl ?_
                                            refine zs_iconst (1 : Int32) dL_law_849 ziconst_1 ?_
                                            refine zs_iadd dL_law_850 ?_
                                            obtain ⟨v331, e332, h⟩ := zbind h
                                            refine zs_sld dL_law_851 e332 ?_
                                            refine zs_aload_n dL_law_852 rfl ?_
                                            refine zs_iload_n dL_law_853 rfl ?_
                                            refine zs_iconst (2 : Int32) dL_law_854 ziconst_2 ?_
                                            refine zs_iadd dL_law_855 ?_
                                            obtain ⟨v333, e334, h⟩ := zbind h
                                            refine zs_sld dL_law_856 e334 ?_
                                            obtain ⟨v336, w337, e335, h⟩ := zb2_inv h
                                            refine zc_V2i moX7_kind mvX7_kind kL_94 rfl dL_law_857 za_60 (Nat.le_of_ble_eq_true rfl) (zrmL (by decide)) (tX7_kind e335) ?_
                                            refine zs_icmp_eq 1730 dL_law_860 rfl (fun c338 => ?_) (fun c338 => ?_)
                                            · replace h := zite_t c338 h
                                              refine zs_iinc (i + 6) [some (.ref 90), some (.ref 0), some (.ref 60), some (.int (i + 6))] dL_law_1730 rfl rfl (Nat.le_of_ble_eq_true rfl) rfl rfl ?_
                                              refine zs_goto 18 dL_law_1733 rfl ?_
                                              exact ih _ _ _ h
                                            · replace h := zite_f c338 h
                                              refine zs_iconst (0 : Int32) dL_law_863 ziconst_0 ?_
                                              cases h
                                          · replace h := zite_f c21 h
                                            by_cases c22 : (v1 &&& (63 : Int32)) = 19
                                            · replace h := zite_t c22 h
                                              refine zs_tswIn (19 : Int32) 865 dL_law_33 c22 (by decide) (by decide) rfl rfl ?_
                                              refine zs_aload_n dL_law_865 rfl ?_
                                              refine zs_aload_n dL_law_866 rfl ?_
                                              refine zs_iload_n dL_law_867 rfl ?_
                                              refine zs_iconst (1 : Int32) dL_law_868 ziconst_1 ?_
                                              refine zs_iadd dL_law_869 ?_
                                              obtain ⟨v339, e340, h⟩ := zbind h
                                              refine zs_sld dL_law_870 e340 ?_
                                              refine zs_aload_n dL_law_871 rfl ?_
                                              refine zs_iload_n dL_law_872 rfl ?_
                                              refine zs_iconst (2 : Int32) dL_law_873 ziconst_2 ?_
                                              refine zs_iadd dL_law_874 ?_
                                              obtain ⟨v341, e342, h⟩ := zbind h
                                              refine zs_sld dL_law_875 e342 ?_
                                              refine zs_aload_n dL_law_876 rfl ?_
                                              refine zs_iload_n dL_law_877 rfl ?_
                                              refine zs_iconst (3 : Int32) dL_law_878 ziconst_3 ?_
                                              refine zs_iadd dL_law_879 ?_
                                              obtain ⟨v343, e344, h⟩ := zbind h
                                              refine zs_sld dL_law_880 e344 ?_
                                              obtain ⟨v346, w347, e345, h⟩ := zb2_inv h
                                              refine zc_V3i moX6_rise mvX6_rise kL_95 rfl dL_law_881 za_0 (Nat.le_of_ble_eq_true rfl) (zrmL (by decide)) (tX6_rise e345) ?_
                                              refine zs_aload_n dL_law_884 rfl ?_
                                              refine zs_aload_n dL_law_885 rfl ?_
                                              refine zs_iload_n dL_law_886 rfl ?_
                                              refine zs_iconst (1 : Int32) dL_law_887 ziconst_1 ?_
                                              refine zs_iadd dL_law_888 ?_
                                              obtain ⟨v348, e349, h⟩ := zbind h
                                              refine zs_sld dL_law_889 e349 ?_
                                              refine zs_aload_n dL_law_890 rfl ?_
                                              refine zs_iload_n dL_law_891 rfl ?_
                                              refine zs_iconst (2 : Int32) dL_law_892 ziconst_2 ?_
                                              refine zs_iadd dL_law_893 ?_
                                              obtain ⟨v350, e351, h⟩ := zbind h
                                              refine zs_sld dL_law_894 e351 ?_
                                              refine zs_aload_n dL_law_895 rfl ?_
                                              refine zs_iload_n dL_law_896 rfl ?_
                                              refine zs_iconst (3 : Int32) dL_law_897 ziconst_3 ?_
                                              refine zs_iadd dL_law_898 ?_
                                              obtain ⟨v352, e353, h⟩ := zbind h
                                              refine zs_sld dL_law_899 e353 ?_
                                              obtain ⟨v355, w356, e354, h⟩ := zb2_inv h
                                              refine zc_V3i moX7_rise mvX7_rise kL_98 rfl dL_law_900 za_60 (Nat.le_of_ble_eq_true rfl) (zrmL (by decide)) (tX7_rise e354) ?_
                                              refine zs_icmp_eq 1730 dL_law_903 rfl (fun c357 => ?_) (fun c357 => ?_)
                                              · replace h := zite_t c357 h
                                                refine zs_iinc (i + 6) [some (.ref 90), some (.ref 0), some (.ref 60), some (.int (i + 6))] dL_law_1730 rfl rfl (Nat.le_of_ble_eq_true rfl) rfl rfl ?_
                                                refine zs_goto 18 dL_law_1733 rfl ?_
                                                exact ih _ _ _ h
                                              · replace h := zite_f c357 h
                                                refine zs_iconst (0 : Int32) dL_law_906 ziconst_0 ?_
                                                cases h
                                            · replace h := zite_f c22 h
                                              by_cases c23 : (v1 &&& (63 : Int32)) = 20
                                              · replace h := zite_t c23 h
                                                refine zs_tswIn (20 : Int32) 908 dL_law_33 c23 (by decide) (by decide) rfl rfl ?_
                                                refine zs_aload_n dL_law_908 rfl ?_
                                                refine zs_aload_n dL_law_909 rfl ?_
                                                refine zs_iload_n dL_law_910 rfl ?_
                                                refine zs_iconst (1 : Int32) dL_law_911 ziconst_1 ?_
                                                refine zs_iadd dL_law_912 ?_
                                                obtain ⟨v358, e359, h⟩ := zbind h
                                                refine zs_sld dL_law_913 e359 ?_
                                                refine zs_aload_n dL_law_914 rfl ?_
                                                refine zs_iload_n dL_law_915 rfl ?_
                                                refine zs_iconst (2 : Int32) dL_law_916 ziconst_2 ?_
                                                refine zs_iadd dL_law_917 ?_
                                                obtain ⟨v360, e361, h⟩ := zbind h
                                                refine zs_sld dL_law_918 e361 ?_
                                                refine zs_aload_n dL_law_919 rfl ?_
                                                refine zs_iload_n dL_law_920 rfl ?_
                                                refine zs_iconst (3 : Int32) dL_law_921 ziconst_3 ?_
                                                refine zs_iadd dL_law_922 ?_
                                                obtain ⟨v362, e363, h⟩ := zbind h
                                                refine zs_sld dL_law_923 e363 ?_
                                                obtain ⟨v365, w366, e364, h⟩ := zb2_inv h
                                                refine zc_V3i moX6_fall mvX6_fall kL_99 rfl dL_law_924 za_0 (Nat.le_of_ble_eq_true rfl) (zrmL (by decide)) (tX6_fall e364) ?_
                                                refine zs_aload_n dL_law_927 rfl ?_
                                                refine zs_aload_n dL_law_928 rfl ?_
                                                refine zs_iload_n dL_law_929 rfl ?_
                                                refine zs_iconst (1 : Int32) dL_law_930 ziconst_1 ?_
                                                refine zs_iadd dL_law_931 ?_
                                                obtain ⟨v367, e368, h⟩ := zbind h
                                                refine zs_sld dL_law_932 e368 ?_
                                                refine zs_aload_n dL_law_933 rfl ?_
                                                refine zs_iload_n dL_law_934 rfl ?_
                                                refine zs_iconst (2 : Int32) dL_law_935 ziconst_2 ?_
                                                refine zs_iadd dL_law_936 ?_
                                                obtain ⟨v369, e370, h⟩ := zbind h
                                                refine zs_sld dL_law_937 e370 ?_
                                                refine zs_aload_n dL_law_938 rfl ?_
                                                refine zs_iload_n dL_law_939 rfl ?_
                                                refine zs_iconst (3 : Int32) dL_law_940 ziconst_3 ?_
                                                refine zs_iadd dL_law_941 ?_
                                                obtain ⟨v371, e372, h⟩ := zbind h
                                                refine zs_sld dL_law_942 e372 ?_
                                                obtain ⟨v374, w375, e373, h⟩ := zb2_inv h
                                                refine zc_V3i moX7_fall mvX7_fall kL_102 rfl dL_law_943 za_60 (Nat.le_of_ble_eq_true rfl) (zrmL (by decide)) (tX7_fall e373) ?_
                                                refine zs_icmp_eq 1730 dL_law_946 rfl (fun c376 => ?_) (fun c376 => ?_)
                                                · replace h := zite_t c376 h
                                                  refine zs_iinc (i + 6) [some (.ref 90), some (.ref 0), some (.ref 60), some (.int (i + 6))] dL_law_1730 rfl rfl (Nat.le_of_ble_eq_true rfl) rfl rfl ?_
                                                  refine zs_goto 18 dL_law_1733 rfl ?_
                                                  exact ih _ _ _ h
                                                · replace h := zite_f c376 h
                                                  refine zs_iconst (0 : Int32) dL_law_949 ziconst_0 ?_
                                                  cases h
                                              · replace h := zite_f c23 h
                                                by_cases c24 : (v1 &&& (63 : Int32)) = 21
                                                · replace h := zite_t c24 h
                                                  refine zs_tswIn (21 : Int32) 951 dL_law_33 c24 (by decide) (by decide) rfl rfl ?_
                                                  refine zs_aload_n dL_law_951 rfl ?_
                                                  refine zs_aload_n dL_law_952 rfl ?_
                                                  refine zs_iload_n dL_law_953 rfl ?_
                                                  refine zs_iconst (1 : Int32) dL_law_954 ziconst_1 ?_
                                                  refine zs_iadd dL_law_955 ?_
                                                  obtain ⟨v377, e378, h⟩ := zbind h
                                                  refine zs_sld dL_law_956 e378 ?_
                                                  refine zs_aload_n dL_law_957 rfl ?_
                                                  refine zs_iload_n dL_law_958 rfl ?_
                                                  refine zs_iconst (2 : Int32) dL_law_959 ziconst_2 ?_
                                                  refine zs_iadd dL_law_960 ?_
                                                  obtain ⟨v379, e380, h⟩ := zbind h
                                                  refine zs_sld dL_law_961 e380 ?_
                                                  obtain ⟨v382, w383, e381, h⟩ := zb2_inv h
                                                  refine zc_V2i moX6_dig mvX6_dig kL_103 rfl dL_law_962 za_0 (Nat.le_of_ble_eq_true rfl) (zrmL (by decide)) (tX6_dig e381) ?_
                                                  refine zs_aload_n dL_law_965 rfl ?_
                                                  refine zs_aload_n dL_law_966 rfl ?_
                                                  refine zs_iload_n dL_law_967 rfl ?_
                                                  refine zs_iconst (1 : Int32) dL_law_968 ziconst_1 ?_
                                                  refine zs_iadd dL_law_969 ?_
                                                  obtain ⟨v384, e385, h⟩ := zbind h
                                                  refine zs_sld dL_law_970 e385 ?_
                                                  refine zs_aload_n dL_law_971 rfl ?_
                                                  refine zs_iload_n dL_law_972 rfl ?_
                                                  refine zs_iconst (2 : Int32) dL_law_973 ziconst_2 ?_
                                                  refine zs_iadd dL_law_974 ?_
                                                  obtain ⟨v386, e387, h⟩ := zbind h
                                                  refine zs_sld dL_law_975 e387 ?_
                                                  obtain ⟨v389, w390, e388, h⟩ := zb2_inv h
                                                  refine zc_V2i moX7_dig mvX7_dig kL_106 rfl dL_law_976 za_60 (Nat.le_of_ble_eq_true rfl) (zrmL (by decide)) (tX7_dig e388) ?_
                                                  refine zs_icmp_eq 1730 dL_law_979 rfl (fun c391 => ?_) (fun c391 => ?_)
                                                  · replace h := zite_t c391 h
                                                    refine zs_iinc (i + 6) [some (.ref 90), some (.ref 0), some (.ref 60), some (.int (i + 6))] dL_law_1730 rfl rfl (Nat.le_of_ble_eq_true rfl) rfl rfl ?_
                                                    refine zs_goto 18 dL_law_1733 rfl ?_
                                                    exact ih _ _ _ h
                                                  · replace h := zite_f c391 h
                                                    refine zs_iconst (0 : Int32) dL_law_982 ziconst_0 ?_
                                                    cases h
                                                · replace h := zite_f c24 h
                                                  by_cases c25 : (v1 &&& (63 : Int32)) = 22
                                                  · replace h := zite_t c25 h
                                                    refine zs_tswIn (22 : Int32) 984 dL_law_33 c25 (by decide) (by decide) rfl rfl ?_
                                                    refine zs_aload_n dL_law_984 rfl ?_
                                                    refine zs_aload_n dL_law_985 rfl ?_
                                                    refine zs_iload_n dL_law_986 rfl ?_
                                                    refine zs_iconst (1 : Int32) dL_law_987 ziconst_1 ?_
                                                    refine zs_iadd dL_law_988 ?_
                                                    obtain ⟨v392, e393, h⟩ := zbind h
                                                    refine zs_sld dL_law_989 e393 ?_
                                                    refine zs_aload_n dL_law_990 rfl ?_
                                                    refine zs_iload_n dL_law_991 rfl ?_
                                                    refine zs_iconst (2 : Int32) dL_law_992 ziconst_2 ?_
                                                    refine zs_iadd dL_law_993 ?_
                                                    obtain ⟨v394, e395, h⟩ := zbind h
                                                    refine zs_sld dL_law_994 e395 ?_
                                                    refine zs_aload_n dL_law_995 rfl ?_
                                                    refine zs_iload_n dL_law_996 rfl ?_
                                                    refine zs_iconst (3 : Int32) dL_law_997 ziconst_3 ?_
                                                    refine zs_iadd dL_law_998 ?_
                                                    obtain ⟨v396, e397, h⟩ := zbind h
                                                    refine zs_sld dL_law_999 e397 ?_
                                                    obtain ⟨v399, w400, e398, h⟩ := zb2_inv h
                                                    refine zc_V3i moX6_send mvX6_send kL_107 rfl dL_law_1000 za_0 (Nat.le_of_ble_eq_true rfl) (zrmL (by decide)) (tX6_send e398) ?_
                                                    refine zs_aload_n dL_law_1003 rfl ?_
                                                    refine zs_aload_n dL_law_1004 rfl ?_
                                                    refine zs_iload_n dL_law_1005 rfl ?_
                                                    refine zs_iconst (1 : Int32) dL_law_1006 ziconst_1 ?_
                                                    refine zs_iadd dL_law_1007 ?_
                                                    obtain ⟨v401, e402, h⟩ := zbind h
                                                    refine zs_sld dL_law_1008 e402 ?_
                                                    refine zs_aload_n dL_law_1009 rfl ?_
                                                    refine zs_iload_n dL_law_1010 rfl ?_
                                                    refine zs_iconst (2 : Int32) dL_law_1011 ziconst_2 ?_
                                                    refine zs_iadd dL_law_1012 ?_
                                                    obtain ⟨v403, e404, h⟩ := zbind h
                                                    refine zs_sld dL_law_1013 e404 ?_
                                                    refine zs_aload_n dL_law_1014 rfl ?_
                                                    refine zs_iload_n dL_law_1015 rfl ?_
                                                    refine zs_iconst (3 : Int32) dL_law_1016 ziconst_3 ?_
                                                    refine zs_iadd dL_law_1017 ?_
                                                    obtain ⟨v405, e406, h⟩ := zbind h
                                                    refine zs_sld dL_law_1018 e406 ?_
                                                    obtain ⟨v408, w409, e407, h⟩ := zb2_inv h
                                                    refine zc_V3i moX7_send mvX7_send kL_110 rfl dL_law_1019 za_60 (Nat.le_of_ble_eq_true rfl) (zrmL (by decide)) (tX7_send e407) ?_
                                                    refine zs_icmp_eq 1730 dL_law_1022 rfl (fun c410 => ?_) (fun c410 => ?_)
                                                    · replace h := zite_t c410 h
                                                      refine zs_iinc (i + 6) [some (.ref 90), some (.ref 0), some (.ref 60), some (.int (i + 6))] dL_law_1730 rfl rfl (Nat.le_of_ble_eq_true rfl) rfl rfl ?_
                                                      refine zs_goto 18 dL_law_1733 rfl ?_
                                                      exact ih _ _ _ h
                                                    · replace h := zite_f c410 h
                                                      refine zs_iconst (0 : Int32) dL_law_1025 ziconst_0 ?_
                                                      cases h
                                                  · replace h := zite_f c25 h
                                                    by_cases c26 : (v1 &&& (63 : Int32)) = 23
                                                    · replace h := zite_t c26 h
                                                      refine zs_tswIn (23 : Int32) 1027 dL_law_33 c26 (by decide) (by decide) rfl rfl ?_
                                                      refine zs_aload_n dL_law_1027 rfl ?_
                                                      refine zs_aload_n dL_law_1028 rfl ?_
                                                      refine zs_iload_n dL_law_1029 rfl ?_
                                                      refine zs_iconst (1 : Int32) dL_law_1030 ziconst_1 ?_
                                                      refine zs_iadd dL_law_1031 ?_
                                                      obtain ⟨v411, e412, h⟩ := zbind h
                                                      refine zs_sld dL_law_1032 e412 ?_
                                                      refine zs_aload_n dL_law_1033 rfl ?_
                                                      refine zs_iload_n dL_law_1034 rfl ?_
                                                      refine zs_iconst (2 : Int32) dL_law_1035 ziconst_2 ?_
                                                      refine zs_iadd dL_law_1036 ?_
                                                      obtain ⟨v413, e414, h⟩ := zbind h
                                                      refine zs_sld dL_law_1037 e414 ?_
                                                      obtain ⟨v416, w417, e415, h⟩ := zb2_inv h
                                                      refine zc_V2i moX6_of mvX6_of kL_111 rfl dL_law_1038 za_0 (Nat.le_of_ble_eq_true rfl) (zrmL (by decide)) (tX6_of e415) ?_
                                                      refine zs_aload_n dL_law_1041 rfl ?_
                                                      refine zs_aload_n dL_law_1042 rfl ?_
                                                      refine zs_iload_n dL_law_1043 rfl ?_
                                                      refine zs_iconst (1 : Int32) dL_law_1044 ziconst_1 ?_
                                                      refine zs_iadd dL_law_1045 ?_
                                                      obtain ⟨v418, e419, h⟩ := zbind h
                                                      refine zs_sld dL_law_1046 e419 ?_
                                                      refine zs_aload_n dL_law_1047 rfl ?_
                                                      refine zs_iload_n dL_law_1048 rfl ?_
                                                      refine zs_iconst (2 : Int32) dL_law_1049 ziconst_2 ?_
                                                      refine zs_iadd dL_law_1050 ?_
                                                      obtain ⟨v420, e421, h⟩ := zbind h
                                                      refine zs_sld dL_law_1051 e421 ?_
                                                      obtain ⟨v423, w424, e422, h⟩ := zb2_inv h
                                                      refine zc_V2i moX7_of mvX7_of kL_114 rfl dL_law_1052 za_60 (Nat.le_of_ble_eq_true rfl) (zrmL (by decide)) (tX7_of e422) ?_
                                                      refine zs_icmp_eq 1730 dL_law_1055 rfl (fun c425 => ?_) (fun c425 => ?_)
                                                      · replace h := zite_t c425 h
                                                        refine zs_iinc (i + 6) [some (.ref 90), some (.ref 0), some (.ref 60), some (.int (i + 6))] dL_law_1730 rfl rfl (Nat.le_of_ble_eq_true rfl) rfl rfl ?_
                                                        refine zs_goto 18 dL_law_1733 rfl ?_
                                                        exact ih _ _ _ h
                                                      · replace h := zite_f c425 h
                                                        refine zs_iconst (0 : Int32) dL_law_1058 ziconst_0 ?_
                                                        cases h
                                                    · replace h := zite_f c26 h
                                                      by_cases c27 : (v1 &&& (63 : Int32)) = 24
                                                      · replace h := zite_t c27 h
                                                        refine zs_tswIn (24 : Int32) 1060 dL_law_33 c27 (by decide) (by decide) rfl rfl ?_
                                                        refine zs_aload_n dL_law_1060 rfl ?_
                                                        refine zs_aload_n dL_law_1061 rfl ?_
                                                        refine zs_iload_n dL_law_1062 rfl ?_
                                                        refine zs_iconst (1 : Int32) dL_law_1063 ziconst_1 ?_
                                                        refine zs_iadd dL_law_1064 ?_
                                                        obtain ⟨v426, e427, h⟩ := zbind h
                                                        refine zs_sld dL_law_1065 e427 ?_
                                                        refine zs_aload_n dL_law_1066 rfl ?_
                                                        refine zs_iload_n dL_law_1067 rfl ?_
                                                        refine zs_iconst (2 : Int32) dL_law_1068 ziconst_2 ?_
                                                        refine zs_iadd dL_law_1069 ?_
                                                        obtain ⟨v428, e429, h⟩ := zbind h
                                                        refine zs_sld dL_law_1070 e429 ?_
                                                        obtain ⟨v431, w432, e430, h⟩ := zb2_inv h
                                                        refine zc_V2i moX6_turn mvX6_turn kL_115 rfl dL_law_1071 za_0 (Nat.le_of_ble_eq_true rfl) (zrmL (by decide)) (tX6_turn e430) ?_
                                                        refine zs_aload_n dL_law_1074 rfl ?_
                                                        refine zs_aload_n dL_law_1075 rfl ?_
                                                        refine zs_iload_n dL_law_1076 rfl ?_
                                                        refine zs_iconst (1 : Int32) dL_law_1077 ziconst_1 ?_
                                                        refine zs_iadd dL_law_1078 ?_
                                                        obtain ⟨v433, e434, h⟩ := zbind h
                                                        refine zs_sld dL_law_1079 e434 ?_
                                                        refine zs_aload_n dL_law_1080 rfl ?_
                                                        refine zs_iload_n dL_law_1081 rfl ?_
                                                        refine zs_iconst (2 : Int32) dL_law_1082 ziconst_2 ?_
                                                        refine zs_iadd dL_law_1083 ?_
                                                        obtain ⟨v435, e436, h⟩ := zbind h
                                                        refine zs_sld dL_law_1084 e436 ?_
                                                        obtain ⟨v438, w439, e437, h⟩ := zb2_inv h
                                                        refine zc_V2i moX7_turn mvX7_turn kL_118 rfl dL_law_1085 za_60 (Nat.le_of_ble_eq_true rfl) (zrmL (by decide)) (tX7_turn e437) ?_
                                                        refine zs_icmp_eq 1730 dL_law_1088 rfl (fun c440 => ?_) (fun c440 => ?_)
                                                        · replace h := zite_t c440 h
                                                          refine zs_iinc (i + 6) [some (.ref 90), some (.ref 0), some (.ref 60), some (.int (i + 6))] dL_law_1730 rfl rfl (Nat.le_of_ble_eq_true rfl) rfl rfl ?_
                                                          refine zs_goto 18 dL_law_1733 rfl ?_
                                                          exact ih _ _ _ h
                                                        · replace h := zite_f c440 h
                                                          refine zs_iconst (0 : Int32) dL_law_1091 ziconst_0 ?_
                                                          cases h
                                                      · replace h := zite_f c27 h
                                                        by_cases c28 : (v1 &&& (63 : Int32)) = 25
                                                        · replace h := zite_t c28 h
                                                          refine zs_tswIn (25 : Int32) 1093 dL_law_33 c28 (by decide) (by decide) rfl rfl ?_
                                                          refine zs_aload_n dL_law_1093 rfl ?_
                                                          refine zs_aload_n dL_law_1094 rfl ?_
                                                          refine zs_iload_n dL_law_1095 rfl ?_
                                                          refine zs_iconst (1 : Int32) dL_law_1096 ziconst_1 ?_
                                                          refine zs_iadd dL_law_1097 ?_
                                                          obtain ⟨v441, e442, h⟩ := zbind h
                                                          refine zs_sld dL_law_1098 e442 ?_
                                                          refine zs_aload_n dL_law_1099 rfl ?_
                                                          refine zs_iload_n dL_law_1100 rfl ?_
                                                          refine zs_iconst (2 : Int32) dL_law_1101 ziconst_2 ?_
                                                          refine zs_iadd dL_law_1102 ?_
                                                          obtain ⟨v443, e444, h⟩ := zbind h
                                                          refine zs_sld dL_law_1103 e444 ?_
                                                          obtain ⟨v446, w447, e445, h⟩ := zb2_inv h
                                                          refine zc_V2i moX6_as mvX6_as kL_119 rfl dL_law_1104 za_0 (Nat.le_of_ble_eq_true rfl) (zrmL (by decide)) (tX6_as e445) ?_
                                                          refine zs_aload_n dL_law_1107 rfl ?_
                                                          refine zs_aload_n dL_law_1108 rfl ?_
                                                          refine zs_iload_n dL_law_1109 rfl ?_
                                                          refine zs_iconst (1 : Int32) dL_law_1110 ziconst_1 ?_
                                                          refine zs_iadd dL_law_1111 ?_
                                                          obtain ⟨v448, e449, h⟩ := zbind h
                                                          refine zs_sld dL_law_1112 e449 ?_
                                                          refine zs_aload_n dL_law_1113 rfl ?_
                                                          refine zs_iload_n dL_law_1114 rfl ?_
                                                          refine zs_iconst (2 : Int32) dL_law_1115 ziconst_2 ?_
                                                          refine zs_iadd dL_law_1116 ?_
                                                          obtain ⟨v450, e451, h⟩ := zbind h
                                                          refine zs_sld dL_law_1117 e451 ?_
                                                          obtain ⟨v453, w454, e452, h⟩ := zb2_inv h
                                                          refine zc_V2i moX7_as mvX7_as kL_122 rfl dL_law_1118 za_60 (Nat.le_of_ble_eq_true rfl) (zrmL (by decide)) (tX7_as e452) ?_
                                                          refine zs_icmp_eq 1730 dL_law_1121 rfl (fun c455 => ?_) (fun c455 => ?_)
                                                          · replace h := zite_t c455 h
                                                            refine zs_iinc (i + 6) [some (.ref 90), some (.ref 0), some (.ref 60), some (.int (i + 6))] dL_law_1730 rfl rfl (Nat.le_of_ble_eq_true rfl) rfl rfl ?_
                                                            refine zs_goto 18 dL_law_1733 rfl ?_
                                                            exact ih _ _ _ h
                                                          · replace h := zite_f c455 h
                                                            refine zs_iconst (0 : Int32) dL_law_1124 ziconst_0 ?_
                                                            cases h
                                                        · replace h := zite_f c28 h
                                                          by_cases c29 : (v1 &&& (63 : Int32)) = 26
                                                          · replace h := zite_t c29 h
                                                            refine zs_tswIn (26 : Int32) 1126 dL_law_33 c29 (by decide) (by decide) rfl rfl ?_
                                                            refine zs_aload_n dL_law_1126 rfl ?_
                                                            refine zs_aload_n dL_law_1127 rfl ?_
                                                            refine zs_iload_n dL_law_1128 rfl ?_
                                                            refine zs_iconst (1 : Int32) dL_law_1129 ziconst_1 ?_
                                                            refine zs_iadd dL_law_1130 ?_
                                                            obtain ⟨v456, e457, h⟩ := zbind h
                                                            refine zs_sld dL_law_1131 e457 ?_
                                                            obtain ⟨v459, w460, e458, h⟩ := zb2_inv h
                                                            refine zc_V1i moX6_next mvX6_next kL_123 rfl dL_law_1132 za_0 (Nat.le_of_ble_eq_true rfl) (zrmL (by decide)) (tX6_next e458) ?_
                                                            refine zs_aload_n dL_law_1135 rfl ?_
                                                            refine zs_aload_n dL_law_1136 rfl ?_
                                                            refine zs_iload_n dL_law_1137 rfl ?_
                                                            refine zs_iconst (1 : Int32) dL_law_1138 ziconst_1 ?_
                                                            refine zs_iadd dL_law_1139 ?_
                                                            obtain ⟨v461, e462, h⟩ := zbind h
                                                            refine zs_sld dL_law_1140 e462 ?_
                                                            obtain ⟨v464, w465, e463, h⟩ := zb2_inv h
                                                            refine zc_V1i moX7_next mvX7_next kL_126 rfl dL_law_1141 za_60 (Nat.le_of_ble_eq_true rfl) (zrmL (by decide)) (tX7_next e463) ?_
                                                            refine zs_icmp_eq 1730 dL_law_1144 rfl (fun c466 => ?_) (fun c466 => ?_)
                                                            · replace h := zite_t c466 h
                                                              refine zs_iinc (i + 6) [some (.ref 90), some (.ref 0), some (.ref 60), some (.int (i + 6))] dL_law_1730 rfl rfl (Nat.le_of_ble_eq_true rfl) rfl rfl ?_
                                                              refine zs_goto 18 dL_law_1733 rfl ?_
                                                              exact ih _ _ _ h
                                                            · replace h := zite_f c466 h
                                                              refine zs_iconst (0 : Int32) dL_law_1147 ziconst_0 ?_
                                                              cases h
                                                          · replace h := zite_f c29 h
                                                            by_cases c30 : (v1 &&& (63 : Int32)) = 27
                                                            · replace h := zite_t c30 h
                                                              refine zs_tswIn (27 : Int32) 1149 dL_law_33 c30 (by decide) (by decide) rfl rfl ?_
                                                              refine zs_aload_n dL_law_1149 rfl ?_
                                                              refine zs_aload_n dL_law_1150 rfl ?_
                                                              refine zs_iload_n dL_law_1151 rfl ?_
                                                              refine zs_iconst (1 : Int32) dL_law_1152 ziconst_1 ?_
                                                              refine zs_iadd dL_law_1153 ?_
                                                              obtain ⟨v467, e468, h⟩ := zbind h
                                                              refine zs_sld dL_law_1154 e468 ?_
                                                              obtain ⟨v470, w471, e469, h⟩ := zb2_inv h
                                                              refine zc_V1i moX6_days mvX6_days kL_127 rfl dL_law_1155 za_0 (Nat.le_of_ble_eq_true rfl) (zrmL (by decide)) (tX6_days e469) ?_
                                                              refine zs_aload_n dL_law_1158 rfl ?_
                                                              refine zs_aload_n dL_law_1159 rfl ?_
                                                              refine zs_iload_n dL_law_1160 rfl ?_
                                                              refine zs_iconst (1 : Int32) dL_law_1161 ziconst_1 ?_
                                                              refine zs_iadd dL_law_1162 ?_
                                                              obtain ⟨v472, e473, h⟩ := zbind h
                                                              refine zs_sld dL_law_1163 e473 ?_
                                                              obtain ⟨v475, w476, e474, h⟩ := zb2_inv h
                                                              refine zc_V1i moX7_days mvX7_days kL_130 rfl dL_law_1164 za_60 (Nat.le_of_ble_eq_true rfl) (zrmL (by decide)) (tX7_days e474) ?_
                                                              refine zs_icmp_eq 1730 dL_law_1167 rfl (fun c477 => ?_) (fun c477 => ?_)
                                                              · replace h := zite_t c477 h
                                                                refine zs_iinc (i + 6) [some (.ref 90), some (.ref 0), some (.ref 60), some (.int (i + 6))] dL_law_1730 rfl rfl (Nat.le_of_ble_eq_true rfl) rfl rfl ?_
                                                                refine zs_goto 18 dL_law_1733 rfl ?_
                                                                exact ih _ _ _ h
                                                              · replace h := zite_f c477 h
                                                                refine zs_iconst (0 : Int32) dL_law_1170 ziconst_0 ?_
                                                                cases h
                                                            · replace h := zite_f c30 h
                                                              by_cases c31 : (v1 &&& (63 : Int32)) = 28
                                                              · replace h := zite_t c31 h
                                                                refine zs_tswIn (28 : Int32) 1172 dL_law_33 c31 (by decide) (by decide) rfl rfl ?_
                                                                refine zs_aload_n dL_law_1172 rfl ?_
                                                                refine zs_aload_n dL_law_1173 rfl ?_
                                                                refine zs_iload_n dL_law_1174 rfl ?_
                                                                refine zs_iconst (1 : Int32) dL_law_1175 ziconst_1 ?_
                                                                refine zs_iadd dL_law_1176 ?_
                                                                obtain ⟨v478, e479, h⟩ := zbind h
                                                                refine zs_sld dL_law_1177 e479 ?_
                                                                obtain ⟨v481, w482, e480, h⟩ := zb2_inv h
                                                                refine zc_V1i moX6_day mvX6_day kL_131 rfl dL_law_1178 za_0 (Nat.le_of_ble_eq_true rfl) (zrmL (by decide)) (tX6_day e480) ?_
                                                                refine zs_aload_n dL_law_1181 rfl ?_
                                                                refine zs_aload_n dL_law_1182 rfl ?_
                                                                refine zs_iload_n dL_law_1183 rfl ?_
                                                                refine zs_iconst (1 : Int32) dL_law_1184 ziconst_1 ?_
                                                                refine zs_iadd dL_law_1185 ?_
                                                                obtain ⟨v483, e484, h⟩ := zbind h
                                                                refine zs_sld dL_law_1186 e484 ?_
                                                                obtain ⟨v486, w487, e485, h⟩ := zb2_inv h
                                                                refine zc_V1i moX7_day mvX7_day kL_134 rfl dL_law_1187 za_60 (Nat.le_of_ble_eq_true rfl) (zrmL (by decide)) (tX7_day e485) ?_
                                                                refine zs_icmp_eq 1730 dL_law_1190 rfl (fun c488 => ?_) (fun c488 => ?_)
                                                                · replace h := zite_t c488 h
                                                                  refine zs_iinc (i + 6) [some (.ref 90), some (.ref 0), some (.ref 60), some (.int (i + 6))] dL_law_1730 rfl rfl (Nat.le_of_ble_eq_true rfl) rfl rfl ?_
                                                                  refine zs_goto 18 dL_law_1733 rfl ?_
                                                                  exact ih _ _ _ h
                                                                · replace h := zite_f c488 h
                                                                  refine zs_iconst (0 : Int32) dL_law_1193 ziconst_0 ?_
                                                                  cases h
                                                              · replace h := zite_f c31 h
                                                                by_cases c32 : (v1 &&& (63 : Int32)) = 29
                                                                · replace h := zite_t c32 h
                                                                  refine zs_tswIn (29 : Int32) 1195 dL_law_33 c32 (by decide) (by decide) rfl rfl ?_
                                                                  refine zs_aload_n dL_law_1195 rfl ?_
                                                                  refine zs_aload_n dL_law_1196 rfl ?_
                                                                  refine zs_iload_n dL_law_1197 rfl ?_
                                                                  refine zs_iconst (1 : Int32) dL_law_1198 ziconst_1 ?_
                                                                  refine zs_iadd dL_law_1199 ?_
                                                                  obtain ⟨v489, e490, h⟩ := zbind h
                                                                  refine zs_sld dL_law_1200 e490 ?_
                                                                  obtain ⟨v492, w493, e491, h⟩ := zb2_inv h
                                                                  refine zc_V1i moX6_now mvX6_now kL_135 rfl dL_law_1201 za_0 (Nat.le_of_ble_eq_true rfl) (zrmL (by decide)) (tX6_now e491) ?_
                                                                  refine zs_aload_n dL_law_1204 rfl ?_
                                                                  refine zs_aload_n dL_law_1205 rfl ?_
                                                                  refine zs_iload_n dL_law_1206 rfl ?_
                                                                  refine zs_iconst (1 : Int32) dL_law_1207 ziconst_1 ?_
                                                                  refine zs_iadd dL_law_1208 ?_
                                                                  obtain ⟨v494, e495, h⟩ := zbind h
                                                                  refine zs_sld dL_law_1209 e495 ?_
                                                                  obtain ⟨v497, w498, e496, h⟩ := zb2_inv h
                                                                  refine zc_V1i moX7_now mvX7_now kL_138 rfl dL_law_1210 za_60 (Nat.le_of_ble_eq_true rfl) (zrmL (by decide)) (tX7_now e496) ?_
                                                                  refine zs_icmp_eq 1730 dL_law_1213 rfl (fun c499 => ?_) (fun c499 => ?_)
                                                                  · replace h := zite_t c499 h
                                                                    refine zs_iinc (i + 6) [some (.ref 90), some (.ref 0), some (.ref 60), some (.int (i + 6))] dL_law_1730 rfl rfl (Nat.le_of_ble_eq_true rfl) rfl rfl ?_
                                                                    refine zs_goto 18 dL_law_1733 rfl ?_
                                                                    exact ih _ _ _ h
                                                                  · replace h := zite_f c499 h
                                                                    refine zs_iconst (0 : Int32) dL_law_1216 ziconst_0 ?_
                                                                    cases h
                                                                · replace h := zite_f c32 h
                                                                  by_cases c33 : (v1 &&& (63 : Int32)) = 30
                                                                  · replace h := zite_t c33 h
                                                                    refine zs_tswIn (30 : Int32) 1218 dL_law_33 c33 (by decide) (by decide) rfl rfl ?_
                                                                    refine zs_aload_n dL_law_1218 rfl ?_
                                                                    refine zs_aload_n dL_law_1219 rfl ?_
                                                                    refine zs_iload_n dL_law_1220 rfl ?_
                                                                    refine zs_iconst (1 : Int32) dL_law_1221 ziconst_1 ?_
                                                                    refine zs_iadd dL_law_1222 ?_
                                                                    obtain ⟨v500, e501, h⟩ := zbind h
                                                                    refine zs_sld dL_law_1223 e501 ?_
                                                                    refine zs_aload_n dL_law_1224 rfl ?_
                                                                    refine zs_iload_n dL_law_1225 rfl ?_
                                                                    refine zs_iconst (2 : Int32) dL_law_1226 ziconst_2 ?_
                                                                    refine zs_iadd dL_law_1227 ?_
                                                                    obtain ⟨v502, e503, h⟩ := zbind h
                                                                    refine zs_sld dL_law_1228 e503 ?_
                                                                    obtain ⟨v505, w506, e504, h⟩ := zb2_inv h
                                                                    refine zc_V2i moX6_on mvX6_on kL_139 rfl dL_law_1229 za_0 (Nat.le_of_ble_eq_true rfl) (zrmL (by decide)) (tX6_on e504) ?_
                                                                    refine zs_aload_n dL_law_1232 rfl ?_
                                                                    refine zs_aload_n dL_law_1233 rfl ?_
                                                                    refine zs_iload_n dL_law_1234 rfl ?_
                                                                    refine zs_iconst (1 : Int32) dL_law_1235 ziconst_1 ?_
                                                                    refine zs_iadd dL_law_1236 ?_
                                                                    obtain ⟨v507, e508, h⟩ := zbind h
                                                                    refine zs_sld dL_law_1237 e508 ?_
                                                                    refine zs_aload_n dL_law_1238 rfl ?_
                                                                    refine zs_iload_n dL_law_1239 rfl ?_
                                                                    refine zs_iconst (2 : Int32) dL_law_1240 ziconst_2 ?_
                                                                    refine zs_iadd dL_law_1241 ?_
                                                                    obtain ⟨v509, e510, h⟩ := zbind h
                                                                    refine zs_sld dL_law_1242 e510 ?_
                                                                    obtain ⟨v512, w513, e511, h⟩ := zb2_inv h
                                                                    refine zc_V2i moX7_on mvX7_on kL_142 rfl dL_law_1243 za_60 (Nat.le_of_ble_eq_true rfl) (zrmL (by decide)) (tX7_on e511) ?_
                                                                    refine zs_icmp_eq 1730 dL_law_1246 rfl (fun c514 => ?_) (fun c514 => ?_)
                                                                    · replace h := zite_t c514 h
                                                                      refine zs_iinc (i + 6) [some (.ref 90), some (.ref 0), some (.ref 60), some (.int (i + 6))] dL_law_1730 rfl rfl (Nat.le_of_ble_eq_true rfl) rfl rfl ?_
                                                                      refine zs_goto 18 dL_law_1733 rfl ?_
                                                                      exact ih _ _ _ h
                                                                    · replace h := zite_f c514 h
                                                                      refine zs_iconst (0 : Int32) dL_law_1249 ziconst_0 ?_
                                                                      cases h
                                                                  · replace h := zite_f c33 h
                                                                    by_cases c34 : (v1 &&& (63 : Int32)) = 31
                                                                    · replace h := zite_t c34 h
                                                                      refine zs_tswIn (31 : Int32) 1251 dL_law_33 c34 (by decide) (by decide) rfl rfl ?_
                                                                      refine zs_aload_n dL_law_1251 rfl ?_
                                                                      refine zs_aload_n dL_law_1252 rfl ?_
                                                                      refine zs_iload_n dL_law_1253 rfl ?_
                                                                      refine zs_iconst (1 : Int32) dL_law_1254 ziconst_1 ?_
                                                                      refine zs_iadd dL_law_1255 ?_
                                                                      obtain ⟨v515, e516, h⟩ := zbind h
                                                                      refine zs_sld dL_law_1256 e516 ?_
                                                                      obtain ⟨v518, w519, e517, h⟩ := zb2_inv h
                                                                      refine zc_V1i moX6_when mvX6_when kL_143 rfl dL_law_1257 za_0 (Nat.le_of_ble_eq_true rfl) (zrmL (by decide)) (tX6_when e517) ?_
                                                                      refine zs_aload_n dL_law_1260 rfl ?_
                                                                      refine zs_aload_n dL_law_1261 rfl ?_
                                                                      refine zs_iload_n dL_law_1262 rfl ?_
                                                                      refine zs_iconst (1 : Int32) dL_law_1263 ziconst_1 ?_
                                                                      refine zs_iadd dL_law_1264 ?_
                                                                      obtain ⟨v520, e521, h⟩ := zbind h
                                                                      refine zs_sld dL_law_1265 e521 ?_
                                                                      obtain ⟨v523, w524, e522, h⟩ := zb2_inv h
                                                                      refine zc_V1i moX7_when mvX7_when kL_146 rfl dL_law_1266 za_60 (Nat.le_of_ble_eq_true rfl) (zrmL (by decide)) (tX7_when e522) ?_
                                                                      refine zs_icmp_eq 1730 dL_law_1269 rfl (fun c525 => ?_) (fun c525 => ?_)
                                                                      · replace h := zite_t c525 h
                                                                        refine zs_iinc (i + 6) [some (.ref 90), some (.ref 0), some (.ref 60), some (.int (i + 6))] dL_law_1730 rfl rfl (Nat.le_of_ble_eq_true rfl) rfl rfl ?_
                                                                        refine zs_goto 18 dL_law_1733 rfl ?_
                                                                        exact ih _ _ _ h
                                                                      · replace h := zite_f c525 h
                                                                        refine zs_iconst (0 : Int32) dL_law_1272 ziconst_0 ?_
                                                                        cases h
                                                                    · replace h := zite_f c34 h
                                                                      by_cases c35 : (v1 &&& (63 : Int32)) = 32
                                                                      · replace h := zite_t c35 h
                                                                        refine zs_tswIn (32 : Int32) 1274 dL_law_33 c35 (by decide) (by decide) rfl rfl ?_
                                                                        refine zs_aload_n dL_law_1274 rfl ?_
                                                                        refine zs_aload_n dL_law_1275 rfl ?_
                                                                        refine zs_iload_n dL_law_1276 rfl ?_
                                                                        refine zs_iconst (1 : Int32) dL_law_1277 ziconst_1 ?_
                                                                        refine zs_iadd dL_law_1278 ?_
                                                                        obtain ⟨v526, e527, h⟩ := zbind h
                                                                        refine zs_sld dL_law_1279 e527 ?_
                                                                        refine zs_aload_n dL_law_1280 rfl ?_
                                                                        refine zs_iload_n dL_law_1281 rfl ?_
                                                                        refine zs_iconst (2 : Int32) dL_law_1282 ziconst_2 ?_
                                                                        refine zs_iadd dL_law_1283 ?_
                                                                        obtain ⟨v528, e529, h⟩ := zbind h
                                                                        refine zs_sld dL_law_1284 e529 ?_
                                                                        obtain ⟨v531, w532, e530, h⟩ := zb2_inv h
                                                                        refine zc_V2i moX6_first mvX6_first kL_147 rfl dL_law_1285 za_0 (Nat.le_of_ble_eq_true rfl) (zrmL (by decide)) (tX6_first e530) ?_
                                                                        refine zs_aload_n dL_law_1288 rfl ?_
                                                                        refine zs_aload_n dL_law_1289 rfl ?_
                                                                        refine zs_iload_n dL_law_1290 rfl ?_
                                                                        refine zs_iconst (1 : Int32) dL_law_1291 ziconst_1 ?_
                                                                        refine zs_iadd dL_law_1292 ?_
                                                                        obtain ⟨v533, e534, h⟩ := zbind h
                                                                        refine zs_sld dL_law_1293 e534 ?_
                                                                        refine zs_aload_n dL_law_1294 rfl ?_
                                                                        refine zs_iload_n dL_law_1295 rfl ?_
                                                                        refine zs_iconst (2 : Int32) dL_law_1296 ziconst_2 ?_
                                                                        refine zs_iadd dL_law_1297 ?_
                                                                        obtain ⟨v535, e536, h⟩ := zbind h
                                                                        refine zs_sld dL_law_1298 e536 ?_
                                                                        obtain ⟨v538, w539, e537, h⟩ := zb2_inv h
                                                                        refine zc_V2i moX7_first mvX7_first kL_150 rfl dL_law_1299 za_60 (Nat.le_of_ble_eq_true rfl) (zrmL (by decide)) (tX7_first e537) ?_
                                                                        refine zs_icmp_eq 1730 dL_law_1302 rfl (fun c540 => ?_) (fun c540 => ?_)
                                                                        · replace h := zite_t c540 h
                                                                          refine zs_iinc (i + 6) [some (.ref 90), some (.ref 0), some (.ref 60), some (.int (i + 6))] dL_law_1730 rfl rfl (Nat.le_of_ble_eq_true rfl) rfl rfl ?_
                                                                          refine zs_goto 18 dL_law_1733 rfl ?_
                                                                          exact ih _ _ _ h
                                                                        · replace h := zite_f c540 h
                                                                          refine zs_iconst (0 : Int32) dL_law_1305 ziconst_0 ?_
                                                                          cases h
                                                                      · replace h := zite_f c35 h
                                                                        by_cases c36 : (v1 &&& (63 : Int32)) = 33
                                                                        · replace h := zite_t c36 h
                                                                          refine zs_tswIn (33 : Int32) 1307 dL_law_33 c36 (by decide) (by decide) rfl rfl ?_
                                                                          refine zs_aload_n dL_law_1307 rfl ?_
                                                                          refine zs_aload_n dL_law_1308 rfl ?_
                                                                          refine zs_iload_n dL_law_1309 rfl ?_
                                                                          refine zs_iconst (1 : Int32) dL_law_1310 ziconst_1 ?_
                                                                          refine zs_iadd dL_law_1311 ?_
                                                                          obtain ⟨v541, e542, h⟩ := zbind h
                                                                          refine zs_sld dL_law_1312 e542 ?_
                                                                          refine zs_aload_n dL_law_1313 rfl ?_
                                                                          refine zs_iload_n dL_law_1314 rfl ?_
                                                                          refine zs_iconst (2 : Int32) dL_law_1315 ziconst_2 ?_
                                                                          refine zs_iadd dL_law_1316 ?_
                                                                          obtain ⟨v543, e544, h⟩ := zbind h
                                                                          refine zs_sld dL_law_1317 e544 ?_
                                                                          obtain ⟨v546, w547, e545, h⟩ := zb2_inv h
                                                                          refine zc_V2i moX6_feed mvX6_feed kL_151 rfl dL_law_1318 za_0 (Nat.le_of_ble_eq_true rfl) (zrmL (by decide)) (tX6_feed e545) ?_
                                                                          refine zs_aload_n dL_law_1321 rfl ?_
                                                                          refine zs_aload_n dL_law_1322 rfl ?_
                                                                          refine zs_iload_n dL_law_1323 rfl ?_
                                                                          refine zs_iconst (1 : Int32) dL_law_1324 ziconst_1 ?_
                                                                          refine zs_iadd dL_law_1325 ?_
                                                                          obtain ⟨v548, e549, h⟩ := zbind h
                                                                          refine zs_sld dL_law_1326 e549 ?_
                                                                          refine zs_aload_n dL_law_1327 rfl ?_
                                                                          refine zs_iload_n dL_law_1328 rfl ?_
                                                                          refine zs_iconst (2 : Int32) dL_law_1329 ziconst_2 ?_
                                                                          refine zs_iadd dL_law_1330 ?_
                                                                          obtain ⟨v550, e551, h⟩ := zbind h
                                                                          refine zs_sld dL_law_1331 e551 ?_
                                                                          obtain ⟨v553, w554, e552, h⟩ := zb2_inv h
                                                                          refine zc_V2i moX7_feed mvX7_feed kL_154 rfl dL_law_1332 za_60 (Nat.le_of_ble_eq_true rfl) (zrmL (by decide)) (tX7_feed e552) ?_
                                                                          refine zs_icmp_eq 1730 dL_law_1335 rfl (fun c555 => ?_) (fun c555 => ?_)
                                                                          · replace h := zite_t c555 h
                                                                            refine zs_iinc (i + 6) [some (.ref 90), some (.ref 0), some (.ref 60), some (.int (i + 6))] dL_law_1730 rfl rfl (Nat.le_of_ble_eq_true rfl) rfl rfl ?_
                                                                            refine zs_goto 18 dL_law_1733 rfl ?_
                                                                            exact ih _ _ _ h
                                                                          · replace h := zite_f c555 h
                                                                            refine zs_iconst (0 : Int32) dL_law_1338 ziconst_0 ?_
                                                                            cases h
                                                                        · replace h := zite_f c36 h
                                                                          by_cases c37 : (v1 &&& (63 : Int32)) = 34
                                                                          · replace h := zite_t c37 h
                                                                            refine zs_tswIn (34 : Int32) 1340 dL_law_33 c37 (by decide) (by decide) rfl rfl ?_
                                                                            refine zs_aload_n dL_law_1340 rfl ?_
                                                                            obtain ⟨v557, w558, e556, h⟩ := zb2_inv h
                                                                            refine zc_V0i moX6_wipe mvX6_wipe kL_155 rfl dL_law_1341 za_0 (Nat.le_of_ble_eq_true rfl) (zrmL (by decide)) (tX6_wipe e556) ?_
                                                                            refine zs_aload_n dL_law_1344 rfl ?_
                                                                            obtain ⟨v560, w561, e559, h⟩ := zb2_inv h
                                                                            refine zc_V0i moX7_wipe mvX7_wipe kL_158 rfl dL_law_1345 za_60 (Nat.le_of_ble_eq_true rfl) (zrmL (by decide)) (tX7_wipe e559) ?_
                                                                            refine zs_icmp_eq 1730 dL_law_1348 rfl (fun c562 => ?_) (fun c562 => ?_)
                                                                            · replace h := zite_t c562 h
                                                                              refine zs_iinc (i + 6) [some (.ref 90), some (.ref 0), some (.ref 60), some (.int (i + 6))] dL_law_1730 rfl rfl (Nat.le_of_ble_eq_true rfl) rfl rfl ?_
                                                                              refine zs_goto 18 dL_law_1733 rfl ?_
                                                                              exact ih _ _ _ h
                                                                            · replace h := zite_f c562 h
                                                                              refine zs_iconst (0 : Int32) dL_law_1351 ziconst_0 ?_
                                                                              cases h
                                                                          · replace h := zite_f c37 h
                                                                            by_cases c38 : (v1 &&& (63 : Int32)) = 35
                                                                            · replace h := zite_t c38 h
                                                                              refine zs_tswIn (35 : Int32) 1353 dL_law_33 c38 (by decide) (by decide) rfl rfl ?_
                                                                              refine zs_aload_n dL_law_1353 rfl ?_
                                                                              obtain ⟨v564, w565, e563, h⟩ := zb2_inv h
                                                                              refine zc_V0i moX6_text mvX6_text kL_159 rfl dL_law_1354 za_0 (Nat.le_of_ble_eq_true rfl) (zrmL (by decide)) (tX6_text e563) ?_
                                                                              refine zs_aload_n dL_law_1357 rfl ?_
                                                                              obtain ⟨v567, w568, e566, h⟩ := zb2_inv h
                                                                              refine zc_V0i moX7_text mvX7_text kL_162 rfl dL_law_1358 za_60 (Nat.le_of_ble_eq_true rfl) (zrmL (by decide)) (tX7_text e566) ?_
                                                                              refine zs_icmp_eq 1730 dL_law_1361 rfl (fun c569 => ?_) (fun c569 => ?_)
                                                                              · replace h := zite_t c569 h
                                                                                refine zs_iinc (i + 6) [some (.ref 90), some (.ref 0), some (.ref 60), some (.int (i + 6))] dL_law_1730 rfl rfl (Nat.le_of_ble_eq_true rfl) rfl rfl ?_
                                                                                refine zs_goto 18 dL_law_1733 rfl ?_
                                                                                exact ih _ _ _ h
                                                                              · replace h := zite_f c569 h
                                                                                refine zs_iconst (0 : Int32) dL_law_1364 ziconst_0 ?_
                                                                                cases h
                                                                            · replace h := zite_f c38 h
                                                                              by_cases c39 : (v1 &&& (63 : Int32)) = 36
                                                                              · replace h := zite_t c39 h
                                                                                refine zs_tswIn (36 : Int32) 1366 dL_law_33 c39 (by decide) (by decide) rfl rfl ?_
                                                                                refine zs_aload_n dL_law_1366 rfl ?_
                                                                                refine zs_aload_n dL_law_1367 rfl ?_
                                                                                refine zs_iload_n dL_law_1368 rfl ?_
                                                                                refine zs_iconst (1 : Int32) dL_law_1369 ziconst_1 ?_
                                                                                refine zs_iadd dL_law_1370 ?_
                                                                                obtain ⟨v570, e571, h⟩ := zbind h
                                                                                refine zs_sld dL_law_1371 e571 ?_
                                                                                refine zs_aload_n dL_law_1372 rfl ?_
                                                                                refine zs_iload_n dL_law_1373 rfl ?_
                                                                                refine zs_iconst (2 : Int32) dL_law_1374 ziconst_2 ?_
                                                                                refine zs_iadd dL_law_1375 ?_
                                                                                obtain ⟨v572, e573, h⟩ := zbind h
                                                                                refine zs_sld dL_law_1376 e573 ?_
                                                                                refine zs_aload_n dL_law_1377 rfl ?_
                                                                                refine zs_iload_n dL_law_1378 rfl ?_
                                                                                refine zs_iconst (3 : Int32) dL_law_1379 ziconst_3 ?_
                                                                                refine zs_iadd dL_law_1380 ?_
                                                                                obtain ⟨v574, e575, h⟩ := zbind h
                                                                                refine zs_sld dL_law_1381 e575 ?_
                                                                                obtain ⟨v577, w578, e576, h⟩ := zb2_inv h
                                                                                refine zc_V3i moX6_sheet mvX6_sheet kL_163 rfl dL_law_1382 za_0 (Nat.le_of_ble_eq_true rfl) (zrmL (by decide)) (tX6_sheet e576) ?_
                                                                                refine zs_aload_n dL_law_1385 rfl ?_
                                                                                refine zs_aload_n dL_law_1386 rfl ?_
                                                                                refine zs_iload_n dL_law_1387 rfl ?_
                                                                                refine zs_iconst (1 : Int32) dL_law_1388 ziconst_1 ?_
                                                                                refine zs_iadd dL_law_1389 ?_
                                                                                obtain ⟨v579, e580, h⟩ := zbind h
                                                                                refine zs_sld dL_law_1390 e580 ?_
                                                                                refine zs_aload_n dL_law_1391 rfl ?_
                                                                                refine zs_iload_n dL_law_1392 rfl ?_
                                                                                refine zs_iconst (2 : Int32) dL_law_1393 ziconst_2 ?_
                                                                                refine zs_iadd dL_law_1394 ?_
                                                                                obtain ⟨v581, e582, h⟩ := zbind h
                                                                                refine zs_sld dL_law_1395 e582 ?_
                                                                                refine zs_aload_n dL_law_1396 rfl ?_
                                                                                refine zs_iload_n dL_law_1397 rfl ?_
                                                                                refine zs_iconst (3 : Int32) dL_law_1398 ziconst_3 ?_
                                                                                refine zs_iadd dL_law_1399 ?_
                                                                                obtain ⟨v583, e584, h⟩ := zbind h
                                                                                refine zs_sld dL_law_1400 e584 ?_
                                                                                obtain ⟨v586, w587, e585, h⟩ := zb2_inv h
                                                                                refine zc_V3i moX7_sheet mvX7_sheet kL_166 rfl dL_law_1401 za_60 (Nat.le_of_ble_eq_true rfl) (zrmL (by decide)) (tX7_sheet e585) ?_
                                                                                refine zs_icmp_eq 1730 dL_law_1404 rfl (fun c588 => ?_) (fun c588 => ?_)
                                                                                · replace h := zite_t c588 h
                                                                                  refine zs_iinc (i + 6) [some (.ref 90), some (.ref 0), some (.ref 60), some (.int (i + 6))] dL_law_1730 rfl rfl (Nat.le_of_ble_eq_true rfl) rfl rfl ?_
                                                                                  refine zs_goto 18 dL_law_1733 rfl ?_
                                                                                  exact ih _ _ _ h
                                                                                · replace h := zite_f c588 h
                                                                                  refine zs_iconst (0 : Int32) dL_law_1407 ziconst_0 ?_
                                                                                  cases h
                                                                              · replace h := zite_f c39 h
                                                                                by_cases c40 : (v1 &&& (63 : Int32)) = 37
                                                                                · replace h := zite_t c40 h
                                                                                  refine zs_tswIn (37 : Int32) 1409 dL_law_33 c40 (by decide) (by decide) rfl rfl ?_
                                                                                  refine zs_aload_n dL_law_1409 rfl ?_
                                                                                  refine zs_aload_n dL_law_1410 rfl ?_
                                                                                  refine zs_iload_n dL_law_1411 rfl ?_
                                                                                  refine zs_iconst (1 : Int32) dL_law_1412 ziconst_1 ?_
                                                                                  refine zs_iadd dL_law_1413 ?_
                                                                                  obtain ⟨v589, e590, h⟩ := zbind h
                                                                                  refine zs_sld dL_law_1414 e590 ?_
                                                                                  refine zs_aload_n dL_law_1415 rfl ?_
                                                                                  refine zs_iload_n dL_law_1416 rfl ?_
                                                                                  refine zs_iconst (2 : Int32) dL_law_1417 ziconst_2 ?_
                                                                                  refine zs_iadd dL_law_1418 ?_
                                                                                  obtain ⟨v591, e592, h⟩ := zbind h
                                                                                  refine zs_sld dL_law_1419 e592 ?_
                                                                                  refine zs_aload_n dL_law_1420 rfl ?_
                                                                                  refine zs_iload_n dL_law_1421 rfl ?_
                                                                                  refine zs_iconst (3 : Int32) dL_law_1422 ziconst_3 ?_
                                                                                  refine zs_iadd dL_law_1423 ?_
                                                                                  obtain ⟨v593, e594, h⟩ := zbind h
                                                                                  refine zs_sld dL_law_1424 e594 ?_
                                                                                  refine zs_i2l dL_law_1425 ?_
                                                                                  refine zs_bipush (32 : Int32) dL_law_1426 zbipush_32 ?_
                                                                                  refine zs_lshl dL_law_1428 ?_
                                                                                  refine zs_aload_n dL_law_1429 rfl ?_
                                                                                  refine zs_iload_n dL_law_1430 rfl ?_
                                                                                  refine zs_iconst (4 : Int32) dL_law_1431 ziconst_4 ?_
                                                                                  refine zs_iadd dL_law_1432 ?_
                                                                                  obtain ⟨v595, e596, h⟩ := zbind h
                                                                                  refine zs_sld dL_law_1433 e596 ?_
                                                                                  refine zs_i2l dL_law_1434 ?_
                                                                                  refine zs_ldc2_w kL_167 dL_law_1435 ?_
                                                                                  refine zs_land dL_law_1438 ?_
                                                                                  refine zs_lor dL_law_1439 ?_
                                                                                  obtain ⟨v598, w599, e597, h⟩ := zb2_inv h
                                                                                  refine zc_V3j moX6_write mvX6_write kL_169 rfl dL_law_1440 za_0 (Nat.le_of_ble_eq_true rfl) (zrmL (by decide)) (tX6_write e597) ?_
                                                                                  refine zs_aload_n dL_law_1443 rfl ?_
                                                                                  refine zs_aload_n dL_law_1444 rfl ?_
                                                                                  refine zs_iload_n dL_law_1445 rfl ?_
                                                                                  refine zs_iconst (1 : Int32) dL_law_1446 ziconst_1 ?_
                                                                                  refine zs_iadd dL_law_1447 ?_
                                                                                  obtain ⟨v600, e601, h⟩ := zbind h
                                                                                  refine zs_sld dL_law_1448 e601 ?_
                                                                                  refine zs_aload_n dL_law_1449 rfl ?_
                                                                                  refine zs_iload_n dL_law_1450 rfl ?_
                                                                                  refine zs_iconst (2 : Int32) dL_law_1451 ziconst_2 ?_
                                                                                  refine zs_iadd dL_law_1452 ?_
                                                                                  obtain ⟨v602, e603, h⟩ := zbind h
                                                                                  refine zs_sld dL_law_1453 e603 ?_
                                                                                  refine zs_aload_n dL_law_1454 rfl ?_
                                                                                  refine zs_iload_n dL_law_1455 rfl ?_
                                                                                  refine zs_iconst (3 : Int32) dL_law_1456 ziconst_3 ?_
                                                                                  refine zs_iadd dL_law_1457 ?_
                                                                                  obtain ⟨v604, e605, h⟩ := zbind h
                                                                                  refine zs_sld dL_law_1458 e605 ?_
                                                                                  refine zs_i2l dL_law_1459 ?_
                                                                                  refine zs_bipush (32 : Int32) dL_law_1460 zbipush_32 ?_
                                                                                  refine zs_lshl dL_law_1462 ?_
                                                                                  refine zs_aload_n dL_law_1463 rfl ?_
                                                                                  refine zs_iload_n dL_law_1464 rfl ?_
                                                                                  refine zs_iconst (4 : Int32) dL_law_1465 ziconst_4 ?_
                                                                                  refine zs_iadd dL_law_1466 ?_
                                                                                  obtain ⟨v606, e607, h⟩ := zbind h
                                                                                  refine zs_sld dL_law_1467 e607 ?_
                                                                                  refine zs_i2l dL_law_1468 ?_
                                                                                  refine zs_ldc2_w kL_167 dL_law_1469 ?_
                                                                                  refine zs_land dL_law_1472 ?_
                                                                                  refine zs_lor dL_law_1473 ?_
                                                                                  obtain ⟨v609, w610, e608, h⟩ := zb2_inv h
                                                                                  refine zc_V3j moX7_write mvX7_write kL_173 rfl dL_law_1474 za_60 (Nat.le_of_ble_eq_true rfl) (zrmL (by decide)) (tX7_write e608) ?_
                                                                                  refine zs_lcmp dL_law_1477 ?_
                                                                                  refine zs_if_eq 1730 dL_law_1478 rfl (fun c611 => ?_) (fun c611 => ?_)
                                                                                  · replace h := zite_t c611 h
                                                                                    refine zs_iinc (i + 6) [some (.ref 90), some (.ref 0), some (.ref 60), some (.int (i + 6))] dL_law_1730 rfl rfl (Nat.le_of_ble_eq_true rfl) rfl rfl ?_
                                                                                    refine zs_goto 18 dL_law_1733 rfl ?_
                                                                                    exact ih _ _ _ h
                                                                                  · replace h := zite_f c611 h
                                                                                    refine zs_iconst (0 : Int32) dL_law_1481 ziconst_0 ?_
                                                                                    cases h
                                                                                · replace h := zite_f c40 h
                                                                                  by_cases c41 : (v1 &&& (63 : Int32)) = 38
                                                                                  · replace h := zite_t c41 h
                                                                                    refine zs_tswIn (38 : Int32) 1483 dL_law_33 c41 (by decide) (by decide) rfl rfl ?_
                                                                                    refine zs_aload_n dL_law_1483 rfl ?_
                                                                                    refine zs_aload_n dL_law_1484 rfl ?_
                                                                                    refine zs_iload_n dL_law_1485 rfl ?_
                                                                                    refine zs_iconst (1 : Int32) dL_law_1486 ziconst_1 ?_
                                                                                    refine zs_iadd dL_law_1487 ?_
                                                                                    obtain ⟨v612, e613, h⟩ := zbind h
                                                                                    refine zs_sld dL_law_1488 e613 ?_
                                                                                    refine zs_aload_n dL_law_1489 rfl ?_
                                                                                    refine zs_iload_n dL_law_1490 rfl ?_
                                                                                    refine zs_iconst (2 : Int32) dL_law_1491 ziconst_2 ?_
                                                                                    refine zs_iadd dL_law_1492 ?_
                                                                                    obtain ⟨v614, e615, h⟩ := zbind h
                                                                                    refine zs_sld dL_law_1493 e615 ?_
                                                                                    refine zs_aload_n dL_law_1494 rfl ?_
                                                                                    refine zs_iload_n dL_law_1495 rfl ?_
                                                                                    refine zs_iconst (3 : Int32) dL_law_1496 ziconst_3 ?_
                                                                                    refine zs_iadd dL_law_1497 ?_
                                                                                    obtain ⟨v616, e617, h⟩ := zbind h
                                                                                    refine zs_sld dL_law_1498 e617 ?_
                                                                                    refine zs_aload_n dL_law_1499 rfl ?_
                                                                                    refine zs_iload_n dL_law_1500 rfl ?_
                                                                                    refine zs_iconst (4 : Int32) dL_law_1501 ziconst_4 ?_
                                                                                    refine zs_iadd dL_law_1502 ?_
                                                                                    obtain ⟨v618, e619, h⟩ := zbind h
                                                                                    refine zs_sld dL_law_1503 e619 ?_
                                                                                    refine zs_aload_n dL_law_1504 rfl ?_
                                                                                    refine zs_iload_n dL_law_1505 rfl ?_
                                                                                    refine zs_iconst (5 : Int32) dL_law_1506 ziconst_5 ?_
                                                                                    refine zs_iadd dL_law_1507 ?_
                                                                                    obtain ⟨v620, e621, h⟩ := zbind h
                                                                                    refine zs_sld dL_law_1508 e621 ?_
                                                                                    obtain ⟨v623, w624, e622, h⟩ := zb2_inv h
                                                                                    refine zc_V5i moX6_copy mvX6_copy kL_174 rfl dL_law_1509 za_0 (Nat.le_of_ble_eq_true rfl) (zrmL (by decide)) (tX6_copy e622) ?_
                                                                                    refine zs_aload_n dL_law_1512 rfl ?_
                                                                                    refine zs_aload_n dL_law_1513 rfl ?_
                                                                                    refine zs_iload_n dL_law_1514 rfl ?_
                                                                                    refine zs_iconst (1 : Int32) dL_law_1515 ziconst_1 ?_
                                                                                    refine zs_iadd dL_law_1516 ?_
                                                                                    obtain ⟨v625, e626, h⟩ := zbind h
                                                                                    refine zs_sld dL_law_1517 e626 ?_
                                                                                    refine zs_aload_n dL_law_1518 rfl ?_
                                                                                    refine zs_iload_n dL_law_1519 rfl ?_
                                                                                    refine zs_iconst (2 : Int32) dL_law_1520 ziconst_2 ?_
                                                                                    refine zs_iadd dL_law_1521 ?_
                                                                                    obtain ⟨v627, e628, h⟩ := zbind h
                                                                                    refine zs_sld dL_law_1522 e628 ?_
                                                                                    refine zs_aload_n dL_law_1523 rfl ?_
                                                                                    refine zs_iload_n dL_law_1524 rfl ?_
                                                                                    refine zs_iconst (3 : Int32) dL_law_1525 ziconst_3 ?_
                                                                                    refine zs_iadd dL_law_1526 ?_
                                                                                    obtain ⟨v629, e630, h⟩ := zbind h
                                                                                    refine zs_sld dL_law_1527 e630 ?_
                                                                                    refine zs_aload_n dL_law_1528 rfl ?_
                                                                                    refine zs_iload_n dL_law_1529 rfl ?_
                                                                                    refine zs_iconst (4 : Int32) dL_law_1530 ziconst_4 ?_
                                                                                    refine zs_iadd dL_law_1531 ?_
                                                                                    obtain ⟨v631, e632, h⟩ := zbind h
                                                                                    refine zs_sld dL_law_1532 e632 ?_
                                                                                    refine zs_aload_n dL_law_1533 rfl ?_
                                                                                    refine zs_iload_n dL_law_1534 rfl ?_
                                                                                    refine zs_iconst (5 : Int32) dL_law_1535 ziconst_5 ?_
                                                                                    refine zs_iadd dL_law_1536 ?_
                                                                                    obtain ⟨v633, e634, h⟩ := zbind h
                                                                                    refine zs_sld dL_law_1537 e634 ?_
                                                                                    obtain ⟨v636, w637, e635, h⟩ := zb2_inv h
                                                                                    refine zc_V5i moX7_copy mvX7_copy kL_178 rfl dL_law_1538 za_60 (Nat.le_of_ble_eq_true rfl) (zrmL (by decide)) (tX7_copy e635) ?_
                                                                                    refine zs_icmp_eq 1730 dL_law_1541 rfl (fun c638 => ?_) (fun c638 => ?_)
                                                                                    · replace h := zite_t c638 h
                                                                                      refine zs_iinc (i + 6) [some (.ref 90), some (.ref 0), some (.ref 60), some (.int (i + 6))] dL_law_1730 rfl rfl (Nat.le_of_ble_eq_true rfl) rfl rfl ?_
                                                                                      refine zs_goto 18 dL_law_1733 rfl ?_
                                                                                      exact ih _ _ _ h
                                                                                    · replace h := zite_f c638 h
                                                                                      refine zs_iconst (0 : Int32) dL_law_1544 ziconst_0 ?_
                                                                                      cases h
                                                                                  · replace h := zite_f c41 h
                                                                                    by_cases c42 : (v1 &&& (63 : Int32)) = 39
                                                                                    · replace h := zite_t c42 h
                                                                                      refine zs_tswIn (39 : Int32) 1546 dL_law_33 c42 (by decide) (by decide) rfl rfl ?_
                                                                                      refine zs_aload_n dL_law_1546 rfl ?_
                                                                                      refine zs_aload_n dL_law_1547 rfl ?_
                                                                                      refine zs_iload_n dL_law_1548 rfl ?_
                                                                                      refine zs_iconst (1 : Int32) dL_law_1549 ziconst_1 ?_
                                                                                      refine zs_iadd dL_law_1550 ?_
                                                                                      obtain ⟨v639, e640, h⟩ := zbind h
                                                                                      refine zs_sld dL_law_1551 e640 ?_
                                                                                      obtain ⟨v642, w643, e641, h⟩ := zb2_inv h
                                                                                      refine zc_V1i moX6_lays mvX6_lays kL_179 rfl dL_law_1552 za_0 (Nat.le_of_ble_eq_true rfl) (zrmL (by decide)) (tX6_lays e641) ?_
                                                                                      refine zs_aload_n dL_law_1555 rfl ?_
                                                                                      refine zs_aload_n dL_law_1556 rfl ?_
                                                                                      refine zs_iload_n dL_law_1557 rfl ?_
                                                                                      refine zs_iconst (1 : Int32) dL_law_1558 ziconst_1 ?_
                                                                                      refine zs_iadd dL_law_1559 ?_
                                                                                      obtain ⟨v644, e645, h⟩ := zbind h
                                                                                      refine zs_sld dL_law_1560 e645 ?_
                                                                                      obtain ⟨v647, w648, e646, h⟩ := zb2_inv h
                                                                                      refine zc_V1i moX7_lays mvX7_lays kL_182 rfl dL_law_1561 za_60 (Nat.le_of_ble_eq_true rfl) (zrmL (by decide)) (tX7_lays e646) ?_
                                                                                      refine zs_icmp_eq 1730 dL_law_1564 rfl (fun c649 => ?_) (fun c649 => ?_)
                                                                                      · replace h := zite_t c649 h
                                                                                        refine zs_iinc (i + 6) [some (.ref 90), some (.ref 0), some (.ref 60), some (.int (i + 6))] dL_law_1730 rfl rfl (Nat.le_of_ble_eq_true rfl) rfl rfl ?_
                                                                                        refine zs_goto 18 dL_law_1733 rfl ?_
                                                                                        exact ih _ _ _ h
                                                                                      · replace h := zite_f c649 h
                                                                                        refine zs_iconst (0 : Int32) dL_law_1567 ziconst_0 ?_
                                                                                        cases h
                                                                                    · replace h := zite_f c42 h
                                                                                      by_cases c43 : (v1 &&& (63 : Int32)) = 40
                                                                                      · replace h := zite_t c43 h
                                                                                        refine zs_tswIn (40 : Int32) 1569 dL_law_33 c43 (by decide) (by decide) rfl rfl ?_
                                                                                        refine zs_aload_n dL_law_1569 rfl ?_
                                                                                        refine zs_aload_n dL_law_1570 rfl ?_
                                                                                        refine zs_iload_n dL_law_1571 rfl ?_
                                                                                        refine zs_iconst (1 : Int32) dL_law_1572 ziconst_1 ?_
                                                                                        refine zs_iadd dL_law_1573 ?_
                                                                                        obtain ⟨v650, e651, h⟩ := zbind h
                                                                                        refine zs_sld dL_law_1574 e651 ?_
                                                                                        refine zs_aload_n dL_law_1575 rfl ?_
                                                                                        refine zs_iload_n dL_law_1576 rfl ?_
                                                                                        refine zs_iconst (2 : Int32) dL_law_1577 ziconst_2 ?_
                                                                                        refine zs_iadd dL_law_1578 ?_
                                                                                        obtain ⟨v652, e653, h⟩ := zbind h
                                                                                        refine zs_sld dL_law_1579 e653 ?_
                                                                                        refine zs_aload_n dL_law_1580 rfl ?_
                                                                                        refine zs_iload_n dL_law_1581 rfl ?_
                                                                                        refine zs_iconst (3 : Int32) dL_law_1582 ziconst_3 ?_
                                                                                        refine zs_iadd dL_law_1583 ?_
                                                                                        obtain ⟨v654, e655, h⟩ := zbind h
                                                                                        refine zs_sld dL_law_1584 e655 ?_
                                                                                        obtain ⟨v657, w658, e656, h⟩ := zb2_inv h
                                                                                        refine zc_V3i moX6_table mvX6_table kL_183 rfl dL_law_1585 za_0 (Nat.le_of_ble_eq_true rfl) (zrmL (by decide)) (tX6_table e656) ?_
                                                                                        refine zs_aload_n dL_law_1588 rfl ?_
                                                                                        refine zs_aload_n dL_law_1589 rfl ?_
                                                                                        refine zs_iload_n dL_law_1590 rfl ?_
                                                                                        refine zs_iconst (1 : Int32) dL_law_1591 ziconst_1 ?_
                                                                                        refine zs_iadd dL_law_1592 ?_
                                                                                        obtain ⟨v659, e660, h⟩ := zbind h
                                                                                        refine zs_sld dL_law_1593 e660 ?_
                                                                                        refine zs_aload_n dL_law_1594 rfl ?_
                                                                                        refine zs_iload_n dL_law_1595 rfl ?_
                                                                                        refine zs_iconst (2 : Int32) dL_law_1596 ziconst_2 ?_
                                                                                        refine zs_iadd dL_law_1597 ?_
                                                                                        obtain ⟨v661, e662, h⟩ := zbind h
                                                                                        refine zs_sld dL_law_1598 e662 ?_
                                                                                        refine zs_aload_n dL_law_1599 rfl ?_
                                                                                        refine zs_iload_n dL_law_1600 rfl ?_
                                                                                        refine zs_iconst (3 : Int32) dL_law_1601 ziconst_3 ?_
                                                                                        refine zs_iadd dL_law_1602 ?_
                                                                                        obtain ⟨v663, e664, h⟩ := zbind h
                                                                                        refine zs_sld dL_law_1603 e664 ?_
                                                                                        obtain ⟨v666, w667, e665, h⟩ := zb2_inv h
                                                                                        refine zc_V3i moX7_table mvX7_table kL_186 rfl dL_law_1604 za_60 (Nat.le_of_ble_eq_true rfl) (zrmL (by decide)) (tX7_table e665) ?_
                                                                                        refine zs_icmp_eq 1730 dL_law_1607 rfl (fun c668 => ?_) (fun c668 => ?_)
                                                                                        · replace h := zite_t c668 h
                                                                                          refine zs_iinc (i + 6) [some (.ref 90), some (.ref 0), some (.ref 60), some (.int (i + 6))] dL_law_1730 rfl rfl (Nat.le_of_ble_eq_true rfl) rfl rfl ?_
                                                                                          refine zs_goto 18 dL_law_1733 rfl ?_
                                                                                          exact ih _ _ _ h
                                                                                        · replace h := zite_f c668 h
                                                                                          refine zs_iconst (0 : Int32) dL_law_1610 ziconst_0 ?_
                                                                                          cases h
                                                                                      · replace h := zite_f c43 h
                                                                                        by_cases c44 : (v1 &&& (63 : Int32)) = 41
                                                                                        · replace h := zite_t c44 h
                                                                                          refine zs_tswIn (41 : Int32) 1612 dL_law_33 c44 (by decide) (by decide) rfl rfl ?_
                                                                                          refine zs_aload_n dL_law_1612 rfl ?_
                                                                                          refine zs_aload_n dL_law_1613 rfl ?_
                                                                                          refine zs_iload_n dL_law_1614 rfl ?_
                                                                                          refine zs_iconst (1 : Int32) dL_law_1615 ziconst_1 ?_
                                                                                          refine zs_iadd dL_law_1616 ?_
                                                                                          obtain ⟨v669, e670, h⟩ := zbind h
                                                                                          refine zs_sld dL_law_1617 e670 ?_
                                                                                          refine zs_aload_n dL_law_1618 rfl ?_
                                                                                          refine zs_iload_n dL_law_1619 rfl ?_
                                                                                          refine zs_iconst (2 : Int32) dL_law_1620 ziconst_2 ?_
                                                                                          refine zs_iadd dL_law_1621 ?_
                                                                                          obtain ⟨v671, e672, h⟩ := zbind h
                                                                                          refine zs_sld dL_law_1622 e672 ?_
                                                                                          obtain ⟨v674, w675, e673, h⟩ := zb2_inv h
                                                                                          refine zc_V2i moX6_read mvX6_read kL_187 rfl dL_law_1623 za_0 (Nat.le_of_ble_eq_true rfl) (zrmL (by decide)) (tX6_read e673) ?_
                                                                                          refine zs_aload_n dL_law_1626 rfl ?_
                                                                                          refine zs_aload_n dL_law_1627 rfl ?_
                                                                                          refine zs_iload_n dL_law_1628 rfl ?_
                                                                                          refine zs_iconst (1 : Int32) dL_law_1629 ziconst_1 ?_
                                                                                          refine zs_iadd dL_law_1630 ?_
                                                                                          obtain ⟨v676, e677, h⟩ := zbind h
                                                                                          refine zs_sld dL_law_1631 e677 ?_
                                                                                          refine zs_aload_n dL_law_1632 rfl ?_
                                                                                          refine zs_iload_n dL_law_1633 rfl ?_
                                                                                          refine zs_iconst (2 : Int32) dL_law_1634 ziconst_2 ?_
                                                                                          refine zs_iadd dL_law_1635 ?_
                                                                                          obtain ⟨v678, e679, h⟩ := zbind h
                                                                                          refine zs_sld dL_law_1636 e679 ?_
                                                                                          obtain ⟨v681, w682, e680, h⟩ := zb2_inv h
                                                                                          refine zc_V2i moX7_read mvX7_read kL_190 rfl dL_law_1637 za_60 (Nat.le_of_ble_eq_true rfl) (zrmL (by decide)) (tX7_read e680) ?_
                                                                                          refine zs_icmp_eq 1730 dL_law_1640 rfl (fun c683 => ?_) (fun c683 => ?_)
                                                                                          · replace h := zite_t c683 h
                                                                                            refine zs_iinc (i + 6) [some (.ref 90), some (.ref 0), some (.ref 60), some (.int (i + 6))] dL_law_1730 rfl rfl (Nat.le_of_ble_eq_true rfl) rfl rfl ?_
                                                                                            refine zs_goto 18 dL_law_1733 rfl ?_
                                                                                            exact ih _ _ _ h
                                                                                          · replace h := zite_f c683 h
                                                                                            refine zs_iconst (0 : Int32) dL_law_1643 ziconst_0 ?_
                                                                                            cases h
                                                                                        · replace h := zite_f c44 h
                                                                                          by_cases c45 : (v1 &&& (63 : Int32)) = 42
                                                                                          · replace h := zite_t c45 h
                                                                                            refine zs_tswIn (42 : Int32) 1645 dL_law_33 c45 (by decide) (by decide) rfl rfl ?_
                                                                                            refine zs_aload_n dL_law_1645 rfl ?_
                                                                                            obtain ⟨v685, w686, e684, h⟩ := zb2_inv h
                                                                                            refine zc_V0i moX6_image mvX6_image kL_191 rfl dL_law_1646 za_0 (Nat.le_of_ble_eq_true rfl) (zrmL (by decide)) (tX6_image e684) ?_
                                                                                            refine zs_aload_n dL_law_1649 rfl ?_
                                                                                            obtain ⟨v688, w689, e687, h⟩ := zb2_inv h
                                                                                            refine zc_V0i moX7_image mvX7_image kL_194 rfl dL_law_1650 za_60 (Nat.le_of_ble_eq_true rfl) (zrmL (by decide)) (tX7_image e687) ?_
                                                                                            refine zs_icmp_eq 1730 dL_law_1653 rfl (fun c690 => ?_) (fun c690 => ?_)
                                                                                            · replace h := zite_t c690 h
                                                                                              refine zs_iinc (i + 6) [some (.ref 90), some (.ref 0), some (.ref 60), some (.int (i + 6))] dL_law_1730 rfl rfl (Nat.le_of_ble_eq_true rfl) rfl rfl ?_
                                                                                              refine zs_goto 18 dL_law_1733 rfl ?_
                                                                                              exact ih _ _ _ h
                                                                                            · replace h := zite_f c690 h
                                                                                              refine zs_iconst (0 : Int32) dL_law_1656 ziconst_0 ?_
                                                                                              cases h
                                                                                          · replace h := zite_f c45 h
                                                                                            by_cases c46 : (v1 &&& (63 : Int32)) = 43
                                                                                            · replace h := zite_t c46 h
                                                                                              refine zs_tswIn (43 : Int32) 1658 dL_law_33 c46 (by decide) (by decide) rfl rfl ?_
                                                                                              refine zs_aload_n dL_law_1658 rfl ?_
                                                                                              obtain ⟨v692, w693, e691, h⟩ := zb2_inv h
                                                                                              refine zc_V0i moX6_undo mvX6_undo kL_195 rfl dL_law_1659 za_0 (Nat.le_of_ble_eq_true rfl) (zrmL (by decide)) (tX6_undo e691) ?_
                                                                                              refine zs_aload_n dL_law_1662 rfl ?_
                                                                                              obtain ⟨v695, w696, e694, h⟩ := zb2_inv h
                                                                                              refine zc_V0i moX7_undo mvX7_undo kL_198 rfl dL_law_1663 za_60 (Nat.le_of_ble_eq_true rfl) (zrmL (by decide)) (tX7_undo e694) ?_
                                                                                              refine zs_icmp_eq 1730 dL_law_1666 rfl (fun c697 => ?_) (fun c697 => ?_)
                                                                                              · replace h := zite_t c697 h
                                                                                                refine zs_iinc (i + 6) [some (.ref 90), some (.ref 0), some (.ref 60), some (.int (i + 6))] dL_law_1730 rfl rfl (Nat.le_of_ble_eq_true rfl) rfl rfl ?_
                                                                                                refine zs_goto 18 dL_law_1733 rfl ?_
                                                                                                exact ih _ _ _ h
                                                                                              · replace h := zite_f c697 h
                                                                                                refine zs_iconst (0 : Int32) dL_law_1669 ziconst_0 ?_
                                                                                                cases h
                                                                                            · replace h := zite_f c46 h
                                                                                              by_cases c47 : (v1 &&& (63 : Int32)) = 44
                                                                                              · replace h := zite_t c47 h
                                                                                                refine zs_tswIn (44 : Int32) 1671 dL_law_33 c47 (by decide) (by decide) rfl rfl ?_
                                                                                                refine zs_aload_n dL_law_1671 rfl ?_
                                                                                                obtain ⟨v699, w700, e698, h⟩ := zb2_inv h
                                                                                                refine zc_V0i moX6_tear mvX6_tear kL_199 rfl dL_law_1672 za_0 (Nat.le_of_ble_eq_true rfl) (zrmL (by decide)) (tX6_tear e698) ?_
                                                                                                refine zs_aload_n dL_law_1675 rfl ?_
                                                                                                obtain ⟨v702, w703, e701, h⟩ := zb2_inv h
                                                                                                refine zc_V0i moX7_tear mvX7_tear kL_202 rfl dL_law_1676 za_60 (Nat.le_of_ble_eq_true rfl) (zrmL (by decide)) (tX7_tear e701) ?_
                                                                                                refine zs_icmp_eq 1730 dL_law_1679 rfl (fun c704 => ?_) (fun c704 => ?_)
                                                                                                · replace h := zite_t c704 h
                                                                                                  refine zs_iinc (i + 6) [some (.ref 90), some (.ref 0), some (.ref 60), some (.int (i + 6))] dL_law_1730 rfl rfl (Nat.le_of_ble_eq_true rfl) rfl rfl ?_
                                                                                                  refine zs_goto 18 dL_law_1733 rfl ?_
                                                                                                  exact ih _ _ _ h
                                                                                                · replace h := zite_f c704 h
                                                                                                  refine zs_iconst (0 : Int32) dL_law_1682 ziconst_0 ?_
                                                                                                  cases h
                                                                                              · replace h := zite_f c47 h
                                                                                                by_cases c48 : (v1 &&& (63 : Int32)) = 45
                                                                                                · replace h := zite_t c48 h
                                                                                                  refine zs_tswIn (45 : Int32) 1684 dL_law_33 c48 (by decide) (by decide) rfl rfl ?_
                                                                                                  refine zs_aload_n dL_law_1684 rfl ?_
                                                                                                  refine zs_aload_n dL_law_1685 rfl ?_
                                                                                                  refine zs_iload_n dL_law_1686 rfl ?_
                                                                                                  refine zs_iconst (1 : Int32) dL_law_1687 ziconst_1 ?_
                                                                                                  refine zs_iadd dL_law_1688 ?_
                                                                                                  obtain ⟨v705, e706, h⟩ := zbind h
                                                                                                  refine zs_sld dL_law_1689 e706 ?_
                                                                                                  obtain ⟨v708, w709, e707, h⟩ := zb2_inv h
                                                                                                  refine zc_V1i moX6_count mvX6_count kL_203 rfl dL_law_1690 za_0 (Nat.le_of_ble_eq_true rfl) (zrmL (by decide)) (tX6_count e707) ?_
                                                                                                  refine zs_aload_n dL_law_1693 rfl ?_
                                                                                                  refine zs_aload_n dL_law_1694 rfl ?_
                                                                                                  refine zs_iload_n dL_law_1695 rfl ?_
                                                                                                  refine zs_iconst (1 : Int32) dL_law_1696 ziconst_1 ?_
                                                                                                  refine zs_iadd dL_law_1697 ?_
                                                                                                  obtain ⟨v710, e711, h⟩ := zbind h
                                                                                                  refine zs_sld dL_law_1698 e711 ?_
                                                                                                  obtain ⟨v713, w714, e712, h⟩ := zb2_inv h
                                                                                                  refine zc_V1i moX7_count mvX7_count kL_206 rfl dL_law_1699 za_60 (Nat.le_of_ble_eq_true rfl) (zrmL (by decide)) (tX7_count e712) ?_
                                                                                                  refine zs_icmp_eq 1730 dL_law_1702 rfl (fun c715 => ?_) (fun c715 => ?_)
                                                                                                  · replace h := zite_t c715 h
                                                                                                    refine zs_iinc (i + 6) [some (.ref 90), some (.ref 0), some (.ref 60), some (.int (i + 6))] dL_law_1730 rfl rfl (Nat.le_of_ble_eq_true rfl) rfl rfl ?_
                                                                                                    refine zs_goto 18 dL_law_1733 rfl ?_
                                                                                                    exact ih _ _ _ h
                                                                                                  · replace h := zite_f c715 h
                                                                                                    refine zs_iconst (0 : Int32) dL_law_1705 ziconst_0 ?_
                                                                                                    cases h
                                                                                                · replace h := zite_f c48 h
                                                                                                  by_cases c49 : (v1 &&& (63 : Int32)) = 46
                                                                                                  · replace h := zite_t c49 h
                                                                                                    refine zs_tswIn (46 : Int32) 1707 dL_law_33 c49 (by decide) (by decide) rfl rfl ?_
                                                                                                    refine zs_aload_n dL_law_1707 rfl ?_
                                                                                                    refine zs_aload_n dL_law_1708 rfl ?_
                                                                                                    refine zs_iload_n dL_law_1709 rfl ?_
                                                                                                    refine zs_iconst (1 : Int32) dL_law_1710 ziconst_1 ?_
                                                                                                    refine zs_iadd dL_law_1711 ?_
                                                                                                    obtain ⟨v716, e717, h⟩ := zbind h
                                                                                                    refine zs_sld dL_law_1712 e717 ?_
                                                                                                    obtain ⟨v719, w720, e718, h⟩ := zb2_inv h
                                                                                                    refine zc_V1i moX6_status mvX6_status kL_207 rfl dL_law_1713 za_0 (Nat.le_of_ble_eq_true rfl) (zrmL (by decide)) (tX6_status e718) ?_
                                                                                                    refine zs_aload_n dL_law_1716 rfl ?_
                                                                                                    refine zs_aload_n dL_law_1717 rfl ?_
                                                                                                    refine zs_iload_n dL_law_1718 rfl ?_
                                                                                                    refine zs_iconst (1 : Int32) dL_law_1719 ziconst_1 ?_
                                                                                                    refine zs_iadd dL_law_1720 ?_
                                                                                                    obtain ⟨v721, e722, h⟩ := zbind h
                                                                                                    refine zs_sld dL_law_1721 e722 ?_
                                                                                                    obtain ⟨v724, w725, e723, h⟩ := zb2_inv h
                                                                                                    refine zc_V1i moX7_status mvX7_status kL_210 rfl dL_law_1722 za_60 (Nat.le_of_ble_eq_true rfl) (zrmL (by decide)) (tX7_status e723) ?_
                                                                                                    refine zs_icmp_eq 1730 dL_law_1725 rfl (fun c726 => ?_) (fun c726 => ?_)
                                                                                                    · replace h := zite_t c726 h
                                                                                                      refine zs_iinc (i + 6) [some (.ref 90), some (.ref 0), some (.ref 60), some (.int (i + 6))] dL_law_1730 rfl rfl (Nat.le_of_ble_eq_true rfl) rfl rfl ?_
                                                                                                      refine zs_goto 18 dL_law_1733 rfl ?_
                                                                                                      exact ih _ _ _ h
                                                                                                    · replace h := zite_f c726 h
                                                                                                      refine zs_iconst (0 : Int32) dL_law_1728 ziconst_0 ?_
                                                                                                      cases h
                                                                                                  · replace h := zite_f c49 h
                                                                                                    refine zs_tswOut 1730 dL_law_33 (by have q := zout (x := (v1 &&& (63 : Int32))) (n := 47) (lo := 0) (fun i hi => by match i, hi with | 0, _ => exact c3 | 1, _ => exact c4 | 2, _ => exact c5 | 3, _ => exact c6 | 4, _ => exact c7 | 5, _ => exact c8 | 6, _ => exact c9 | 7, _ => exact c10 | 8, _ => exact c11 | 9, _ => exact c12 | 10, _ => exact c13 | 11, _ => exact c14 | 12, _ => exact c15 | 13, _ => exact c16 | 14, _ => exact c17 | 15, _ => exact c18 | 16, _ => exact c19 | 17, _ => exact c20 | 18, _ => exact c21 | 19, _ => exact c22 | 20, _ => exact c23 | 21, _ => exact c24 | 22, _ => exact c25 | 23, _ => exact c26 | 24, _ => exact c27 | 25, _ => exact c28 | 26, _ => exact c29 | 27, _ => exact c30 | 28, _ => exact c31 | 29, _ => exact c32 | 30, _ => exact c33 | 31, _ => exact c34 | 32, _ => exact c35 | 33, _ => exact c36 | 34, _ => exact c37 | 35, _ => exact c38 | 36, _ => exact c39 | 37, _ => exact c40 | 38, _ => exact c41 | 39, _ => exact c42 | 40, _ => exact c43 | 41, _ => exact c44 | 42, _ => exact c45 | 43, _ => exact c46 | 44, _ => exact c47 | 45, _ => exact c48 | 46, _ => exact c49 | k + 47, hi => exact absurd hi (by omega)); omega) rfl ?_
                                                                                                    refine zs_iinc (i + 6) [some (.ref 90), some (.ref 0), some (.ref 60), some (.int (i + 6))] dL_law_1730 rfl rfl (Nat.le_of_ble_eq_true rfl) rfl rfl ?_
                                                                                                    refine zs_goto 18 dL_law_1733 rfl ?_
                                                                                                    exact ih _ _ _ h
