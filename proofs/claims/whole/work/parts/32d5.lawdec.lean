/-! decode rows of the law -/
theorem d_Law_law_2193 : decode code 2193 = .ok (.ifCond .eq 7, 3) := by decide +kernel
theorem d_Law_law_2196 : decode code 2196 = .ok (.lconst 1, 1) := by decide +kernel
theorem d_Law_law_2197 : decode code 2197 = .ok (.goto 4, 3) := by decide +kernel
theorem d_Law_law_2200 : decode code 2200 = .ok (.lconst 0, 1) := by decide +kernel
theorem d_Law_law_2201 : decode code 2201 = .ok (.lcmp, 1) := by decide +kernel
theorem d_Law_law_2202 : decode code 2202 = .ok (.ifCond .eq 5, 3) := by decide +kernel
theorem d_Law_law_2207 : decode code 2207 = .ok (.goto 310, 3) := by decide +kernel
theorem d_Law_law_2210 : decode code 2210 = .ok (.aload_n 1, 1) := by decide +kernel
theorem d_Law_law_2211 : decode code 2211 = .ok (.aload_n 0, 1) := by decide +kernel
theorem d_Law_law_2212 : decode code 2212 = .ok (.iload 4, 2) := by decide +kernel
theorem d_Law_law_2214 : decode code 2214 = .ok (.iconst 1, 1) := by decide +kernel
theorem d_Law_law_2215 : decode code 2215 = .ok (.iadd, 1) := by decide +kernel
theorem d_Law_law_2216 : decode code 2216 = .ok (.iaload, 1) := by decide +kernel
theorem d_Law_law_2217 : decode code 2217 = .ok (.aload_n 3, 1) := by decide +kernel
theorem d_Law_law_2218 : decode code 2218 = .ok (.invokestatic 217, 3) := by decide +kernel
theorem d_Law_law_2221 : decode code 2221 = .ok (.istore 5, 2) := by decide +kernel
theorem d_Law_law_2223 : decode code 2223 = .ok (.aload_n 2, 1) := by decide +kernel
theorem d_Law_law_2224 : decode code 2224 = .ok (.aload_n 0, 1) := by decide +kernel
theorem d_Law_law_2225 : decode code 2225 = .ok (.iload 4, 2) := by decide +kernel
theorem d_Law_law_2227 : decode code 2227 = .ok (.iconst 1, 1) := by decide +kernel
theorem d_Law_law_2228 : decode code 2228 = .ok (.iadd, 1) := by decide +kernel
theorem d_Law_law_2229 : decode code 2229 = .ok (.iaload, 1) := by decide +kernel
theorem d_Law_law_2230 : decode code 2230 = .ok (.invokevirtual 219, 3) := by decide +kernel
theorem d_Law_law_2233 : decode code 2233 = .ok (.istore 6, 2) := by decide +kernel
theorem d_Law_law_2235 : decode code 2235 = .ok (.aload_n 2, 1) := by decide +kernel
theorem d_Law_law_2236 : decode code 2236 = .ok (.invokevirtual 132, 3) := by decide +kernel
theorem d_Law_law_2239 : decode code 2239 = .ok (.iload 5, 2) := by decide +kernel
theorem d_Law_law_2241 : decode code 2241 = .ok (.if_icmp .eq 5, 3) := by decide +kernel
theorem d_Law_law_2246 : decode code 2246 = .ok (.iload 5, 2) := by decide +kernel
theorem d_Law_law_2248 : decode code 2248 = .ok (.ifCond .ne 15, 3) := by decide +kernel
theorem d_Law_law_2251 : decode code 2251 = .ok (.aload_n 3, 1) := by decide +kernel
theorem d_Law_law_2252 : decode code 2252 = .ok (.iconst 0, 1) := by decide +kernel
theorem d_Law_law_2253 : decode code 2253 = .ok (.laload, 1) := by decide +kernel
theorem d_Law_law_2254 : decode code 2254 = .ok (.iload 6, 2) := by decide +kernel
theorem d_Law_law_2256 : decode code 2256 = .ok (.i2l, 1) := by decide +kernel
theorem d_Law_law_2257 : decode code 2257 = .ok (.lcmp, 1) := by decide +kernel
theorem d_Law_law_2258 : decode code 2258 = .ok (.ifCond .eq 5, 3) := by decide +kernel
theorem d_Law_law_2263 : decode code 2263 = .ok (.goto 254, 3) := by decide +kernel
theorem d_Law_law_2266 : decode code 2266 = .ok (.aload_n 1, 1) := by decide +kernel
theorem d_Law_law_2267 : decode code 2267 = .ok (.aload_n 0, 1) := by decide +kernel
theorem d_Law_law_2268 : decode code 2268 = .ok (.iload 4, 2) := by decide +kernel
theorem d_Law_law_2270 : decode code 2270 = .ok (.iconst 1, 1) := by decide +kernel
theorem d_Law_law_2271 : decode code 2271 = .ok (.iadd, 1) := by decide +kernel
theorem d_Law_law_2272 : decode code 2272 = .ok (.iaload, 1) := by decide +kernel
theorem d_Law_law_2273 : decode code 2273 = .ok (.aload_n 3, 1) := by decide +kernel
theorem d_Law_law_2274 : decode code 2274 = .ok (.invokestatic 220, 3) := by decide +kernel
theorem d_Law_law_2277 : decode code 2277 = .ok (.istore 5, 2) := by decide +kernel
theorem d_Law_law_2279 : decode code 2279 = .ok (.aload_n 2, 1) := by decide +kernel
theorem d_Law_law_2280 : decode code 2280 = .ok (.aload_n 0, 1) := by decide +kernel
theorem d_Law_law_2281 : decode code 2281 = .ok (.iload 4, 2) := by decide +kernel
theorem d_Law_law_2283 : decode code 2283 = .ok (.iconst 1, 1) := by decide +kernel
theorem d_Law_law_2284 : decode code 2284 = .ok (.iadd, 1) := by decide +kernel
theorem d_Law_law_2285 : decode code 2285 = .ok (.iaload, 1) := by decide +kernel
theorem d_Law_law_2286 : decode code 2286 = .ok (.invokevirtual 222, 3) := by decide +kernel
theorem d_Law_law_2289 : decode code 2289 = .ok (.istore 6, 2) := by decide +kernel
theorem d_Law_law_2291 : decode code 2291 = .ok (.aload_n 2, 1) := by decide +kernel
theorem d_Law_law_2292 : decode code 2292 = .ok (.invokevirtual 132, 3) := by decide +kernel
theorem d_Law_law_2295 : decode code 2295 = .ok (.iload 5, 2) := by decide +kernel
theorem d_Law_law_2297 : decode code 2297 = .ok (.if_icmp .eq 5, 3) := by decide +kernel
theorem d_Law_law_2302 : decode code 2302 = .ok (.iload 5, 2) := by decide +kernel
theorem d_Law_law_2304 : decode code 2304 = .ok (.ifCond .ne 15, 3) := by decide +kernel
theorem d_Law_law_2307 : decode code 2307 = .ok (.aload_n 3, 1) := by decide +kernel
theorem d_Law_law_2308 : decode code 2308 = .ok (.iconst 0, 1) := by decide +kernel
theorem d_Law_law_2309 : decode code 2309 = .ok (.laload, 1) := by decide +kernel
theorem d_Law_law_2310 : decode code 2310 = .ok (.iload 6, 2) := by decide +kernel
theorem d_Law_law_2312 : decode code 2312 = .ok (.i2l, 1) := by decide +kernel
theorem d_Law_law_2313 : decode code 2313 = .ok (.lcmp, 1) := by decide +kernel
theorem d_Law_law_2314 : decode code 2314 = .ok (.ifCond .eq 5, 3) := by decide +kernel
theorem d_Law_law_2319 : decode code 2319 = .ok (.goto 198, 3) := by decide +kernel
theorem d_Law_law_2322 : decode code 2322 = .ok (.aload_n 1, 1) := by decide +kernel
theorem d_Law_law_2323 : decode code 2323 = .ok (.invokevirtual 223, 3) := by decide +kernel
theorem d_Law_law_2326 : decode code 2326 = .ok (.aload_n 2, 1) := by decide +kernel
theorem d_Law_law_2327 : decode code 2327 = .ok (.invokevirtual 226, 3) := by decide +kernel
theorem d_Law_law_2330 : decode code 2330 = .ok (.if_icmp .eq 187, 3) := by decide +kernel
theorem d_Law_law_2335 : decode code 2335 = .ok (.aload_n 1, 1) := by decide +kernel
theorem d_Law_law_2336 : decode code 2336 = .ok (.aload_n 0, 1) := by decide +kernel
theorem d_Law_law_2337 : decode code 2337 = .ok (.iload 4, 2) := by decide +kernel
theorem d_Law_law_2339 : decode code 2339 = .ok (.iconst 1, 1) := by decide +kernel
theorem d_Law_law_2340 : decode code 2340 = .ok (.iadd, 1) := by decide +kernel
theorem d_Law_law_2341 : decode code 2341 = .ok (.iaload, 1) := by decide +kernel
theorem d_Law_law_2342 : decode code 2342 = .ok (.aload_n 3, 1) := by decide +kernel
theorem d_Law_law_2343 : decode code 2343 = .ok (.invokestatic 227, 3) := by decide +kernel
theorem d_Law_law_2346 : decode code 2346 = .ok (.istore 5, 2) := by decide +kernel
theorem d_Law_law_2348 : decode code 2348 = .ok (.aload_n 2, 1) := by decide +kernel
theorem d_Law_law_2349 : decode code 2349 = .ok (.aload_n 0, 1) := by decide +kernel
theorem d_Law_law_2350 : decode code 2350 = .ok (.iload 4, 2) := by decide +kernel
theorem d_Law_law_2352 : decode code 2352 = .ok (.iconst 1, 1) := by decide +kernel
theorem d_Law_law_2353 : decode code 2353 = .ok (.iadd, 1) := by decide +kernel
theorem d_Law_law_2354 : decode code 2354 = .ok (.iaload, 1) := by decide +kernel
theorem d_Law_law_2355 : decode code 2355 = .ok (.invokevirtual 229, 3) := by decide +kernel
theorem d_Law_law_2358 : decode code 2358 = .ok (.istore 6, 2) := by decide +kernel
theorem d_Law_law_2360 : decode code 2360 = .ok (.aload_n 2, 1) := by decide +kernel
theorem d_Law_law_2361 : decode code 2361 = .ok (.invokevirtual 132, 3) := by decide +kernel
theorem d_Law_law_2364 : decode code 2364 = .ok (.iload 5, 2) := by decide +kernel
theorem d_Law_law_2366 : decode code 2366 = .ok (.if_icmp .eq 5, 3) := by decide +kernel
theorem d_Law_law_2371 : decode code 2371 = .ok (.iload 5, 2) := by decide +kernel
theorem d_Law_law_2373 : decode code 2373 = .ok (.ifCond .ne 15, 3) := by decide +kernel
theorem d_Law_law_2376 : decode code 2376 = .ok (.aload_n 3, 1) := by decide +kernel
theorem d_Law_law_2377 : decode code 2377 = .ok (.iconst 0, 1) := by decide +kernel
theorem d_Law_law_2378 : decode code 2378 = .ok (.laload, 1) := by decide +kernel
theorem d_Law_law_2379 : decode code 2379 = .ok (.iload 6, 2) := by decide +kernel
theorem d_Law_law_2381 : decode code 2381 = .ok (.i2l, 1) := by decide +kernel
theorem d_Law_law_2382 : decode code 2382 = .ok (.lcmp, 1) := by decide +kernel
theorem d_Law_law_2383 : decode code 2383 = .ok (.ifCond .eq 5, 3) := by decide +kernel
theorem d_Law_law_2388 : decode code 2388 = .ok (.goto 129, 3) := by decide +kernel
theorem d_Law_law_2391 : decode code 2391 = .ok (.aload_n 1, 1) := by decide +kernel
theorem d_Law_law_2392 : decode code 2392 = .ok (.aload_n 0, 1) := by decide +kernel
theorem d_Law_law_2393 : decode code 2393 = .ok (.iload 4, 2) := by decide +kernel
theorem d_Law_law_2395 : decode code 2395 = .ok (.iconst 1, 1) := by decide +kernel
theorem d_Law_law_2396 : decode code 2396 = .ok (.iadd, 1) := by decide +kernel
theorem d_Law_law_2397 : decode code 2397 = .ok (.iaload, 1) := by decide +kernel
theorem d_Law_law_2398 : decode code 2398 = .ok (.aload_n 0, 1) := by decide +kernel
theorem d_Law_law_2399 : decode code 2399 = .ok (.iload 4, 2) := by decide +kernel
theorem d_Law_law_2401 : decode code 2401 = .ok (.iconst 2, 1) := by decide +kernel
theorem d_Law_law_2402 : decode code 2402 = .ok (.iadd, 1) := by decide +kernel
theorem d_Law_law_2403 : decode code 2403 = .ok (.iaload, 1) := by decide +kernel
theorem d_Law_law_2404 : decode code 2404 = .ok (.aload_n 3, 1) := by decide +kernel
theorem d_Law_law_2405 : decode code 2405 = .ok (.invokestatic 230, 3) := by decide +kernel
theorem d_Law_law_2408 : decode code 2408 = .ok (.istore 5, 2) := by decide +kernel
theorem d_Law_law_2410 : decode code 2410 = .ok (.aload_n 2, 1) := by decide +kernel
theorem d_Law_law_2411 : decode code 2411 = .ok (.aload_n 0, 1) := by decide +kernel
theorem d_Law_law_2412 : decode code 2412 = .ok (.iload 4, 2) := by decide +kernel
theorem d_Law_law_2414 : decode code 2414 = .ok (.iconst 1, 1) := by decide +kernel
theorem d_Law_law_2415 : decode code 2415 = .ok (.iadd, 1) := by decide +kernel
theorem d_Law_law_2416 : decode code 2416 = .ok (.iaload, 1) := by decide +kernel
theorem d_Law_law_2417 : decode code 2417 = .ok (.aload_n 0, 1) := by decide +kernel
theorem d_Law_law_2418 : decode code 2418 = .ok (.iload 4, 2) := by decide +kernel
theorem d_Law_law_2420 : decode code 2420 = .ok (.iconst 2, 1) := by decide +kernel
theorem d_Law_law_2421 : decode code 2421 = .ok (.iadd, 1) := by decide +kernel
theorem d_Law_law_2422 : decode code 2422 = .ok (.iaload, 1) := by decide +kernel
theorem d_Law_law_2423 : decode code 2423 = .ok (.invokevirtual 232, 3) := by decide +kernel
theorem d_Law_law_2426 : decode code 2426 = .ok (.istore 6, 2) := by decide +kernel
theorem d_Law_law_2428 : decode code 2428 = .ok (.aload_n 2, 1) := by decide +kernel
theorem d_Law_law_2429 : decode code 2429 = .ok (.invokevirtual 132, 3) := by decide +kernel
theorem d_Law_law_2432 : decode code 2432 = .ok (.iload 5, 2) := by decide +kernel
theorem d_Law_law_2434 : decode code 2434 = .ok (.if_icmp .eq 5, 3) := by decide +kernel
theorem d_Law_law_2439 : decode code 2439 = .ok (.iload 5, 2) := by decide +kernel
theorem d_Law_law_2441 : decode code 2441 = .ok (.ifCond .ne 15, 3) := by decide +kernel
theorem d_Law_law_2444 : decode code 2444 = .ok (.aload_n 3, 1) := by decide +kernel
theorem d_Law_law_2445 : decode code 2445 = .ok (.iconst 0, 1) := by decide +kernel
theorem d_Law_law_2446 : decode code 2446 = .ok (.laload, 1) := by decide +kernel
theorem d_Law_law_2447 : decode code 2447 = .ok (.iload 6, 2) := by decide +kernel
theorem d_Law_law_2449 : decode code 2449 = .ok (.i2l, 1) := by decide +kernel
theorem d_Law_law_2450 : decode code 2450 = .ok (.lcmp, 1) := by decide +kernel
theorem d_Law_law_2451 : decode code 2451 = .ok (.ifCond .eq 5, 3) := by decide +kernel
theorem d_Law_law_2456 : decode code 2456 = .ok (.goto 61, 3) := by decide +kernel
theorem d_Law_law_2459 : decode code 2459 = .ok (.aload_n 1, 1) := by decide +kernel
theorem d_Law_law_2460 : decode code 2460 = .ok (.aload_n 3, 1) := by decide +kernel
theorem d_Law_law_2461 : decode code 2461 = .ok (.invokestatic 233, 3) := by decide +kernel
theorem d_Law_law_2464 : decode code 2464 = .ok (.istore 5, 2) := by decide +kernel
theorem d_Law_law_2466 : decode code 2466 = .ok (.aload_n 2, 1) := by decide +kernel
theorem d_Law_law_2467 : decode code 2467 = .ok (.invokevirtual 236, 3) := by decide +kernel
theorem d_Law_law_2470 : decode code 2470 = .ok (.istore 6, 2) := by decide +kernel
theorem d_Law_law_2472 : decode code 2472 = .ok (.aload_n 2, 1) := by decide +kernel
theorem d_Law_law_2473 : decode code 2473 = .ok (.invokevirtual 132, 3) := by decide +kernel
theorem d_Law_law_2476 : decode code 2476 = .ok (.iload 5, 2) := by decide +kernel
theorem d_Law_law_2478 : decode code 2478 = .ok (.if_icmp .eq 5, 3) := by decide +kernel
theorem d_Law_law_2483 : decode code 2483 = .ok (.iload 5, 2) := by decide +kernel
theorem d_Law_law_2485 : decode code 2485 = .ok (.ifCond .ne 15, 3) := by decide +kernel
theorem d_Law_law_2488 : decode code 2488 = .ok (.aload_n 3, 1) := by decide +kernel
theorem d_Law_law_2489 : decode code 2489 = .ok (.iconst 0, 1) := by decide +kernel
theorem d_Law_law_2490 : decode code 2490 = .ok (.laload, 1) := by decide +kernel
theorem d_Law_law_2491 : decode code 2491 = .ok (.iload 6, 2) := by decide +kernel
theorem d_Law_law_2493 : decode code 2493 = .ok (.i2l, 1) := by decide +kernel
theorem d_Law_law_2494 : decode code 2494 = .ok (.lcmp, 1) := by decide +kernel
theorem d_Law_law_2495 : decode code 2495 = .ok (.ifCond .eq 5, 3) := by decide +kernel
theorem d_Law_law_2500 : decode code 2500 = .ok (.goto 17, 3) := by decide +kernel
theorem d_Law_law_2503 : decode code 2503 = .ok (.aload_n 1, 1) := by decide +kernel
theorem d_Law_law_2504 : decode code 2504 = .ok (.invokevirtual 237, 3) := by decide +kernel
theorem d_Law_law_2507 : decode code 2507 = .ok (.aload_n 2, 1) := by decide +kernel
theorem d_Law_law_2508 : decode code 2508 = .ok (.invokevirtual 241, 3) := by decide +kernel
theorem d_Law_law_2511 : decode code 2511 = .ok (.lcmp, 1) := by decide +kernel
theorem d_Law_law_2512 : decode code 2512 = .ok (.ifCond .eq 5, 3) := by decide +kernel
theorem d_Law_law_2517 : decode code 2517 = .ok (.iinc 4 5, 3) := by decide +kernel
theorem d_Law_law_2520 : decode code 2520 = .ok (.goto (-2497), 3) := by decide +kernel
theorem d_Law_law_2523 : decode code 2523 = .ok (.iconst 1, 1) := by decide +kernel
theorem d_Law_law_2524 : decode code 2524 = .ok (.ireturn, 1) := by decide +kernel
