theorem dL_law_2234 : decode cL_law 2234 = .ok (.aload_n 1, 1) := by decide +kernel
theorem dL_law_2235 : decode cL_law 2235 = .ok (.aload_n 0, 1) := by decide +kernel
theorem dL_law_2236 : decode cL_law 2236 = .ok (.iload 4, 2) := by decide +kernel
theorem dL_law_2238 : decode cL_law 2238 = .ok (.iconst 1, 1) := by decide +kernel
theorem dL_law_2239 : decode cL_law 2239 = .ok (.iadd, 1) := by decide +kernel
theorem dL_law_2240 : decode cL_law 2240 = .ok (.iaload, 1) := by decide +kernel
theorem dL_law_2241 : decode cL_law 2241 = .ok (.aload_n 0, 1) := by decide +kernel
theorem dL_law_2242 : decode cL_law 2242 = .ok (.iload 4, 2) := by decide +kernel
theorem dL_law_2244 : decode cL_law 2244 = .ok (.iconst 2, 1) := by decide +kernel
theorem dL_law_2245 : decode cL_law 2245 = .ok (.iadd, 1) := by decide +kernel
theorem dL_law_2246 : decode cL_law 2246 = .ok (.iaload, 1) := by decide +kernel
theorem dL_law_2247 : decode cL_law 2247 = .ok (.aload_n 3, 1) := by decide +kernel
theorem dL_law_2248 : decode cL_law 2248 = .ok (.invokestatic 255, 3) := by decide +kernel
theorem dL_law_2251 : decode cL_law 2251 = .ok (.istore 5, 2) := by decide +kernel
theorem dL_law_2253 : decode cL_law 2253 = .ok (.aload_n 2, 1) := by decide +kernel
theorem dL_law_2254 : decode cL_law 2254 = .ok (.aload_n 0, 1) := by decide +kernel
theorem dL_law_2255 : decode cL_law 2255 = .ok (.iload 4, 2) := by decide +kernel
theorem dL_law_2257 : decode cL_law 2257 = .ok (.iconst 1, 1) := by decide +kernel
theorem dL_law_2258 : decode cL_law 2258 = .ok (.iadd, 1) := by decide +kernel
theorem dL_law_2259 : decode cL_law 2259 = .ok (.iaload, 1) := by decide +kernel
theorem dL_law_2260 : decode cL_law 2260 = .ok (.aload_n 0, 1) := by decide +kernel
theorem dL_law_2261 : decode cL_law 2261 = .ok (.iload 4, 2) := by decide +kernel
theorem dL_law_2263 : decode cL_law 2263 = .ok (.iconst 2, 1) := by decide +kernel
theorem dL_law_2264 : decode cL_law 2264 = .ok (.iadd, 1) := by decide +kernel
theorem dL_law_2265 : decode cL_law 2265 = .ok (.iaload, 1) := by decide +kernel
theorem dL_law_2266 : decode cL_law 2266 = .ok (.invokevirtual 257, 3) := by decide +kernel
theorem dL_law_2269 : decode cL_law 2269 = .ok (.istore 6, 2) := by decide +kernel
theorem dL_law_2271 : decode cL_law 2271 = .ok (.aload_n 2, 1) := by decide +kernel
theorem dL_law_2272 : decode cL_law 2272 = .ok (.invokevirtual 131, 3) := by decide +kernel
theorem dL_law_2275 : decode cL_law 2275 = .ok (.iload 5, 2) := by decide +kernel
theorem dL_law_2277 : decode cL_law 2277 = .ok (.if_icmp .eq 5, 3) := by decide +kernel
theorem dL_law_2282 : decode cL_law 2282 = .ok (.iload 5, 2) := by decide +kernel
theorem dL_law_2284 : decode cL_law 2284 = .ok (.ifCond .ne 15, 3) := by decide +kernel
theorem dL_law_2299 : decode cL_law 2299 = .ok (.goto 519, 3) := by decide +kernel
theorem dL_law_2302 : decode cL_law 2302 = .ok (.aload_n 1, 1) := by decide +kernel
theorem dL_law_2303 : decode cL_law 2303 = .ok (.aload_n 0, 1) := by decide +kernel
theorem dL_law_2304 : decode cL_law 2304 = .ok (.iload 4, 2) := by decide +kernel
theorem dL_law_2306 : decode cL_law 2306 = .ok (.iconst 1, 1) := by decide +kernel
theorem dL_law_2307 : decode cL_law 2307 = .ok (.iadd, 1) := by decide +kernel
theorem dL_law_2308 : decode cL_law 2308 = .ok (.iaload, 1) := by decide +kernel
theorem dL_law_2309 : decode cL_law 2309 = .ok (.aload_n 3, 1) := by decide +kernel
theorem dL_law_2310 : decode cL_law 2310 = .ok (.invokestatic 258, 3) := by decide +kernel
theorem dL_law_2313 : decode cL_law 2313 = .ok (.istore 5, 2) := by decide +kernel
theorem dL_law_2315 : decode cL_law 2315 = .ok (.aload_n 2, 1) := by decide +kernel
theorem dL_law_2316 : decode cL_law 2316 = .ok (.aload_n 0, 1) := by decide +kernel
theorem dL_law_2317 : decode cL_law 2317 = .ok (.iload 4, 2) := by decide +kernel
theorem dL_law_2319 : decode cL_law 2319 = .ok (.iconst 1, 1) := by decide +kernel
theorem dL_law_2320 : decode cL_law 2320 = .ok (.iadd, 1) := by decide +kernel
theorem dL_law_2321 : decode cL_law 2321 = .ok (.iaload, 1) := by decide +kernel
theorem dL_law_2322 : decode cL_law 2322 = .ok (.invokevirtual 260, 3) := by decide +kernel
theorem dL_law_2325 : decode cL_law 2325 = .ok (.istore 6, 2) := by decide +kernel
theorem dL_law_2327 : decode cL_law 2327 = .ok (.aload_n 2, 1) := by decide +kernel
theorem dL_law_2328 : decode cL_law 2328 = .ok (.invokevirtual 131, 3) := by decide +kernel
theorem dL_law_2331 : decode cL_law 2331 = .ok (.iload 5, 2) := by decide +kernel
theorem dL_law_2333 : decode cL_law 2333 = .ok (.if_icmp .eq 5, 3) := by decide +kernel
theorem dL_law_2338 : decode cL_law 2338 = .ok (.iload 5, 2) := by decide +kernel
theorem dL_law_2340 : decode cL_law 2340 = .ok (.ifCond .ne 15, 3) := by decide +kernel
theorem dL_law_2355 : decode cL_law 2355 = .ok (.goto 463, 3) := by decide +kernel
theorem dL_law_2358 : decode cL_law 2358 = .ok (.aload_n 1, 1) := by decide +kernel
theorem dL_law_2359 : decode cL_law 2359 = .ok (.aload_n 0, 1) := by decide +kernel
theorem dL_law_2360 : decode cL_law 2360 = .ok (.iload 4, 2) := by decide +kernel
theorem dL_law_2362 : decode cL_law 2362 = .ok (.iconst 1, 1) := by decide +kernel
theorem dL_law_2363 : decode cL_law 2363 = .ok (.iadd, 1) := by decide +kernel
theorem dL_law_2364 : decode cL_law 2364 = .ok (.iaload, 1) := by decide +kernel
theorem dL_law_2365 : decode cL_law 2365 = .ok (.aload_n 3, 1) := by decide +kernel
theorem dL_law_2366 : decode cL_law 2366 = .ok (.invokestatic 261, 3) := by decide +kernel
theorem dL_law_2369 : decode cL_law 2369 = .ok (.istore 5, 2) := by decide +kernel
theorem dL_law_2371 : decode cL_law 2371 = .ok (.aload_n 2, 1) := by decide +kernel
theorem dL_law_2372 : decode cL_law 2372 = .ok (.aload_n 0, 1) := by decide +kernel
theorem dL_law_2373 : decode cL_law 2373 = .ok (.iload 4, 2) := by decide +kernel
theorem dL_law_2375 : decode cL_law 2375 = .ok (.iconst 1, 1) := by decide +kernel
theorem dL_law_2376 : decode cL_law 2376 = .ok (.iadd, 1) := by decide +kernel
theorem dL_law_2377 : decode cL_law 2377 = .ok (.iaload, 1) := by decide +kernel
theorem dL_law_2378 : decode cL_law 2378 = .ok (.invokevirtual 263, 3) := by decide +kernel
theorem dL_law_2381 : decode cL_law 2381 = .ok (.istore 6, 2) := by decide +kernel
theorem dL_law_2383 : decode cL_law 2383 = .ok (.aload_n 2, 1) := by decide +kernel
theorem dL_law_2384 : decode cL_law 2384 = .ok (.invokevirtual 131, 3) := by decide +kernel
theorem dL_law_2387 : decode cL_law 2387 = .ok (.iload 5, 2) := by decide +kernel
theorem dL_law_2389 : decode cL_law 2389 = .ok (.if_icmp .eq 5, 3) := by decide +kernel
theorem dL_law_2394 : decode cL_law 2394 = .ok (.iload 5, 2) := by decide +kernel
theorem dL_law_2396 : decode cL_law 2396 = .ok (.ifCond .ne 15, 3) := by decide +kernel
theorem dL_law_2411 : decode cL_law 2411 = .ok (.goto 407, 3) := by decide +kernel
theorem dL_law_2414 : decode cL_law 2414 = .ok (.aload_n 1, 1) := by decide +kernel
theorem dL_law_2415 : decode cL_law 2415 = .ok (.aload_n 0, 1) := by decide +kernel
theorem dL_law_2416 : decode cL_law 2416 = .ok (.iload 4, 2) := by decide +kernel
theorem dL_law_2418 : decode cL_law 2418 = .ok (.iconst 1, 1) := by decide +kernel
theorem dL_law_2419 : decode cL_law 2419 = .ok (.iadd, 1) := by decide +kernel
theorem dL_law_2420 : decode cL_law 2420 = .ok (.iaload, 1) := by decide +kernel
theorem dL_law_2421 : decode cL_law 2421 = .ok (.aload_n 3, 1) := by decide +kernel
theorem dL_law_2422 : decode cL_law 2422 = .ok (.invokestatic 264, 3) := by decide +kernel
theorem dL_law_2425 : decode cL_law 2425 = .ok (.istore 5, 2) := by decide +kernel
theorem dL_law_2427 : decode cL_law 2427 = .ok (.aload_n 2, 1) := by decide +kernel
theorem dL_law_2428 : decode cL_law 2428 = .ok (.aload_n 0, 1) := by decide +kernel
theorem dL_law_2429 : decode cL_law 2429 = .ok (.iload 4, 2) := by decide +kernel
theorem dL_law_2431 : decode cL_law 2431 = .ok (.iconst 1, 1) := by decide +kernel
theorem dL_law_2432 : decode cL_law 2432 = .ok (.iadd, 1) := by decide +kernel
theorem dL_law_2433 : decode cL_law 2433 = .ok (.iaload, 1) := by decide +kernel
theorem dL_law_2434 : decode cL_law 2434 = .ok (.invokevirtual 266, 3) := by decide +kernel
theorem dL_law_2437 : decode cL_law 2437 = .ok (.istore 6, 2) := by decide +kernel
theorem dL_law_2439 : decode cL_law 2439 = .ok (.aload_n 2, 1) := by decide +kernel
theorem dL_law_2440 : decode cL_law 2440 = .ok (.invokevirtual 131, 3) := by decide +kernel
theorem dL_law_2443 : decode cL_law 2443 = .ok (.iload 5, 2) := by decide +kernel
theorem dL_law_2445 : decode cL_law 2445 = .ok (.if_icmp .eq 5, 3) := by decide +kernel
theorem dL_law_2450 : decode cL_law 2450 = .ok (.iload 5, 2) := by decide +kernel
theorem dL_law_2452 : decode cL_law 2452 = .ok (.ifCond .ne 15, 3) := by decide +kernel
theorem dL_law_2467 : decode cL_law 2467 = .ok (.goto 351, 3) := by decide +kernel
theorem dL_law_2470 : decode cL_law 2470 = .ok (.aload_n 1, 1) := by decide +kernel
theorem dL_law_2471 : decode cL_law 2471 = .ok (.aload_n 0, 1) := by decide +kernel
theorem dL_law_2472 : decode cL_law 2472 = .ok (.iload 4, 2) := by decide +kernel
theorem dL_law_2474 : decode cL_law 2474 = .ok (.iconst 1, 1) := by decide +kernel
theorem dL_law_2475 : decode cL_law 2475 = .ok (.iadd, 1) := by decide +kernel
theorem dL_law_2476 : decode cL_law 2476 = .ok (.iaload, 1) := by decide +kernel
theorem dL_law_2477 : decode cL_law 2477 = .ok (.aload_n 0, 1) := by decide +kernel
theorem dL_law_2478 : decode cL_law 2478 = .ok (.iload 4, 2) := by decide +kernel
theorem dL_law_2480 : decode cL_law 2480 = .ok (.iconst 2, 1) := by decide +kernel
theorem dL_law_2481 : decode cL_law 2481 = .ok (.iadd, 1) := by decide +kernel
theorem dL_law_2482 : decode cL_law 2482 = .ok (.iaload, 1) := by decide +kernel
theorem dL_law_2483 : decode cL_law 2483 = .ok (.aload_n 0, 1) := by decide +kernel
theorem dL_law_2484 : decode cL_law 2484 = .ok (.iload 4, 2) := by decide +kernel
theorem dL_law_2486 : decode cL_law 2486 = .ok (.iconst 3, 1) := by decide +kernel
theorem dL_law_2487 : decode cL_law 2487 = .ok (.iadd, 1) := by decide +kernel
theorem dL_law_2488 : decode cL_law 2488 = .ok (.iaload, 1) := by decide +kernel
theorem dL_law_2489 : decode cL_law 2489 = .ok (.aload_n 0, 1) := by decide +kernel
theorem dL_law_2490 : decode cL_law 2490 = .ok (.iload 4, 2) := by decide +kernel
theorem dL_law_2492 : decode cL_law 2492 = .ok (.iconst 4, 1) := by decide +kernel
theorem dL_law_2493 : decode cL_law 2493 = .ok (.iadd, 1) := by decide +kernel
theorem dL_law_2494 : decode cL_law 2494 = .ok (.iaload, 1) := by decide +kernel
theorem dL_law_2495 : decode cL_law 2495 = .ok (.aload_n 0, 1) := by decide +kernel
theorem dL_law_2496 : decode cL_law 2496 = .ok (.iload 4, 2) := by decide +kernel
theorem dL_law_2498 : decode cL_law 2498 = .ok (.iconst 5, 1) := by decide +kernel
theorem dL_law_2499 : decode cL_law 2499 = .ok (.iadd, 1) := by decide +kernel
theorem dL_law_2500 : decode cL_law 2500 = .ok (.iaload, 1) := by decide +kernel
theorem dL_law_2501 : decode cL_law 2501 = .ok (.aload_n 0, 1) := by decide +kernel
theorem dL_law_2502 : decode cL_law 2502 = .ok (.iload 4, 2) := by decide +kernel
theorem dL_law_2504 : decode cL_law 2504 = .ok (.bipush 6, 2) := by decide +kernel
theorem dL_law_2506 : decode cL_law 2506 = .ok (.iadd, 1) := by decide +kernel
theorem dL_law_2507 : decode cL_law 2507 = .ok (.iaload, 1) := by decide +kernel
theorem dL_law_2508 : decode cL_law 2508 = .ok (.aload_n 3, 1) := by decide +kernel
theorem dL_law_2509 : decode cL_law 2509 = .ok (.invokestatic 267, 3) := by decide +kernel
theorem dL_law_2512 : decode cL_law 2512 = .ok (.istore 5, 2) := by decide +kernel
theorem dL_law_2514 : decode cL_law 2514 = .ok (.aload_n 2, 1) := by decide +kernel
theorem dL_law_2515 : decode cL_law 2515 = .ok (.aload_n 0, 1) := by decide +kernel
theorem dL_law_2516 : decode cL_law 2516 = .ok (.iload 4, 2) := by decide +kernel
theorem dL_law_2518 : decode cL_law 2518 = .ok (.iconst 1, 1) := by decide +kernel
theorem dL_law_2519 : decode cL_law 2519 = .ok (.iadd, 1) := by decide +kernel
theorem dL_law_2520 : decode cL_law 2520 = .ok (.iaload, 1) := by decide +kernel
theorem dL_law_2521 : decode cL_law 2521 = .ok (.aload_n 0, 1) := by decide +kernel
theorem dL_law_2522 : decode cL_law 2522 = .ok (.iload 4, 2) := by decide +kernel
theorem dL_law_2524 : decode cL_law 2524 = .ok (.iconst 2, 1) := by decide +kernel
theorem dL_law_2525 : decode cL_law 2525 = .ok (.iadd, 1) := by decide +kernel
theorem dL_law_2526 : decode cL_law 2526 = .ok (.iaload, 1) := by decide +kernel
theorem dL_law_2527 : decode cL_law 2527 = .ok (.aload_n 0, 1) := by decide +kernel
theorem dL_law_2528 : decode cL_law 2528 = .ok (.iload 4, 2) := by decide +kernel
theorem dL_law_2530 : decode cL_law 2530 = .ok (.iconst 3, 1) := by decide +kernel
theorem dL_law_2531 : decode cL_law 2531 = .ok (.iadd, 1) := by decide +kernel
theorem dL_law_2532 : decode cL_law 2532 = .ok (.iaload, 1) := by decide +kernel
theorem dL_law_2533 : decode cL_law 2533 = .ok (.aload_n 0, 1) := by decide +kernel
theorem dL_law_2534 : decode cL_law 2534 = .ok (.iload 4, 2) := by decide +kernel
theorem dL_law_2536 : decode cL_law 2536 = .ok (.iconst 4, 1) := by decide +kernel
theorem dL_law_2537 : decode cL_law 2537 = .ok (.iadd, 1) := by decide +kernel
theorem dL_law_2538 : decode cL_law 2538 = .ok (.iaload, 1) := by decide +kernel
theorem dL_law_2539 : decode cL_law 2539 = .ok (.aload_n 0, 1) := by decide +kernel
theorem dL_law_2540 : decode cL_law 2540 = .ok (.iload 4, 2) := by decide +kernel
theorem dL_law_2542 : decode cL_law 2542 = .ok (.iconst 5, 1) := by decide +kernel
theorem dL_law_2543 : decode cL_law 2543 = .ok (.iadd, 1) := by decide +kernel
theorem dL_law_2544 : decode cL_law 2544 = .ok (.iaload, 1) := by decide +kernel
theorem dL_law_2545 : decode cL_law 2545 = .ok (.aload_n 0, 1) := by decide +kernel
theorem dL_law_2546 : decode cL_law 2546 = .ok (.iload 4, 2) := by decide +kernel
theorem dL_law_2548 : decode cL_law 2548 = .ok (.bipush 6, 2) := by decide +kernel
theorem dL_law_2550 : decode cL_law 2550 = .ok (.iadd, 1) := by decide +kernel
theorem dL_law_2551 : decode cL_law 2551 = .ok (.iaload, 1) := by decide +kernel
theorem dL_law_2552 : decode cL_law 2552 = .ok (.invokevirtual 270, 3) := by decide +kernel
theorem dL_law_2555 : decode cL_law 2555 = .ok (.istore 6, 2) := by decide +kernel
theorem dL_law_2557 : decode cL_law 2557 = .ok (.aload_n 2, 1) := by decide +kernel
theorem dL_law_2558 : decode cL_law 2558 = .ok (.invokevirtual 131, 3) := by decide +kernel
theorem dL_law_2561 : decode cL_law 2561 = .ok (.iload 5, 2) := by decide +kernel
theorem dL_law_2563 : decode cL_law 2563 = .ok (.if_icmp .eq 5, 3) := by decide +kernel
theorem dL_law_2568 : decode cL_law 2568 = .ok (.iload 5, 2) := by decide +kernel
theorem dL_law_2570 : decode cL_law 2570 = .ok (.ifCond .ne 15, 3) := by decide +kernel
theorem dL_law_2585 : decode cL_law 2585 = .ok (.goto 233, 3) := by decide +kernel
theorem dL_law_2588 : decode cL_law 2588 = .ok (.aload_n 1, 1) := by decide +kernel
theorem dL_law_2589 : decode cL_law 2589 = .ok (.invokevirtual 271, 3) := by decide +kernel
theorem dL_law_2592 : decode cL_law 2592 = .ok (.aload_n 2, 1) := by decide +kernel
theorem dL_law_2593 : decode cL_law 2593 = .ok (.invokevirtual 274, 3) := by decide +kernel
theorem dL_law_2596 : decode cL_law 2596 = .ok (.if_icmp .eq 222, 3) := by decide +kernel
theorem dL_law_2601 : decode cL_law 2601 = .ok (.aload_n 1, 1) := by decide +kernel
theorem dL_law_2602 : decode cL_law 2602 = .ok (.invokevirtual 275, 3) := by decide +kernel
theorem dL_law_2605 : decode cL_law 2605 = .ok (.aload_n 2, 1) := by decide +kernel
theorem dL_law_2606 : decode cL_law 2606 = .ok (.invokevirtual 278, 3) := by decide +kernel
theorem dL_law_2609 : decode cL_law 2609 = .ok (.if_icmp .eq 209, 3) := by decide +kernel
theorem dL_law_2614 : decode cL_law 2614 = .ok (.aload_n 1, 1) := by decide +kernel
theorem dL_law_2615 : decode cL_law 2615 = .ok (.invokevirtual 279, 3) := by decide +kernel
theorem dL_law_2618 : decode cL_law 2618 = .ok (.aload_n 2, 1) := by decide +kernel
theorem dL_law_2619 : decode cL_law 2619 = .ok (.invokevirtual 282, 3) := by decide +kernel
theorem dL_law_2622 : decode cL_law 2622 = .ok (.if_icmp .eq 196, 3) := by decide +kernel
theorem dL_law_2627 : decode cL_law 2627 = .ok (.aload_n 1, 1) := by decide +kernel
theorem dL_law_2628 : decode cL_law 2628 = .ok (.aload_n 0, 1) := by decide +kernel
theorem dL_law_2629 : decode cL_law 2629 = .ok (.iload 4, 2) := by decide +kernel
theorem dL_law_2631 : decode cL_law 2631 = .ok (.iconst 1, 1) := by decide +kernel
theorem dL_law_2632 : decode cL_law 2632 = .ok (.iadd, 1) := by decide +kernel
theorem dL_law_2633 : decode cL_law 2633 = .ok (.iaload, 1) := by decide +kernel
theorem dL_law_2634 : decode cL_law 2634 = .ok (.aload_n 3, 1) := by decide +kernel
theorem dL_law_2635 : decode cL_law 2635 = .ok (.invokestatic 283, 3) := by decide +kernel
theorem dL_law_2638 : decode cL_law 2638 = .ok (.istore 5, 2) := by decide +kernel
theorem dL_law_2640 : decode cL_law 2640 = .ok (.aload_n 2, 1) := by decide +kernel
theorem dL_law_2641 : decode cL_law 2641 = .ok (.aload_n 0, 1) := by decide +kernel
theorem dL_law_2642 : decode cL_law 2642 = .ok (.iload 4, 2) := by decide +kernel
theorem dL_law_2644 : decode cL_law 2644 = .ok (.iconst 1, 1) := by decide +kernel
theorem dL_law_2645 : decode cL_law 2645 = .ok (.iadd, 1) := by decide +kernel
theorem dL_law_2646 : decode cL_law 2646 = .ok (.iaload, 1) := by decide +kernel
theorem dL_law_2647 : decode cL_law 2647 = .ok (.invokevirtual 285, 3) := by decide +kernel
theorem dL_law_2650 : decode cL_law 2650 = .ok (.istore 6, 2) := by decide +kernel
theorem dL_law_2652 : decode cL_law 2652 = .ok (.aload_n 2, 1) := by decide +kernel
theorem dL_law_2653 : decode cL_law 2653 = .ok (.invokevirtual 131, 3) := by decide +kernel
theorem dL_law_2656 : decode cL_law 2656 = .ok (.iload 5, 2) := by decide +kernel
theorem dL_law_2658 : decode cL_law 2658 = .ok (.if_icmp .eq 5, 3) := by decide +kernel
theorem dL_law_2663 : decode cL_law 2663 = .ok (.iload 5, 2) := by decide +kernel
theorem dL_law_2665 : decode cL_law 2665 = .ok (.ifCond .ne 15, 3) := by decide +kernel
theorem dL_law_2668 : decode cL_law 2668 = .ok (.aload_n 3, 1) := by decide +kernel
theorem dL_law_2669 : decode cL_law 2669 = .ok (.iconst 0, 1) := by decide +kernel
theorem dL_law_2670 : decode cL_law 2670 = .ok (.laload, 1) := by decide +kernel
theorem dL_law_2671 : decode cL_law 2671 = .ok (.iload 6, 2) := by decide +kernel
theorem dL_law_2673 : decode cL_law 2673 = .ok (.i2l, 1) := by decide +kernel
theorem dL_law_2674 : decode cL_law 2674 = .ok (.lcmp, 1) := by decide +kernel
theorem dL_law_2675 : decode cL_law 2675 = .ok (.ifCond .eq 5, 3) := by decide +kernel
theorem dL_law_2680 : decode cL_law 2680 = .ok (.goto 138, 3) := by decide +kernel
theorem dL_law_2683 : decode cL_law 2683 = .ok (.aload_n 1, 1) := by decide +kernel
theorem dL_law_2684 : decode cL_law 2684 = .ok (.aload_n 0, 1) := by decide +kernel
theorem dL_law_2685 : decode cL_law 2685 = .ok (.iload 4, 2) := by decide +kernel
theorem dL_law_2687 : decode cL_law 2687 = .ok (.iconst 1, 1) := by decide +kernel
theorem dL_law_2688 : decode cL_law 2688 = .ok (.iadd, 1) := by decide +kernel
theorem dL_law_2689 : decode cL_law 2689 = .ok (.iaload, 1) := by decide +kernel
theorem dL_law_2690 : decode cL_law 2690 = .ok (.aload_n 0, 1) := by decide +kernel
theorem dL_law_2691 : decode cL_law 2691 = .ok (.iload 4, 2) := by decide +kernel
theorem dL_law_2693 : decode cL_law 2693 = .ok (.iconst 2, 1) := by decide +kernel
theorem dL_law_2694 : decode cL_law 2694 = .ok (.iadd, 1) := by decide +kernel
theorem dL_law_2695 : decode cL_law 2695 = .ok (.iaload, 1) := by decide +kernel
theorem dL_law_2696 : decode cL_law 2696 = .ok (.aload_n 0, 1) := by decide +kernel
theorem dL_law_2697 : decode cL_law 2697 = .ok (.iload 4, 2) := by decide +kernel
theorem dL_law_2699 : decode cL_law 2699 = .ok (.iconst 3, 1) := by decide +kernel
theorem dL_law_2700 : decode cL_law 2700 = .ok (.iadd, 1) := by decide +kernel
theorem dL_law_2701 : decode cL_law 2701 = .ok (.iaload, 1) := by decide +kernel
theorem dL_law_2702 : decode cL_law 2702 = .ok (.aload_n 3, 1) := by decide +kernel
theorem dL_law_2703 : decode cL_law 2703 = .ok (.invokestatic 286, 3) := by decide +kernel
theorem dL_law_2706 : decode cL_law 2706 = .ok (.istore 5, 2) := by decide +kernel
theorem dL_law_2708 : decode cL_law 2708 = .ok (.aload_n 2, 1) := by decide +kernel
theorem dL_law_2709 : decode cL_law 2709 = .ok (.aload_n 0, 1) := by decide +kernel
theorem dL_law_2710 : decode cL_law 2710 = .ok (.iload 4, 2) := by decide +kernel
theorem dL_law_2712 : decode cL_law 2712 = .ok (.iconst 1, 1) := by decide +kernel
theorem dL_law_2713 : decode cL_law 2713 = .ok (.iadd, 1) := by decide +kernel
theorem dL_law_2714 : decode cL_law 2714 = .ok (.iaload, 1) := by decide +kernel
theorem dL_law_2715 : decode cL_law 2715 = .ok (.aload_n 0, 1) := by decide +kernel
theorem dL_law_2716 : decode cL_law 2716 = .ok (.iload 4, 2) := by decide +kernel
theorem dL_law_2718 : decode cL_law 2718 = .ok (.iconst 2, 1) := by decide +kernel
theorem dL_law_2719 : decode cL_law 2719 = .ok (.iadd, 1) := by decide +kernel
theorem dL_law_2720 : decode cL_law 2720 = .ok (.iaload, 1) := by decide +kernel
theorem dL_law_2721 : decode cL_law 2721 = .ok (.aload_n 0, 1) := by decide +kernel
theorem dL_law_2722 : decode cL_law 2722 = .ok (.iload 4, 2) := by decide +kernel
theorem dL_law_2724 : decode cL_law 2724 = .ok (.iconst 3, 1) := by decide +kernel
theorem dL_law_2725 : decode cL_law 2725 = .ok (.iadd, 1) := by decide +kernel
theorem dL_law_2726 : decode cL_law 2726 = .ok (.iaload, 1) := by decide +kernel
theorem dL_law_2727 : decode cL_law 2727 = .ok (.invokevirtual 288, 3) := by decide +kernel
theorem dL_law_2730 : decode cL_law 2730 = .ok (.istore 6, 2) := by decide +kernel
theorem dL_law_2732 : decode cL_law 2732 = .ok (.aload_n 2, 1) := by decide +kernel
theorem dL_law_2733 : decode cL_law 2733 = .ok (.invokevirtual 131, 3) := by decide +kernel
theorem dL_law_2736 : decode cL_law 2736 = .ok (.iload 5, 2) := by decide +kernel
theorem dL_law_2738 : decode cL_law 2738 = .ok (.if_icmp .eq 5, 3) := by decide +kernel
theorem dL_law_2743 : decode cL_law 2743 = .ok (.iload 5, 2) := by decide +kernel
theorem dL_law_2745 : decode cL_law 2745 = .ok (.ifCond .ne 15, 3) := by decide +kernel
theorem dL_law_2760 : decode cL_law 2760 = .ok (.goto 58, 3) := by decide +kernel
theorem qw907 : Cond.codeWith yL_codeRight cL_codeRight 5 (Option.some Jvm.ClassFile.FieldType.int) [(0, 10, 13, 24)] ∈ gw := mq_10 (i := 230) rfl rfl
theorem qw908 : Cond.methodLink RL 255 yL_codeRight ∈ gw := mq_10 (i := 228) rfl rfl
theorem qw909 : Cond.static yL_codeRight ∈ gw := mq_10 (i := 229) rfl rfl
theorem qw910 : Cond.code yX24_codeRight cX24_codeRight 3 (Option.some Jvm.ClassFile.FieldType.int) ∈ gw := mq_18 (i := 150) rfl rfl
theorem qw911 : Cond.methodLink RL 257 yX24_codeRight ∈ gw := mq_18 (i := 147) rfl rfl
theorem qw912 : Cond.instanceMethod yX24_codeRight ∈ gw := mq_18 (i := 148) rfl rfl
theorem qw913 : Cond.selects RX24 yX24_codeRight yX24_codeRight ∈ gw := mq_18 (i := 149) rfl rfl
theorem qw914 : Cond.codeWith yL_slots cL_slots 4 (Option.some Jvm.ClassFile.FieldType.int) [(0, 9, 12, 24)] ∈ gw := mq_10 (i := 237) rfl rfl
theorem qw915 : Cond.methodLink RL 258 yL_slots ∈ gw := mq_10 (i := 235) rfl rfl
theorem qw916 : Cond.static yL_slots ∈ gw := mq_10 (i := 236) rfl rfl
theorem qw917 : Cond.code yX24_slots cX24_slots 2 (Option.some Jvm.ClassFile.FieldType.int) ∈ gw := mq_18 (i := 154) rfl rfl
theorem qw918 : Cond.methodLink RL 260 yX24_slots ∈ gw := mq_18 (i := 151) rfl rfl
theorem qw919 : Cond.instanceMethod yX24_slots ∈ gw := mq_18 (i := 152) rfl rfl
theorem qw920 : Cond.selects RX24 yX24_slots yX24_slots ∈ gw := mq_18 (i := 153) rfl rfl
theorem qw921 : Cond.codeWith yL_united cL_united 4 (Option.some Jvm.ClassFile.FieldType.int) [(0, 9, 12, 24)] ∈ gw := mq_11 (i := 4) rfl rfl
theorem qw922 : Cond.methodLink RL 261 yL_united ∈ gw := mq_11 (i := 2) rfl rfl
theorem qw923 : Cond.static yL_united ∈ gw := mq_11 (i := 3) rfl rfl
theorem qw924 : Cond.code yX24_united cX24_united 2 (Option.some Jvm.ClassFile.FieldType.int) ∈ gw := mq_18 (i := 158) rfl rfl
theorem qw925 : Cond.methodLink RL 263 yX24_united ∈ gw := mq_18 (i := 155) rfl rfl
theorem qw926 : Cond.instanceMethod yX24_united ∈ gw := mq_18 (i := 156) rfl rfl
theorem qw927 : Cond.selects RX24 yX24_united yX24_united ∈ gw := mq_18 (i := 157) rfl rfl
theorem qw928 : Cond.codeWith yL_rounds cL_rounds 4 (Option.some Jvm.ClassFile.FieldType.int) [(0, 9, 12, 24)] ∈ gw := mq_11 (i := 11) rfl rfl
theorem qw929 : Cond.methodLink RL 264 yL_rounds ∈ gw := mq_11 (i := 9) rfl rfl
theorem qw930 : Cond.static yL_rounds ∈ gw := mq_11 (i := 10) rfl rfl
theorem qw931 : Cond.code yX24_rounds cX24_rounds 2 (Option.some Jvm.ClassFile.FieldType.int) ∈ gw := mq_18 (i := 162) rfl rfl
theorem qw932 : Cond.methodLink RL 266 yX24_rounds ∈ gw := mq_18 (i := 159) rfl rfl
theorem qw933 : Cond.instanceMethod yX24_rounds ∈ gw := mq_18 (i := 160) rfl rfl
theorem qw934 : Cond.selects RX24 yX24_rounds yX24_rounds ∈ gw := mq_18 (i := 161) rfl rfl
theorem qw935 : Cond.codeWith yL_run cL_run 9 (Option.some Jvm.ClassFile.FieldType.int) [(0, 18, 21, 24), (0, 18, 25, 19), (0, 18, 29, 13)] ∈ gw := mq_11 (i := 18) rfl rfl
theorem qw936 : Cond.methodLink RL 267 yL_run ∈ gw := mq_11 (i := 16) rfl rfl
theorem qw937 : Cond.static yL_run ∈ gw := mq_11 (i := 17) rfl rfl
theorem qw938 : Cond.code yX24_run_ cX24_run_ 8 (Option.some Jvm.ClassFile.FieldType.int) ∈ gw := mq_18 (i := 166) rfl rfl
theorem qw939 : Cond.methodLink RL 270 yX24_run_ ∈ gw := mq_18 (i := 163) rfl rfl
theorem qw940 : Cond.instanceMethod yX24_run_ ∈ gw := mq_18 (i := 164) rfl rfl
theorem qw941 : Cond.selects RX24 yX24_run_ yX24_run_ ∈ gw := mq_18 (i := 165) rfl rfl
theorem qw942 : Cond.code yX11_outcome cX11_outcome 1 (Option.some Jvm.ClassFile.FieldType.int) ∈ gw := mq_8 (i := 177) rfl rfl
theorem qw943 : Cond.methodLink RL 271 yX11_outcome ∈ gw := mq_8 (i := 174) rfl rfl
theorem qw944 : Cond.instanceMethod yX11_outcome ∈ gw := mq_8 (i := 175) rfl rfl
theorem qw945 : Cond.selects RX11 yX11_outcome yX11_outcome ∈ gw := mq_8 (i := 176) rfl rfl
theorem qw946 : Cond.code yX24_outcome cX24_outcome 1 (Option.some Jvm.ClassFile.FieldType.int) ∈ gw := mq_19 (i := 41) rfl rfl
theorem qw947 : Cond.methodLink RL 274 yX24_outcome ∈ gw := mq_19 (i := 38) rfl rfl
theorem qw948 : Cond.instanceMethod yX24_outcome ∈ gw := mq_19 (i := 39) rfl rfl
theorem qw949 : Cond.selects RX24 yX24_outcome yX24_outcome ∈ gw := mq_19 (i := 40) rfl rfl
theorem qw950 : Cond.code yX11_result cX11_result 1 (Option.some Jvm.ClassFile.FieldType.int) ∈ gw := mq_8 (i := 181) rfl rfl
theorem qw951 : Cond.methodLink RL 275 yX11_result ∈ gw := mq_8 (i := 178) rfl rfl
theorem qw952 : Cond.instanceMethod yX11_result ∈ gw := mq_8 (i := 179) rfl rfl
theorem qw953 : Cond.selects RX11 yX11_result yX11_result ∈ gw := mq_8 (i := 180) rfl rfl
theorem qw954 : Cond.code yX24_result cX24_result 1 (Option.some Jvm.ClassFile.FieldType.int) ∈ gw := mq_19 (i := 45) rfl rfl
theorem qw955 : Cond.methodLink RL 278 yX24_result ∈ gw := mq_19 (i := 42) rfl rfl
theorem qw956 : Cond.instanceMethod yX24_result ∈ gw := mq_19 (i := 43) rfl rfl
theorem qw957 : Cond.selects RX24 yX24_result yX24_result ∈ gw := mq_19 (i := 44) rfl rfl
theorem qw958 : Cond.code yX11_stepsRun cX11_stepsRun 1 (Option.some Jvm.ClassFile.FieldType.int) ∈ gw := mq_8 (i := 185) rfl rfl
theorem qw959 : Cond.methodLink RL 279 yX11_stepsRun ∈ gw := mq_8 (i := 182) rfl rfl
theorem qw960 : Cond.instanceMethod yX11_stepsRun ∈ gw := mq_8 (i := 183) rfl rfl
theorem qw961 : Cond.selects RX11 yX11_stepsRun yX11_stepsRun ∈ gw := mq_8 (i := 184) rfl rfl
theorem qw962 : Cond.code yX24_stepsRun cX24_stepsRun 1 (Option.some Jvm.ClassFile.FieldType.int) ∈ gw := mq_19 (i := 49) rfl rfl
theorem qw963 : Cond.methodLink RL 282 yX24_stepsRun ∈ gw := mq_19 (i := 46) rfl rfl
theorem qw964 : Cond.instanceMethod yX24_stepsRun ∈ gw := mq_19 (i := 47) rfl rfl
theorem qw965 : Cond.selects RX24 yX24_stepsRun yX24_stepsRun ∈ gw := mq_19 (i := 48) rfl rfl
theorem qw966 : Cond.codeWith yL_word cL_word 4 (Option.some Jvm.ClassFile.FieldType.int) [(0, 9, 12, 24)] ∈ gw := mq_11 (i := 128) rfl rfl
theorem qw967 : Cond.methodLink RL 283 yL_word ∈ gw := mq_11 (i := 126) rfl rfl
theorem qw968 : Cond.static yL_word ∈ gw := mq_11 (i := 127) rfl rfl
theorem qw969 : Cond.code yX24_word cX24_word 2 (Option.some Jvm.ClassFile.FieldType.int) ∈ gw := mq_19 (i := 53) rfl rfl
theorem qw970 : Cond.methodLink RL 285 yX24_word ∈ gw := mq_19 (i := 50) rfl rfl
theorem qw971 : Cond.instanceMethod yX24_word ∈ gw := mq_19 (i := 51) rfl rfl
theorem qw972 : Cond.selects RX24 yX24_word yX24_word ∈ gw := mq_19 (i := 52) rfl rfl
theorem qw973 : Cond.codeWith yL_differences cL_differences 6 (Option.some Jvm.ClassFile.FieldType.int) [(0, 12, 15, 24), (0, 12, 19, 19)] ∈ gw := mq_11 (i := 135) rfl rfl
theorem qw974 : Cond.methodLink RL 286 yL_differences ∈ gw := mq_11 (i := 133) rfl rfl
theorem qw975 : Cond.static yL_differences ∈ gw := mq_11 (i := 134) rfl rfl
theorem qw976 : Cond.code yX24_differences cX24_differences 8 (Option.some Jvm.ClassFile.FieldType.int) ∈ gw := mq_19 (i := 57) rfl rfl
theorem qw977 : Cond.methodLink RL 288 yX24_differences ∈ gw := mq_19 (i := 54) rfl rfl
theorem qw978 : Cond.instanceMethod yX24_differences ∈ gw := mq_19 (i := 55) rfl rfl
theorem qw979 : Cond.selects RX24 yX24_differences yX24_differences ∈ gw := mq_19 (i := 56) rfl rfl
set_option maxHeartbeats 4000000 in
set_option maxRecDepth 100000 in
theorem law_36 {zs : Nat × Nat} {p : Program} {e : Env} {s : State} {m : MethodId} {below : List Frame} {meth : Method} {c : Code} {l : Launch} {b : Nat} {xs : Nat → Int32} {dC : Nat → ClassId} {dI : Nat → Nat → Nat} {A : Nat → Prop} (C0 : lw_At p s m meth c b 7 xs) (hl9 : l.stackTraces = false) (hA : ∀ q, s.heap.size ≤ q → A q) (hA2 : ∀ q, A q → s.heap.size ≤ q) (hE : ENV zs A s s.heap) {H : Heap} {locs : List Loc} (q1 : Nat) (q2 : Nat) (q5 : Nat) (q14 : Nat) (q15 : Nat) (q16 : Nat) (q17 : Nat) (q29 : Nat) (q30 : Nat) (q31 : Nat) (q32 : Nat) (q33 : Nat) (q34 : Nat) (q35 : Nat) (q36 : Nat) (q37 : Nat) (q38 : Nat) (q39 : Nat) (q40 : Nat) (q51 : Nat) (q63 : Nat) (q64 : Nat) (q65 : Nat) (q67 : Nat) (q68 : Nat) (c69 : ClassId) (q70 : Nat) (q72 : Nat) (q86 : Nat) (q87 : Nat) (hP : va_P (dC, dI) cls [(q1, .inr (11, [.ref q2, .ref q5, .ref q14, .ref q15, .ref q16, .ref q17, .ref q51, .ref q63, .ref q29, .ref q40, .int (-1)])), (q29, .inr (2, [.int 0, .ref q30, .ref q31, .ref q32, .ref q33, .ref q34, .ref q35, .int 0, .ref q36, .ref q37, .ref q38, .int 0, .ref q39])), (q64, .inr (15, [.ref q65, .int 0, .int (-1), .int 0, .ref q67, .ref q68, .ref q70, .ref q72, .ref q86])), (q68, .inl (c69, 0, .inr (.inr (.inr (.inr (fun _ => none))))))] H) (hD : va_D A [(q1, .inr (11, [.ref q2, .ref q5, .ref q14, .ref q15, .ref q16, .ref q17, .ref q51, .ref q63, .ref q29, .ref q40, .int (-1)])), (q29, .inr (2, [.int 0, .ref q30, .ref q31, .ref q32, .ref q33, .ref q34, .ref q35, .int 0, .ref q36, .ref q37, .ref q38, .int 0, .ref q39])), (q64, .inr (15, [.ref q65, .int 0, .int (-1), .int 0, .ref q67, .ref q68, .ref q70, .ref q72, .ref q86])), (q68, .inl (c69, 0, .inr (.inr (.inr (.inr (fun _ => none))))))]) (hK : va_K (dC, dI) cls [(c69, .object RX14)] s) (hS : va_S A s.heap H locs) {ls : Array Slot} (hl : lv_has ls 9 [(4, .int 0), (3, .ref q87), (2, .ref q64), (1, .ref q1), (0, .ref b)])  : W p l e room_1 s m #[Value.ref b] below meth c H locs 369 122514 (lw_Z below #[Value.ref b] s) (F0 m 2234 ls []) := by
  obtain ⟨hx, hb, hr, hml, hown, hts0, hX, hbl, hlocks, hgv⟩ := id C0
  have hts : ∀ w ∈ gw, w.before #[Value.ref b] s = true := fun w h => hts0 w (gw_tbl h)
  have hbA : ¬ A b := fun h => absurd (hA2 b h) (Nat.not_le.mpr hbl)
  refine lv_aload_n hx hb dL_law_2234 rfl (lv_at hl 3 rfl) ?_
  refine lv_aload_n hx hb dL_law_2235 rfl (lv_at hl 4 rfl) ?_
  refine lv_iload hx hb dL_law_2236 (lv_at hl 0 rfl) ?_
  refine lv_iconst (v := 1) hx hb dL_law_2238 (by decide) ?_
  refine lv_iadd hx hb dL_law_2239 ?_
  refine lv_topC (y := 1) (by decide) ?_
  refine va_sld hx hb hX hbl hbA hS (by unfold vp_in; decide +kernel) dL_law_2240 ?_
  refine lv_topC (y := xs 1) rfl ?_
  refine lv_aload_n hx hb dL_law_2241 rfl (lv_at hl 4 rfl) ?_
  refine lv_iload hx hb dL_law_2242 (lv_at hl 0 rfl) ?_
  refine lv_iconst (v := 2) hx hb dL_law_2244 (by decide) ?_
  refine lv_iadd hx hb dL_law_2245 ?_
  refine lv_topC (y := 2) (by decide) ?_
  refine va_sld hx hb hX hbl hbA hS (by unfold vp_in; decide +kernel) dL_law_2246 ?_
  refine lv_topC (y := xs 2) rfl ?_
  refine lv_aload_n hx hb dL_law_2247 rfl (lv_at hl 1 rfl) ?_
  have hPc := hP.sub (ws' := [(q1, .inr (11, [.ref q2, .ref q5, .ref q14, .ref q15, .ref q16, .ref q17, .ref q51, .ref q63, .ref q29, .ref q40, .int (-1)])), (q29, .inr (2, [.int 0, .ref q30, .ref q31, .ref q32, .ref q33, .ref q34, .ref q35, .int 0, .ref q36, .ref q37, .ref q38, .int 0, .ref q39]))]) [0, 1] rfl
  have hDc := hD.sub (ws' := [(q1, .inr (11, [.ref q2, .ref q5, .ref q14, .ref q15, .ref q16, .ref q17, .ref q51, .ref q63, .ref q29, .ref q40, .int (-1)])), (q29, .inr (2, [.int 0, .ref q30, .ref q31, .ref q32, .ref q33, .ref q34, .ref q35, .int 0, .ref q36, .ref q37, .ref q38, .int 0, .ref q39]))]) [0, 1] (by decide) rfl
  have hKc := hK.sub (tys' := []) [] rfl
  have hFc := va_free (wc := [(q1, .inr (11, [.ref q2, .ref q5, .ref q14, .ref q15, .ref q16, .ref q17, .ref q51, .ref q63, .ref q29, .ref q40, .int (-1)])), (q29, .inr (2, [.int 0, .ref q30, .ref q31, .ref q32, .ref q33, .ref q34, .ref q35, .int 0, .ref q36, .ref q37, .ref q38, .int 0, .ref q39]))]) hD hS hA [0, 1] rfl
  refine va_calli (vx_runSW (As := [.ref q1, .int (xs 1), .int (xs 2), .ref q87]) (rest := []) ⟨hx, hb, hml, hown, hts⟩ (kL_codeRight l dC dI (gx := q1) (gq1 := q2) (gq4 := q5) (gq13 := q14) (gq136 := q15) (gq137 := q16) (gq138 := q17) (gq150 := q29) (gq151 := q30) (gq152 := q31) (gq153 := q32) (gq154 := q33) (gq155 := q34) (gq156 := q35) (gq157 := q36) (gq158 := q37) (gq159 := q38) (gq160 := q39) (gq161 := q40) (gq172 := q51) (gq184 := q63) (go := q87) (p0 := (xs 1)) (p1 := (xs 2)) (sz := _) (hl9 := hl9)) (vx_cwSW 4 hts (gi_S qw908 qw909 qw658 (gi_h qw907)) rfl rfl rfl (by decide +kernel) ⟨Nat.le_of_ble_eq_true rfl, Nat.le_of_ble_eq_true rfl⟩) ⟨PRE.blind, PRE.of hE hS hFc hPc hKc hDc⟩ rfl rfl hl.1 rfl (lv_room (Nat.le_of_ble_eq_true rfl)) dL_law_2248 ⟨Nat.le_of_ble_eq_true rfl, Nat.le_of_ble_eq_true rfl⟩) hS (fun q _ h => hFc q h) hFc (fun r90 u t H locs ht hvm hw hB hz1 hk1 hS => ?_)
  obtain ⟨hP, hD, hK⟩ := JOIN (wr := [(q64, .inr (15, [.ref q65, .int 0, .int (-1), .int 0, .ref q67, .ref q68, .ref q70, .ref q72, .ref q86])), (q68, .inl (c69, 0, .inr (.inr (.inr (.inr (fun _ => none))))))]) hP hD hK [0, 1] [2, 3] [0] rfl rfl (by decide) (by decide) rfl hk1 hFc ht hvm hB
  have hP : va_P (dC, dI) cls [(q64, .inr (15, [.ref q65, .int 0, .int (-1), .int 0, .ref q67, .ref q68, .ref q70, .ref q72, .ref q86])), (q68, .inl (c69, 0, .inr (.inr (.inr (.inr (fun _ => none))))))] H := hP
  have hD : va_D A [(q64, .inr (15, [.ref q65, .int 0, .int (-1), .int 0, .ref q67, .ref q68, .ref q70, .ref q72, .ref q86])), (q68, .inl (c69, 0, .inr (.inr (.inr (.inr (fun _ => none))))))] := hD
  have hK : va_K (dC, dI) cls [(c69, .object RX14)] s := hK
  refine W.widen (k := 370) (n := 122520) (Nat.le_of_ble_eq_true rfl) (Nat.le_of_ble_eq_true rfl) ?_
  obtain rfl : r90 = 1 := hw
  refine lv_istore (lv' := [(5, .int 1), (4, .int 0), (3, .ref q87), (2, .ref q64), (1, .ref q1), (0, .ref b)]) hx hb dL_law_2251 hl (by decide) rfl (fun ls hl => ?_)
  refine lv_aload_n hx hb dL_law_2253 rfl (lv_at hl 3 rfl) ?_
  refine lv_aload_n hx hb dL_law_2254 rfl (lv_at hl 5 rfl) ?_
  refine lv_iload hx hb dL_law_2255 (lv_at hl 1 rfl) ?_
  refine lv_iconst (v := 1) hx hb dL_law_2257 (by decide) ?_
  refine lv_iadd hx hb dL_law_2258 ?_
  refine lv_topC (y := 1) (by decide) ?_
  refine va_sld hx hb hX hbl hbA hS (by unfold vp_in; decide +kernel) dL_law_2259 ?_
  refine lv_topC (y := xs 1) rfl ?_
  refine lv_aload_n hx hb dL_law_2260 rfl (lv_at hl 5 rfl) ?_
  refine lv_iload hx hb dL_law_2261 (lv_at hl 1 rfl) ?_
  refine lv_iconst (v := 2) hx hb dL_law_2263 (by decide) ?_
  refine lv_iadd hx hb dL_law_2264 ?_
  refine lv_topC (y := 2) (by decide) ?_
  refine va_sld hx hb hX hbl hbA hS (by unfold vp_in; decide +kernel) dL_law_2265 ?_
  refine lv_topC (y := xs 2) rfl ?_
  have hPc := hP.sub (ws' := [(q64, .inr (15, [.ref q65, .int 0, .int (-1), .int 0, .ref q67, .ref q68, .ref q70, .ref q72, .ref q86])), (q68, .inl (c69, 0, .inr (.inr (.inr (.inr (fun _ => none))))))]) [0, 1] rfl
  have hDc := hD.sub (ws' := [(q64, .inr (15, [.ref q65, .int 0, .int (-1), .int 0, .ref q67, .ref q68, .ref q70, .ref q72, .ref q86])), (q68, .inl (c69, 0, .inr (.inr (.inr (.inr (fun _ => none))))))]) [0, 1] (by decide) rfl
  have hKc := hK.sub (tys' := [(c69, .object RX14)]) [0] rfl
  have hFc := va_free (wc := [(q64, .inr (15, [.ref q65, .int 0, .int (-1), .int 0, .ref q67, .ref q68, .ref q70, .ref q72, .ref q86])), (q68, .inl (c69, 0, .inr (.inr (.inr (.inr (fun _ => none))))))]) hD hS hA [0, 1] rfl
  refine va_calli (va_runV (As := [.int (xs 1), .int (xs 2)]) (rest := []) ⟨hx, hb, hml, hown, hts⟩ (kX24_codeRight l dC dI (mx := q64) (mq1 := q65) (mq3 := q67) (mq4 := q68) (mc5 := c69) (mq6 := q70) (mq8 := q72) (mq22 := q86) (p0 := (xs 1)) (p1 := (xs 2)) (sz := _)) (cwV 2 hts (gi_V qw911 qw912 qw913 qw434 (gi_z qw910)) rfl rfl rfl (by decide +kernel) ⟨Nat.le_of_ble_eq_true rfl, Nat.le_of_ble_eq_true rfl⟩) ⟨PRE.blind, va_recv hKc hPc (ci := 15) (q0 := 0) rfl rfl, PRE.of hE hS hFc hPc hKc hDc⟩ rfl rfl hl.1 rfl (lv_room (Nat.le_of_ble_eq_true rfl)) dL_law_2266 ⟨Nat.le_of_ble_eq_true rfl, Nat.le_of_ble_eq_true rfl⟩) hS (fun q _ h => hFc q h) hFc (fun r91 u t H locs ht hvm hw hB hz1 hk1 hS => ?_)
  obtain ⟨hP, hD, hK⟩ := JOIN (wr := []) hP hD hK [0, 1] [] [] rfl rfl (by decide) (by decide) rfl hk1 hFc ht hvm hB
  have hP : va_P (dC, dI) cls [(q64, .inr (15, [.ref q65, .int 0, .int (-1), .int 1, .ref q67, .ref q68, .ref q70, .ref q72, .ref q86]))] H := hP
  have hD : va_D A [(q64, .inr (15, [.ref q65, .int 0, .int (-1), .int 1, .ref q67, .ref q68, .ref q70, .ref q72, .ref q86]))] := hD
  have hK : va_K (dC, dI) cls [] s := hK
  refine W.widen (k := 370) (n := 122520) (Nat.le_of_ble_eq_true rfl) (Nat.le_of_ble_eq_true rfl) ?_
  obtain rfl : r91 = 0 := hw
  refine lv_istore (lv' := [(6, .int 0), (5, .int 1), (4, .int 0), (3, .ref q87), (2, .ref q64), (1, .ref q1), (0, .ref b)]) hx hb dL_law_2269 hl (by decide) rfl (fun ls hl => ?_)
  refine lv_aload_n hx hb dL_law_2271 rfl (lv_at hl 4 rfl) ?_
  have hPc := hP.sub (ws' := [(q64, .inr (15, [.ref q65, .int 0, .int (-1), .int 1, .ref q67, .ref q68, .ref q70, .ref q72, .ref q86]))]) [0] rfl
  have hDc := hD.sub (ws' := [(q64, .inr (15, [.ref q65, .int 0, .int (-1), .int 1, .ref q67, .ref q68, .ref q70, .ref q72, .ref q86]))]) [0] (by decide) rfl
  have hKc := hK.sub (tys' := []) [] rfl
  have hFc := va_free (wc := [(q64, .inr (15, [.ref q65, .int 0, .int (-1), .int 1, .ref q67, .ref q68, .ref q70, .ref q72, .ref q86]))]) hD hS hA [0] rfl
  refine va_calli (va_runV (As := []) (rest := []) ⟨hx, hb, hml, hown, hts⟩ (kX24_thrown_n64 l dC dI (a0 := q64) (a60 := q65) (a62 := q68) (a64 := q70) (a66 := q72) (a82 := q67) (a83 := q86) (sz := _)) (cwV 0 hts (gi_V qw664 qw665 qw666 qw434 (gi_z qw663)) rfl rfl rfl (by decide +kernel) ⟨Nat.le_of_ble_eq_true rfl, Nat.le_of_ble_eq_true rfl⟩) ⟨PRE.blind, va_recv hKc hPc (ci := 15) (q0 := 0) rfl rfl, PRE.of hE hS hFc hPc hKc hDc⟩ rfl rfl hl.1 rfl (lv_room (Nat.le_of_ble_eq_true rfl)) dL_law_2272 ⟨Nat.le_of_ble_eq_true rfl, Nat.le_of_ble_eq_true rfl⟩) hS (fun q _ h => hFc q h) hFc (fun r92 u t H locs ht hvm hw hB hz1 hk1 hS => ?_)
  obtain ⟨hP, hD, hK⟩ := JOIN (wr := []) hP hD hK [0] [] [] rfl rfl (by decide) (by decide) rfl hk1 hFc ht hvm hB
  have hP : va_P (dC, dI) cls [(q64, .inr (15, [.ref q65, .int 0, .int (-1), .int 1, .ref q67, .ref q68, .ref q70, .ref q72, .ref q86]))] H := hP
  have hD : va_D A [(q64, .inr (15, [.ref q65, .int 0, .int (-1), .int 1, .ref q67, .ref q68, .ref q70, .ref q72, .ref q86]))] := hD
  have hK : va_K (dC, dI) cls [] s := hK
  refine W.widen (k := 370) (n := 122520) (Nat.le_of_ble_eq_true rfl) (Nat.le_of_ble_eq_true rfl) ?_
  obtain rfl : r92 = 1 := hw
  refine lv_iload hx hb dL_law_2275 (lv_at hl 1 rfl) ?_
  refine lv_icmp_eq (tgt := 2282) hx hb dL_law_2277 (by decide) (fun _ => ?_) (fun c => absurd (by decide) c)
  refine lv_iload hx hb dL_law_2282 (lv_at hl 1 rfl) ?_
  refine lv_if_ne (tgt := 2299) hx hb dL_law_2284 (by decide) (fun _ => ?_) (fun c => absurd c (by decide))
  refine lv_goto (tgt := 2818) hx hb dL_law_2299 (by decide) ?_
  refine lv_iinc (v := 7) (lv' := [(4, .int 7), (6, .int 0), (5, .int 1), (3, .ref q87), (2, .ref q64), (1, .ref q1), (0, .ref b)]) hx hb dL_law_2818 hl (k := 2) rfl (by decide) (by decide) rfl (fun ls hl => ?_)
  refine lv_goto (tgt := 23) hx hb dL_law_2821 (by decide) ?_
  refine lv_iload hx hb dL_law_23 (lv_at hl 0 rfl) ?_
  refine lv_aload_n hx hb dL_law_25 rfl (lv_at hl 6 rfl) ?_
  refine va_slen hx hb hX hbl hbA hS dL_law_26 ?_
  refine lv_topC (y := 7) rfl ?_
  refine lv_bipush (v := 7) hx hb dL_law_27 (by decide) ?_
  refine lv_isub hx hb dL_law_29 ?_
  refine lv_topC (y := 0) (by decide) ?_
  refine lv_icmp_gt (tgt := 2824) hx hb dL_law_30 (by decide) (fun _ => ?_) (fun c => absurd (by decide) c)
  refine lv_iconst (v := 1) hx hb dL_law_2824 (by decide) ?_
  refine va_forget (fun q hq => hA2 _ (hS.2.2 q hq)) ?_
  refine W.widen (k := 600002) (n := 7302232) (Nat.le_of_ble_eq_true rfl) (Nat.le_of_ble_eq_true rfl) ?_
  exact lw_ret (d0 := s.drawn) (Drawn.sameBut.refl s.drawn lw_cs) hx hb hr hlocks dL_law_2825
set_option maxHeartbeats 4000000 in
set_option maxRecDepth 100000 in
theorem law_37 {zs : Nat × Nat} {p : Program} {e : Env} {s : State} {m : MethodId} {below : List Frame} {meth : Method} {c : Code} {l : Launch} {b : Nat} {xs : Nat → Int32} {dC : Nat → ClassId} {dI : Nat → Nat → Nat} {A : Nat → Prop} (C0 : lw_At p s m meth c b 7 xs) (hl9 : l.stackTraces = false) (hA : ∀ q, s.heap.size ≤ q → A q) (hA2 : ∀ q, A q → s.heap.size ≤ q) (hE : ENV zs A s s.heap) {H : Heap} {locs : List Loc} (q1 : Nat) (q2 : Nat) (q5 : Nat) (q14 : Nat) (q15 : Nat) (q16 : Nat) (q17 : Nat) (q29 : Nat) (q30 : Nat) (q31 : Nat) (q32 : Nat) (q33 : Nat) (q34 : Nat) (q35 : Nat) (q36 : Nat) (q37 : Nat) (q38 : Nat) (q39 : Nat) (q40 : Nat) (q51 : Nat) (q63 : Nat) (q64 : Nat) (q65 : Nat) (q67 : Nat) (q68 : Nat) (c69 : ClassId) (q70 : Nat) (q72 : Nat) (q86 : Nat) (q87 : Nat) (hP : va_P (dC, dI) cls [(q1, .inr (11, [.ref q2, .ref q5, .ref q14, .ref q15, .ref q16, .ref q17, .ref q51, .ref q63, .ref q29, .ref q40, .int (-1)])), (q29, .inr (2, [.int 0, .ref q30, .ref q31, .ref q32, .ref q33, .ref q34, .ref q35, .int 0, .ref q36, .ref q37, .ref q38, .int 0, .ref q39])), (q64, .inr (15, [.ref q65, .int 0, .int (-1), .int 0, .ref q67, .ref q68, .ref q70, .ref q72, .ref q86])), (q68, .inl (c69, 0, .inr (.inr (.inr (.inr (fun _ => none))))))] H) (hD : va_D A [(q1, .inr (11, [.ref q2, .ref q5, .ref q14, .ref q15, .ref q16, .ref q17, .ref q51, .ref q63, .ref q29, .ref q40, .int (-1)])), (q29, .inr (2, [.int 0, .ref q30, .ref q31, .ref q32, .ref q33, .ref q34, .ref q35, .int 0, .ref q36, .ref q37, .ref q38, .int 0, .ref q39])), (q64, .inr (15, [.ref q65, .int 0, .int (-1), .int 0, .ref q67, .ref q68, .ref q70, .ref q72, .ref q86])), (q68, .inl (c69, 0, .inr (.inr (.inr (.inr (fun _ => none))))))]) (hK : va_K (dC, dI) cls [(c69, .object RX14)] s) (hS : va_S A s.heap H locs) {ls : Array Slot} (hl : lv_has ls 9 [(4, .int 0), (3, .ref q87), (2, .ref q64), (1, .ref q1), (0, .ref b)])  : W p l e room_1 s m #[Value.ref b] below meth c H locs 369 122514 (lw_Z below #[Value.ref b] s) (F0 m 2302 ls []) := by
  obtain ⟨hx, hb, hr, hml, hown, hts0, hX, hbl, hlocks, hgv⟩ := id C0
  have hts : ∀ w ∈ gw, w.before #[Value.ref b] s = true := fun w h => hts0 w (gw_tbl h)
  have hbA : ¬ A b := fun h => absurd (hA2 b h) (Nat.not_le.mpr hbl)
  refine lv_aload_n hx hb dL_law_2302 rfl (lv_at hl 3 rfl) ?_
  refine lv_aload_n hx hb dL_law_2303 rfl (lv_at hl 4 rfl) ?_
  refine lv_iload hx hb dL_law_2304 (lv_at hl 0 rfl) ?_
  refine lv_iconst (v := 1) hx hb dL_law_2306 (by decide) ?_
  refine lv_iadd hx hb dL_law_2307 ?_
  refine lv_topC (y := 1) (by decide) ?_
  refine va_sld hx hb hX hbl hbA hS (by unfold vp_in; decide +kernel) dL_law_2308 ?_
  refine lv_topC (y := xs 1) rfl ?_
  refine lv_aload_n hx hb dL_law_2309 rfl (lv_at hl 1 rfl) ?_
  have hPc := hP.sub (ws' := [(q1, .inr (11, [.ref q2, .ref q5, .ref q14, .ref q15, .ref q16, .ref q17, .ref q51, .ref q63, .ref q29, .ref q40, .int (-1)])), (q29, .inr (2, [.int 0, .ref q30, .ref q31, .ref q32, .ref q33, .ref q34, .ref q35, .int 0, .ref q36, .ref q37, .ref q38, .int 0, .ref q39]))]) [0, 1] rfl
  have hDc := hD.sub (ws' := [(q1, .inr (11, [.ref q2, .ref q5, .ref q14, .ref q15, .ref q16, .ref q17, .ref q51, .ref q63, .ref q29, .ref q40, .int (-1)])), (q29, .inr (2, [.int 0, .ref q30, .ref q31, .ref q32, .ref q33, .ref q34, .ref q35, .int 0, .ref q36, .ref q37, .ref q38, .int 0, .ref q39]))]) [0, 1] (by decide) rfl
  have hKc := hK.sub (tys' := []) [] rfl
  have hFc := va_free (wc := [(q1, .inr (11, [.ref q2, .ref q5, .ref q14, .ref q15, .ref q16, .ref q17, .ref q51, .ref q63, .ref q29, .ref q40, .int (-1)])), (q29, .inr (2, [.int 0, .ref q30, .ref q31, .ref q32, .ref q33, .ref q34, .ref q35, .int 0, .ref q36, .ref q37, .ref q38, .int 0, .ref q39]))]) hD hS hA [0, 1] rfl
  refine va_calli (vx_runSW (As := [.ref q1, .int (xs 1), .ref q87]) (rest := []) ⟨hx, hb, hml, hown, hts⟩ (kL_slots l dC dI (gx := q1) (gq1 := q2) (gq4 := q5) (gq13 := q14) (gq136 := q15) (gq137 := q16) (gq138 := q17) (gq150 := q29) (gq151 := q30) (gq152 := q31) (gq153 := q32) (gq154 := q33) (gq155 := q34) (gq156 := q35) (gq157 := q36) (gq158 := q37) (gq159 := q38) (gq160 := q39) (gq161 := q40) (gq172 := q51) (gq184 := q63) (go := q87) (p0 := (xs 1)) (sz := _) (hl9 := hl9)) (vx_cwSW 3 hts (gi_S qw915 qw916 qw658 (gi_h qw914)) rfl rfl rfl (by decide +kernel) ⟨Nat.le_of_ble_eq_true rfl, Nat.le_of_ble_eq_true rfl⟩) ⟨PRE.blind, PRE.of hE hS hFc hPc hKc hDc⟩ rfl rfl hl.1 rfl (lv_room (Nat.le_of_ble_eq_true rfl)) dL_law_2310 ⟨Nat.le_of_ble_eq_true rfl, Nat.le_of_ble_eq_true rfl⟩) hS (fun q _ h => hFc q h) hFc (fun r90 u t H locs ht hvm hw hB hz1 hk1 hS => ?_)
  obtain ⟨hP, hD, hK⟩ := JOIN (wr := [(q64, .inr (15, [.ref q65, .int 0, .int (-1), .int 0, .ref q67, .ref q68, .ref q70, .ref q72, .ref q86])), (q68, .inl (c69, 0, .inr (.inr (.inr (.inr (fun _ => none))))))]) hP hD hK [0, 1] [2, 3] [0] rfl rfl (by decide) (by decide) rfl hk1 hFc ht hvm hB
  have hP : va_P (dC, dI) cls [(q64, .inr (15, [.ref q65, .int 0, .int (-1), .int 0, .ref q67, .ref q68, .ref q70, .ref q72, .ref q86])), (q68, .inl (c69, 0, .inr (.inr (.inr (.inr (fun _ => none))))))] H := hP
  have hD : va_D A [(q64, .inr (15, [.ref q65, .int 0, .int (-1), .int 0, .ref q67, .ref q68, .ref q70, .ref q72, .ref q86])), (q68, .inl (c69, 0, .inr (.inr (.inr (.inr (fun _ => none))))))] := hD
  have hK : va_K (dC, dI) cls [(c69, .object RX14)] s := hK
  refine W.widen (k := 370) (n := 122520) (Nat.le_of_ble_eq_true rfl) (Nat.le_of_ble_eq_true rfl) ?_
  obtain rfl : r90 = 1 := hw
  refine lv_istore (lv' := [(5, .int 1), (4, .int 0), (3, .ref q87), (2, .ref q64), (1, .ref q1), (0, .ref b)]) hx hb dL_law_2313 hl (by decide) rfl (fun ls hl => ?_)
  refine lv_aload_n hx hb dL_law_2315 rfl (lv_at hl 3 rfl) ?_
  refine lv_aload_n hx hb dL_law_2316 rfl (lv_at hl 5 rfl) ?_
  refine lv_iload hx hb dL_law_2317 (lv_at hl 1 rfl) ?_
  refine lv_iconst (v := 1) hx hb dL_law_2319 (by decide) ?_
  refine lv_iadd hx hb dL_law_2320 ?_
  refine lv_topC (y := 1) (by decide) ?_
  refine va_sld hx hb hX hbl hbA hS (by unfold vp_in; decide +kernel) dL_law_2321 ?_
  refine lv_topC (y := xs 1) rfl ?_
  have hPc := hP.sub (ws' := [(q64, .inr (15, [.ref q65, .int 0, .int (-1), .int 0, .ref q67, .ref q68, .ref q70, .ref q72, .ref q86])), (q68, .inl (c69, 0, .inr (.inr (.inr (.inr (fun _ => none))))))]) [0, 1] rfl
  have hDc := hD.sub (ws' := [(q64, .inr (15, [.ref q65, .int 0, .int (-1), .int 0, .ref q67, .ref q68, .ref q70, .ref q72, .ref q86])), (q68, .inl (c69, 0, .inr (.inr (.inr (.inr (fun _ => none))))))]) [0, 1] (by decide) rfl
  have hKc := hK.sub (tys' := [(c69, .object RX14)]) [0] rfl
  have hFc := va_free (wc := [(q64, .inr (15, [.ref q65, .int 0, .int (-1), .int 0, .ref q67, .ref q68, .ref q70, .ref q72, .ref q86])), (q68, .inl (c69, 0, .inr (.inr (.inr (.inr (fun _ => none))))))]) hD hS hA [0, 1] rfl
  refine va_calli (va_runV (As := [.int (xs 1)]) (rest := []) ⟨hx, hb, hml, hown, hts⟩ (kX24_slots l dC dI (mx := q64) (mq1 := q65) (mq3 := q67) (mq4 := q68) (mc5 := c69) (mq6 := q70) (mq8 := q72) (mq22 := q86) (p0 := (xs 1)) (sz := _)) (cwV 1 hts (gi_V qw918 qw919 qw920 qw434 (gi_z qw917)) rfl rfl rfl (by decide +kernel) ⟨Nat.le_of_ble_eq_true rfl, Nat.le_of_ble_eq_true rfl⟩) ⟨PRE.blind, va_recv hKc hPc (ci := 15) (q0 := 0) rfl rfl, PRE.of hE hS hFc hPc hKc hDc⟩ rfl rfl hl.1 rfl (lv_room (Nat.le_of_ble_eq_true rfl)) dL_law_2322 ⟨Nat.le_of_ble_eq_true rfl, Nat.le_of_ble_eq_true rfl⟩) hS (fun q _ h => hFc q h) hFc (fun r91 u t H locs ht hvm hw hB hz1 hk1 hS => ?_)
  obtain ⟨hP, hD, hK⟩ := JOIN (wr := []) hP hD hK [0, 1] [] [] rfl rfl (by decide) (by decide) rfl hk1 hFc ht hvm hB
  have hP : va_P (dC, dI) cls [(q64, .inr (15, [.ref q65, .int 0, .int (-1), .int 1, .ref q67, .ref q68, .ref q70, .ref q72, .ref q86]))] H := hP
  have hD : va_D A [(q64, .inr (15, [.ref q65, .int 0, .int (-1), .int 1, .ref q67, .ref q68, .ref q70, .ref q72, .ref q86]))] := hD
  have hK : va_K (dC, dI) cls [] s := hK
  refine W.widen (k := 370) (n := 122520) (Nat.le_of_ble_eq_true rfl) (Nat.le_of_ble_eq_true rfl) ?_
  obtain rfl : r91 = 0 := hw
  refine lv_istore (lv' := [(6, .int 0), (5, .int 1), (4, .int 0), (3, .ref q87), (2, .ref q64), (1, .ref q1), (0, .ref b)]) hx hb dL_law_2325 hl (by decide) rfl (fun ls hl => ?_)
  refine lv_aload_n hx hb dL_law_2327 rfl (lv_at hl 4 rfl) ?_
  have hPc := hP.sub (ws' := [(q64, .inr (15, [.ref q65, .int 0, .int (-1), .int 1, .ref q67, .ref q68, .ref q70, .ref q72, .ref q86]))]) [0] rfl
  have hDc := hD.sub (ws' := [(q64, .inr (15, [.ref q65, .int 0, .int (-1), .int 1, .ref q67, .ref q68, .ref q70, .ref q72, .ref q86]))]) [0] (by decide) rfl
  have hKc := hK.sub (tys' := []) [] rfl
  have hFc := va_free (wc := [(q64, .inr (15, [.ref q65, .int 0, .int (-1), .int 1, .ref q67, .ref q68, .ref q70, .ref q72, .ref q86]))]) hD hS hA [0] rfl
  refine va_calli (va_runV (As := []) (rest := []) ⟨hx, hb, hml, hown, hts⟩ (kX24_thrown_n64 l dC dI (a0 := q64) (a60 := q65) (a62 := q68) (a64 := q70) (a66 := q72) (a82 := q67) (a83 := q86) (sz := _)) (cwV 0 hts (gi_V qw664 qw665 qw666 qw434 (gi_z qw663)) rfl rfl rfl (by decide +kernel) ⟨Nat.le_of_ble_eq_true rfl, Nat.le_of_ble_eq_true rfl⟩) ⟨PRE.blind, va_recv hKc hPc (ci := 15) (q0 := 0) rfl rfl, PRE.of hE hS hFc hPc hKc hDc⟩ rfl rfl hl.1 rfl (lv_room (Nat.le_of_ble_eq_true rfl)) dL_law_2328 ⟨Nat.le_of_ble_eq_true rfl, Nat.le_of_ble_eq_true rfl⟩) hS (fun q _ h => hFc q h) hFc (fun r92 u t H locs ht hvm hw hB hz1 hk1 hS => ?_)
  obtain ⟨hP, hD, hK⟩ := JOIN (wr := []) hP hD hK [0] [] [] rfl rfl (by decide) (by decide) rfl hk1 hFc ht hvm hB
  have hP : va_P (dC, dI) cls [(q64, .inr (15, [.ref q65, .int 0, .int (-1), .int 1, .ref q67, .ref q68, .ref q70, .ref q72, .ref q86]))] H := hP
  have hD : va_D A [(q64, .inr (15, [.ref q65, .int 0, .int (-1), .int 1, .ref q67, .ref q68, .ref q70, .ref q72, .ref q86]))] := hD
  have hK : va_K (dC, dI) cls [] s := hK
  refine W.widen (k := 370) (n := 122520) (Nat.le_of_ble_eq_true rfl) (Nat.le_of_ble_eq_true rfl) ?_
  obtain rfl : r92 = 1 := hw
  refine lv_iload hx hb dL_law_2331 (lv_at hl 1 rfl) ?_
  refine lv_icmp_eq (tgt := 2338) hx hb dL_law_2333 (by decide) (fun _ => ?_) (fun c => absurd (by decide) c)
  refine lv_iload hx hb dL_law_2338 (lv_at hl 1 rfl) ?_
  refine lv_if_ne (tgt := 2355) hx hb dL_law_2340 (by decide) (fun _ => ?_) (fun c => absurd c (by decide))
  refine lv_goto (tgt := 2818) hx hb dL_law_2355 (by decide) ?_
  refine lv_iinc (v := 7) (lv' := [(4, .int 7), (6, .int 0), (5, .int 1), (3, .ref q87), (2, .ref q64), (1, .ref q1), (0, .ref b)]) hx hb dL_law_2818 hl (k := 2) rfl (by decide) (by decide) rfl (fun ls hl => ?_)
  refine lv_goto (tgt := 23) hx hb dL_law_2821 (by decide) ?_
  refine lv_iload hx hb dL_law_23 (lv_at hl 0 rfl) ?_
  refine lv_aload_n hx hb dL_law_25 rfl (lv_at hl 6 rfl) ?_
  refine va_slen hx hb hX hbl hbA hS dL_law_26 ?_
  refine lv_topC (y := 7) rfl ?_
  refine lv_bipush (v := 7) hx hb dL_law_27 (by decide) ?_
  refine lv_isub hx hb dL_law_29 ?_
  refine lv_topC (y := 0) (by decide) ?_
  refine lv_icmp_gt (tgt := 2824) hx hb dL_law_30 (by decide) (fun _ => ?_) (fun c => absurd (by decide) c)
  refine lv_iconst (v := 1) hx hb dL_law_2824 (by decide) ?_
  refine va_forget (fun q hq => hA2 _ (hS.2.2 q hq)) ?_
  refine W.widen (k := 600002) (n := 7302232) (Nat.le_of_ble_eq_true rfl) (Nat.le_of_ble_eq_true rfl) ?_
  exact lw_ret (d0 := s.drawn) (Drawn.sameBut.refl s.drawn lw_cs) hx hb hr hlocks dL_law_2825
set_option maxHeartbeats 4000000 in
set_option maxRecDepth 100000 in
theorem law_38 {zs : Nat × Nat} {p : Program} {e : Env} {s : State} {m : MethodId} {below : List Frame} {meth : Method} {c : Code} {l : Launch} {b : Nat} {xs : Nat → Int32} {dC : Nat → ClassId} {dI : Nat → Nat → Nat} {A : Nat → Prop} (C0 : lw_At p s m meth c b 7 xs) (hl9 : l.stackTraces = false) (hA : ∀ q, s.heap.size ≤ q → A q) (hA2 : ∀ q, A q → s.heap.size ≤ q) (hE : ENV zs A s s.heap) {H : Heap} {locs : List Loc} (q1 : Nat) (q2 : Nat) (q5 : Nat) (q14 : Nat) (q15 : Nat) (q16 : Nat) (q17 : Nat) (q29 : Nat) (q30 : Nat) (q31 : Nat) (q32 : Nat) (q33 : Nat) (q34 : Nat) (q35 : Nat) (q36 : Nat) (q37 : Nat) (q38 : Nat) (q39 : Nat) (q40 : Nat) (q51 : Nat) (q63 : Nat) (q64 : Nat) (q65 : Nat) (q67 : Nat) (q68 : Nat) (c69 : ClassId) (q70 : Nat) (q72 : Nat) (q86 : Nat) (q87 : Nat) (hP : va_P (dC, dI) cls [(q1, .inr (11, [.ref q2, .ref q5, .ref q14, .ref q15, .ref q16, .ref q17, .ref q51, .ref q63, .ref q29, .ref q40, .int (-1)])), (q29, .inr (2, [.int 0, .ref q30, .ref q31, .ref q32, .ref q33, .ref q34, .ref q35, .int 0, .ref q36, .ref q37, .ref q38, .int 0, .ref q39])), (q64, .inr (15, [.ref q65, .int 0, .int (-1), .int 0, .ref q67, .ref q68, .ref q70, .ref q72, .ref q86])), (q68, .inl (c69, 0, .inr (.inr (.inr (.inr (fun _ => none))))))] H) (hD : va_D A [(q1, .inr (11, [.ref q2, .ref q5, .ref q14, .ref q15, .ref q16, .ref q17, .ref q51, .ref q63, .ref q29, .ref q40, .int (-1)])), (q29, .inr (2, [.int 0, .ref q30, .ref q31, .ref q32, .ref q33, .ref q34, .ref q35, .int 0, .ref q36, .ref q37, .ref q38, .int 0, .ref q39])), (q64, .inr (15, [.ref q65, .int 0, .int (-1), .int 0, .ref q67, .ref q68, .ref q70, .ref q72, .ref q86])), (q68, .inl (c69, 0, .inr (.inr (.inr (.inr (fun _ => none))))))]) (hK : va_K (dC, dI) cls [(c69, .object RX14)] s) (hS : va_S A s.heap H locs) {ls : Array Slot} (hl : lv_has ls 9 [(4, .int 0), (3, .ref q87), (2, .ref q64), (1, .ref q1), (0, .ref b)])  : W p l e room_1 s m #[Value.ref b] below meth c H locs 369 122514 (lw_Z below #[Value.ref b] s) (F0 m 2358 ls []) := by
  obtain ⟨hx, hb, hr, hml, hown, hts0, hX, hbl, hlocks, hgv⟩ := id C0
  have hts : ∀ w ∈ gw, w.before #[Value.ref b] s = true := fun w h => hts0 w (gw_tbl h)
  have hbA : ¬ A b := fun h => absurd (hA2 b h) (Nat.not_le.mpr hbl)
  refine lv_aload_n hx hb dL_law_2358 rfl (lv_at hl 3 rfl) ?_
  refine lv_aload_n hx hb dL_law_2359 rfl (lv_at hl 4 rfl) ?_
  refine lv_iload hx hb dL_law_2360 (lv_at hl 0 rfl) ?_
  refine lv_iconst (v := 1) hx hb dL_law_2362 (by decide) ?_
  refine lv_iadd hx hb dL_law_2363 ?_
  refine lv_topC (y := 1) (by decide) ?_
  refine va_sld hx hb hX hbl hbA hS (by unfold vp_in; decide +kernel) dL_law_2364 ?_
  refine lv_topC (y := xs 1) rfl ?_
  refine lv_aload_n hx hb dL_law_2365 rfl (lv_at hl 1 rfl) ?_
  have hPc := hP.sub (ws' := [(q1, .inr (11, [.ref q2, .ref q5, .ref q14, .ref q15, .ref q16, .ref q17, .ref q51, .ref q63, .ref q29, .ref q40, .int (-1)])), (q29, .inr (2, [.int 0, .ref q30, .ref q31, .ref q32, .ref q33, .ref q34, .ref q35, .int 0, .ref q36, .ref q37, .ref q38, .int 0, .ref q39]))]) [0, 1] rfl
  have hDc := hD.sub (ws' := [(q1, .inr (11, [.ref q2, .ref q5, .ref q14, .ref q15, .ref q16, .ref q17, .ref q51, .ref q63, .ref q29, .ref q40, .int (-1)])), (q29, .inr (2, [.int 0, .ref q30, .ref q31, .ref q32, .ref q33, .ref q34, .ref q35, .int 0, .ref q36, .ref q37, .ref q38, .int 0, .ref q39]))]) [0, 1] (by decide) rfl
  have hKc := hK.sub (tys' := []) [] rfl
  have hFc := va_free (wc := [(q1, .inr (11, [.ref q2, .ref q5, .ref q14, .ref q15, .ref q16, .ref q17, .ref q51, .ref q63, .ref q29, .ref q40, .int (-1)])), (q29, .inr (2, [.int 0, .ref q30, .ref q31, .ref q32, .ref q33, .ref q34, .ref q35, .int 0, .ref q36, .ref q37, .ref q38, .int 0, .ref q39]))]) hD hS hA [0, 1] rfl
  refine va_calli (vx_runSW (As := [.ref q1, .int (xs 1), .ref q87]) (rest := []) ⟨hx, hb, hml, hown, hts⟩ (kL_united l dC dI (gx := q1) (gq1 := q2) (gq4 := q5) (gq13 := q14) (gq136 := q15) (gq137 := q16) (gq138 := q17) (gq150 := q29) (gq151 := q30) (gq152 := q31) (gq153 := q32) (gq154 := q33) (gq155 := q34) (gq156 := q35) (gq157 := q36) (gq158 := q37) (gq159 := q38) (gq160 := q39) (gq161 := q40) (gq172 := q51) (gq184 := q63) (go := q87) (p0 := (xs 1)) (sz := _) (hl9 := hl9)) (vx_cwSW 3 hts (gi_S qw922 qw923 qw658 (gi_h qw921)) rfl rfl rfl (by decide +kernel) ⟨Nat.le_of_ble_eq_true rfl, Nat.le_of_ble_eq_true rfl⟩) ⟨PRE.blind, PRE.of hE hS hFc hPc hKc hDc⟩ rfl rfl hl.1 rfl (lv_room (Nat.le_of_ble_eq_true rfl)) dL_law_2366 ⟨Nat.le_of_ble_eq_true rfl, Nat.le_of_ble_eq_true rfl⟩) hS (fun q _ h => hFc q h) hFc (fun r90 u t H locs ht hvm hw hB hz1 hk1 hS => ?_)
  obtain ⟨hP, hD, hK⟩ := JOIN (wr := [(q64, .inr (15, [.ref q65, .int 0, .int (-1), .int 0, .ref q67, .ref q68, .ref q70, .ref q72, .ref q86])), (q68, .inl (c69, 0, .inr (.inr (.inr (.inr (fun _ => none))))))]) hP hD hK [0, 1] [2, 3] [0] rfl rfl (by decide) (by decide) rfl hk1 hFc ht hvm hB
  have hP : va_P (dC, dI) cls [(q64, .inr (15, [.ref q65, .int 0, .int (-1), .int 0, .ref q67, .ref q68, .ref q70, .ref q72, .ref q86])), (q68, .inl (c69, 0, .inr (.inr (.inr (.inr (fun _ => none))))))] H := hP
  have hD : va_D A [(q64, .inr (15, [.ref q65, .int 0, .int (-1), .int 0, .ref q67, .ref q68, .ref q70, .ref q72, .ref q86])), (q68, .inl (c69, 0, .inr (.inr (.inr (.inr (fun _ => none))))))] := hD
  have hK : va_K (dC, dI) cls [(c69, .object RX14)] s := hK
  refine W.widen (k := 370) (n := 122520) (Nat.le_of_ble_eq_true rfl) (Nat.le_of_ble_eq_true rfl) ?_
  obtain rfl : r90 = 1 := hw
  refine lv_istore (lv' := [(5, .int 1), (4, .int 0), (3, .ref q87), (2, .ref q64), (1, .ref q1), (0, .ref b)]) hx hb dL_law_2369 hl (by decide) rfl (fun ls hl => ?_)
  refine lv_aload_n hx hb dL_law_2371 rfl (lv_at hl 3 rfl) ?_
  refine lv_aload_n hx hb dL_law_2372 rfl (lv_at hl 5 rfl) ?_
  refine lv_iload hx hb dL_law_2373 (lv_at hl 1 rfl) ?_
  refine lv_iconst (v := 1) hx hb dL_law_2375 (by decide) ?_
  refine lv_iadd hx hb dL_law_2376 ?_
  refine lv_topC (y := 1) (by decide) ?_
  refine va_sld hx hb hX hbl hbA hS (by unfold vp_in; decide +kernel) dL_law_2377 ?_
  refine lv_topC (y := xs 1) rfl ?_
  have hPc := hP.sub (ws' := [(q64, .inr (15, [.ref q65, .int 0, .int (-1), .int 0, .ref q67, .ref q68, .ref q70, .ref q72, .ref q86])), (q68, .inl (c69, 0, .inr (.inr (.inr (.inr (fun _ => none))))))]) [0, 1] rfl
  have hDc := hD.sub (ws' := [(q64, .inr (15, [.ref q65, .int 0, .int (-1), .int 0, .ref q67, .ref q68, .ref q70, .ref q72, .ref q86])), (q68, .inl (c69, 0, .inr (.inr (.inr (.inr (fun _ => none))))))]) [0, 1] (by decide) rfl
  have hKc := hK.sub (tys' := [(c69, .object RX14)]) [0] rfl
  have hFc := va_free (wc := [(q64, .inr (15, [.ref q65, .int 0, .int (-1), .int 0, .ref q67, .ref q68, .ref q70, .ref q72, .ref q86])), (q68, .inl (c69, 0, .inr (.inr (.inr (.inr (fun _ => none))))))]) hD hS hA [0, 1] rfl
  refine va_calli (va_runV (As := [.int (xs 1)]) (rest := []) ⟨hx, hb, hml, hown, hts⟩ (kX24_united l dC dI (mx := q64) (mq1 := q65) (mq3 := q67) (mq4 := q68) (mc5 := c69) (mq6 := q70) (mq8 := q72) (mq22 := q86) (p0 := (xs 1)) (sz := _)) (cwV 1 hts (gi_V qw925 qw926 qw927 qw434 (gi_z qw924)) rfl rfl rfl (by decide +kernel) ⟨Nat.le_of_ble_eq_true rfl, Nat.le_of_ble_eq_true rfl⟩) ⟨PRE.blind, va_recv hKc hPc (ci := 15) (q0 := 0) rfl rfl, PRE.of hE hS hFc hPc hKc hDc⟩ rfl rfl hl.1 rfl (lv_room (Nat.le_of_ble_eq_true rfl)) dL_law_2378 ⟨Nat.le_of_ble_eq_true rfl, Nat.le_of_ble_eq_true rfl⟩) hS (fun q _ h => hFc q h) hFc (fun r91 u t H locs ht hvm hw hB hz1 hk1 hS => ?_)
  obtain ⟨hP, hD, hK⟩ := JOIN (wr := []) hP hD hK [0, 1] [] [] rfl rfl (by decide) (by decide) rfl hk1 hFc ht hvm hB
  have hP : va_P (dC, dI) cls [(q64, .inr (15, [.ref q65, .int 0, .int (-1), .int 1, .ref q67, .ref q68, .ref q70, .ref q72, .ref q86]))] H := hP
  have hD : va_D A [(q64, .inr (15, [.ref q65, .int 0, .int (-1), .int 1, .ref q67, .ref q68, .ref q70, .ref q72, .ref q86]))] := hD
  have hK : va_K (dC, dI) cls [] s := hK
  refine W.widen (k := 370) (n := 122520) (Nat.le_of_ble_eq_true rfl) (Nat.le_of_ble_eq_true rfl) ?_
  obtain rfl : r91 = 0 := hw
  refine lv_istore (lv' := [(6, .int 0), (5, .int 1), (4, .int 0), (3, .ref q87), (2, .ref q64), (1, .ref q1), (0, .ref b)]) hx hb dL_law_2381 hl (by decide) rfl (fun ls hl => ?_)
  refine lv_aload_n hx hb dL_law_2383 rfl (lv_at hl 4 rfl) ?_
  have hPc := hP.sub (ws' := [(q64, .inr (15, [.ref q65, .int 0, .int (-1), .int 1, .ref q67, .ref q68, .ref q70, .ref q72, .ref q86]))]) [0] rfl
  have hDc := hD.sub (ws' := [(q64, .inr (15, [.ref q65, .int 0, .int (-1), .int 1, .ref q67, .ref q68, .ref q70, .ref q72, .ref q86]))]) [0] (by decide) rfl
  have hKc := hK.sub (tys' := []) [] rfl
  have hFc := va_free (wc := [(q64, .inr (15, [.ref q65, .int 0, .int (-1), .int 1, .ref q67, .ref q68, .ref q70, .ref q72, .ref q86]))]) hD hS hA [0] rfl
  refine va_calli (va_runV (As := []) (rest := []) ⟨hx, hb, hml, hown, hts⟩ (kX24_thrown_n64 l dC dI (a0 := q64) (a60 := q65) (a62 := q68) (a64 := q70) (a66 := q72) (a82 := q67) (a83 := q86) (sz := _)) (cwV 0 hts (gi_V qw664 qw665 qw666 qw434 (gi_z qw663)) rfl rfl rfl (by decide +kernel) ⟨Nat.le_of_ble_eq_true rfl, Nat.le_of_ble_eq_true rfl⟩) ⟨PRE.blind, va_recv hKc hPc (ci := 15) (q0 := 0) rfl rfl, PRE.of hE hS hFc hPc hKc hDc⟩ rfl rfl hl.1 rfl (lv_room (Nat.le_of_ble_eq_true rfl)) dL_law_2384 ⟨Nat.le_of_ble_eq_true rfl, Nat.le_of_ble_eq_true rfl⟩) hS (fun q _ h => hFc q h) hFc (fun r92 u t H locs ht hvm hw hB hz1 hk1 hS => ?_)
  obtain ⟨hP, hD, hK⟩ := JOIN (wr := []) hP hD hK [0] [] [] rfl rfl (by decide) (by decide) rfl hk1 hFc ht hvm hB
  have hP : va_P (dC, dI) cls [(q64, .inr (15, [.ref q65, .int 0, .int (-1), .int 1, .ref q67, .ref q68, .ref q70, .ref q72, .ref q86]))] H := hP
  have hD : va_D A [(q64, .inr (15, [.ref q65, .int 0, .int (-1), .int 1, .ref q67, .ref q68, .ref q70, .ref q72, .ref q86]))] := hD
  have hK : va_K (dC, dI) cls [] s := hK
  refine W.widen (k := 370) (n := 122520) (Nat.le_of_ble_eq_true rfl) (Nat.le_of_ble_eq_true rfl) ?_
  obtain rfl : r92 = 1 := hw
  refine lv_iload hx hb dL_law_2387 (lv_at hl 1 rfl) ?_
  refine lv_icmp_eq (tgt := 2394) hx hb dL_law_2389 (by decide) (fun _ => ?_) (fun c => absurd (by decide) c)
  refine lv_iload hx hb dL_law_2394 (lv_at hl 1 rfl) ?_
  refine lv_if_ne (tgt := 2411) hx hb dL_law_2396 (by decide) (fun _ => ?_) (fun c => absurd c (by decide))
  refine lv_goto (tgt := 2818) hx hb dL_law_2411 (by decide) ?_
  refine lv_iinc (v := 7) (lv' := [(4, .int 7), (6, .int 0), (5, .int 1), (3, .ref q87), (2, .ref q64), (1, .ref q1), (0, .ref b)]) hx hb dL_law_2818 hl (k := 2) rfl (by decide) (by decide) rfl (fun ls hl => ?_)
  refine lv_goto (tgt := 23) hx hb dL_law_2821 (by decide) ?_
  refine lv_iload hx hb dL_law_23 (lv_at hl 0 rfl) ?_
  refine lv_aload_n hx hb dL_law_25 rfl (lv_at hl 6 rfl) ?_
  refine va_slen hx hb hX hbl hbA hS dL_law_26 ?_
  refine lv_topC (y := 7) rfl ?_
  refine lv_bipush (v := 7) hx hb dL_law_27 (by decide) ?_
  refine lv_isub hx hb dL_law_29 ?_
  refine lv_topC (y := 0) (by decide) ?_
  refine lv_icmp_gt (tgt := 2824) hx hb dL_law_30 (by decide) (fun _ => ?_) (fun c => absurd (by decide) c)
  refine lv_iconst (v := 1) hx hb dL_law_2824 (by decide) ?_
  refine va_forget (fun q hq => hA2 _ (hS.2.2 q hq)) ?_
  refine W.widen (k := 600002) (n := 7302232) (Nat.le_of_ble_eq_true rfl) (Nat.le_of_ble_eq_true rfl) ?_
  exact lw_ret (d0 := s.drawn) (Drawn.sameBut.refl s.drawn lw_cs) hx hb hr hlocks dL_law_2825
set_option maxHeartbeats 4000000 in
set_option maxRecDepth 100000 in
theorem law_39 {zs : Nat × Nat} {p : Program} {e : Env} {s : State} {m : MethodId} {below : List Frame} {meth : Method} {c : Code} {l : Launch} {b : Nat} {xs : Nat → Int32} {dC : Nat → ClassId} {dI : Nat → Nat → Nat} {A : Nat → Prop} (C0 : lw_At p s m meth c b 7 xs) (hl9 : l.stackTraces = false) (hA : ∀ q, s.heap.size ≤ q → A q) (hA2 : ∀ q, A q → s.heap.size ≤ q) (hE : ENV zs A s s.heap) {H : Heap} {locs : List Loc} (q1 : Nat) (q2 : Nat) (q5 : Nat) (q14 : Nat) (q15 : Nat) (q16 : Nat) (q17 : Nat) (q29 : Nat) (q30 : Nat) (q31 : Nat) (q32 : Nat) (q33 : Nat) (q34 : Nat) (q35 : Nat) (q36 : Nat) (q37 : Nat) (q38 : Nat) (q39 : Nat) (q40 : Nat) (q51 : Nat) (q63 : Nat) (q64 : Nat) (q65 : Nat) (q67 : Nat) (q68 : Nat) (c69 : ClassId) (q70 : Nat) (q72 : Nat) (q86 : Nat) (q87 : Nat) (hP : va_P (dC, dI) cls [(q1, .inr (11, [.ref q2, .ref q5, .ref q14, .ref q15, .ref q16, .ref q17, .ref q51, .ref q63, .ref q29, .ref q40, .int (-1)])), (q29, .inr (2, [.int 0, .ref q30, .ref q31, .ref q32, .ref q33, .ref q34, .ref q35, .int 0, .ref q36, .ref q37, .ref q38, .int 0, .ref q39])), (q64, .inr (15, [.ref q65, .int 0, .int (-1), .int 0, .ref q67, .ref q68, .ref q70, .ref q72, .ref q86])), (q68, .inl (c69, 0, .inr (.inr (.inr (.inr (fun _ => none))))))] H) (hD : va_D A [(q1, .inr (11, [.ref q2, .ref q5, .ref q14, .ref q15, .ref q16, .ref q17, .ref q51, .ref q63, .ref q29, .ref q40, .int (-1)])), (q29, .inr (2, [.int 0, .ref q30, .ref q31, .ref q32, .ref q33, .ref q34, .ref q35, .int 0, .ref q36, .ref q37, .ref q38, .int 0, .ref q39])), (q64, .inr (15, [.ref q65, .int 0, .int (-1), .int 0, .ref q67, .ref q68, .ref q70, .ref q72, .ref q86])), (q68, .inl (c69, 0, .inr (.inr (.inr (.inr (fun _ => none))))))]) (hK : va_K (dC, dI) cls [(c69, .object RX14)] s) (hS : va_S A s.heap H locs) {ls : Array Slot} (hl : lv_has ls 9 [(4, .int 0), (3, .ref q87), (2, .ref q64), (1, .ref q1), (0, .ref b)])  : W p l e room_1 s m #[Value.ref b] below meth c H locs 369 122514 (lw_Z below #[Value.ref b] s) (F0 m 2414 ls []) := by
  obtain ⟨hx, hb, hr, hml, hown, hts0, hX, hbl, hlocks, hgv⟩ := id C0
  have hts : ∀ w ∈ gw, w.before #[Value.ref b] s = true := fun w h => hts0 w (gw_tbl h)
  have hbA : ¬ A b := fun h => absurd (hA2 b h) (Nat.not_le.mpr hbl)
  refine lv_aload_n hx hb dL_law_2414 rfl (lv_at hl 3 rfl) ?_
  refine lv_aload_n hx hb dL_law_2415 rfl (lv_at hl 4 rfl) ?_
  refine lv_iload hx hb dL_law_2416 (lv_at hl 0 rfl) ?_
  refine lv_iconst (v := 1) hx hb dL_law_2418 (by decide) ?_
  refine lv_iadd hx hb dL_law_2419 ?_
  refine lv_topC (y := 1) (by decide) ?_
  refine va_sld hx hb hX hbl hbA hS (by unfold vp_in; decide +kernel) dL_law_2420 ?_
  refine lv_topC (y := xs 1) rfl ?_
  refine lv_aload_n hx hb dL_law_2421 rfl (lv_at hl 1 rfl) ?_
  have hPc := hP.sub (ws' := [(q1, .inr (11, [.ref q2, .ref q5, .ref q14, .ref q15, .ref q16, .ref q17, .ref q51, .ref q63, .ref q29, .ref q40, .int (-1)])), (q29, .inr (2, [.int 0, .ref q30, .ref q31, .ref q32, .ref q33, .ref q34, .ref q35, .int 0, .ref q36, .ref q37, .ref q38, .int 0, .ref q39]))]) [0, 1] rfl
  have hDc := hD.sub (ws' := [(q1, .inr (11, [.ref q2, .ref q5, .ref q14, .ref q15, .ref q16, .ref q17, .ref q51, .ref q63, .ref q29, .ref q40, .int (-1)])), (q29, .inr (2, [.int 0, .ref q30, .ref q31, .ref q32, .ref q33, .ref q34, .ref q35, .int 0, .ref q36, .ref q37, .ref q38, .int 0, .ref q39]))]) [0, 1] (by decide) rfl
  have hKc := hK.sub (tys' := []) [] rfl
  have hFc := va_free (wc := [(q1, .inr (11, [.ref q2, .ref q5, .ref q14, .ref q15, .ref q16, .ref q17, .ref q51, .ref q63, .ref q29, .ref q40, .int (-1)])), (q29, .inr (2, [.int 0, .ref q30, .ref q31, .ref q32, .ref q33, .ref q34, .ref q35, .int 0, .ref q36, .ref q37, .ref q38, .int 0, .ref q39]))]) hD hS hA [0, 1] rfl
  refine va_calli (vx_runSW (As := [.ref q1, .int (xs 1), .ref q87]) (rest := []) ⟨hx, hb, hml, hown, hts⟩ (kL_rounds l dC dI (gx := q1) (gq1 := q2) (gq4 := q5) (gq13 := q14) (gq136 := q15) (gq137 := q16) (gq138 := q17) (gq150 := q29) (gq151 := q30) (gq152 := q31) (gq153 := q32) (gq154 := q33) (gq155 := q34) (gq156 := q35) (gq157 := q36) (gq158 := q37) (gq159 := q38) (gq160 := q39) (gq161 := q40) (gq172 := q51) (gq184 := q63) (go := q87) (p0 := (xs 1)) (sz := _) (hl9 := hl9)) (vx_cwSW 3 hts (gi_S qw929 qw930 qw658 (gi_h qw928)) rfl rfl rfl (by decide +kernel) ⟨Nat.le_of_ble_eq_true rfl, Nat.le_of_ble_eq_true rfl⟩) ⟨PRE.blind, PRE.of hE hS hFc hPc hKc hDc⟩ rfl rfl hl.1 rfl (lv_room (Nat.le_of_ble_eq_true rfl)) dL_law_2422 ⟨Nat.le_of_ble_eq_true rfl, Nat.le_of_ble_eq_true rfl⟩) hS (fun q _ h => hFc q h) hFc (fun r90 u t H locs ht hvm hw hB hz1 hk1 hS => ?_)
  obtain ⟨hP, hD, hK⟩ := JOIN (wr := [(q64, .inr (15, [.ref q65, .int 0, .int (-1), .int 0, .ref q67, .ref q68, .ref q70, .ref q72, .ref q86])), (q68, .inl (c69, 0, .inr (.inr (.inr (.inr (fun _ => none))))))]) hP hD hK [0, 1] [2, 3] [0] rfl rfl (by decide) (by decide) rfl hk1 hFc ht hvm hB
  have hP : va_P (dC, dI) cls [(q64, .inr (15, [.ref q65, .int 0, .int (-1), .int 0, .ref q67, .ref q68, .ref q70, .ref q72, .ref q86])), (q68, .inl (c69, 0, .inr (.inr (.inr (.inr (fun _ => none))))))] H := hP
  have hD : va_D A [(q64, .inr (15, [.ref q65, .int 0, .int (-1), .int 0, .ref q67, .ref q68, .ref q70, .ref q72, .ref q86])), (q68, .inl (c69, 0, .inr (.inr (.inr (.inr (fun _ => none))))))] := hD
  have hK : va_K (dC, dI) cls [(c69, .object RX14)] s := hK
  refine W.widen (k := 370) (n := 122520) (Nat.le_of_ble_eq_true rfl) (Nat.le_of_ble_eq_true rfl) ?_
  obtain rfl : r90 = 1 := hw
  refine lv_istore (lv' := [(5, .int 1), (4, .int 0), (3, .ref q87), (2, .ref q64), (1, .ref q1), (0, .ref b)]) hx hb dL_law_2425 hl (by decide) rfl (fun ls hl => ?_)
  refine lv_aload_n hx hb dL_law_2427 rfl (lv_at hl 3 rfl) ?_
  refine lv_aload_n hx hb dL_law_2428 rfl (lv_at hl 5 rfl) ?_
  refine lv_iload hx hb dL_law_2429 (lv_at hl 1 rfl) ?_
  refine lv_iconst (v := 1) hx hb dL_law_2431 (by decide) ?_
  refine lv_iadd hx hb dL_law_2432 ?_
  refine lv_topC (y := 1) (by decide) ?_
  refine va_sld hx hb hX hbl hbA hS (by unfold vp_in; decide +kernel) dL_law_2433 ?_
  refine lv_topC (y := xs 1) rfl ?_
  have hPc := hP.sub (ws' := [(q64, .inr (15, [.ref q65, .int 0, .int (-1), .int 0, .ref q67, .ref q68, .ref q70, .ref q72, .ref q86])), (q68, .inl (c69, 0, .inr (.inr (.inr (.inr (fun _ => none))))))]) [0, 1] rfl
  have hDc := hD.sub (ws' := [(q64, .inr (15, [.ref q65, .int 0, .int (-1), .int 0, .ref q67, .ref q68, .ref q70, .ref q72, .ref q86])), (q68, .inl (c69, 0, .inr (.inr (.inr (.inr (fun _ => none))))))]) [0, 1] (by decide) rfl
  have hKc := hK.sub (tys' := [(c69, .object RX14)]) [0] rfl
  have hFc := va_free (wc := [(q64, .inr (15, [.ref q65, .int 0, .int (-1), .int 0, .ref q67, .ref q68, .ref q70, .ref q72, .ref q86])), (q68, .inl (c69, 0, .inr (.inr (.inr (.inr (fun _ => none))))))]) hD hS hA [0, 1] rfl
  refine va_calli (va_runV (As := [.int (xs 1)]) (rest := []) ⟨hx, hb, hml, hown, hts⟩ (kX24_rounds l dC dI (mx := q64) (mq1 := q65) (mq3 := q67) (mq4 := q68) (mc5 := c69) (mq6 := q70) (mq8 := q72) (mq22 := q86) (p0 := (xs 1)) (sz := _)) (cwV 1 hts (gi_V qw932 qw933 qw934 qw434 (gi_z qw931)) rfl rfl rfl (by decide +kernel) ⟨Nat.le_of_ble_eq_true rfl, Nat.le_of_ble_eq_true rfl⟩) ⟨PRE.blind, va_recv hKc hPc (ci := 15) (q0 := 0) rfl rfl, PRE.of hE hS hFc hPc hKc hDc⟩ rfl rfl hl.1 rfl (lv_room (Nat.le_of_ble_eq_true rfl)) dL_law_2434 ⟨Nat.le_of_ble_eq_true rfl, Nat.le_of_ble_eq_true rfl⟩) hS (fun q _ h => hFc q h) hFc (fun r91 u t H locs ht hvm hw hB hz1 hk1 hS => ?_)
  obtain ⟨hP, hD, hK⟩ := JOIN (wr := []) hP hD hK [0, 1] [] [] rfl rfl (by decide) (by decide) rfl hk1 hFc ht hvm hB
  have hP : va_P (dC, dI) cls [(q64, .inr (15, [.ref q65, .int 0, .int (-1), .int 1, .ref q67, .ref q68, .ref q70, .ref q72, .ref q86]))] H := hP
  have hD : va_D A [(q64, .inr (15, [.ref q65, .int 0, .int (-1), .int 1, .ref q67, .ref q68, .ref q70, .ref q72, .ref q86]))] := hD
  have hK : va_K (dC, dI) cls [] s := hK
  refine W.widen (k := 370) (n := 122520) (Nat.le_of_ble_eq_true rfl) (Nat.le_of_ble_eq_true rfl) ?_
  obtain rfl : r91 = 0 := hw
  refine lv_istore (lv' := [(6, .int 0), (5, .int 1), (4, .int 0), (3, .ref q87), (2, .ref q64), (1, .ref q1), (0, .ref b)]) hx hb dL_law_2437 hl (by decide) rfl (fun ls hl => ?_)
  refine lv_aload_n hx hb dL_law_2439 rfl (lv_at hl 4 rfl) ?_
  have hPc := hP.sub (ws' := [(q64, .inr (15, [.ref q65, .int 0, .int (-1), .int 1, .ref q67, .ref q68, .ref q70, .ref q72, .ref q86]))]) [0] rfl
  have hDc := hD.sub (ws' := [(q64, .inr (15, [.ref q65, .int 0, .int (-1), .int 1, .ref q67, .ref q68, .ref q70, .ref q72, .ref q86]))]) [0] (by decide) rfl
  have hKc := hK.sub (tys' := []) [] rfl
  have hFc := va_free (wc := [(q64, .inr (15, [.ref q65, .int 0, .int (-1), .int 1, .ref q67, .ref q68, .ref q70, .ref q72, .ref q86]))]) hD hS hA [0] rfl
  refine va_calli (va_runV (As := []) (rest := []) ⟨hx, hb, hml, hown, hts⟩ (kX24_thrown_n64 l dC dI (a0 := q64) (a60 := q65) (a62 := q68) (a64 := q70) (a66 := q72) (a82 := q67) (a83 := q86) (sz := _)) (cwV 0 hts (gi_V qw664 qw665 qw666 qw434 (gi_z qw663)) rfl rfl rfl (by decide +kernel) ⟨Nat.le_of_ble_eq_true rfl, Nat.le_of_ble_eq_true rfl⟩) ⟨PRE.blind, va_recv hKc hPc (ci := 15) (q0 := 0) rfl rfl, PRE.of hE hS hFc hPc hKc hDc⟩ rfl rfl hl.1 rfl (lv_room (Nat.le_of_ble_eq_true rfl)) dL_law_2440 ⟨Nat.le_of_ble_eq_true rfl, Nat.le_of_ble_eq_true rfl⟩) hS (fun q _ h => hFc q h) hFc (fun r92 u t H locs ht hvm hw hB hz1 hk1 hS => ?_)
  obtain ⟨hP, hD, hK⟩ := JOIN (wr := []) hP hD hK [0] [] [] rfl rfl (by decide) (by decide) rfl hk1 hFc ht hvm hB
  have hP : va_P (dC, dI) cls [(q64, .inr (15, [.ref q65, .int 0, .int (-1), .int 1, .ref q67, .ref q68, .ref q70, .ref q72, .ref q86]))] H := hP
  have hD : va_D A [(q64, .inr (15, [.ref q65, .int 0, .int (-1), .int 1, .ref q67, .ref q68, .ref q70, .ref q72, .ref q86]))] := hD
  have hK : va_K (dC, dI) cls [] s := hK
  refine W.widen (k := 370) (n := 122520) (Nat.le_of_ble_eq_true rfl) (Nat.le_of_ble_eq_true rfl) ?_
  obtain rfl : r92 = 1 := hw
  refine lv_iload hx hb dL_law_2443 (lv_at hl 1 rfl) ?_
  refine lv_icmp_eq (tgt := 2450) hx hb dL_law_2445 (by decide) (fun _ => ?_) (fun c => absurd (by decide) c)
  refine lv_iload hx hb dL_law_2450 (lv_at hl 1 rfl) ?_
  refine lv_if_ne (tgt := 2467) hx hb dL_law_2452 (by decide) (fun _ => ?_) (fun c => absurd c (by decide))
  refine lv_goto (tgt := 2818) hx hb dL_law_2467 (by decide) ?_
  refine lv_iinc (v := 7) (lv' := [(4, .int 7), (6, .int 0), (5, .int 1), (3, .ref q87), (2, .ref q64), (1, .ref q1), (0, .ref b)]) hx hb dL_law_2818 hl (k := 2) rfl (by decide) (by decide) rfl (fun ls hl => ?_)
  refine lv_goto (tgt := 23) hx hb dL_law_2821 (by decide) ?_
  refine lv_iload hx hb dL_law_23 (lv_at hl 0 rfl) ?_
  refine lv_aload_n hx hb dL_law_25 rfl (lv_at hl 6 rfl) ?_
  refine va_slen hx hb hX hbl hbA hS dL_law_26 ?_
  refine lv_topC (y := 7) rfl ?_
  refine lv_bipush (v := 7) hx hb dL_law_27 (by decide) ?_
  refine lv_isub hx hb dL_law_29 ?_
  refine lv_topC (y := 0) (by decide) ?_
  refine lv_icmp_gt (tgt := 2824) hx hb dL_law_30 (by decide) (fun _ => ?_) (fun c => absurd (by decide) c)
  refine lv_iconst (v := 1) hx hb dL_law_2824 (by decide) ?_
  refine va_forget (fun q hq => hA2 _ (hS.2.2 q hq)) ?_
  refine W.widen (k := 600002) (n := 7302232) (Nat.le_of_ble_eq_true rfl) (Nat.le_of_ble_eq_true rfl) ?_
  exact lw_ret (d0 := s.drawn) (Drawn.sameBut.refl s.drawn lw_cs) hx hb hr hlocks dL_law_2825
set_option maxHeartbeats 4000000 in
set_option maxRecDepth 100000 in
theorem law_40 {zs : Nat × Nat} {p : Program} {e : Env} {s : State} {m : MethodId} {below : List Frame} {meth : Method} {c : Code} {l : Launch} {b : Nat} {xs : Nat → Int32} {dC : Nat → ClassId} {dI : Nat → Nat → Nat} {A : Nat → Prop} (C0 : lw_At p s m meth c b 7 xs) (hl9 : l.stackTraces = false) (hA : ∀ q, s.heap.size ≤ q → A q) (hA2 : ∀ q, A q → s.heap.size ≤ q) (hE : ENV zs A s s.heap) {H : Heap} {locs : List Loc} (q1 : Nat) (q2 : Nat) (q5 : Nat) (q14 : Nat) (q15 : Nat) (q16 : Nat) (q17 : Nat) (q29 : Nat) (q30 : Nat) (q31 : Nat) (q32 : Nat) (q33 : Nat) (q34 : Nat) (q35 : Nat) (q36 : Nat) (q37 : Nat) (q38 : Nat) (q39 : Nat) (q40 : Nat) (q51 : Nat) (q63 : Nat) (q64 : Nat) (q65 : Nat) (q67 : Nat) (q68 : Nat) (c69 : ClassId) (q70 : Nat) (q72 : Nat) (q86 : Nat) (q87 : Nat) (hP : va_P (dC, dI) cls [(q1, .inr (11, [.ref q2, .ref q5, .ref q14, .ref q15, .ref q16, .ref q17, .ref q51, .ref q63, .ref q29, .ref q40, .int (-1)])), (q29, .inr (2, [.int 0, .ref q30, .ref q31, .ref q32, .ref q33, .ref q34, .ref q35, .int 0, .ref q36, .ref q37, .ref q38, .int 0, .ref q39])), (q64, .inr (15, [.ref q65, .int 0, .int (-1), .int 0, .ref q67, .ref q68, .ref q70, .ref q72, .ref q86])), (q68, .inl (c69, 0, .inr (.inr (.inr (.inr (fun _ => none))))))] H) (hD : va_D A [(q1, .inr (11, [.ref q2, .ref q5, .ref q14, .ref q15, .ref q16, .ref q17, .ref q51, .ref q63, .ref q29, .ref q40, .int (-1)])), (q29, .inr (2, [.int 0, .ref q30, .ref q31, .ref q32, .ref q33, .ref q34, .ref q35, .int 0, .ref q36, .ref q37, .ref q38, .int 0, .ref q39])), (q64, .inr (15, [.ref q65, .int 0, .int (-1), .int 0, .ref q67, .ref q68, .ref q70, .ref q72, .ref q86])), (q68, .inl (c69, 0, .inr (.inr (.inr (.inr (fun _ => none))))))]) (hK : va_K (dC, dI) cls [(c69, .object RX14)] s) (hS : va_S A s.heap H locs) {ls : Array Slot} (hl : lv_has ls 9 [(4, .int 0), (3, .ref q87), (2, .ref q64), (1, .ref q1), (0, .ref b)])  : W p l e room_1 s m #[Value.ref b] below meth c H locs 369 122514 (lw_Z below #[Value.ref b] s) (F0 m 2470 ls []) := by
  obtain ⟨hx, hb, hr, hml, hown, hts0, hX, hbl, hlocks, hgv⟩ := id C0
  have hts : ∀ w ∈ gw, w.before #[Value.ref b] s = true := fun w h => hts0 w (gw_tbl h)
  have hbA : ¬ A b := fun h => absurd (hA2 b h) (Nat.not_le.mpr hbl)
  refine lv_aload_n hx hb dL_law_2470 rfl (lv_at hl 3 rfl) ?_
  refine lv_aload_n hx hb dL_law_2471 rfl (lv_at hl 4 rfl) ?_
  refine lv_iload hx hb dL_law_2472 (lv_at hl 0 rfl) ?_
  refine lv_iconst (v := 1) hx hb dL_law_2474 (by decide) ?_
  refine lv_iadd hx hb dL_law_2475 ?_
  refine lv_topC (y := 1) (by decide) ?_
  refine va_sld hx hb hX hbl hbA hS (by unfold vp_in; decide +kernel) dL_law_2476 ?_
  refine lv_topC (y := xs 1) rfl ?_
  refine lv_aload_n hx hb dL_law_2477 rfl (lv_at hl 4 rfl) ?_
  refine lv_iload hx hb dL_law_2478 (lv_at hl 0 rfl) ?_
  refine lv_iconst (v := 2) hx hb dL_law_2480 (by decide) ?_
  refine lv_iadd hx hb dL_law_2481 ?_
  refine lv_topC (y := 2) (by decide) ?_
  refine va_sld hx hb hX hbl hbA hS (by unfold vp_in; decide +kernel) dL_law_2482 ?_
  refine lv_topC (y := xs 2) rfl ?_
  refine lv_aload_n hx hb dL_law_2483 rfl (lv_at hl 4 rfl) ?_
  refine lv_iload hx hb dL_law_2484 (lv_at hl 0 rfl) ?_
  refine lv_iconst (v := 3) hx hb dL_law_2486 (by decide) ?_
  refine lv_iadd hx hb dL_law_2487 ?_
  refine lv_topC (y := 3) (by decide) ?_
  refine va_sld hx hb hX hbl hbA hS (by unfold vp_in; decide +kernel) dL_law_2488 ?_
  refine lv_topC (y := xs 3) rfl ?_
  refine lv_aload_n hx hb dL_law_2489 rfl (lv_at hl 4 rfl) ?_
  refine lv_iload hx hb dL_law_2490 (lv_at hl 0 rfl) ?_
  refine lv_iconst (v := 4) hx hb dL_law_2492 (by decide) ?_
  refine lv_iadd hx hb dL_law_2493 ?_
  refine lv_topC (y := 4) (by decide) ?_
  refine va_sld hx hb hX hbl hbA hS (by unfold vp_in; decide +kernel) dL_law_2494 ?_
  refine lv_topC (y := xs 4) rfl ?_
  refine lv_aload_n hx hb dL_law_2495 rfl (lv_at hl 4 rfl) ?_
  refine lv_iload hx hb dL_law_2496 (lv_at hl 0 rfl) ?_
  refine lv_iconst (v := 5) hx hb dL_law_2498 (by decide) ?_
  refine lv_iadd hx hb dL_law_2499 ?_
  refine lv_topC (y := 5) (by decide) ?_
  refine va_sld hx hb hX hbl hbA hS (by unfold vp_in; decide +kernel) dL_law_2500 ?_
  refine lv_topC (y := xs 5) rfl ?_
  refine lv_aload_n hx hb dL_law_2501 rfl (lv_at hl 4 rfl) ?_
  refine lv_iload hx hb dL_law_2502 (lv_at hl 0 rfl) ?_
  refine lv_bipush (v := 6) hx hb dL_law_2504 (by decide) ?_
  refine lv_iadd hx hb dL_law_2506 ?_
  refine lv_topC (y := 6) (by decide) ?_
  refine va_sld hx hb hX hbl hbA hS (by unfold vp_in; decide +kernel) dL_law_2507 ?_
  refine lv_topC (y := xs 6) rfl ?_
  refine lv_aload_n hx hb dL_law_2508 rfl (lv_at hl 1 rfl) ?_
  have hPc := hP.sub (ws' := [(q1, .inr (11, [.ref q2, .ref q5, .ref q14, .ref q15, .ref q16, .ref q17, .ref q51, .ref q63, .ref q29, .ref q40, .int (-1)])), (q29, .inr (2, [.int 0, .ref q30, .ref q31, .ref q32, .ref q33, .ref q34, .ref q35, .int 0, .ref q36, .ref q37, .ref q38, .int 0, .ref q39]))]) [0, 1] rfl
  have hDc := hD.sub (ws' := [(q1, .inr (11, [.ref q2, .ref q5, .ref q14, .ref q15, .ref q16, .ref q17, .ref q51, .ref q63, .ref q29, .ref q40, .int (-1)])), (q29, .inr (2, [.int 0, .ref q30, .ref q31, .ref q32, .ref q33, .ref q34, .ref q35, .int 0, .ref q36, .ref q37, .ref q38, .int 0, .ref q39]))]) [0, 1] (by decide) rfl
  have hKc := hK.sub (tys' := []) [] rfl
  have hFc := va_free (wc := [(q1, .inr (11, [.ref q2, .ref q5, .ref q14, .ref q15, .ref q16, .ref q17, .ref q51, .ref q63, .ref q29, .ref q40, .int (-1)])), (q29, .inr (2, [.int 0, .ref q30, .ref q31, .ref q32, .ref q33, .ref q34, .ref q35, .int 0, .ref q36, .ref q37, .ref q38, .int 0, .ref q39]))]) hD hS hA [0, 1] rfl
  refine va_calli (vx_runSW (As := [.ref q1, .int (xs 1), .int (xs 2), .int (xs 3), .int (xs 4), .int (xs 5), .int (xs 6), .ref q87]) (rest := []) ⟨hx, hb, hml, hown, hts⟩ (kL_run l dC dI (gx := q1) (gq1 := q2) (gq4 := q5) (gq13 := q14) (gq136 := q15) (gq137 := q16) (gq138 := q17) (gq150 := q29) (gq151 := q30) (gq152 := q31) (gq153 := q32) (gq154 := q33) (gq155 := q34) (gq156 := q35) (gq157 := q36) (gq158 := q37) (gq159 := q38) (gq160 := q39) (gq161 := q40) (gq172 := q51) (gq184 := q63) (go := q87) (p0 := (xs 1)) (p1 := (xs 2)) (p2 := (xs 3)) (p3 := (xs 4)) (p4 := (xs 5)) (p5 := (xs 6)) (sz := _) (hl9 := hl9)) (vx_cwSW 8 hts (gi_S qw936 qw937 qw658 (gi_h qw935)) rfl rfl rfl (by decide +kernel) ⟨Nat.le_of_ble_eq_true rfl, Nat.le_of_ble_eq_true rfl⟩) ⟨PRE.blind, PRE.of hE hS hFc hPc hKc hDc⟩ rfl rfl hl.1 rfl (lv_room (Nat.le_of_ble_eq_true rfl)) dL_law_2509 ⟨Nat.le_of_ble_eq_true rfl, Nat.le_of_ble_eq_true rfl⟩) hS (fun q _ h => hFc q h) hFc (fun r90 u t H locs ht hvm hw hB hz1 hk1 hS => ?_)
  obtain ⟨hP, hD, hK⟩ := JOIN (wr := [(q64, .inr (15, [.ref q65, .int 0, .int (-1), .int 0, .ref q67, .ref q68, .ref q70, .ref q72, .ref q86])), (q68, .inl (c69, 0, .inr (.inr (.inr (.inr (fun _ => none))))))]) hP hD hK [0, 1] [2, 3] [0] rfl rfl (by decide) (by decide) rfl hk1 hFc ht hvm hB
  have hP : va_P (dC, dI) cls [(q64, .inr (15, [.ref q65, .int 0, .int (-1), .int 0, .ref q67, .ref q68, .ref q70, .ref q72, .ref q86])), (q68, .inl (c69, 0, .inr (.inr (.inr (.inr (fun _ => none))))))] H := hP
  have hD : va_D A [(q64, .inr (15, [.ref q65, .int 0, .int (-1), .int 0, .ref q67, .ref q68, .ref q70, .ref q72, .ref q86])), (q68, .inl (c69, 0, .inr (.inr (.inr (.inr (fun _ => none))))))] := hD
  have hK : va_K (dC, dI) cls [(c69, .object RX14)] s := hK
  refine W.widen (k := 370) (n := 122520) (Nat.le_of_ble_eq_true rfl) (Nat.le_of_ble_eq_true rfl) ?_
  obtain rfl : r90 = 1 := hw
  refine lv_istore (lv' := [(5, .int 1), (4, .int 0), (3, .ref q87), (2, .ref q64), (1, .ref q1), (0, .ref b)]) hx hb dL_law_2512 hl (by decide) rfl (fun ls hl => ?_)
  refine lv_aload_n hx hb dL_law_2514 rfl (lv_at hl 3 rfl) ?_
  refine lv_aload_n hx hb dL_law_2515 rfl (lv_at hl 5 rfl) ?_
  refine lv_iload hx hb dL_law_2516 (lv_at hl 1 rfl) ?_
  refine lv_iconst (v := 1) hx hb dL_law_2518 (by decide) ?_
  refine lv_iadd hx hb dL_law_2519 ?_
  refine lv_topC (y := 1) (by decide) ?_
  refine va_sld hx hb hX hbl hbA hS (by unfold vp_in; decide +kernel) dL_law_2520 ?_
  refine lv_topC (y := xs 1) rfl ?_
  refine lv_aload_n hx hb dL_law_2521 rfl (lv_at hl 5 rfl) ?_
  refine lv_iload hx hb dL_law_2522 (lv_at hl 1 rfl) ?_
  refine lv_iconst (v := 2) hx hb dL_law_2524 (by decide) ?_
  refine lv_iadd hx hb dL_law_2525 ?_
  refine lv_topC (y := 2) (by decide) ?_
  refine va_sld hx hb hX hbl hbA hS (by unfold vp_in; decide +kernel) dL_law_2526 ?_
  refine lv_topC (y := xs 2) rfl ?_
  refine lv_aload_n hx hb dL_law_2527 rfl (lv_at hl 5 rfl) ?_
  refine lv_iload hx hb dL_law_2528 (lv_at hl 1 rfl) ?_
  refine lv_iconst (v := 3) hx hb dL_law_2530 (by decide) ?_
  refine lv_iadd hx hb dL_law_2531 ?_
  refine lv_topC (y := 3) (by decide) ?_
  refine va_sld hx hb hX hbl hbA hS (by unfold vp_in; decide +kernel) dL_law_2532 ?_
  refine lv_topC (y := xs 3) rfl ?_
  refine lv_aload_n hx hb dL_law_2533 rfl (lv_at hl 5 rfl) ?_
  refine lv_iload hx hb dL_law_2534 (lv_at hl 1 rfl) ?_
  refine lv_iconst (v := 4) hx hb dL_law_2536 (by decide) ?_
  refine lv_iadd hx hb dL_law_2537 ?_
  refine lv_topC (y := 4) (by decide) ?_
  refine va_sld hx hb hX hbl hbA hS (by unfold vp_in; decide +kernel) dL_law_2538 ?_
  refine lv_topC (y := xs 4) rfl ?_
  refine lv_aload_n hx hb dL_law_2539 rfl (lv_at hl 5 rfl) ?_
  refine lv_iload hx hb dL_law_2540 (lv_at hl 1 rfl) ?_
  refine lv_iconst (v := 5) hx hb dL_law_2542 (by decide) ?_
  refine lv_iadd hx hb dL_law_2543 ?_
  refine lv_topC (y := 5) (by decide) ?_
  refine va_sld hx hb hX hbl hbA hS (by unfold vp_in; decide +kernel) dL_law_2544 ?_
  refine lv_topC (y := xs 5) rfl ?_
  refine lv_aload_n hx hb dL_law_2545 rfl (lv_at hl 5 rfl) ?_
  refine lv_iload hx hb dL_law_2546 (lv_at hl 1 rfl) ?_
  refine lv_bipush (v := 6) hx hb dL_law_2548 (by decide) ?_
  refine lv_iadd hx hb dL_law_2550 ?_
  refine lv_topC (y := 6) (by decide) ?_
  refine va_sld hx hb hX hbl hbA hS (by unfold vp_in; decide +kernel) dL_law_2551 ?_
  refine lv_topC (y := xs 6) rfl ?_
  have hPc := hP.sub (ws' := [(q64, .inr (15, [.ref q65, .int 0, .int (-1), .int 0, .ref q67, .ref q68, .ref q70, .ref q72, .ref q86])), (q68, .inl (c69, 0, .inr (.inr (.inr (.inr (fun _ => none))))))]) [0, 1] rfl
  have hDc := hD.sub (ws' := [(q64, .inr (15, [.ref q65, .int 0, .int (-1), .int 0, .ref q67, .ref q68, .ref q70, .ref q72, .ref q86])), (q68, .inl (c69, 0, .inr (.inr (.inr (.inr (fun _ => none))))))]) [0, 1] (by decide) rfl
  have hKc := hK.sub (tys' := [(c69, .object RX14)]) [0] rfl
  have hFc := va_free (wc := [(q64, .inr (15, [.ref q65, .int 0, .int (-1), .int 0, .ref q67, .ref q68, .ref q70, .ref q72, .ref q86])), (q68, .inl (c69, 0, .inr (.inr (.inr (.inr (fun _ => none))))))]) hD hS hA [0, 1] rfl
  refine va_calli (va_runV (As := [.int (xs 1), .int (xs 2), .int (xs 3), .int (xs 4), .int (xs 5), .int (xs 6)]) (rest := []) ⟨hx, hb, hml, hown, hts⟩ (kX24_run_ l dC dI (mx := q64) (mq1 := q65) (mq3 := q67) (mq4 := q68) (mc5 := c69) (mq6 := q70) (mq8 := q72) (mq22 := q86) (p0 := (xs 1)) (p1 := (xs 2)) (p2 := (xs 3)) (p3 := (xs 4)) (p4 := (xs 5)) (p5 := (xs 6)) (sz := _)) (cwV 6 hts (gi_V qw939 qw940 qw941 qw434 (gi_z qw938)) rfl rfl rfl (by decide +kernel) ⟨Nat.le_of_ble_eq_true rfl, Nat.le_of_ble_eq_true rfl⟩) ⟨PRE.blind, va_recv hKc hPc (ci := 15) (q0 := 0) rfl rfl, PRE.of hE hS hFc hPc hKc hDc⟩ rfl rfl hl.1 rfl (lv_room (Nat.le_of_ble_eq_true rfl)) dL_law_2552 ⟨Nat.le_of_ble_eq_true rfl, Nat.le_of_ble_eq_true rfl⟩) hS (fun q _ h => hFc q h) hFc (fun r91 u t H locs ht hvm hw hB hz1 hk1 hS => ?_)
  obtain ⟨hP, hD, hK⟩ := JOIN (wr := []) hP hD hK [0, 1] [] [] rfl rfl (by decide) (by decide) rfl hk1 hFc ht hvm hB
  have hP : va_P (dC, dI) cls [(q64, .inr (15, [.ref q65, .int 0, .int (-1), .int 1, .ref q67, .ref q68, .ref q70, .ref q72, .ref q86]))] H := hP
  have hD : va_D A [(q64, .inr (15, [.ref q65, .int 0, .int (-1), .int 1, .ref q67, .ref q68, .ref q70, .ref q72, .ref q86]))] := hD
  have hK : va_K (dC, dI) cls [] s := hK
  refine W.widen (k := 370) (n := 122520) (Nat.le_of_ble_eq_true rfl) (Nat.le_of_ble_eq_true rfl) ?_
  obtain rfl : r91 = 0 := hw
  refine lv_istore (lv' := [(6, .int 0), (5, .int 1), (4, .int 0), (3, .ref q87), (2, .ref q64), (1, .ref q1), (0, .ref b)]) hx hb dL_law_2555 hl (by decide) rfl (fun ls hl => ?_)
  refine lv_aload_n hx hb dL_law_2557 rfl (lv_at hl 4 rfl) ?_
  have hPc := hP.sub (ws' := [(q64, .inr (15, [.ref q65, .int 0, .int (-1), .int 1, .ref q67, .ref q68, .ref q70, .ref q72, .ref q86]))]) [0] rfl
  have hDc := hD.sub (ws' := [(q64, .inr (15, [.ref q65, .int 0, .int (-1), .int 1, .ref q67, .ref q68, .ref q70, .ref q72, .ref q86]))]) [0] (by decide) rfl
  have hKc := hK.sub (tys' := []) [] rfl
  have hFc := va_free (wc := [(q64, .inr (15, [.ref q65, .int 0, .int (-1), .int 1, .ref q67, .ref q68, .ref q70, .ref q72, .ref q86]))]) hD hS hA [0] rfl
  refine va_calli (va_runV (As := []) (rest := []) ⟨hx, hb, hml, hown, hts⟩ (kX24_thrown_n64 l dC dI (a0 := q64) (a60 := q65) (a62 := q68) (a64 := q70) (a66 := q72) (a82 := q67) (a83 := q86) (sz := _)) (cwV 0 hts (gi_V qw664 qw665 qw666 qw434 (gi_z qw663)) rfl rfl rfl (by decide +kernel) ⟨Nat.le_of_ble_eq_true rfl, Nat.le_of_ble_eq_true rfl⟩) ⟨PRE.blind, va_recv hKc hPc (ci := 15) (q0 := 0) rfl rfl, PRE.of hE hS hFc hPc hKc hDc⟩ rfl rfl hl.1 rfl (lv_room (Nat.le_of_ble_eq_true rfl)) dL_law_2558 ⟨Nat.le_of_ble_eq_true rfl, Nat.le_of_ble_eq_true rfl⟩) hS (fun q _ h => hFc q h) hFc (fun r92 u t H locs ht hvm hw hB hz1 hk1 hS => ?_)
  obtain ⟨hP, hD, hK⟩ := JOIN (wr := []) hP hD hK [0] [] [] rfl rfl (by decide) (by decide) rfl hk1 hFc ht hvm hB
  have hP : va_P (dC, dI) cls [(q64, .inr (15, [.ref q65, .int 0, .int (-1), .int 1, .ref q67, .ref q68, .ref q70, .ref q72, .ref q86]))] H := hP
  have hD : va_D A [(q64, .inr (15, [.ref q65, .int 0, .int (-1), .int 1, .ref q67, .ref q68, .ref q70, .ref q72, .ref q86]))] := hD
  have hK : va_K (dC, dI) cls [] s := hK
  refine W.widen (k := 370) (n := 122520) (Nat.le_of_ble_eq_true rfl) (Nat.le_of_ble_eq_true rfl) ?_
  obtain rfl : r92 = 1 := hw
  refine lv_iload hx hb dL_law_2561 (lv_at hl 1 rfl) ?_
  refine lv_icmp_eq (tgt := 2568) hx hb dL_law_2563 (by decide) (fun _ => ?_) (fun c => absurd (by decide) c)
  refine lv_iload hx hb dL_law_2568 (lv_at hl 1 rfl) ?_
  refine lv_if_ne (tgt := 2585) hx hb dL_law_2570 (by decide) (fun _ => ?_) (fun c => absurd c (by decide))
  refine lv_goto (tgt := 2818) hx hb dL_law_2585 (by decide) ?_
  refine lv_iinc (v := 7) (lv' := [(4, .int 7), (6, .int 0), (5, .int 1), (3, .ref q87), (2, .ref q64), (1, .ref q1), (0, .ref b)]) hx hb dL_law_2818 hl (k := 2) rfl (by decide) (by decide) rfl (fun ls hl => ?_)
  refine lv_goto (tgt := 23) hx hb dL_law_2821 (by decide) ?_
  refine lv_iload hx hb dL_law_23 (lv_at hl 0 rfl) ?_
  refine lv_aload_n hx hb dL_law_25 rfl (lv_at hl 6 rfl) ?_
  refine va_slen hx hb hX hbl hbA hS dL_law_26 ?_
  refine lv_topC (y := 7) rfl ?_
  refine lv_bipush (v := 7) hx hb dL_law_27 (by decide) ?_
  refine lv_isub hx hb dL_law_29 ?_
  refine lv_topC (y := 0) (by decide) ?_
  refine lv_icmp_gt (tgt := 2824) hx hb dL_law_30 (by decide) (fun _ => ?_) (fun c => absurd (by decide) c)
  refine lv_iconst (v := 1) hx hb dL_law_2824 (by decide) ?_
  refine va_forget (fun q hq => hA2 _ (hS.2.2 q hq)) ?_
  refine W.widen (k := 600002) (n := 7302232) (Nat.le_of_ble_eq_true rfl) (Nat.le_of_ble_eq_true rfl) ?_
  exact lw_ret (d0 := s.drawn) (Drawn.sameBut.refl s.drawn lw_cs) hx hb hr hlocks dL_law_2825
set_option maxHeartbeats 4000000 in
set_option maxRecDepth 100000 in
theorem law_41 {zs : Nat × Nat} {p : Program} {e : Env} {s : State} {m : MethodId} {below : List Frame} {meth : Method} {c : Code} {l : Launch} {b : Nat} {xs : Nat → Int32} {dC : Nat → ClassId} {dI : Nat → Nat → Nat} {A : Nat → Prop} (C0 : lw_At p s m meth c b 7 xs) (hl9 : l.stackTraces = false) (hA : ∀ q, s.heap.size ≤ q → A q) (hA2 : ∀ q, A q → s.heap.size ≤ q) (hE : ENV zs A s s.heap) {H : Heap} {locs : List Loc} (q1 : Nat) (q2 : Nat) (q5 : Nat) (q14 : Nat) (q15 : Nat) (q16 : Nat) (q17 : Nat) (q29 : Nat) (q40 : Nat) (q51 : Nat) (q52 : Nat) (q54 : Nat) (q55 : Nat) (q56 : Nat) (q57 : Nat) (q58 : Nat) (q59 : Nat) (q60 : Nat) (q61 : Nat) (q62 : Nat) (q63 : Nat) (q64 : Nat) (q65 : Nat) (q67 : Nat) (q68 : Nat) (q70 : Nat) (q72 : Nat) (q73 : Nat) (q75 : Nat) (q76 : Nat) (q77 : Nat) (q78 : Nat) (q79 : Nat) (q80 : Nat) (q81 : Nat) (q82 : Nat) (q83 : Nat) (q84 : Nat) (q85 : Nat) (q86 : Nat) (q87 : Nat) (hP : va_P (dC, dI) cls [(q1, .inr (11, [.ref q2, .ref q5, .ref q14, .ref q15, .ref q16, .ref q17, .ref q51, .ref q63, .ref q29, .ref q40, .int (-1)])), (q51, .inr (10, [.int 0, .int 0, .int 0, .ref q52, .ref q29, .ref q14, .ref q17, .ref q54, .int 0, .int 0, .ref q55, .ref q56, .ref q57, .ref q58, .ref q59, .ref q60, .ref q61, .int 0, .ref q62, .int 0])), (q64, .inr (15, [.ref q65, .int 0, .int (-1), .int 0, .ref q67, .ref q68, .ref q70, .ref q72, .ref q86])), (q72, .inr (14, [.ref q73, .int 0, .int 0, .int 0, .null, .ref q75, .ref q76, .ref q77, .ref q78, .ref q79, .int 0, .int 0, .ref q80, .ref q81, .ref q82, .ref q83, .ref q84, .ref q85]))] H) (hD : va_D A [(q1, .inr (11, [.ref q2, .ref q5, .ref q14, .ref q15, .ref q16, .ref q17, .ref q51, .ref q63, .ref q29, .ref q40, .int (-1)])), (q51, .inr (10, [.int 0, .int 0, .int 0, .ref q52, .ref q29, .ref q14, .ref q17, .ref q54, .int 0, .int 0, .ref q55, .ref q56, .ref q57, .ref q58, .ref q59, .ref q60, .ref q61, .int 0, .ref q62, .int 0])), (q64, .inr (15, [.ref q65, .int 0, .int (-1), .int 0, .ref q67, .ref q68, .ref q70, .ref q72, .ref q86])), (q72, .inr (14, [.ref q73, .int 0, .int 0, .int 0, .null, .ref q75, .ref q76, .ref q77, .ref q78, .ref q79, .int 0, .int 0, .ref q80, .ref q81, .ref q82, .ref q83, .ref q84, .ref q85]))]) (hK : va_K (dC, dI) cls [] s) (hS : va_S A s.heap H locs) {ls : Array Slot} (hl : lv_has ls 9 [(4, .int 0), (3, .ref q87), (2, .ref q64), (1, .ref q1), (0, .ref b)])  : W p l e room_1 s m #[Value.ref b] below meth c H locs 369 122514 (lw_Z below #[Value.ref b] s) (F0 m 2588 ls []) := by
  obtain ⟨hx, hb, hr, hml, hown, hts0, hX, hbl, hlocks, hgv⟩ := id C0
  have hts : ∀ w ∈ gw, w.before #[Value.ref b] s = true := fun w h => hts0 w (gw_tbl h)
  have hbA : ¬ A b := fun h => absurd (hA2 b h) (Nat.not_le.mpr hbl)
  refine lv_aload_n hx hb dL_law_2588 rfl (lv_at hl 3 rfl) ?_
  have hPc := hP.sub (ws' := [(q1, .inr (11, [.ref q2, .ref q5, .ref q14, .ref q15, .ref q16, .ref q17, .ref q51, .ref q63, .ref q29, .ref q40, .int (-1)])), (q51, .inr (10, [.int 0, .int 0, .int 0, .ref q52, .ref q29, .ref q14, .ref q17, .ref q54, .int 0, .int 0, .ref q55, .ref q56, .ref q57, .ref q58, .ref q59, .ref q60, .ref q61, .int 0, .ref q62, .int 0]))]) [0, 1] rfl
  have hDc := hD.sub (ws' := [(q1, .inr (11, [.ref q2, .ref q5, .ref q14, .ref q15, .ref q16, .ref q17, .ref q51, .ref q63, .ref q29, .ref q40, .int (-1)])), (q51, .inr (10, [.int 0, .int 0, .int 0, .ref q52, .ref q29, .ref q14, .ref q17, .ref q54, .int 0, .int 0, .ref q55, .ref q56, .ref q57, .ref q58, .ref q59, .ref q60, .ref q61, .int 0, .ref q62, .int 0]))]) [0, 1] (by decide) rfl
  have hKc := hK.sub (tys' := []) [] rfl
  have hFc := va_free (wc := [(q1, .inr (11, [.ref q2, .ref q5, .ref q14, .ref q15, .ref q16, .ref q17, .ref q51, .ref q63, .ref q29, .ref q40, .int (-1)])), (q51, .inr (10, [.int 0, .int 0, .int 0, .ref q52, .ref q29, .ref q14, .ref q17, .ref q54, .int 0, .int 0, .ref q55, .ref q56, .ref q57, .ref q58, .ref q59, .ref q60, .ref q61, .int 0, .ref q62, .int 0]))]) hD hS hA [0, 1] rfl
  refine va_calli (va_runV (As := []) (rest := []) ⟨hx, hb, hml, hown, hts⟩ (kX11_outcome l dC dI (gx := q1) (gq1 := q2) (gq4 := q5) (gq13 := q14) (gq136 := q15) (gq137 := q16) (gq138 := q17) (gq150 := q29) (gq161 := q40) (gq172 := q51) (gq173 := q52) (gq175 := q54) (gq176 := q55) (gq177 := q56) (gq178 := q57) (gq179 := q58) (gq180 := q59) (gq181 := q60) (gq182 := q61) (gq183 := q62) (gq184 := q63) (sz := _)) (cwV 0 hts (gi_V qw943 qw944 qw945 qw222 (gi_z qw942)) rfl rfl rfl (by decide +kernel) ⟨Nat.le_of_ble_eq_true rfl, Nat.le_of_ble_eq_true rfl⟩) ⟨PRE.blind, va_recv hKc hPc (ci := 11) (q0 := 0) rfl rfl, PRE.of hE hS hFc hPc hKc hDc⟩ rfl rfl hl.1 rfl (lv_room (Nat.le_of_ble_eq_true rfl)) dL_law_2589 ⟨Nat.le_of_ble_eq_true rfl, Nat.le_of_ble_eq_true rfl⟩) hS (fun q _ h => hFc q h) hFc (fun r90 u t H locs ht hvm hw hB hz1 hk1 hS => ?_)
  obtain ⟨hP, hD, hK⟩ := JOIN (wr := [(q64, .inr (15, [.ref q65, .int 0, .int (-1), .int 0, .ref q67, .ref q68, .ref q70, .ref q72, .ref q86])), (q72, .inr (14, [.ref q73, .int 0, .int 0, .int 0, .null, .ref q75, .ref q76, .ref q77, .ref q78, .ref q79, .int 0, .int 0, .ref q80, .ref q81, .ref q82, .ref q83, .ref q84, .ref q85]))]) hP hD hK [0, 1] [2, 3] [] rfl rfl (by decide) (by decide) rfl hk1 hFc ht hvm hB
  have hP : va_P (dC, dI) cls [(q64, .inr (15, [.ref q65, .int 0, .int (-1), .int 0, .ref q67, .ref q68, .ref q70, .ref q72, .ref q86])), (q72, .inr (14, [.ref q73, .int 0, .int 0, .int 0, .null, .ref q75, .ref q76, .ref q77, .ref q78, .ref q79, .int 0, .int 0, .ref q80, .ref q81, .ref q82, .ref q83, .ref q84, .ref q85])), (q1, .inr (11, [.ref q2, .ref q5, .ref q14, .ref q15, .ref q16, .ref q17, .ref q51, .ref q63, .ref q29, .ref q40, .int (-1)])), (q51, .inr (10, [.int 0, .int 0, .int 0, .ref q52, .ref q29, .ref q14, .ref q17, .ref q54, .int 0, .int 0, .ref q55, .ref q56, .ref q57, .ref q58, .ref q59, .ref q60, .ref q61, .int 0, .ref q62, .int 0]))] H := hP
  have hD : va_D A [(q64, .inr (15, [.ref q65, .int 0, .int (-1), .int 0, .ref q67, .ref q68, .ref q70, .ref q72, .ref q86])), (q72, .inr (14, [.ref q73, .int 0, .int 0, .int 0, .null, .ref q75, .ref q76, .ref q77, .ref q78, .ref q79, .int 0, .int 0, .ref q80, .ref q81, .ref q82, .ref q83, .ref q84, .ref q85])), (q1, .inr (11, [.ref q2, .ref q5, .ref q14, .ref q15, .ref q16, .ref q17, .ref q51, .ref q63, .ref q29, .ref q40, .int (-1)])), (q51, .inr (10, [.int 0, .int 0, .int 0, .ref q52, .ref q29, .ref q14, .ref q17, .ref q54, .int 0, .int 0, .ref q55, .ref q56, .ref q57, .ref q58, .ref q59, .ref q60, .ref q61, .int 0, .ref q62, .int 0]))] := hD
  have hK : va_K (dC, dI) cls [] s := hK
  refine W.widen (k := 369) (n := 122514) (Nat.le_of_ble_eq_true rfl) (Nat.le_of_ble_eq_true rfl) ?_
  obtain rfl : r90 = 0 := hw
  refine lv_aload_n hx hb dL_law_2592 rfl (lv_at hl 2 rfl) ?_
  have hPc := hP.sub (ws' := [(q64, .inr (15, [.ref q65, .int 0, .int (-1), .int 0, .ref q67, .ref q68, .ref q70, .ref q72, .ref q86])), (q72, .inr (14, [.ref q73, .int 0, .int 0, .int 0, .null, .ref q75, .ref q76, .ref q77, .ref q78, .ref q79, .int 0, .int 0, .ref q80, .ref q81, .ref q82, .ref q83, .ref q84, .ref q85]))]) [0, 1] rfl
  have hDc := hD.sub (ws' := [(q64, .inr (15, [.ref q65, .int 0, .int (-1), .int 0, .ref q67, .ref q68, .ref q70, .ref q72, .ref q86])), (q72, .inr (14, [.ref q73, .int 0, .int 0, .int 0, .null, .ref q75, .ref q76, .ref q77, .ref q78, .ref q79, .int 0, .int 0, .ref q80, .ref q81, .ref q82, .ref q83, .ref q84, .ref q85]))]) [0, 1] (by decide) rfl
  have hKc := hK.sub (tys' := []) [] rfl
  have hFc := va_free (wc := [(q64, .inr (15, [.ref q65, .int 0, .int (-1), .int 0, .ref q67, .ref q68, .ref q70, .ref q72, .ref q86])), (q72, .inr (14, [.ref q73, .int 0, .int 0, .int 0, .null, .ref q75, .ref q76, .ref q77, .ref q78, .ref q79, .int 0, .int 0, .ref q80, .ref q81, .ref q82, .ref q83, .ref q84, .ref q85]))]) hD hS hA [0, 1] rfl
  refine va_calli (va_runV (As := []) (rest := [.int 0]) ⟨hx, hb, hml, hown, hts⟩ (kX24_outcome l dC dI (mx := q64) (mq1 := q65) (mq3 := q67) (mq4 := q68) (mq6 := q70) (mq8 := q72) (mq9 := q73) (mq11 := q75) (mq12 := q76) (mq13 := q77) (mq14 := q78) (mq15 := q79) (mq16 := q80) (mq17 := q81) (mq18 := q82) (mq19 := q83) (mq20 := q84) (mq21 := q85) (mq22 := q86) (sz := _)) (cwV 0 hts (gi_V qw947 qw948 qw949 qw434 (gi_z qw946)) rfl rfl rfl (by decide +kernel) ⟨Nat.le_of_ble_eq_true rfl, Nat.le_of_ble_eq_true rfl⟩) ⟨PRE.blind, va_recv hKc hPc (ci := 15) (q0 := 0) rfl rfl, PRE.of hE hS hFc hPc hKc hDc⟩ rfl rfl hl.1 rfl (lv_room (Nat.le_of_ble_eq_true rfl)) dL_law_2593 ⟨Nat.le_of_ble_eq_true rfl, Nat.le_of_ble_eq_true rfl⟩) hS (fun q _ h => hFc q h) hFc (fun r91 u t H locs ht hvm hw hB hz1 hk1 hS => ?_)
  obtain ⟨hP, hD, hK⟩ := JOIN (wr := [(q1, .inr (11, [.ref q2, .ref q5, .ref q14, .ref q15, .ref q16, .ref q17, .ref q51, .ref q63, .ref q29, .ref q40, .int (-1)])), (q51, .inr (10, [.int 0, .int 0, .int 0, .ref q52, .ref q29, .ref q14, .ref q17, .ref q54, .int 0, .int 0, .ref q55, .ref q56, .ref q57, .ref q58, .ref q59, .ref q60, .ref q61, .int 0, .ref q62, .int 0]))]) hP hD hK [0, 1] [2, 3] [] rfl rfl (by decide) (by decide) rfl hk1 hFc ht hvm hB
  have hP : va_P (dC, dI) cls [(q1, .inr (11, [.ref q2, .ref q5, .ref q14, .ref q15, .ref q16, .ref q17, .ref q51, .ref q63, .ref q29, .ref q40, .int (-1)])), (q51, .inr (10, [.int 0, .int 0, .int 0, .ref q52, .ref q29, .ref q14, .ref q17, .ref q54, .int 0, .int 0, .ref q55, .ref q56, .ref q57, .ref q58, .ref q59, .ref q60, .ref q61, .int 0, .ref q62, .int 0])), (q64, .inr (15, [.ref q65, .int 0, .int (-1), .int 0, .ref q67, .ref q68, .ref q70, .ref q72, .ref q86]))] H := hP
  have hD : va_D A [(q1, .inr (11, [.ref q2, .ref q5, .ref q14, .ref q15, .ref q16, .ref q17, .ref q51, .ref q63, .ref q29, .ref q40, .int (-1)])), (q51, .inr (10, [.int 0, .int 0, .int 0, .ref q52, .ref q29, .ref q14, .ref q17, .ref q54, .int 0, .int 0, .ref q55, .ref q56, .ref q57, .ref q58, .ref q59, .ref q60, .ref q61, .int 0, .ref q62, .int 0])), (q64, .inr (15, [.ref q65, .int 0, .int (-1), .int 0, .ref q67, .ref q68, .ref q70, .ref q72, .ref q86]))] := hD
  have hK : va_K (dC, dI) cls [] s := hK
  refine W.widen (k := 369) (n := 122514) (Nat.le_of_ble_eq_true rfl) (Nat.le_of_ble_eq_true rfl) ?_
  obtain rfl : r91 = 0 := hw
  refine lv_icmp_eq (tgt := 2818) hx hb dL_law_2596 (by decide) (fun _ => ?_) (fun c => absurd (by decide) c)
  refine lv_iinc (v := 7) (lv' := [(4, .int 7), (3, .ref q87), (2, .ref q64), (1, .ref q1), (0, .ref b)]) hx hb dL_law_2818 hl (k := 0) rfl (by decide) (by decide) rfl (fun ls hl => ?_)
  refine lv_goto (tgt := 23) hx hb dL_law_2821 (by decide) ?_
  refine lv_iload hx hb dL_law_23 (lv_at hl 0 rfl) ?_
  refine lv_aload_n hx hb dL_law_25 rfl (lv_at hl 4 rfl) ?_
  refine va_slen hx hb hX hbl hbA hS dL_law_26 ?_
  refine lv_topC (y := 7) rfl ?_
  refine lv_bipush (v := 7) hx hb dL_law_27 (by decide) ?_
  refine lv_isub hx hb dL_law_29 ?_
  refine lv_topC (y := 0) (by decide) ?_
  refine lv_icmp_gt (tgt := 2824) hx hb dL_law_30 (by decide) (fun _ => ?_) (fun c => absurd (by decide) c)
  refine lv_iconst (v := 1) hx hb dL_law_2824 (by decide) ?_
  refine va_forget (fun q hq => hA2 _ (hS.2.2 q hq)) ?_
  refine W.widen (k := 600002) (n := 7302232) (Nat.le_of_ble_eq_true rfl) (Nat.le_of_ble_eq_true rfl) ?_
  exact lw_ret (d0 := s.drawn) (Drawn.sameBut.refl s.drawn lw_cs) hx hb hr hlocks dL_law_2825
set_option maxHeartbeats 4000000 in
set_option maxRecDepth 100000 in
theorem law_42 {zs : Nat × Nat} {p : Program} {e : Env} {s : State} {m : MethodId} {below : List Frame} {meth : Method} {c : Code} {l : Launch} {b : Nat} {xs : Nat → Int32} {dC : Nat → ClassId} {dI : Nat → Nat → Nat} {A : Nat → Prop} (C0 : lw_At p s m meth c b 7 xs) (hl9 : l.stackTraces = false) (hA : ∀ q, s.heap.size ≤ q → A q) (hA2 : ∀ q, A q → s.heap.size ≤ q) (hE : ENV zs A s s.heap) {H : Heap} {locs : List Loc} (q1 : Nat) (q2 : Nat) (q5 : Nat) (q14 : Nat) (q15 : Nat) (q16 : Nat) (q17 : Nat) (q29 : Nat) (q40 : Nat) (q51 : Nat) (q52 : Nat) (q54 : Nat) (q55 : Nat) (q56 : Nat) (q57 : Nat) (q58 : Nat) (q59 : Nat) (q60 : Nat) (q61 : Nat) (q62 : Nat) (q63 : Nat) (q64 : Nat) (q65 : Nat) (q67 : Nat) (q68 : Nat) (q70 : Nat) (q72 : Nat) (q73 : Nat) (q75 : Nat) (q76 : Nat) (q77 : Nat) (q78 : Nat) (q79 : Nat) (q80 : Nat) (q81 : Nat) (q82 : Nat) (q83 : Nat) (q84 : Nat) (q85 : Nat) (q86 : Nat) (q87 : Nat) (hP : va_P (dC, dI) cls [(q1, .inr (11, [.ref q2, .ref q5, .ref q14, .ref q15, .ref q16, .ref q17, .ref q51, .ref q63, .ref q29, .ref q40, .int (-1)])), (q51, .inr (10, [.int 0, .int 0, .int 0, .ref q52, .ref q29, .ref q14, .ref q17, .ref q54, .int 0, .int 0, .ref q55, .ref q56, .ref q57, .ref q58, .ref q59, .ref q60, .ref q61, .int 0, .ref q62, .int 0])), (q64, .inr (15, [.ref q65, .int 0, .int (-1), .int 0, .ref q67, .ref q68, .ref q70, .ref q72, .ref q86])), (q72, .inr (14, [.ref q73, .int 0, .int 0, .int 0, .null, .ref q75, .ref q76, .ref q77, .ref q78, .ref q79, .int 0, .int 0, .ref q80, .ref q81, .ref q82, .ref q83, .ref q84, .ref q85]))] H) (hD : va_D A [(q1, .inr (11, [.ref q2, .ref q5, .ref q14, .ref q15, .ref q16, .ref q17, .ref q51, .ref q63, .ref q29, .ref q40, .int (-1)])), (q51, .inr (10, [.int 0, .int 0, .int 0, .ref q52, .ref q29, .ref q14, .ref q17, .ref q54, .int 0, .int 0, .ref q55, .ref q56, .ref q57, .ref q58, .ref q59, .ref q60, .ref q61, .int 0, .ref q62, .int 0])), (q64, .inr (15, [.ref q65, .int 0, .int (-1), .int 0, .ref q67, .ref q68, .ref q70, .ref q72, .ref q86])), (q72, .inr (14, [.ref q73, .int 0, .int 0, .int 0, .null, .ref q75, .ref q76, .ref q77, .ref q78, .ref q79, .int 0, .int 0, .ref q80, .ref q81, .ref q82, .ref q83, .ref q84, .ref q85]))]) (hK : va_K (dC, dI) cls [] s) (hS : va_S A s.heap H locs) {ls : Array Slot} (hl : lv_has ls 9 [(4, .int 0), (3, .ref q87), (2, .ref q64), (1, .ref q1), (0, .ref b)])  : W p l e room_1 s m #[Value.ref b] below meth c H locs 369 122514 (lw_Z below #[Value.ref b] s) (F0 m 2601 ls []) := by
  obtain ⟨hx, hb, hr, hml, hown, hts0, hX, hbl, hlocks, hgv⟩ := id C0
  have hts : ∀ w ∈ gw, w.before #[Value.ref b] s = true := fun w h => hts0 w (gw_tbl h)
  have hbA : ¬ A b := fun h => absurd (hA2 b h) (Nat.not_le.mpr hbl)
  refine lv_aload_n hx hb dL_law_2601 rfl (lv_at hl 3 rfl) ?_
  have hPc := hP.sub (ws' := [(q1, .inr (11, [.ref q2, .ref q5, .ref q14, .ref q15, .ref q16, .ref q17, .ref q51, .ref q63, .ref q29, .ref q40, .int (-1)])), (q51, .inr (10, [.int 0, .int 0, .int 0, .ref q52, .ref q29, .ref q14, .ref q17, .ref q54, .int 0, .int 0, .ref q55, .ref q56, .ref q57, .ref q58, .ref q59, .ref q60, .ref q61, .int 0, .ref q62, .int 0]))]) [0, 1] rfl
  have hDc := hD.sub (ws' := [(q1, .inr (11, [.ref q2, .ref q5, .ref q14, .ref q15, .ref q16, .ref q17, .ref q51, .ref q63, .ref q29, .ref q40, .int (-1)])), (q51, .inr (10, [.int 0, .int 0, .int 0, .ref q52, .ref q29, .ref q14, .ref q17, .ref q54, .int 0, .int 0, .ref q55, .ref q56, .ref q57, .ref q58, .ref q59, .ref q60, .ref q61, .int 0, .ref q62, .int 0]))]) [0, 1] (by decide) rfl
  have hKc := hK.sub (tys' := []) [] rfl
  have hFc := va_free (wc := [(q1, .inr (11, [.ref q2, .ref q5, .ref q14, .ref q15, .ref q16, .ref q17, .ref q51, .ref q63, .ref q29, .ref q40, .int (-1)])), (q51, .inr (10, [.int 0, .int 0, .int 0, .ref q52, .ref q29, .ref q14, .ref q17, .ref q54, .int 0, .int 0, .ref q55, .ref q56, .ref q57, .ref q58, .ref q59, .ref q60, .ref q61, .int 0, .ref q62, .int 0]))]) hD hS hA [0, 1] rfl
  refine va_calli (va_runV (As := []) (rest := []) ⟨hx, hb, hml, hown, hts⟩ (kX11_result l dC dI (gx := q1) (gq1 := q2) (gq4 := q5) (gq13 := q14) (gq136 := q15) (gq137 := q16) (gq138 := q17) (gq150 := q29) (gq161 := q40) (gq172 := q51) (gq173 := q52) (gq175 := q54) (gq176 := q55) (gq177 := q56) (gq178 := q57) (gq179 := q58) (gq180 := q59) (gq181 := q60) (gq182 := q61) (gq183 := q62) (gq184 := q63) (sz := _)) (cwV 0 hts (gi_V qw951 qw952 qw953 qw222 (gi_z qw950)) rfl rfl rfl (by decide +kernel) ⟨Nat.le_of_ble_eq_true rfl, Nat.le_of_ble_eq_true rfl⟩) ⟨PRE.blind, va_recv hKc hPc (ci := 11) (q0 := 0) rfl rfl, PRE.of hE hS hFc hPc hKc hDc⟩ rfl rfl hl.1 rfl (lv_room (Nat.le_of_ble_eq_true rfl)) dL_law_2602 ⟨Nat.le_of_ble_eq_true rfl, Nat.le_of_ble_eq_true rfl⟩) hS (fun q _ h => hFc q h) hFc (fun r90 u t H locs ht hvm hw hB hz1 hk1 hS => ?_)
  obtain ⟨hP, hD, hK⟩ := JOIN (wr := [(q64, .inr (15, [.ref q65, .int 0, .int (-1), .int 0, .ref q67, .ref q68, .ref q70, .ref q72, .ref q86])), (q72, .inr (14, [.ref q73, .int 0, .int 0, .int 0, .null, .ref q75, .ref q76, .ref q77, .ref q78, .ref q79, .int 0, .int 0, .ref q80, .ref q81, .ref q82, .ref q83, .ref q84, .ref q85]))]) hP hD hK [0, 1] [2, 3] [] rfl rfl (by decide) (by decide) rfl hk1 hFc ht hvm hB
  have hP : va_P (dC, dI) cls [(q64, .inr (15, [.ref q65, .int 0, .int (-1), .int 0, .ref q67, .ref q68, .ref q70, .ref q72, .ref q86])), (q72, .inr (14, [.ref q73, .int 0, .int 0, .int 0, .null, .ref q75, .ref q76, .ref q77, .ref q78, .ref q79, .int 0, .int 0, .ref q80, .ref q81, .ref q82, .ref q83, .ref q84, .ref q85])), (q1, .inr (11, [.ref q2, .ref q5, .ref q14, .ref q15, .ref q16, .ref q17, .ref q51, .ref q63, .ref q29, .ref q40, .int (-1)])), (q51, .inr (10, [.int 0, .int 0, .int 0, .ref q52, .ref q29, .ref q14, .ref q17, .ref q54, .int 0, .int 0, .ref q55, .ref q56, .ref q57, .ref q58, .ref q59, .ref q60, .ref q61, .int 0, .ref q62, .int 0]))] H := hP
  have hD : va_D A [(q64, .inr (15, [.ref q65, .int 0, .int (-1), .int 0, .ref q67, .ref q68, .ref q70, .ref q72, .ref q86])), (q72, .inr (14, [.ref q73, .int 0, .int 0, .int 0, .null, .ref q75, .ref q76, .ref q77, .ref q78, .ref q79, .int 0, .int 0, .ref q80, .ref q81, .ref q82, .ref q83, .ref q84, .ref q85])), (q1, .inr (11, [.ref q2, .ref q5, .ref q14, .ref q15, .ref q16, .ref q17, .ref q51, .ref q63, .ref q29, .ref q40, .int (-1)])), (q51, .inr (10, [.int 0, .int 0, .int 0, .ref q52, .ref q29, .ref q14, .ref q17, .ref q54, .int 0, .int 0, .ref q55, .ref q56, .ref q57, .ref q58, .ref q59, .ref q60, .ref q61, .int 0, .ref q62, .int 0]))] := hD
  have hK : va_K (dC, dI) cls [] s := hK
  refine W.widen (k := 369) (n := 122514) (Nat.le_of_ble_eq_true rfl) (Nat.le_of_ble_eq_true rfl) ?_
  obtain rfl : r90 = 0 := hw
  refine lv_aload_n hx hb dL_law_2605 rfl (lv_at hl 2 rfl) ?_
  have hPc := hP.sub (ws' := [(q64, .inr (15, [.ref q65, .int 0, .int (-1), .int 0, .ref q67, .ref q68, .ref q70, .ref q72, .ref q86])), (q72, .inr (14, [.ref q73, .int 0, .int 0, .int 0, .null, .ref q75, .ref q76, .ref q77, .ref q78, .ref q79, .int 0, .int 0, .ref q80, .ref q81, .ref q82, .ref q83, .ref q84, .ref q85]))]) [0, 1] rfl
  have hDc := hD.sub (ws' := [(q64, .inr (15, [.ref q65, .int 0, .int (-1), .int 0, .ref q67, .ref q68, .ref q70, .ref q72, .ref q86])), (q72, .inr (14, [.ref q73, .int 0, .int 0, .int 0, .null, .ref q75, .ref q76, .ref q77, .ref q78, .ref q79, .int 0, .int 0, .ref q80, .ref q81, .ref q82, .ref q83, .ref q84, .ref q85]))]) [0, 1] (by decide) rfl
  have hKc := hK.sub (tys' := []) [] rfl
  have hFc := va_free (wc := [(q64, .inr (15, [.ref q65, .int 0, .int (-1), .int 0, .ref q67, .ref q68, .ref q70, .ref q72, .ref q86])), (q72, .inr (14, [.ref q73, .int 0, .int 0, .int 0, .null, .ref q75, .ref q76, .ref q77, .ref q78, .ref q79, .int 0, .int 0, .ref q80, .ref q81, .ref q82, .ref q83, .ref q84, .ref q85]))]) hD hS hA [0, 1] rfl
  refine va_calli (va_runV (As := []) (rest := [.int 0]) ⟨hx, hb, hml, hown, hts⟩ (kX24_result l dC dI (mx := q64) (mq1 := q65) (mq3 := q67) (mq4 := q68) (mq6 := q70) (mq8 := q72) (mq9 := q73) (mq11 := q75) (mq12 := q76) (mq13 := q77) (mq14 := q78) (mq15 := q79) (mq16 := q80) (mq17 := q81) (mq18 := q82) (mq19 := q83) (mq20 := q84) (mq21 := q85) (mq22 := q86) (sz := _)) (cwV 0 hts (gi_V qw955 qw956 qw957 qw434 (gi_z qw954)) rfl rfl rfl (by decide +kernel) ⟨Nat.le_of_ble_eq_true rfl, Nat.le_of_ble_eq_true rfl⟩) ⟨PRE.blind, va_recv hKc hPc (ci := 15) (q0 := 0) rfl rfl, PRE.of hE hS hFc hPc hKc hDc⟩ rfl rfl hl.1 rfl (lv_room (Nat.le_of_ble_eq_true rfl)) dL_law_2606 ⟨Nat.le_of_ble_eq_true rfl, Nat.le_of_ble_eq_true rfl⟩) hS (fun q _ h => hFc q h) hFc (fun r91 u t H locs ht hvm hw hB hz1 hk1 hS => ?_)
  obtain ⟨hP, hD, hK⟩ := JOIN (wr := [(q1, .inr (11, [.ref q2, .ref q5, .ref q14, .ref q15, .ref q16, .ref q17, .ref q51, .ref q63, .ref q29, .ref q40, .int (-1)])), (q51, .inr (10, [.int 0, .int 0, .int 0, .ref q52, .ref q29, .ref q14, .ref q17, .ref q54, .int 0, .int 0, .ref q55, .ref q56, .ref q57, .ref q58, .ref q59, .ref q60, .ref q61, .int 0, .ref q62, .int 0]))]) hP hD hK [0, 1] [2, 3] [] rfl rfl (by decide) (by decide) rfl hk1 hFc ht hvm hB
  have hP : va_P (dC, dI) cls [(q1, .inr (11, [.ref q2, .ref q5, .ref q14, .ref q15, .ref q16, .ref q17, .ref q51, .ref q63, .ref q29, .ref q40, .int (-1)])), (q51, .inr (10, [.int 0, .int 0, .int 0, .ref q52, .ref q29, .ref q14, .ref q17, .ref q54, .int 0, .int 0, .ref q55, .ref q56, .ref q57, .ref q58, .ref q59, .ref q60, .ref q61, .int 0, .ref q62, .int 0])), (q64, .inr (15, [.ref q65, .int 0, .int (-1), .int 0, .ref q67, .ref q68, .ref q70, .ref q72, .ref q86]))] H := hP
  have hD : va_D A [(q1, .inr (11, [.ref q2, .ref q5, .ref q14, .ref q15, .ref q16, .ref q17, .ref q51, .ref q63, .ref q29, .ref q40, .int (-1)])), (q51, .inr (10, [.int 0, .int 0, .int 0, .ref q52, .ref q29, .ref q14, .ref q17, .ref q54, .int 0, .int 0, .ref q55, .ref q56, .ref q57, .ref q58, .ref q59, .ref q60, .ref q61, .int 0, .ref q62, .int 0])), (q64, .inr (15, [.ref q65, .int 0, .int (-1), .int 0, .ref q67, .ref q68, .ref q70, .ref q72, .ref q86]))] := hD
  have hK : va_K (dC, dI) cls [] s := hK
  refine W.widen (k := 369) (n := 122514) (Nat.le_of_ble_eq_true rfl) (Nat.le_of_ble_eq_true rfl) ?_
  obtain rfl : r91 = 0 := hw
  refine lv_icmp_eq (tgt := 2818) hx hb dL_law_2609 (by decide) (fun _ => ?_) (fun c => absurd (by decide) c)
  refine lv_iinc (v := 7) (lv' := [(4, .int 7), (3, .ref q87), (2, .ref q64), (1, .ref q1), (0, .ref b)]) hx hb dL_law_2818 hl (k := 0) rfl (by decide) (by decide) rfl (fun ls hl => ?_)
  refine lv_goto (tgt := 23) hx hb dL_law_2821 (by decide) ?_
  refine lv_iload hx hb dL_law_23 (lv_at hl 0 rfl) ?_
  refine lv_aload_n hx hb dL_law_25 rfl (lv_at hl 4 rfl) ?_
  refine va_slen hx hb hX hbl hbA hS dL_law_26 ?_
  refine lv_topC (y := 7) rfl ?_
  refine lv_bipush (v := 7) hx hb dL_law_27 (by decide) ?_
  refine lv_isub hx hb dL_law_29 ?_
  refine lv_topC (y := 0) (by decide) ?_
  refine lv_icmp_gt (tgt := 2824) hx hb dL_law_30 (by decide) (fun _ => ?_) (fun c => absurd (by decide) c)
  refine lv_iconst (v := 1) hx hb dL_law_2824 (by decide) ?_
  refine va_forget (fun q hq => hA2 _ (hS.2.2 q hq)) ?_
  refine W.widen (k := 600002) (n := 7302232) (Nat.le_of_ble_eq_true rfl) (Nat.le_of_ble_eq_true rfl) ?_
  exact lw_ret (d0 := s.drawn) (Drawn.sameBut.refl s.drawn lw_cs) hx hb hr hlocks dL_law_2825
set_option maxHeartbeats 4000000 in
set_option maxRecDepth 100000 in
theorem law_43 {zs : Nat × Nat} {p : Program} {e : Env} {s : State} {m : MethodId} {below : List Frame} {meth : Method} {c : Code} {l : Launch} {b : Nat} {xs : Nat → Int32} {dC : Nat → ClassId} {dI : Nat → Nat → Nat} {A : Nat → Prop} (C0 : lw_At p s m meth c b 7 xs) (hl9 : l.stackTraces = false) (hA : ∀ q, s.heap.size ≤ q → A q) (hA2 : ∀ q, A q → s.heap.size ≤ q) (hE : ENV zs A s s.heap) {H : Heap} {locs : List Loc} (q1 : Nat) (q2 : Nat) (q5 : Nat) (q14 : Nat) (q15 : Nat) (q16 : Nat) (q17 : Nat) (q29 : Nat) (q40 : Nat) (q51 : Nat) (q52 : Nat) (q54 : Nat) (q55 : Nat) (q56 : Nat) (q57 : Nat) (q58 : Nat) (q59 : Nat) (q60 : Nat) (q61 : Nat) (q62 : Nat) (q63 : Nat) (q64 : Nat) (q65 : Nat) (q67 : Nat) (q68 : Nat) (q70 : Nat) (q72 : Nat) (q73 : Nat) (q75 : Nat) (q76 : Nat) (q77 : Nat) (q78 : Nat) (q79 : Nat) (q80 : Nat) (q81 : Nat) (q82 : Nat) (q83 : Nat) (q84 : Nat) (q85 : Nat) (q86 : Nat) (q87 : Nat) (hP : va_P (dC, dI) cls [(q1, .inr (11, [.ref q2, .ref q5, .ref q14, .ref q15, .ref q16, .ref q17, .ref q51, .ref q63, .ref q29, .ref q40, .int (-1)])), (q51, .inr (10, [.int 0, .int 0, .int 0, .ref q52, .ref q29, .ref q14, .ref q17, .ref q54, .int 0, .int 0, .ref q55, .ref q56, .ref q57, .ref q58, .ref q59, .ref q60, .ref q61, .int 0, .ref q62, .int 0])), (q64, .inr (15, [.ref q65, .int 0, .int (-1), .int 0, .ref q67, .ref q68, .ref q70, .ref q72, .ref q86])), (q72, .inr (14, [.ref q73, .int 0, .int 0, .int 0, .null, .ref q75, .ref q76, .ref q77, .ref q78, .ref q79, .int 0, .int 0, .ref q80, .ref q81, .ref q82, .ref q83, .ref q84, .ref q85]))] H) (hD : va_D A [(q1, .inr (11, [.ref q2, .ref q5, .ref q14, .ref q15, .ref q16, .ref q17, .ref q51, .ref q63, .ref q29, .ref q40, .int (-1)])), (q51, .inr (10, [.int 0, .int 0, .int 0, .ref q52, .ref q29, .ref q14, .ref q17, .ref q54, .int 0, .int 0, .ref q55, .ref q56, .ref q57, .ref q58, .ref q59, .ref q60, .ref q61, .int 0, .ref q62, .int 0])), (q64, .inr (15, [.ref q65, .int 0, .int (-1), .int 0, .ref q67, .ref q68, .ref q70, .ref q72, .ref q86])), (q72, .inr (14, [.ref q73, .int 0, .int 0, .int 0, .null, .ref q75, .ref q76, .ref q77, .ref q78, .ref q79, .int 0, .int 0, .ref q80, .ref q81, .ref q82, .ref q83, .ref q84, .ref q85]))]) (hK : va_K (dC, dI) cls [] s) (hS : va_S A s.heap H locs) {ls : Array Slot} (hl : lv_has ls 9 [(4, .int 0), (3, .ref q87), (2, .ref q64), (1, .ref q1), (0, .ref b)])  : W p l e room_1 s m #[Value.ref b] below meth c H locs 369 122514 (lw_Z below #[Value.ref b] s) (F0 m 2614 ls []) := by
  obtain ⟨hx, hb, hr, hml, hown, hts0, hX, hbl, hlocks, hgv⟩ := id C0
  have hts : ∀ w ∈ gw, w.before #[Value.ref b] s = true := fun w h => hts0 w (gw_tbl h)
  have hbA : ¬ A b := fun h => absurd (hA2 b h) (Nat.not_le.mpr hbl)
  refine lv_aload_n hx hb dL_law_2614 rfl (lv_at hl 3 rfl) ?_
  have hPc := hP.sub (ws' := [(q1, .inr (11, [.ref q2, .ref q5, .ref q14, .ref q15, .ref q16, .ref q17, .ref q51, .ref q63, .ref q29, .ref q40, .int (-1)])), (q51, .inr (10, [.int 0, .int 0, .int 0, .ref q52, .ref q29, .ref q14, .ref q17, .ref q54, .int 0, .int 0, .ref q55, .ref q56, .ref q57, .ref q58, .ref q59, .ref q60, .ref q61, .int 0, .ref q62, .int 0]))]) [0, 1] rfl
  have hDc := hD.sub (ws' := [(q1, .inr (11, [.ref q2, .ref q5, .ref q14, .ref q15, .ref q16, .ref q17, .ref q51, .ref q63, .ref q29, .ref q40, .int (-1)])), (q51, .inr (10, [.int 0, .int 0, .int 0, .ref q52, .ref q29, .ref q14, .ref q17, .ref q54, .int 0, .int 0, .ref q55, .ref q56, .ref q57, .ref q58, .ref q59, .ref q60, .ref q61, .int 0, .ref q62, .int 0]))]) [0, 1] (by decide) rfl
  have hKc := hK.sub (tys' := []) [] rfl
  have hFc := va_free (wc := [(q1, .inr (11, [.ref q2, .ref q5, .ref q14, .ref q15, .ref q16, .ref q17, .ref q51, .ref q63, .ref q29, .ref q40, .int (-1)])), (q51, .inr (10, [.int 0, .int 0, .int 0, .ref q52, .ref q29, .ref q14, .ref q17, .ref q54, .int 0, .int 0, .ref q55, .ref q56, .ref q57, .ref q58, .ref q59, .ref q60, .ref q61, .int 0, .ref q62, .int 0]))]) hD hS hA [0, 1] rfl
  refine va_calli (va_runV (As := []) (rest := []) ⟨hx, hb, hml, hown, hts⟩ (kX11_stepsRun l dC dI (gx := q1) (gq1 := q2) (gq4 := q5) (gq13 := q14) (gq136 := q15) (gq137 := q16) (gq138 := q17) (gq150 := q29) (gq161 := q40) (gq172 := q51) (gq173 := q52) (gq175 := q54) (gq176 := q55) (gq177 := q56) (gq178 := q57) (gq179 := q58) (gq180 := q59) (gq181 := q60) (gq182 := q61) (gq183 := q62) (gq184 := q63) (sz := _)) (cwV 0 hts (gi_V qw959 qw960 qw961 qw222 (gi_z qw958)) rfl rfl rfl (by decide +kernel) ⟨Nat.le_of_ble_eq_true rfl, Nat.le_of_ble_eq_true rfl⟩) ⟨PRE.blind, va_recv hKc hPc (ci := 11) (q0 := 0) rfl rfl, PRE.of hE hS hFc hPc hKc hDc⟩ rfl rfl hl.1 rfl (lv_room (Nat.le_of_ble_eq_true rfl)) dL_law_2615 ⟨Nat.le_of_ble_eq_true rfl, Nat.le_of_ble_eq_true rfl⟩) hS (fun q _ h => hFc q h) hFc (fun r90 u t H locs ht hvm hw hB hz1 hk1 hS => ?_)
  obtain ⟨hP, hD, hK⟩ := JOIN (wr := [(q64, .inr (15, [.ref q65, .int 0, .int (-1), .int 0, .ref q67, .ref q68, .ref q70, .ref q72, .ref q86])), (q72, .inr (14, [.ref q73, .int 0, .int 0, .int 0, .null, .ref q75, .ref q76, .ref q77, .ref q78, .ref q79, .int 0, .int 0, .ref q80, .ref q81, .ref q82, .ref q83, .ref q84, .ref q85]))]) hP hD hK [0, 1] [2, 3] [] rfl rfl (by decide) (by decide) rfl hk1 hFc ht hvm hB
  have hP : va_P (dC, dI) cls [(q64, .inr (15, [.ref q65, .int 0, .int (-1), .int 0, .ref q67, .ref q68, .ref q70, .ref q72, .ref q86])), (q72, .inr (14, [.ref q73, .int 0, .int 0, .int 0, .null, .ref q75, .ref q76, .ref q77, .ref q78, .ref q79, .int 0, .int 0, .ref q80, .ref q81, .ref q82, .ref q83, .ref q84, .ref q85])), (q1, .inr (11, [.ref q2, .ref q5, .ref q14, .ref q15, .ref q16, .ref q17, .ref q51, .ref q63, .ref q29, .ref q40, .int (-1)])), (q51, .inr (10, [.int 0, .int 0, .int 0, .ref q52, .ref q29, .ref q14, .ref q17, .ref q54, .int 0, .int 0, .ref q55, .ref q56, .ref q57, .ref q58, .ref q59, .ref q60, .ref q61, .int 0, .ref q62, .int 0]))] H := hP
  have hD : va_D A [(q64, .inr (15, [.ref q65, .int 0, .int (-1), .int 0, .ref q67, .ref q68, .ref q70, .ref q72, .ref q86])), (q72, .inr (14, [.ref q73, .int 0, .int 0, .int 0, .null, .ref q75, .ref q76, .ref q77, .ref q78, .ref q79, .int 0, .int 0, .ref q80, .ref q81, .ref q82, .ref q83, .ref q84, .ref q85])), (q1, .inr (11, [.ref q2, .ref q5, .ref q14, .ref q15, .ref q16, .ref q17, .ref q51, .ref q63, .ref q29, .ref q40, .int (-1)])), (q51, .inr (10, [.int 0, .int 0, .int 0, .ref q52, .ref q29, .ref q14, .ref q17, .ref q54, .int 0, .int 0, .ref q55, .ref q56, .ref q57, .ref q58, .ref q59, .ref q60, .ref q61, .int 0, .ref q62, .int 0]))] := hD
  have hK : va_K (dC, dI) cls [] s := hK
  refine W.widen (k := 369) (n := 122514) (Nat.le_of_ble_eq_true rfl) (Nat.le_of_ble_eq_true rfl) ?_
  obtain rfl : r90 = 0 := hw
  refine lv_aload_n hx hb dL_law_2618 rfl (lv_at hl 2 rfl) ?_
  have hPc := hP.sub (ws' := [(q64, .inr (15, [.ref q65, .int 0, .int (-1), .int 0, .ref q67, .ref q68, .ref q70, .ref q72, .ref q86])), (q72, .inr (14, [.ref q73, .int 0, .int 0, .int 0, .null, .ref q75, .ref q76, .ref q77, .ref q78, .ref q79, .int 0, .int 0, .ref q80, .ref q81, .ref q82, .ref q83, .ref q84, .ref q85]))]) [0, 1] rfl
  have hDc := hD.sub (ws' := [(q64, .inr (15, [.ref q65, .int 0, .int (-1), .int 0, .ref q67, .ref q68, .ref q70, .ref q72, .ref q86])), (q72, .inr (14, [.ref q73, .int 0, .int 0, .int 0, .null, .ref q75, .ref q76, .ref q77, .ref q78, .ref q79, .int 0, .int 0, .ref q80, .ref q81, .ref q82, .ref q83, .ref q84, .ref q85]))]) [0, 1] (by decide) rfl
  have hKc := hK.sub (tys' := []) [] rfl
  have hFc := va_free (wc := [(q64, .inr (15, [.ref q65, .int 0, .int (-1), .int 0, .ref q67, .ref q68, .ref q70, .ref q72, .ref q86])), (q72, .inr (14, [.ref q73, .int 0, .int 0, .int 0, .null, .ref q75, .ref q76, .ref q77, .ref q78, .ref q79, .int 0, .int 0, .ref q80, .ref q81, .ref q82, .ref q83, .ref q84, .ref q85]))]) hD hS hA [0, 1] rfl
  refine va_calli (va_runV (As := []) (rest := [.int 0]) ⟨hx, hb, hml, hown, hts⟩ (kX24_stepsRun l dC dI (mx := q64) (mq1 := q65) (mq3 := q67) (mq4 := q68) (mq6 := q70) (mq8 := q72) (mq9 := q73) (mq11 := q75) (mq12 := q76) (mq13 := q77) (mq14 := q78) (mq15 := q79) (mq16 := q80) (mq17 := q81) (mq18 := q82) (mq19 := q83) (mq20 := q84) (mq21 := q85) (mq22 := q86) (sz := _)) (cwV 0 hts (gi_V qw963 qw964 qw965 qw434 (gi_z qw962)) rfl rfl rfl (by decide +kernel) ⟨Nat.le_of_ble_eq_true rfl, Nat.le_of_ble_eq_true rfl⟩) ⟨PRE.blind, va_recv hKc hPc (ci := 15) (q0 := 0) rfl rfl, PRE.of hE hS hFc hPc hKc hDc⟩ rfl rfl hl.1 rfl (lv_room (Nat.le_of_ble_eq_true rfl)) dL_law_2619 ⟨Nat.le_of_ble_eq_true rfl, Nat.le_of_ble_eq_true rfl⟩) hS (fun q _ h => hFc q h) hFc (fun r91 u t H locs ht hvm hw hB hz1 hk1 hS => ?_)
  obtain ⟨hP, hD, hK⟩ := JOIN (wr := [(q1, .inr (11, [.ref q2, .ref q5, .ref q14, .ref q15, .ref q16, .ref q17, .ref q51, .ref q63, .ref q29, .ref q40, .int (-1)])), (q51, .inr (10, [.int 0, .int 0, .int 0, .ref q52, .ref q29, .ref q14, .ref q17, .ref q54, .int 0, .int 0, .ref q55, .ref q56, .ref q57, .ref q58, .ref q59, .ref q60, .ref q61, .int 0, .ref q62, .int 0]))]) hP hD hK [0, 1] [2, 3] [] rfl rfl (by decide) (by decide) rfl hk1 hFc ht hvm hB
  have hP : va_P (dC, dI) cls [(q1, .inr (11, [.ref q2, .ref q5, .ref q14, .ref q15, .ref q16, .ref q17, .ref q51, .ref q63, .ref q29, .ref q40, .int (-1)])), (q51, .inr (10, [.int 0, .int 0, .int 0, .ref q52, .ref q29, .ref q14, .ref q17, .ref q54, .int 0, .int 0, .ref q55, .ref q56, .ref q57, .ref q58, .ref q59, .ref q60, .ref q61, .int 0, .ref q62, .int 0])), (q64, .inr (15, [.ref q65, .int 0, .int (-1), .int 0, .ref q67, .ref q68, .ref q70, .ref q72, .ref q86]))] H := hP
  have hD : va_D A [(q1, .inr (11, [.ref q2, .ref q5, .ref q14, .ref q15, .ref q16, .ref q17, .ref q51, .ref q63, .ref q29, .ref q40, .int (-1)])), (q51, .inr (10, [.int 0, .int 0, .int 0, .ref q52, .ref q29, .ref q14, .ref q17, .ref q54, .int 0, .int 0, .ref q55, .ref q56, .ref q57, .ref q58, .ref q59, .ref q60, .ref q61, .int 0, .ref q62, .int 0])), (q64, .inr (15, [.ref q65, .int 0, .int (-1), .int 0, .ref q67, .ref q68, .ref q70, .ref q72, .ref q86]))] := hD
  have hK : va_K (dC, dI) cls [] s := hK
  refine W.widen (k := 369) (n := 122514) (Nat.le_of_ble_eq_true rfl) (Nat.le_of_ble_eq_true rfl) ?_
  obtain rfl : r91 = 0 := hw
  refine lv_icmp_eq (tgt := 2818) hx hb dL_law_2622 (by decide) (fun _ => ?_) (fun c => absurd (by decide) c)
  refine lv_iinc (v := 7) (lv' := [(4, .int 7), (3, .ref q87), (2, .ref q64), (1, .ref q1), (0, .ref b)]) hx hb dL_law_2818 hl (k := 0) rfl (by decide) (by decide) rfl (fun ls hl => ?_)
  refine lv_goto (tgt := 23) hx hb dL_law_2821 (by decide) ?_
  refine lv_iload hx hb dL_law_23 (lv_at hl 0 rfl) ?_
  refine lv_aload_n hx hb dL_law_25 rfl (lv_at hl 4 rfl) ?_
  refine va_slen hx hb hX hbl hbA hS dL_law_26 ?_
  refine lv_topC (y := 7) rfl ?_
  refine lv_bipush (v := 7) hx hb dL_law_27 (by decide) ?_
  refine lv_isub hx hb dL_law_29 ?_
  refine lv_topC (y := 0) (by decide) ?_
  refine lv_icmp_gt (tgt := 2824) hx hb dL_law_30 (by decide) (fun _ => ?_) (fun c => absurd (by decide) c)
  refine lv_iconst (v := 1) hx hb dL_law_2824 (by decide) ?_
  refine va_forget (fun q hq => hA2 _ (hS.2.2 q hq)) ?_
  refine W.widen (k := 600002) (n := 7302232) (Nat.le_of_ble_eq_true rfl) (Nat.le_of_ble_eq_true rfl) ?_
  exact lw_ret (d0 := s.drawn) (Drawn.sameBut.refl s.drawn lw_cs) hx hb hr hlocks dL_law_2825
set_option maxHeartbeats 4000000 in
set_option maxRecDepth 100000 in
theorem law_44_a {zs : Nat × Nat} {p : Program} {e : Env} {s : State} {m : MethodId} {below : List Frame} {meth : Method} {c : Code} {l : Launch} {b : Nat} {xs : Nat → Int32} {dC : Nat → ClassId} {dI : Nat → Nat → Nat} {A : Nat → Prop} (C0 : lw_At p s m meth c b 7 xs) (hl9 : l.stackTraces = false) (hA : ∀ q, s.heap.size ≤ q → A q) (hA2 : ∀ q, A q → s.heap.size ≤ q) (hE : ENV zs A s s.heap) {H : Heap} {locs : List Loc} (q1 : Nat) (q2 : Nat) (q5 : Nat) (q14 : Nat) (q15 : Nat) (q16 : Nat) (q17 : Nat) (q29 : Nat) (q40 : Nat) (q51 : Nat) (q63 : Nat) (q64 : Nat) (q65 : Nat) (q67 : Nat) (q68 : Nat) (q70 : Nat) (q72 : Nat) (q86 : Nat) (q87 : Nat) (hP : va_P (dC, dI) cls [(q1, .inr (11, [.ref q2, .ref q5, .ref q14, .ref q15, .ref q16, .ref q17, .ref q51, .ref q63, .ref q29, .ref q40, .int (-1)])), (q64, .inr (15, [.ref q65, .int 0, .int (-1), .int 0, .ref q67, .ref q68, .ref q70, .ref q72, .ref q86]))] H) (hD : va_D A [(q1, .inr (11, [.ref q2, .ref q5, .ref q14, .ref q15, .ref q16, .ref q17, .ref q51, .ref q63, .ref q29, .ref q40, .int (-1)])), (q64, .inr (15, [.ref q65, .int 0, .int (-1), .int 0, .ref q67, .ref q68, .ref q70, .ref q72, .ref q86]))]) (hK : va_K (dC, dI) cls [] s) (hS : va_S A s.heap H locs) {ls : Array Slot} (hl : lv_has ls 9 [(4, .int 0), (3, .ref q87), (2, .ref q64), (1, .ref q1), (0, .ref b)]) (h1 : (xs 1) < 0) : W p l e room_1 s m #[Value.ref b] below meth c H locs 369 122514 (lw_Z below #[Value.ref b] s) (F0 m 2627 ls []) := by
  obtain ⟨hx, hb, hr, hml, hown, hts0, hX, hbl, hlocks, hgv⟩ := id C0
  have hts : ∀ w ∈ gw, w.before #[Value.ref b] s = true := fun w h => hts0 w (gw_tbl h)
  have hbA : ¬ A b := fun h => absurd (hA2 b h) (Nat.not_le.mpr hbl)
  refine lv_aload_n hx hb dL_law_2627 rfl (lv_at hl 3 rfl) ?_
  refine lv_aload_n hx hb dL_law_2628 rfl (lv_at hl 4 rfl) ?_
  refine lv_iload hx hb dL_law_2629 (lv_at hl 0 rfl) ?_
  refine lv_iconst (v := 1) hx hb dL_law_2631 (by decide) ?_
  refine lv_iadd hx hb dL_law_2632 ?_
  refine lv_topC (y := 1) (by decide) ?_
  refine va_sld hx hb hX hbl hbA hS (by unfold vp_in; decide +kernel) dL_law_2633 ?_
  refine lv_topC (y := xs 1) rfl ?_
  refine lv_aload_n hx hb dL_law_2634 rfl (lv_at hl 1 rfl) ?_
  have hPc := hP.sub (ws' := [(q1, .inr (11, [.ref q2, .ref q5, .ref q14, .ref q15, .ref q16, .ref q17, .ref q51, .ref q63, .ref q29, .ref q40, .int (-1)]))]) [0] rfl
  have hDc := hD.sub (ws' := [(q1, .inr (11, [.ref q2, .ref q5, .ref q14, .ref q15, .ref q16, .ref q17, .ref q51, .ref q63, .ref q29, .ref q40, .int (-1)]))]) [0] (by decide) rfl
  have hKc := hK.sub (tys' := []) [] rfl
  have hFc := va_free (wc := [(q1, .inr (11, [.ref q2, .ref q5, .ref q14, .ref q15, .ref q16, .ref q17, .ref q51, .ref q63, .ref q29, .ref q40, .int (-1)]))]) hD hS hA [0] rfl
  refine va_calli (vx_runSW (As := [.ref q1, .int (xs 1), .ref q87]) (rest := []) ⟨hx, hb, hml, hown, hts⟩ (kL_word_a l dC dI (gx := q1) (gq1 := q2) (gq4 := q5) (gq13 := q14) (gq136 := q15) (gq137 := q16) (gq138 := q17) (gq150 := q29) (gq161 := q40) (gq172 := q51) (gq184 := q63) (go := q87) (p0 := (xs 1)) (sz := _) (hl9 := hl9) (h1 := h1)) (vx_cwSW 3 hts (gi_S qw967 qw968 qw658 (gi_h qw966)) rfl rfl rfl (by decide +kernel) ⟨Nat.le_of_ble_eq_true rfl, Nat.le_of_ble_eq_true rfl⟩) ⟨PRE.blind, PRE.of hE hS hFc hPc hKc hDc⟩ rfl rfl hl.1 rfl (lv_room (Nat.le_of_ble_eq_true rfl)) dL_law_2635 ⟨Nat.le_of_ble_eq_true rfl, Nat.le_of_ble_eq_true rfl⟩) hS (fun q _ h => hFc q h) hFc (fun r90 u t H locs ht hvm hw hB hz1 hk1 hS => ?_)
  obtain ⟨hP, hD, hK⟩ := JOIN (wr := [(q64, .inr (15, [.ref q65, .int 0, .int (-1), .int 0, .ref q67, .ref q68, .ref q70, .ref q72, .ref q86]))]) hP hD hK [0] [1] [] rfl rfl (by decide) (by decide) rfl hk1 hFc ht hvm hB
  have hP : va_P (dC, dI) cls [(q64, .inr (15, [.ref q65, .int 0, .int (-1), .int 0, .ref q67, .ref q68, .ref q70, .ref q72, .ref q86]))] H := hP
  have hD : va_D A [(q64, .inr (15, [.ref q65, .int 0, .int (-1), .int 0, .ref q67, .ref q68, .ref q70, .ref q72, .ref q86]))] := hD
  have hK : va_K (dC, dI) cls [] s := hK
  refine W.widen (k := 370) (n := 122520) (Nat.le_of_ble_eq_true rfl) (Nat.le_of_ble_eq_true rfl) ?_
  obtain rfl : r90 = 1 := hw
  refine lv_istore (lv' := [(5, .int 1), (4, .int 0), (3, .ref q87), (2, .ref q64), (1, .ref q1), (0, .ref b)]) hx hb dL_law_2638 hl (by decide) rfl (fun ls hl => ?_)
  refine lv_aload_n hx hb dL_law_2640 rfl (lv_at hl 3 rfl) ?_
  refine lv_aload_n hx hb dL_law_2641 rfl (lv_at hl 5 rfl) ?_
  refine lv_iload hx hb dL_law_2642 (lv_at hl 1 rfl) ?_
  refine lv_iconst (v := 1) hx hb dL_law_2644 (by decide) ?_
  refine lv_iadd hx hb dL_law_2645 ?_
  refine lv_topC (y := 1) (by decide) ?_
  refine va_sld hx hb hX hbl hbA hS (by unfold vp_in; decide +kernel) dL_law_2646 ?_
  refine lv_topC (y := xs 1) rfl ?_
  have hPc := hP.sub (ws' := [(q64, .inr (15, [.ref q65, .int 0, .int (-1), .int 0, .ref q67, .ref q68, .ref q70, .ref q72, .ref q86]))]) [0] rfl
  have hDc := hD.sub (ws' := [(q64, .inr (15, [.ref q65, .int 0, .int (-1), .int 0, .ref q67, .ref q68, .ref q70, .ref q72, .ref q86]))]) [0] (by decide) rfl
  have hKc := hK.sub (tys' := []) [] rfl
  have hFc := va_free (wc := [(q64, .inr (15, [.ref q65, .int 0, .int (-1), .int 0, .ref q67, .ref q68, .ref q70, .ref q72, .ref q86]))]) hD hS hA [0] rfl
  refine va_calli (va_runV (As := [.int (xs 1)]) (rest := []) ⟨hx, hb, hml, hown, hts⟩ (kX24_word_a l dC dI (mx := q64) (mq1 := q65) (mq3 := q67) (mq4 := q68) (mq6 := q70) (mq8 := q72) (mq22 := q86) (p0 := (xs 1)) (sz := _) (h1 := h1)) (cwV 1 hts (gi_V qw970 qw971 qw972 qw434 (gi_z qw969)) rfl rfl rfl (by decide +kernel) ⟨Nat.le_of_ble_eq_true rfl, Nat.le_of_ble_eq_true rfl⟩) ⟨PRE.blind, va_recv hKc hPc (ci := 15) (q0 := 0) rfl rfl, PRE.of hE hS hFc hPc hKc hDc⟩ rfl rfl hl.1 rfl (lv_room (Nat.le_of_ble_eq_true rfl)) dL_law_2647 ⟨Nat.le_of_ble_eq_true rfl, Nat.le_of_ble_eq_true rfl⟩) hS (fun q _ h => hFc q h) hFc (fun r91 u t H locs ht hvm hw hB hz1 hk1 hS => ?_)
  obtain ⟨hP, hD, hK⟩ := JOIN (wr := []) hP hD hK [0] [] [] rfl rfl (by decide) (by decide) rfl hk1 hFc ht hvm hB
  have hP : va_P (dC, dI) cls [(q64, .inr (15, [.ref q65, .int 0, .int (-1), .int 1, .ref q67, .ref q68, .ref q70, .ref q72, .ref q86]))] H := hP
  have hD : va_D A [(q64, .inr (15, [.ref q65, .int 0, .int (-1), .int 1, .ref q67, .ref q68, .ref q70, .ref q72, .ref q86]))] := hD
  have hK : va_K (dC, dI) cls [] s := hK
  refine W.widen (k := 370) (n := 122520) (Nat.le_of_ble_eq_true rfl) (Nat.le_of_ble_eq_true rfl) ?_
  obtain rfl : r91 = 0 := hw
  refine lv_istore (lv' := [(6, .int 0), (5, .int 1), (4, .int 0), (3, .ref q87), (2, .ref q64), (1, .ref q1), (0, .ref b)]) hx hb dL_law_2650 hl (by decide) rfl (fun ls hl => ?_)
  refine lv_aload_n hx hb dL_law_2652 rfl (lv_at hl 4 rfl) ?_
  have hPc := hP.sub (ws' := [(q64, .inr (15, [.ref q65, .int 0, .int (-1), .int 1, .ref q67, .ref q68, .ref q70, .ref q72, .ref q86]))]) [0] rfl
  have hDc := hD.sub (ws' := [(q64, .inr (15, [.ref q65, .int 0, .int (-1), .int 1, .ref q67, .ref q68, .ref q70, .ref q72, .ref q86]))]) [0] (by decide) rfl
  have hKc := hK.sub (tys' := []) [] rfl
  have hFc := va_free (wc := [(q64, .inr (15, [.ref q65, .int 0, .int (-1), .int 1, .ref q67, .ref q68, .ref q70, .ref q72, .ref q86]))]) hD hS hA [0] rfl
  refine va_calli (va_runV (As := []) (rest := []) ⟨hx, hb, hml, hown, hts⟩ (kX24_thrown_n64 l dC dI (a0 := q64) (a60 := q65) (a62 := q68) (a64 := q70) (a66 := q72) (a82 := q67) (a83 := q86) (sz := _)) (cwV 0 hts (gi_V qw664 qw665 qw666 qw434 (gi_z qw663)) rfl rfl rfl (by decide +kernel) ⟨Nat.le_of_ble_eq_true rfl, Nat.le_of_ble_eq_true rfl⟩) ⟨PRE.blind, va_recv hKc hPc (ci := 15) (q0 := 0) rfl rfl, PRE.of hE hS hFc hPc hKc hDc⟩ rfl rfl hl.1 rfl (lv_room (Nat.le_of_ble_eq_true rfl)) dL_law_2653 ⟨Nat.le_of_ble_eq_true rfl, Nat.le_of_ble_eq_true rfl⟩) hS (fun q _ h => hFc q h) hFc (fun r92 u t H locs ht hvm hw hB hz1 hk1 hS => ?_)
  obtain ⟨hP, hD, hK⟩ := JOIN (wr := []) hP hD hK [0] [] [] rfl rfl (by decide) (by decide) rfl hk1 hFc ht hvm hB
  have hP : va_P (dC, dI) cls [(q64, .inr (15, [.ref q65, .int 0, .int (-1), .int 1, .ref q67, .ref q68, .ref q70, .ref q72, .ref q86]))] H := hP
  have hD : va_D A [(q64, .inr (15, [.ref q65, .int 0, .int (-1), .int 1, .ref q67, .ref q68, .ref q70, .ref q72, .ref q86]))] := hD
  have hK : va_K (dC, dI) cls [] s := hK
  refine W.widen (k := 370) (n := 122520) (Nat.le_of_ble_eq_true rfl) (Nat.le_of_ble_eq_true rfl) ?_
  obtain rfl : r92 = 1 := hw
  refine lv_iload hx hb dL_law_2656 (lv_at hl 1 rfl) ?_
  refine lv_icmp_eq (tgt := 2663) hx hb dL_law_2658 (by decide) (fun _ => ?_) (fun c => absurd (by decide) c)
  refine lv_iload hx hb dL_law_2663 (lv_at hl 1 rfl) ?_
  refine lv_if_ne (tgt := 2680) hx hb dL_law_2665 (by decide) (fun _ => ?_) (fun c => absurd c (by decide))
  refine lv_goto (tgt := 2818) hx hb dL_law_2680 (by decide) ?_
  refine lv_iinc (v := 7) (lv' := [(4, .int 7), (6, .int 0), (5, .int 1), (3, .ref q87), (2, .ref q64), (1, .ref q1), (0, .ref b)]) hx hb dL_law_2818 hl (k := 2) rfl (by decide) (by decide) rfl (fun ls hl => ?_)
  refine lv_goto (tgt := 23) hx hb dL_law_2821 (by decide) ?_
  refine lv_iload hx hb dL_law_23 (lv_at hl 0 rfl) ?_
  refine lv_aload_n hx hb dL_law_25 rfl (lv_at hl 6 rfl) ?_
  refine va_slen hx hb hX hbl hbA hS dL_law_26 ?_
  refine lv_topC (y := 7) rfl ?_
  refine lv_bipush (v := 7) hx hb dL_law_27 (by decide) ?_
  refine lv_isub hx hb dL_law_29 ?_
  refine lv_topC (y := 0) (by decide) ?_
  refine lv_icmp_gt (tgt := 2824) hx hb dL_law_30 (by decide) (fun _ => ?_) (fun c => absurd (by decide) c)
  refine lv_iconst (v := 1) hx hb dL_law_2824 (by decide) ?_
  refine va_forget (fun q hq => hA2 _ (hS.2.2 q hq)) ?_
  refine W.widen (k := 600002) (n := 7302232) (Nat.le_of_ble_eq_true rfl) (Nat.le_of_ble_eq_true rfl) ?_
  exact lw_ret (d0 := s.drawn) (Drawn.sameBut.refl s.drawn lw_cs) hx hb hr hlocks dL_law_2825
set_option maxHeartbeats 4000000 in
set_option maxRecDepth 100000 in
theorem law_44_b {zs : Nat × Nat} {p : Program} {e : Env} {s : State} {m : MethodId} {below : List Frame} {meth : Method} {c : Code} {l : Launch} {b : Nat} {xs : Nat → Int32} {dC : Nat → ClassId} {dI : Nat → Nat → Nat} {A : Nat → Prop} (C0 : lw_At p s m meth c b 7 xs) (hl9 : l.stackTraces = false) (hA : ∀ q, s.heap.size ≤ q → A q) (hA2 : ∀ q, A q → s.heap.size ≤ q) (hE : ENV zs A s s.heap) {H : Heap} {locs : List Loc} (q1 : Nat) (q2 : Nat) (q5 : Nat) (q14 : Nat) (q15 : Nat) (q16 : Nat) (q17 : Nat) (q29 : Nat) (q40 : Nat) (q51 : Nat) (q63 : Nat) (q64 : Nat) (q65 : Nat) (q67 : Nat) (q68 : Nat) (q70 : Nat) (q72 : Nat) (q86 : Nat) (q87 : Nat) (hP : va_P (dC, dI) cls [(q1, .inr (11, [.ref q2, .ref q5, .ref q14, .ref q15, .ref q16, .ref q17, .ref q51, .ref q63, .ref q29, .ref q40, .int (-1)])), (q64, .inr (15, [.ref q65, .int 0, .int (-1), .int 0, .ref q67, .ref q68, .ref q70, .ref q72, .ref q86]))] H) (hD : va_D A [(q1, .inr (11, [.ref q2, .ref q5, .ref q14, .ref q15, .ref q16, .ref q17, .ref q51, .ref q63, .ref q29, .ref q40, .int (-1)])), (q64, .inr (15, [.ref q65, .int 0, .int (-1), .int 0, .ref q67, .ref q68, .ref q70, .ref q72, .ref q86]))]) (hK : va_K (dC, dI) cls [] s) (hS : va_S A s.heap H locs) {ls : Array Slot} (hl : lv_has ls 9 [(4, .int 0), (3, .ref q87), (2, .ref q64), (1, .ref q1), (0, .ref b)]) (h1 : ¬ (xs 1) < 0) (h2 : 16 ≤ (xs 1)) : W p l e room_1 s m #[Value.ref b] below meth c H locs 369 122514 (lw_Z below #[Value.ref b] s) (F0 m 2627 ls []) := by
  obtain ⟨hx, hb, hr, hml, hown, hts0, hX, hbl, hlocks, hgv⟩ := id C0
  have hts : ∀ w ∈ gw, w.before #[Value.ref b] s = true := fun w h => hts0 w (gw_tbl h)
  have hbA : ¬ A b := fun h => absurd (hA2 b h) (Nat.not_le.mpr hbl)
  refine lv_aload_n hx hb dL_law_2627 rfl (lv_at hl 3 rfl) ?_
  refine lv_aload_n hx hb dL_law_2628 rfl (lv_at hl 4 rfl) ?_
  refine lv_iload hx hb dL_law_2629 (lv_at hl 0 rfl) ?_
  refine lv_iconst (v := 1) hx hb dL_law_2631 (by decide) ?_
  refine lv_iadd hx hb dL_law_2632 ?_
  refine lv_topC (y := 1) (by decide) ?_
  refine va_sld hx hb hX hbl hbA hS (by unfold vp_in; decide +kernel) dL_law_2633 ?_
  refine lv_topC (y := xs 1) rfl ?_
  refine lv_aload_n hx hb dL_law_2634 rfl (lv_at hl 1 rfl) ?_
  have hPc := hP.sub (ws' := [(q1, .inr (11, [.ref q2, .ref q5, .ref q14, .ref q15, .ref q16, .ref q17, .ref q51, .ref q63, .ref q29, .ref q40, .int (-1)]))]) [0] rfl
  have hDc := hD.sub (ws' := [(q1, .inr (11, [.ref q2, .ref q5, .ref q14, .ref q15, .ref q16, .ref q17, .ref q51, .ref q63, .ref q29, .ref q40, .int (-1)]))]) [0] (by decide) rfl
  have hKc := hK.sub (tys' := []) [] rfl
  have hFc := va_free (wc := [(q1, .inr (11, [.ref q2, .ref q5, .ref q14, .ref q15, .ref q16, .ref q17, .ref q51, .ref q63, .ref q29, .ref q40, .int (-1)]))]) hD hS hA [0] rfl
  refine va_calli (vx_runSW (As := [.ref q1, .int (xs 1), .ref q87]) (rest := []) ⟨hx, hb, hml, hown, hts⟩ (kL_word_b l dC dI (gx := q1) (gq1 := q2) (gq4 := q5) (gq13 := q14) (gq136 := q15) (gq137 := q16) (gq138 := q17) (gq150 := q29) (gq161 := q40) (gq172 := q51) (gq184 := q63) (go := q87) (p0 := (xs 1)) (sz := _) (hl9 := hl9) (h1 := h1) (h2 := h2)) (vx_cwSW 3 hts (gi_S qw967 qw968 qw658 (gi_h qw966)) rfl rfl rfl (by decide +kernel) ⟨Nat.le_of_ble_eq_true rfl, Nat.le_of_ble_eq_true rfl⟩) ⟨PRE.blind, PRE.of hE hS hFc hPc hKc hDc⟩ rfl rfl hl.1 rfl (lv_room (Nat.le_of_ble_eq_true rfl)) dL_law_2635 ⟨Nat.le_of_ble_eq_true rfl, Nat.le_of_ble_eq_true rfl⟩) hS (fun q _ h => hFc q h) hFc (fun r90 u t H locs ht hvm hw hB hz1 hk1 hS => ?_)
  obtain ⟨hP, hD, hK⟩ := JOIN (wr := [(q64, .inr (15, [.ref q65, .int 0, .int (-1), .int 0, .ref q67, .ref q68, .ref q70, .ref q72, .ref q86]))]) hP hD hK [0] [1] [] rfl rfl (by decide) (by decide) rfl hk1 hFc ht hvm hB
  have hP : va_P (dC, dI) cls [(q64, .inr (15, [.ref q65, .int 0, .int (-1), .int 0, .ref q67, .ref q68, .ref q70, .ref q72, .ref q86]))] H := hP
  have hD : va_D A [(q64, .inr (15, [.ref q65, .int 0, .int (-1), .int 0, .ref q67, .ref q68, .ref q70, .ref q72, .ref q86]))] := hD
  have hK : va_K (dC, dI) cls [] s := hK
  refine W.widen (k := 370) (n := 122520) (Nat.le_of_ble_eq_true rfl) (Nat.le_of_ble_eq_true rfl) ?_
  obtain rfl : r90 = 1 := hw
  refine lv_istore (lv' := [(5, .int 1), (4, .int 0), (3, .ref q87), (2, .ref q64), (1, .ref q1), (0, .ref b)]) hx hb dL_law_2638 hl (by decide) rfl (fun ls hl => ?_)
  refine lv_aload_n hx hb dL_law_2640 rfl (lv_at hl 3 rfl) ?_
  refine lv_aload_n hx hb dL_law_2641 rfl (lv_at hl 5 rfl) ?_
  refine lv_iload hx hb dL_law_2642 (lv_at hl 1 rfl) ?_
  refine lv_iconst (v := 1) hx hb dL_law_2644 (by decide) ?_
  refine lv_iadd hx hb dL_law_2645 ?_
  refine lv_topC (y := 1) (by decide) ?_
  refine va_sld hx hb hX hbl hbA hS (by unfold vp_in; decide +kernel) dL_law_2646 ?_
  refine lv_topC (y := xs 1) rfl ?_
  have hPc := hP.sub (ws' := [(q64, .inr (15, [.ref q65, .int 0, .int (-1), .int 0, .ref q67, .ref q68, .ref q70, .ref q72, .ref q86]))]) [0] rfl
  have hDc := hD.sub (ws' := [(q64, .inr (15, [.ref q65, .int 0, .int (-1), .int 0, .ref q67, .ref q68, .ref q70, .ref q72, .ref q86]))]) [0] (by decide) rfl
  have hKc := hK.sub (tys' := []) [] rfl
  have hFc := va_free (wc := [(q64, .inr (15, [.ref q65, .int 0, .int (-1), .int 0, .ref q67, .ref q68, .ref q70, .ref q72, .ref q86]))]) hD hS hA [0] rfl
  refine va_calli (va_runV (As := [.int (xs 1)]) (rest := []) ⟨hx, hb, hml, hown, hts⟩ (kX24_word_b l dC dI (mx := q64) (mq1 := q65) (mq3 := q67) (mq4 := q68) (mq6 := q70) (mq8 := q72) (mq22 := q86) (p0 := (xs 1)) (sz := _) (h1 := h1) (h2 := h2)) (cwV 1 hts (gi_V qw970 qw971 qw972 qw434 (gi_z qw969)) rfl rfl rfl (by decide +kernel) ⟨Nat.le_of_ble_eq_true rfl, Nat.le_of_ble_eq_true rfl⟩) ⟨PRE.blind, va_recv hKc hPc (ci := 15) (q0 := 0) rfl rfl, PRE.of hE hS hFc hPc hKc hDc⟩ rfl rfl hl.1 rfl (lv_room (Nat.le_of_ble_eq_true rfl)) dL_law_2647 ⟨Nat.le_of_ble_eq_true rfl, Nat.le_of_ble_eq_true rfl⟩) hS (fun q _ h => hFc q h) hFc (fun r91 u t H locs ht hvm hw hB hz1 hk1 hS => ?_)
  obtain ⟨hP, hD, hK⟩ := JOIN (wr := []) hP hD hK [0] [] [] rfl rfl (by decide) (by decide) rfl hk1 hFc ht hvm hB
  have hP : va_P (dC, dI) cls [(q64, .inr (15, [.ref q65, .int 0, .int (-1), .int 1, .ref q67, .ref q68, .ref q70, .ref q72, .ref q86]))] H := hP
  have hD : va_D A [(q64, .inr (15, [.ref q65, .int 0, .int (-1), .int 1, .ref q67, .ref q68, .ref q70, .ref q72, .ref q86]))] := hD
  have hK : va_K (dC, dI) cls [] s := hK
  refine W.widen (k := 370) (n := 122520) (Nat.le_of_ble_eq_true rfl) (Nat.le_of_ble_eq_true rfl) ?_
  obtain rfl : r91 = 0 := hw
  refine lv_istore (lv' := [(6, .int 0), (5, .int 1), (4, .int 0), (3, .ref q87), (2, .ref q64), (1, .ref q1), (0, .ref b)]) hx hb dL_law_2650 hl (by decide) rfl (fun ls hl => ?_)
  refine lv_aload_n hx hb dL_law_2652 rfl (lv_at hl 4 rfl) ?_
  have hPc := hP.sub (ws' := [(q64, .inr (15, [.ref q65, .int 0, .int (-1), .int 1, .ref q67, .ref q68, .ref q70, .ref q72, .ref q86]))]) [0] rfl
  have hDc := hD.sub (ws' := [(q64, .inr (15, [.ref q65, .int 0, .int (-1), .int 1, .ref q67, .ref q68, .ref q70, .ref q72, .ref q86]))]) [0] (by decide) rfl
  have hKc := hK.sub (tys' := []) [] rfl
  have hFc := va_free (wc := [(q64, .inr (15, [.ref q65, .int 0, .int (-1), .int 1, .ref q67, .ref q68, .ref q70, .ref q72, .ref q86]))]) hD hS hA [0] rfl
  refine va_calli (va_runV (As := []) (rest := []) ⟨hx, hb, hml, hown, hts⟩ (kX24_thrown_n64 l dC dI (a0 := q64) (a60 := q65) (a62 := q68) (a64 := q70) (a66 := q72) (a82 := q67) (a83 := q86) (sz := _)) (cwV 0 hts (gi_V qw664 qw665 qw666 qw434 (gi_z qw663)) rfl rfl rfl (by decide +kernel) ⟨Nat.le_of_ble_eq_true rfl, Nat.le_of_ble_eq_true rfl⟩) ⟨PRE.blind, va_recv hKc hPc (ci := 15) (q0 := 0) rfl rfl, PRE.of hE hS hFc hPc hKc hDc⟩ rfl rfl hl.1 rfl (lv_room (Nat.le_of_ble_eq_true rfl)) dL_law_2653 ⟨Nat.le_of_ble_eq_true rfl, Nat.le_of_ble_eq_true rfl⟩) hS (fun q _ h => hFc q h) hFc (fun r92 u t H locs ht hvm hw hB hz1 hk1 hS => ?_)
  obtain ⟨hP, hD, hK⟩ := JOIN (wr := []) hP hD hK [0] [] [] rfl rfl (by decide) (by decide) rfl hk1 hFc ht hvm hB
  have hP : va_P (dC, dI) cls [(q64, .inr (15, [.ref q65, .int 0, .int (-1), .int 1, .ref q67, .ref q68, .ref q70, .ref q72, .ref q86]))] H := hP
  have hD : va_D A [(q64, .inr (15, [.ref q65, .int 0, .int (-1), .int 1, .ref q67, .ref q68, .ref q70, .ref q72, .ref q86]))] := hD
  have hK : va_K (dC, dI) cls [] s := hK
  refine W.widen (k := 370) (n := 122520) (Nat.le_of_ble_eq_true rfl) (Nat.le_of_ble_eq_true rfl) ?_
  obtain rfl : r92 = 1 := hw
  refine lv_iload hx hb dL_law_2656 (lv_at hl 1 rfl) ?_
  refine lv_icmp_eq (tgt := 2663) hx hb dL_law_2658 (by decide) (fun _ => ?_) (fun c => absurd (by decide) c)
  refine lv_iload hx hb dL_law_2663 (lv_at hl 1 rfl) ?_
  refine lv_if_ne (tgt := 2680) hx hb dL_law_2665 (by decide) (fun _ => ?_) (fun c => absurd c (by decide))
  refine lv_goto (tgt := 2818) hx hb dL_law_2680 (by decide) ?_
  refine lv_iinc (v := 7) (lv' := [(4, .int 7), (6, .int 0), (5, .int 1), (3, .ref q87), (2, .ref q64), (1, .ref q1), (0, .ref b)]) hx hb dL_law_2818 hl (k := 2) rfl (by decide) (by decide) rfl (fun ls hl => ?_)
  refine lv_goto (tgt := 23) hx hb dL_law_2821 (by decide) ?_
  refine lv_iload hx hb dL_law_23 (lv_at hl 0 rfl) ?_
  refine lv_aload_n hx hb dL_law_25 rfl (lv_at hl 6 rfl) ?_
  refine va_slen hx hb hX hbl hbA hS dL_law_26 ?_
  refine lv_topC (y := 7) rfl ?_
  refine lv_bipush (v := 7) hx hb dL_law_27 (by decide) ?_
  refine lv_isub hx hb dL_law_29 ?_
  refine lv_topC (y := 0) (by decide) ?_
  refine lv_icmp_gt (tgt := 2824) hx hb dL_law_30 (by decide) (fun _ => ?_) (fun c => absurd (by decide) c)
  refine lv_iconst (v := 1) hx hb dL_law_2824 (by decide) ?_
  refine va_forget (fun q hq => hA2 _ (hS.2.2 q hq)) ?_
  refine W.widen (k := 600002) (n := 7302232) (Nat.le_of_ble_eq_true rfl) (Nat.le_of_ble_eq_true rfl) ?_
  exact lw_ret (d0 := s.drawn) (Drawn.sameBut.refl s.drawn lw_cs) hx hb hr hlocks dL_law_2825
set_option maxHeartbeats 4000000 in
set_option maxRecDepth 100000 in
theorem law_44_c {zs : Nat × Nat} {p : Program} {e : Env} {s : State} {m : MethodId} {below : List Frame} {meth : Method} {c : Code} {l : Launch} {b : Nat} {xs : Nat → Int32} {dC : Nat → ClassId} {dI : Nat → Nat → Nat} {A : Nat → Prop} (C0 : lw_At p s m meth c b 7 xs) (hl9 : l.stackTraces = false) (hA : ∀ q, s.heap.size ≤ q → A q) (hA2 : ∀ q, A q → s.heap.size ≤ q) (hE : ENV zs A s s.heap) {H : Heap} {locs : List Loc} (q1 : Nat) (q2 : Nat) (q5 : Nat) (q14 : Nat) (q15 : Nat) (q16 : Nat) (q17 : Nat) (q29 : Nat) (q40 : Nat) (q51 : Nat) (q52 : Nat) (c53 : ClassId) (q54 : Nat) (q55 : Nat) (q56 : Nat) (q57 : Nat) (q58 : Nat) (q59 : Nat) (q60 : Nat) (q61 : Nat) (q62 : Nat) (q63 : Nat) (q64 : Nat) (q65 : Nat) (q67 : Nat) (q68 : Nat) (q70 : Nat) (q72 : Nat) (q73 : Nat) (c74 : ClassId) (q75 : Nat) (q76 : Nat) (q77 : Nat) (q78 : Nat) (q79 : Nat) (q80 : Nat) (q81 : Nat) (q82 : Nat) (q83 : Nat) (q84 : Nat) (q85 : Nat) (q86 : Nat) (q87 : Nat) (c88 : ClassId) (hP : va_P (dC, dI) cls [(q1, .inr (11, [.ref q2, .ref q5, .ref q14, .ref q15, .ref q16, .ref q17, .ref q51, .ref q63, .ref q29, .ref q40, .int (-1)])), (q51, .inr (10, [.int 0, .int 0, .int 0, .ref q52, .ref q29, .ref q14, .ref q17, .ref q54, .int 0, .int 0, .ref q55, .ref q56, .ref q57, .ref q58, .ref q59, .ref q60, .ref q61, .int 0, .ref q62, .int 0])), (q52, .inl (c53, 16, .inl (fun _ => 0))), (q64, .inr (15, [.ref q65, .int 0, .int (-1), .int 0, .ref q67, .ref q68, .ref q70, .ref q72, .ref q86])), (q72, .inr (14, [.ref q73, .int 0, .int 0, .int 0, .null, .ref q75, .ref q76, .ref q77, .ref q78, .ref q79, .int 0, .int 0, .ref q80, .ref q81, .ref q82, .ref q83, .ref q84, .ref q85])), (q73, .inl (c74, 16, .inl (fun _ => 0))), (q87, .inl (c88, 1, .inr (.inl (fun _ => 0))))] H) (hD : va_D A [(q1, .inr (11, [.ref q2, .ref q5, .ref q14, .ref q15, .ref q16, .ref q17, .ref q51, .ref q63, .ref q29, .ref q40, .int (-1)])), (q51, .inr (10, [.int 0, .int 0, .int 0, .ref q52, .ref q29, .ref q14, .ref q17, .ref q54, .int 0, .int 0, .ref q55, .ref q56, .ref q57, .ref q58, .ref q59, .ref q60, .ref q61, .int 0, .ref q62, .int 0])), (q52, .inl (c53, 16, .inl (fun _ => 0))), (q64, .inr (15, [.ref q65, .int 0, .int (-1), .int 0, .ref q67, .ref q68, .ref q70, .ref q72, .ref q86])), (q72, .inr (14, [.ref q73, .int 0, .int 0, .int 0, .null, .ref q75, .ref q76, .ref q77, .ref q78, .ref q79, .int 0, .int 0, .ref q80, .ref q81, .ref q82, .ref q83, .ref q84, .ref q85])), (q73, .inl (c74, 16, .inl (fun _ => 0))), (q87, .inl (c88, 1, .inr (.inl (fun _ => 0))))]) (hK : va_K (dC, dI) cls [(c53, .int), (c74, .int), (c88, .long)] s) (hS : va_S A s.heap H locs) {ls : Array Slot} (hl : lv_has ls 9 [(4, .int 0), (3, .ref q87), (2, .ref q64), (1, .ref q1), (0, .ref b)]) (h1 : ¬ (xs 1) < 0) (h2 : ¬ 16 ≤ (xs 1)) : W p l e room_1 s m #[Value.ref b] below meth c H locs 369 122514 (lw_Z below #[Value.ref b] s) (F0 m 2627 ls []) := by
  obtain ⟨hx, hb, hr, hml, hown, hts0, hX, hbl, hlocks, hgv⟩ := id C0
  have hts : ∀ w ∈ gw, w.before #[Value.ref b] s = true := fun w h => hts0 w (gw_tbl h)
  have hbA : ¬ A b := fun h => absurd (hA2 b h) (Nat.not_le.mpr hbl)
  refine lv_aload_n hx hb dL_law_2627 rfl (lv_at hl 3 rfl) ?_
  refine lv_aload_n hx hb dL_law_2628 rfl (lv_at hl 4 rfl) ?_
  refine lv_iload hx hb dL_law_2629 (lv_at hl 0 rfl) ?_
  refine lv_iconst (v := 1) hx hb dL_law_2631 (by decide) ?_
  refine lv_iadd hx hb dL_law_2632 ?_
  refine lv_topC (y := 1) (by decide) ?_
  refine va_sld hx hb hX hbl hbA hS (by unfold vp_in; decide +kernel) dL_law_2633 ?_
  refine lv_topC (y := xs 1) rfl ?_
  refine lv_aload_n hx hb dL_law_2634 rfl (lv_at hl 1 rfl) ?_
  have hPc := hP.sub (ws' := [(q1, .inr (11, [.ref q2, .ref q5, .ref q14, .ref q15, .ref q16, .ref q17, .ref q51, .ref q63, .ref q29, .ref q40, .int (-1)])), (q51, .inr (10, [.int 0, .int 0, .int 0, .ref q52, .ref q29, .ref q14, .ref q17, .ref q54, .int 0, .int 0, .ref q55, .ref q56, .ref q57, .ref q58, .ref q59, .ref q60, .ref q61, .int 0, .ref q62, .int 0])), (q52, .inl (c53, 16, .inl (fun _ => 0))), (q87, .inl (c88, 1, .inr (.inl (fun _ => 0))))]) [0, 1, 2, 6] rfl
  have hDc := hD.sub (ws' := [(q1, .inr (11, [.ref q2, .ref q5, .ref q14, .ref q15, .ref q16, .ref q17, .ref q51, .ref q63, .ref q29, .ref q40, .int (-1)])), (q51, .inr (10, [.int 0, .int 0, .int 0, .ref q52, .ref q29, .ref q14, .ref q17, .ref q54, .int 0, .int 0, .ref q55, .ref q56, .ref q57, .ref q58, .ref q59, .ref q60, .ref q61, .int 0, .ref q62, .int 0])), (q52, .inl (c53, 16, .inl (fun _ => 0))), (q87, .inl (c88, 1, .inr (.inl (fun _ => 0))))]) [0, 1, 2, 6] (by decide) rfl
  have hKc := hK.sub (tys' := [(c53, .int), (c88, .long)]) [0, 2] rfl
  have hFc := va_free (wc := [(q1, .inr (11, [.ref q2, .ref q5, .ref q14, .ref q15, .ref q16, .ref q17, .ref q51, .ref q63, .ref q29, .ref q40, .int (-1)])), (q51, .inr (10, [.int 0, .int 0, .int 0, .ref q52, .ref q29, .ref q14, .ref q17, .ref q54, .int 0, .int 0, .ref q55, .ref q56, .ref q57, .ref q58, .ref q59, .ref q60, .ref q61, .int 0, .ref q62, .int 0])), (q52, .inl (c53, 16, .inl (fun _ => 0))), (q87, .inl (c88, 1, .inr (.inl (fun _ => 0))))]) hD hS hA [0, 1, 2, 6] rfl
  refine va_calli (vx_runSW (As := [.ref q1, .int (xs 1), .ref q87]) (rest := []) ⟨hx, hb, hml, hown, hts⟩ (kL_word_c l dC dI (gx := q1) (gq1 := q2) (gq4 := q5) (gq13 := q14) (gq136 := q15) (gq137 := q16) (gq138 := q17) (gq150 := q29) (gq161 := q40) (gq172 := q51) (gq173 := q52) (gc174 := c53) (gq175 := q54) (gq176 := q55) (gq177 := q56) (gq178 := q57) (gq179 := q58) (gq180 := q59) (gq181 := q60) (gq182 := q61) (gq183 := q62) (gq184 := q63) (go := q87) (gk := c88) (p0 := (xs 1)) (sz := _) (h1 := h1) (h2 := h2)) (vx_cwSW 3 hts (gi_S qw967 qw968 qw658 (gi_h qw966)) rfl rfl rfl (by decide +kernel) ⟨Nat.le_of_ble_eq_true rfl, Nat.le_of_ble_eq_true rfl⟩) ⟨PRE.blind, PRE.of hE hS hFc hPc hKc hDc⟩ rfl rfl hl.1 rfl (lv_room (Nat.le_of_ble_eq_true rfl)) dL_law_2635 ⟨Nat.le_of_ble_eq_true rfl, Nat.le_of_ble_eq_true rfl⟩) hS (fun q _ h => hFc q h) hFc (fun r90 u t H locs ht hvm hw hB hz1 hk1 hS => ?_)
  obtain ⟨f91, ef91⟩ : ∃ z, z = u := ⟨_, rfl⟩
  rw [← ef91] at hB hw
  have hf91 : f91 0 = 0 := hw.2
  replace hw := hw.1
  obtain ⟨hP, hD, hK⟩ := JOIN (wr := [(q64, .inr (15, [.ref q65, .int 0, .int (-1), .int 0, .ref q67, .ref q68, .ref q70, .ref q72, .ref q86])), (q72, .inr (14, [.ref q73, .int 0, .int 0, .int 0, .null, .ref q75, .ref q76, .ref q77, .ref q78, .ref q79, .int 0, .int 0, .ref q80, .ref q81, .ref q82, .ref q83, .ref q84, .ref q85])), (q73, .inl (c74, 16, .inl (fun _ => 0)))]) hP hD hK [0, 1, 2, 6] [3, 4, 5] [1] rfl rfl (by decide) (by decide) rfl hk1 hFc ht hvm hB
  have hP : va_P (dC, dI) cls [(q64, .inr (15, [.ref q65, .int 0, .int (-1), .int 0, .ref q67, .ref q68, .ref q70, .ref q72, .ref q86])), (q72, .inr (14, [.ref q73, .int 0, .int 0, .int 0, .null, .ref q75, .ref q76, .ref q77, .ref q78, .ref q79, .int 0, .int 0, .ref q80, .ref q81, .ref q82, .ref q83, .ref q84, .ref q85])), (q73, .inl (c74, 16, .inl (fun _ => 0))), (q87, .inl (c88, 1, .inr (.inl f91)))] H := hP
  have hD : va_D A [(q64, .inr (15, [.ref q65, .int 0, .int (-1), .int 0, .ref q67, .ref q68, .ref q70, .ref q72, .ref q86])), (q72, .inr (14, [.ref q73, .int 0, .int 0, .int 0, .null, .ref q75, .ref q76, .ref q77, .ref q78, .ref q79, .int 0, .int 0, .ref q80, .ref q81, .ref q82, .ref q83, .ref q84, .ref q85])), (q73, .inl (c74, 16, .inl (fun _ => 0))), (q87, .inl (c88, 1, .inr (.inl f91)))] := hD
  have hK : va_K (dC, dI) cls [(c74, .int), (c88, .long)] s := hK
  refine W.widen (k := 369) (n := 122514) (Nat.le_of_ble_eq_true rfl) (Nat.le_of_ble_eq_true rfl) ?_
  obtain rfl : r90 = 0 := hw
  refine lv_istore (lv' := [(5, .int 0), (4, .int 0), (3, .ref q87), (2, .ref q64), (1, .ref q1), (0, .ref b)]) hx hb dL_law_2638 hl (by decide) rfl (fun ls hl => ?_)
  refine lv_aload_n hx hb dL_law_2640 rfl (lv_at hl 3 rfl) ?_
  refine lv_aload_n hx hb dL_law_2641 rfl (lv_at hl 5 rfl) ?_
  refine lv_iload hx hb dL_law_2642 (lv_at hl 1 rfl) ?_
  refine lv_iconst (v := 1) hx hb dL_law_2644 (by decide) ?_
  refine lv_iadd hx hb dL_law_2645 ?_
  refine lv_topC (y := 1) (by decide) ?_
  refine va_sld hx hb hX hbl hbA hS (by unfold vp_in; decide +kernel) dL_law_2646 ?_
  refine lv_topC (y := xs 1) rfl ?_
  have hPc := hP.sub (ws' := [(q64, .inr (15, [.ref q65, .int 0, .int (-1), .int 0, .ref q67, .ref q68, .ref q70, .ref q72, .ref q86])), (q72, .inr (14, [.ref q73, .int 0, .int 0, .int 0, .null, .ref q75, .ref q76, .ref q77, .ref q78, .ref q79, .int 0, .int 0, .ref q80, .ref q81, .ref q82, .ref q83, .ref q84, .ref q85])), (q73, .inl (c74, 16, .inl (fun _ => 0)))]) [0, 1, 2] rfl
  have hDc := hD.sub (ws' := [(q64, .inr (15, [.ref q65, .int 0, .int (-1), .int 0, .ref q67, .ref q68, .ref q70, .ref q72, .ref q86])), (q72, .inr (14, [.ref q73, .int 0, .int 0, .int 0, .null, .ref q75, .ref q76, .ref q77, .ref q78, .ref q79, .int 0, .int 0, .ref q80, .ref q81, .ref q82, .ref q83, .ref q84, .ref q85])), (q73, .inl (c74, 16, .inl (fun _ => 0)))]) [0, 1, 2] (by decide) rfl
  have hKc := hK.sub (tys' := [(c74, .int)]) [0] rfl
  have hFc := va_free (wc := [(q64, .inr (15, [.ref q65, .int 0, .int (-1), .int 0, .ref q67, .ref q68, .ref q70, .ref q72, .ref q86])), (q72, .inr (14, [.ref q73, .int 0, .int 0, .int 0, .null, .ref q75, .ref q76, .ref q77, .ref q78, .ref q79, .int 0, .int 0, .ref q80, .ref q81, .ref q82, .ref q83, .ref q84, .ref q85])), (q73, .inl (c74, 16, .inl (fun _ => 0)))]) hD hS hA [0, 1, 2] rfl
  refine va_calli (va_runV (As := [.int (xs 1)]) (rest := []) ⟨hx, hb, hml, hown, hts⟩ (kX24_word_c l dC dI (mx := q64) (mq1 := q65) (mq3 := q67) (mq4 := q68) (mq6 := q70) (mq8 := q72) (mq9 := q73) (mc10 := c74) (mq11 := q75) (mq12 := q76) (mq13 := q77) (mq14 := q78) (mq15 := q79) (mq16 := q80) (mq17 := q81) (mq18 := q82) (mq19 := q83) (mq20 := q84) (mq21 := q85) (mq22 := q86) (p0 := (xs 1)) (sz := _) (h1 := h1) (h2 := h2)) (cwV 1 hts (gi_V qw970 qw971 qw972 qw434 (gi_z qw969)) rfl rfl rfl (by decide +kernel) ⟨Nat.le_of_ble_eq_true rfl, Nat.le_of_ble_eq_true rfl⟩) ⟨PRE.blind, va_recv hKc hPc (ci := 15) (q0 := 0) rfl rfl, PRE.of hE hS hFc hPc hKc hDc⟩ rfl rfl hl.1 rfl (lv_room (Nat.le_of_ble_eq_true rfl)) dL_law_2647 ⟨Nat.le_of_ble_eq_true rfl, Nat.le_of_ble_eq_true rfl⟩) hS (fun q _ h => hFc q h) hFc (fun r92 u t H locs ht hvm hw hB hz1 hk1 hS => ?_)
  obtain ⟨hP, hD, hK⟩ := JOIN (wr := [(q87, .inl (c88, 1, .inr (.inl f91)))]) hP hD hK [0, 1, 2] [3] [1] rfl rfl (by decide) (by decide) rfl hk1 hFc ht hvm hB
  have hP : va_P (dC, dI) cls [(q87, .inl (c88, 1, .inr (.inl f91))), (q64, .inr (15, [.ref q65, .int 0, .int (-1), .int 0, .ref q67, .ref q68, .ref q70, .ref q72, .ref q86]))] H := hP
  have hD : va_D A [(q87, .inl (c88, 1, .inr (.inl f91))), (q64, .inr (15, [.ref q65, .int 0, .int (-1), .int 0, .ref q67, .ref q68, .ref q70, .ref q72, .ref q86]))] := hD
  have hK : va_K (dC, dI) cls [(c88, .long)] s := hK
  refine W.widen (k := 369) (n := 122514) (Nat.le_of_ble_eq_true rfl) (Nat.le_of_ble_eq_true rfl) ?_
  obtain rfl : r92 = 0 := hw
  refine lv_istore (lv' := [(6, .int 0), (5, .int 0), (4, .int 0), (3, .ref q87), (2, .ref q64), (1, .ref q1), (0, .ref b)]) hx hb dL_law_2650 hl (by decide) rfl (fun ls hl => ?_)
  refine lv_aload_n hx hb dL_law_2652 rfl (lv_at hl 4 rfl) ?_
  have hPc := hP.sub (ws' := [(q64, .inr (15, [.ref q65, .int 0, .int (-1), .int 0, .ref q67, .ref q68, .ref q70, .ref q72, .ref q86]))]) [1] rfl
  have hDc := hD.sub (ws' := [(q64, .inr (15, [.ref q65, .int 0, .int (-1), .int 0, .ref q67, .ref q68, .ref q70, .ref q72, .ref q86]))]) [1] (by decide) rfl
  have hKc := hK.sub (tys' := []) [] rfl
  have hFc := va_free (wc := [(q64, .inr (15, [.ref q65, .int 0, .int (-1), .int 0, .ref q67, .ref q68, .ref q70, .ref q72, .ref q86]))]) hD hS hA [1] rfl
  refine va_calli (va_runV (As := []) (rest := []) ⟨hx, hb, hml, hown, hts⟩ (kX24_thrown_n65 l dC dI (a0 := q64) (a60 := q65) (a62 := q68) (a64 := q70) (a66 := q72) (i83 := 0) (a84 := q67) (a85 := q86) (sz := _) (hf0 := (by decide)) (hf1 := (by decide))) (cwV 0 hts (gi_V qw664 qw665 qw666 qw434 (gi_z qw663)) rfl rfl rfl (by decide +kernel) ⟨Nat.le_of_ble_eq_true rfl, Nat.le_of_ble_eq_true rfl⟩) ⟨PRE.blind, va_recv hKc hPc (ci := 15) (q0 := 0) rfl rfl, PRE.of hE hS hFc hPc hKc hDc⟩ rfl rfl hl.1 rfl (lv_room (Nat.le_of_ble_eq_true rfl)) dL_law_2653 ⟨Nat.le_of_ble_eq_true rfl, Nat.le_of_ble_eq_true rfl⟩) hS (fun q _ h => hFc q h) hFc (fun r93 u t H locs ht hvm hw hB hz1 hk1 hS => ?_)
  obtain ⟨hP, hD, hK⟩ := JOIN (wr := [(q87, .inl (c88, 1, .inr (.inl f91)))]) hP hD hK [1] [0] [0] rfl rfl (by decide) (by decide) rfl hk1 hFc ht hvm hB
  have hP : va_P (dC, dI) cls [(q87, .inl (c88, 1, .inr (.inl f91))), (q64, .inr (15, [.ref q65, .int 0, .int (-1), .int 0, .ref q67, .ref q68, .ref q70, .ref q72, .ref q86]))] H := hP
  have hD : va_D A [(q87, .inl (c88, 1, .inr (.inl f91))), (q64, .inr (15, [.ref q65, .int 0, .int (-1), .int 0, .ref q67, .ref q68, .ref q70, .ref q72, .ref q86]))] := hD
  have hK : va_K (dC, dI) cls [(c88, .long)] s := hK
  refine W.widen (k := 369) (n := 122514) (Nat.le_of_ble_eq_true rfl) (Nat.le_of_ble_eq_true rfl) ?_
  obtain rfl : r93 = 0 := hw
  refine lv_iload hx hb dL_law_2656 (lv_at hl 1 rfl) ?_
  refine lv_icmp_eq (tgt := 2663) hx hb dL_law_2658 (by decide) (fun _ => ?_) (fun c => absurd (by decide) c)
  refine lv_iload hx hb dL_law_2663 (lv_at hl 1 rfl) ?_
  refine lv_if_ne (tgt := 2680) hx hb dL_law_2665 (by decide) (fun c => absurd (by decide) c) (fun _ => ?_)
  refine lv_aload_n hx hb dL_law_2668 rfl (lv_at hl 3 rfl) ?_
  refine lv_iconst (v := 0) hx hb dL_law_2669 (by decide) ?_
  refine va_lald hx hb hK hP 0 0 rfl rfl (by unfold vp_in; decide +kernel) dL_law_2670 ?_
  refine lv_topCl (y := 0) hf91 ?_
  refine lv_iload hx hb dL_law_2671 (lv_at hl 0 rfl) ?_
  refine lv_i2l (v := 0) hx hb dL_law_2673 (by decide) ?_
  refine W.lcmp hx hb dL_law_2674 ?_
  refine lv_topC (y := 0) (by decide) ?_
  refine lv_if_eq (tgt := 2680) hx hb dL_law_2675 (by decide) (fun _ => ?_) (fun c => absurd (by decide) c)
  refine lv_goto (tgt := 2818) hx hb dL_law_2680 (by decide) ?_
  refine lv_iinc (v := 7) (lv' := [(4, .int 7), (6, .int 0), (5, .int 0), (3, .ref q87), (2, .ref q64), (1, .ref q1), (0, .ref b)]) hx hb dL_law_2818 hl (k := 2) rfl (by decide) (by decide) rfl (fun ls hl => ?_)
  refine lv_goto (tgt := 23) hx hb dL_law_2821 (by decide) ?_
  refine lv_iload hx hb dL_law_23 (lv_at hl 0 rfl) ?_
  refine lv_aload_n hx hb dL_law_25 rfl (lv_at hl 6 rfl) ?_
  refine va_slen hx hb hX hbl hbA hS dL_law_26 ?_
  refine lv_topC (y := 7) rfl ?_
  refine lv_bipush (v := 7) hx hb dL_law_27 (by decide) ?_
  refine lv_isub hx hb dL_law_29 ?_
  refine lv_topC (y := 0) (by decide) ?_
  refine lv_icmp_gt (tgt := 2824) hx hb dL_law_30 (by decide) (fun _ => ?_) (fun c => absurd (by decide) c)
  refine lv_iconst (v := 1) hx hb dL_law_2824 (by decide) ?_
  refine va_forget (fun q hq => hA2 _ (hS.2.2 q hq)) ?_
  refine W.widen (k := 600002) (n := 7302232) (Nat.le_of_ble_eq_true rfl) (Nat.le_of_ble_eq_true rfl) ?_
  exact lw_ret (d0 := s.drawn) (Drawn.sameBut.refl s.drawn lw_cs) hx hb hr hlocks dL_law_2825
set_option maxHeartbeats 4000000 in
set_option maxRecDepth 100000 in
theorem law_45 {zs : Nat × Nat} {p : Program} {e : Env} {s : State} {m : MethodId} {below : List Frame} {meth : Method} {c : Code} {l : Launch} {b : Nat} {xs : Nat → Int32} {dC : Nat → ClassId} {dI : Nat → Nat → Nat} {A : Nat → Prop} (C0 : lw_At p s m meth c b 7 xs) (hl9 : l.stackTraces = false) (hA : ∀ q, s.heap.size ≤ q → A q) (hA2 : ∀ q, A q → s.heap.size ≤ q) (hE : ENV zs A s s.heap) {H : Heap} {locs : List Loc} (q1 : Nat) (q2 : Nat) (q5 : Nat) (q14 : Nat) (q15 : Nat) (q16 : Nat) (q17 : Nat) (q29 : Nat) (q30 : Nat) (q31 : Nat) (q32 : Nat) (q33 : Nat) (q34 : Nat) (q35 : Nat) (q36 : Nat) (q37 : Nat) (q38 : Nat) (q39 : Nat) (q40 : Nat) (q51 : Nat) (q63 : Nat) (q64 : Nat) (q65 : Nat) (q67 : Nat) (q68 : Nat) (c69 : ClassId) (q70 : Nat) (q72 : Nat) (q86 : Nat) (q87 : Nat) (hP : va_P (dC, dI) cls [(q1, .inr (11, [.ref q2, .ref q5, .ref q14, .ref q15, .ref q16, .ref q17, .ref q51, .ref q63, .ref q29, .ref q40, .int (-1)])), (q29, .inr (2, [.int 0, .ref q30, .ref q31, .ref q32, .ref q33, .ref q34, .ref q35, .int 0, .ref q36, .ref q37, .ref q38, .int 0, .ref q39])), (q64, .inr (15, [.ref q65, .int 0, .int (-1), .int 0, .ref q67, .ref q68, .ref q70, .ref q72, .ref q86])), (q68, .inl (c69, 0, .inr (.inr (.inr (.inr (fun _ => none))))))] H) (hD : va_D A [(q1, .inr (11, [.ref q2, .ref q5, .ref q14, .ref q15, .ref q16, .ref q17, .ref q51, .ref q63, .ref q29, .ref q40, .int (-1)])), (q29, .inr (2, [.int 0, .ref q30, .ref q31, .ref q32, .ref q33, .ref q34, .ref q35, .int 0, .ref q36, .ref q37, .ref q38, .int 0, .ref q39])), (q64, .inr (15, [.ref q65, .int 0, .int (-1), .int 0, .ref q67, .ref q68, .ref q70, .ref q72, .ref q86])), (q68, .inl (c69, 0, .inr (.inr (.inr (.inr (fun _ => none))))))]) (hK : va_K (dC, dI) cls [(c69, .object RX14)] s) (hS : va_S A s.heap H locs) {ls : Array Slot} (hl : lv_has ls 9 [(4, .int 0), (3, .ref q87), (2, .ref q64), (1, .ref q1), (0, .ref b)])  : W p l e room_1 s m #[Value.ref b] below meth c H locs 369 122514 (lw_Z below #[Value.ref b] s) (F0 m 2683 ls []) := by
  obtain ⟨hx, hb, hr, hml, hown, hts0, hX, hbl, hlocks, hgv⟩ := id C0
  have hts : ∀ w ∈ gw, w.before #[Value.ref b] s = true := fun w h => hts0 w (gw_tbl h)
  have hbA : ¬ A b := fun h => absurd (hA2 b h) (Nat.not_le.mpr hbl)
  refine lv_aload_n hx hb dL_law_2683 rfl (lv_at hl 3 rfl) ?_
  refine lv_aload_n hx hb dL_law_2684 rfl (lv_at hl 4 rfl) ?_
  refine lv_iload hx hb dL_law_2685 (lv_at hl 0 rfl) ?_
  refine lv_iconst (v := 1) hx hb dL_law_2687 (by decide) ?_
  refine lv_iadd hx hb dL_law_2688 ?_
  refine lv_topC (y := 1) (by decide) ?_
  refine va_sld hx hb hX hbl hbA hS (by unfold vp_in; decide +kernel) dL_law_2689 ?_
  refine lv_topC (y := xs 1) rfl ?_
  refine lv_aload_n hx hb dL_law_2690 rfl (lv_at hl 4 rfl) ?_
  refine lv_iload hx hb dL_law_2691 (lv_at hl 0 rfl) ?_
  refine lv_iconst (v := 2) hx hb dL_law_2693 (by decide) ?_
  refine lv_iadd hx hb dL_law_2694 ?_
  refine lv_topC (y := 2) (by decide) ?_
  refine va_sld hx hb hX hbl hbA hS (by unfold vp_in; decide +kernel) dL_law_2695 ?_
  refine lv_topC (y := xs 2) rfl ?_
  refine lv_aload_n hx hb dL_law_2696 rfl (lv_at hl 4 rfl) ?_
  refine lv_iload hx hb dL_law_2697 (lv_at hl 0 rfl) ?_
  refine lv_iconst (v := 3) hx hb dL_law_2699 (by decide) ?_
  refine lv_iadd hx hb dL_law_2700 ?_
  refine lv_topC (y := 3) (by decide) ?_
  refine va_sld hx hb hX hbl hbA hS (by unfold vp_in; decide +kernel) dL_law_2701 ?_
  refine lv_topC (y := xs 3) rfl ?_
  refine lv_aload_n hx hb dL_law_2702 rfl (lv_at hl 1 rfl) ?_
  have hPc := hP.sub (ws' := [(q1, .inr (11, [.ref q2, .ref q5, .ref q14, .ref q15, .ref q16, .ref q17, .ref q51, .ref q63, .ref q29, .ref q40, .int (-1)])), (q29, .inr (2, [.int 0, .ref q30, .ref q31, .ref q32, .ref q33, .ref q34, .ref q35, .int 0, .ref q36, .ref q37, .ref q38, .int 0, .ref q39]))]) [0, 1] rfl
  have hDc := hD.sub (ws' := [(q1, .inr (11, [.ref q2, .ref q5, .ref q14, .ref q15, .ref q16, .ref q17, .ref q51, .ref q63, .ref q29, .ref q40, .int (-1)])), (q29, .inr (2, [.int 0, .ref q30, .ref q31, .ref q32, .ref q33, .ref q34, .ref q35, .int 0, .ref q36, .ref q37, .ref q38, .int 0, .ref q39]))]) [0, 1] (by decide) rfl
  have hKc := hK.sub (tys' := []) [] rfl
  have hFc := va_free (wc := [(q1, .inr (11, [.ref q2, .ref q5, .ref q14, .ref q15, .ref q16, .ref q17, .ref q51, .ref q63, .ref q29, .ref q40, .int (-1)])), (q29, .inr (2, [.int 0, .ref q30, .ref q31, .ref q32, .ref q33, .ref q34, .ref q35, .int 0, .ref q36, .ref q37, .ref q38, .int 0, .ref q39]))]) hD hS hA [0, 1] rfl
  refine va_calli (vx_runSW (As := [.ref q1, .int (xs 1), .int (xs 2), .int (xs 3), .ref q87]) (rest := []) ⟨hx, hb, hml, hown, hts⟩ (kL_differences l dC dI (gx := q1) (gq1 := q2) (gq4 := q5) (gq13 := q14) (gq136 := q15) (gq137 := q16) (gq138 := q17) (gq150 := q29) (gq151 := q30) (gq152 := q31) (gq153 := q32) (gq154 := q33) (gq155 := q34) (gq156 := q35) (gq157 := q36) (gq158 := q37) (gq159 := q38) (gq160 := q39) (gq161 := q40) (gq172 := q51) (gq184 := q63) (go := q87) (p0 := (xs 1)) (p1 := (xs 2)) (p2 := (xs 3)) (sz := _) (hl9 := hl9)) (vx_cwSW 5 hts (gi_S qw974 qw975 qw658 (gi_h qw973)) rfl rfl rfl (by decide +kernel) ⟨Nat.le_of_ble_eq_true rfl, Nat.le_of_ble_eq_true rfl⟩) ⟨PRE.blind, PRE.of hE hS hFc hPc hKc hDc⟩ rfl rfl hl.1 rfl (lv_room (Nat.le_of_ble_eq_true rfl)) dL_law_2703 ⟨Nat.le_of_ble_eq_true rfl, Nat.le_of_ble_eq_true rfl⟩) hS (fun q _ h => hFc q h) hFc (fun r90 u t H locs ht hvm hw hB hz1 hk1 hS => ?_)
  obtain ⟨hP, hD, hK⟩ := JOIN (wr := [(q64, .inr (15, [.ref q65, .int 0, .int (-1), .int 0, .ref q67, .ref q68, .ref q70, .ref q72, .ref q86])), (q68, .inl (c69, 0, .inr (.inr (.inr (.inr (fun _ => none))))))]) hP hD hK [0, 1] [2, 3] [0] rfl rfl (by decide) (by decide) rfl hk1 hFc ht hvm hB
  have hP : va_P (dC, dI) cls [(q64, .inr (15, [.ref q65, .int 0, .int (-1), .int 0, .ref q67, .ref q68, .ref q70, .ref q72, .ref q86])), (q68, .inl (c69, 0, .inr (.inr (.inr (.inr (fun _ => none))))))] H := hP
  have hD : va_D A [(q64, .inr (15, [.ref q65, .int 0, .int (-1), .int 0, .ref q67, .ref q68, .ref q70, .ref q72, .ref q86])), (q68, .inl (c69, 0, .inr (.inr (.inr (.inr (fun _ => none))))))] := hD
  have hK : va_K (dC, dI) cls [(c69, .object RX14)] s := hK
  refine W.widen (k := 370) (n := 122520) (Nat.le_of_ble_eq_true rfl) (Nat.le_of_ble_eq_true rfl) ?_
  obtain rfl : r90 = 1 := hw
  refine lv_istore (lv' := [(5, .int 1), (4, .int 0), (3, .ref q87), (2, .ref q64), (1, .ref q1), (0, .ref b)]) hx hb dL_law_2706 hl (by decide) rfl (fun ls hl => ?_)
  refine lv_aload_n hx hb dL_law_2708 rfl (lv_at hl 3 rfl) ?_
  refine lv_aload_n hx hb dL_law_2709 rfl (lv_at hl 5 rfl) ?_
  refine lv_iload hx hb dL_law_2710 (lv_at hl 1 rfl) ?_
  refine lv_iconst (v := 1) hx hb dL_law_2712 (by decide) ?_
  refine lv_iadd hx hb dL_law_2713 ?_
  refine lv_topC (y := 1) (by decide) ?_
  refine va_sld hx hb hX hbl hbA hS (by unfold vp_in; decide +kernel) dL_law_2714 ?_
  refine lv_topC (y := xs 1) rfl ?_
  refine lv_aload_n hx hb dL_law_2715 rfl (lv_at hl 5 rfl) ?_
  refine lv_iload hx hb dL_law_2716 (lv_at hl 1 rfl) ?_
  refine lv_iconst (v := 2) hx hb dL_law_2718 (by decide) ?_
  refine lv_iadd hx hb dL_law_2719 ?_
  refine lv_topC (y := 2) (by decide) ?_
  refine va_sld hx hb hX hbl hbA hS (by unfold vp_in; decide +kernel) dL_law_2720 ?_
  refine lv_topC (y := xs 2) rfl ?_
  refine lv_aload_n hx hb dL_law_2721 rfl (lv_at hl 5 rfl) ?_
  refine lv_iload hx hb dL_law_2722 (lv_at hl 1 rfl) ?_
  refine lv_iconst (v := 3) hx hb dL_law_2724 (by decide) ?_
  refine lv_iadd hx hb dL_law_2725 ?_
  refine lv_topC (y := 3) (by decide) ?_
  refine va_sld hx hb hX hbl hbA hS (by unfold vp_in; decide +kernel) dL_law_2726 ?_
  refine lv_topC (y := xs 3) rfl ?_
  have hPc := hP.sub (ws' := [(q64, .inr (15, [.ref q65, .int 0, .int (-1), .int 0, .ref q67, .ref q68, .ref q70, .ref q72, .ref q86])), (q68, .inl (c69, 0, .inr (.inr (.inr (.inr (fun _ => none))))))]) [0, 1] rfl
  have hDc := hD.sub (ws' := [(q64, .inr (15, [.ref q65, .int 0, .int (-1), .int 0, .ref q67, .ref q68, .ref q70, .ref q72, .ref q86])), (q68, .inl (c69, 0, .inr (.inr (.inr (.inr (fun _ => none))))))]) [0, 1] (by decide) rfl
  have hKc := hK.sub (tys' := [(c69, .object RX14)]) [0] rfl
  have hFc := va_free (wc := [(q64, .inr (15, [.ref q65, .int 0, .int (-1), .int 0, .ref q67, .ref q68, .ref q70, .ref q72, .ref q86])), (q68, .inl (c69, 0, .inr (.inr (.inr (.inr (fun _ => none))))))]) hD hS hA [0, 1] rfl
  refine va_calli (va_runV (As := [.int (xs 1), .int (xs 2), .int (xs 3)]) (rest := []) ⟨hx, hb, hml, hown, hts⟩ (kX24_differences l dC dI (mx := q64) (mq1 := q65) (mq3 := q67) (mq4 := q68) (mc5 := c69) (mq6 := q70) (mq8 := q72) (mq22 := q86) (p0 := (xs 1)) (p1 := (xs 2)) (p2 := (xs 3)) (sz := _)) (cwV 3 hts (gi_V qw977 qw978 qw979 qw434 (gi_z qw976)) rfl rfl rfl (by decide +kernel) ⟨Nat.le_of_ble_eq_true rfl, Nat.le_of_ble_eq_true rfl⟩) ⟨PRE.blind, va_recv hKc hPc (ci := 15) (q0 := 0) rfl rfl, PRE.of hE hS hFc hPc hKc hDc⟩ rfl rfl hl.1 rfl (lv_room (Nat.le_of_ble_eq_true rfl)) dL_law_2727 ⟨Nat.le_of_ble_eq_true rfl, Nat.le_of_ble_eq_true rfl⟩) hS (fun q _ h => hFc q h) hFc (fun r91 u t H locs ht hvm hw hB hz1 hk1 hS => ?_)
  obtain ⟨hP, hD, hK⟩ := JOIN (wr := []) hP hD hK [0, 1] [] [] rfl rfl (by decide) (by decide) rfl hk1 hFc ht hvm hB
  have hP : va_P (dC, dI) cls [(q64, .inr (15, [.ref q65, .int 0, .int (-1), .int 1, .ref q67, .ref q68, .ref q70, .ref q72, .ref q86]))] H := hP
  have hD : va_D A [(q64, .inr (15, [.ref q65, .int 0, .int (-1), .int 1, .ref q67, .ref q68, .ref q70, .ref q72, .ref q86]))] := hD
  have hK : va_K (dC, dI) cls [] s := hK
  refine W.widen (k := 370) (n := 122520) (Nat.le_of_ble_eq_true rfl) (Nat.le_of_ble_eq_true rfl) ?_
  obtain rfl : r91 = 0 := hw
  refine lv_istore (lv' := [(6, .int 0), (5, .int 1), (4, .int 0), (3, .ref q87), (2, .ref q64), (1, .ref q1), (0, .ref b)]) hx hb dL_law_2730 hl (by decide) rfl (fun ls hl => ?_)
  refine lv_aload_n hx hb dL_law_2732 rfl (lv_at hl 4 rfl) ?_
  have hPc := hP.sub (ws' := [(q64, .inr (15, [.ref q65, .int 0, .int (-1), .int 1, .ref q67, .ref q68, .ref q70, .ref q72, .ref q86]))]) [0] rfl
  have hDc := hD.sub (ws' := [(q64, .inr (15, [.ref q65, .int 0, .int (-1), .int 1, .ref q67, .ref q68, .ref q70, .ref q72, .ref q86]))]) [0] (by decide) rfl
  have hKc := hK.sub (tys' := []) [] rfl
  have hFc := va_free (wc := [(q64, .inr (15, [.ref q65, .int 0, .int (-1), .int 1, .ref q67, .ref q68, .ref q70, .ref q72, .ref q86]))]) hD hS hA [0] rfl
  refine va_calli (va_runV (As := []) (rest := []) ⟨hx, hb, hml, hown, hts⟩ (kX24_thrown_n64 l dC dI (a0 := q64) (a60 := q65) (a62 := q68) (a64 := q70) (a66 := q72) (a82 := q67) (a83 := q86) (sz := _)) (cwV 0 hts (gi_V qw664 qw665 qw666 qw434 (gi_z qw663)) rfl rfl rfl (by decide +kernel) ⟨Nat.le_of_ble_eq_true rfl, Nat.le_of_ble_eq_true rfl⟩) ⟨PRE.blind, va_recv hKc hPc (ci := 15) (q0 := 0) rfl rfl, PRE.of hE hS hFc hPc hKc hDc⟩ rfl rfl hl.1 rfl (lv_room (Nat.le_of_ble_eq_true rfl)) dL_law_2733 ⟨Nat.le_of_ble_eq_true rfl, Nat.le_of_ble_eq_true rfl⟩) hS (fun q _ h => hFc q h) hFc (fun r92 u t H locs ht hvm hw hB hz1 hk1 hS => ?_)
  obtain ⟨hP, hD, hK⟩ := JOIN (wr := []) hP hD hK [0] [] [] rfl rfl (by decide) (by decide) rfl hk1 hFc ht hvm hB
  have hP : va_P (dC, dI) cls [(q64, .inr (15, [.ref q65, .int 0, .int (-1), .int 1, .ref q67, .ref q68, .ref q70, .ref q72, .ref q86]))] H := hP
  have hD : va_D A [(q64, .inr (15, [.ref q65, .int 0, .int (-1), .int 1, .ref q67, .ref q68, .ref q70, .ref q72, .ref q86]))] := hD
  have hK : va_K (dC, dI) cls [] s := hK
  refine W.widen (k := 370) (n := 122520) (Nat.le_of_ble_eq_true rfl) (Nat.le_of_ble_eq_true rfl) ?_
  obtain rfl : r92 = 1 := hw
  refine lv_iload hx hb dL_law_2736 (lv_at hl 1 rfl) ?_
  refine lv_icmp_eq (tgt := 2743) hx hb dL_law_2738 (by decide) (fun _ => ?_) (fun c => absurd (by decide) c)
  refine lv_iload hx hb dL_law_2743 (lv_at hl 1 rfl) ?_
  refine lv_if_ne (tgt := 2760) hx hb dL_law_2745 (by decide) (fun _ => ?_) (fun c => absurd c (by decide))
  refine lv_goto (tgt := 2818) hx hb dL_law_2760 (by decide) ?_
  refine lv_iinc (v := 7) (lv' := [(4, .int 7), (6, .int 0), (5, .int 1), (3, .ref q87), (2, .ref q64), (1, .ref q1), (0, .ref b)]) hx hb dL_law_2818 hl (k := 2) rfl (by decide) (by decide) rfl (fun ls hl => ?_)
  refine lv_goto (tgt := 23) hx hb dL_law_2821 (by decide) ?_
  refine lv_iload hx hb dL_law_23 (lv_at hl 0 rfl) ?_
  refine lv_aload_n hx hb dL_law_25 rfl (lv_at hl 6 rfl) ?_
  refine va_slen hx hb hX hbl hbA hS dL_law_26 ?_
  refine lv_topC (y := 7) rfl ?_
  refine lv_bipush (v := 7) hx hb dL_law_27 (by decide) ?_
  refine lv_isub hx hb dL_law_29 ?_
  refine lv_topC (y := 0) (by decide) ?_
  refine lv_icmp_gt (tgt := 2824) hx hb dL_law_30 (by decide) (fun _ => ?_) (fun c => absurd (by decide) c)
  refine lv_iconst (v := 1) hx hb dL_law_2824 (by decide) ?_
  refine va_forget (fun q hq => hA2 _ (hS.2.2 q hq)) ?_
  refine W.widen (k := 600002) (n := 7302232) (Nat.le_of_ble_eq_true rfl) (Nat.le_of_ble_eq_true rfl) ?_
  exact lw_ret (d0 := s.drawn) (Drawn.sameBut.refl s.drawn lw_cs) hx hb hr hlocks dL_law_2825
