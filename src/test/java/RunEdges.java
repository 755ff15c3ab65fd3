/** The edges of runs, orders, healing and judging: promises 22 to 25. */
final class RunEdges {
    private RunEdges() {
    }

    static void check() {
        rests();
        cycles();
        longRuns();
        runArguments();
        orders();
        healing();
        statements();
        judging();
        rows();
    }

    private static void run(HiddenExits x, int none, int... want) {
        for (int what = 0; what < 4; what++) {
            Edge.due("run(" + none + ", " + what + ")", x.run(none, what), want[what]);
        }
    }

    private static void rests() {
        Edge.sentence(0, "A rest is written as a decimal number with one digit for each router, in ascending order, the first one"
            + " being the most significant: the exit of its first route, or 9 if it has none.");
        Edge.due("the rest of a new object", new HiddenExits().run(0, 3), 9);
        Edge.due("the rest of one router", Check.domain("D1e0010").run(0, 3), 0);
        Edge.due("the rest of five without exits", Check.domain("D5").run(0, 3), 99999);
        Edge.due("the rest of the first one alone", Check.domain("D5e0010").run(0, 3), 9999);
        Edge.due("the rest of the last one alone", Check.domain("D5e4010").run(0, 3), 99990);
        Edge.due("the rest of four", Check.domain("D5e3010e2010e1010e0010").run(0, 3), 32109);
        Edge.due("the rest of all", Check.domain("D5l011l021l031l041c01c02c03c04e0010").run(0, 3), 0);
        Edge.sentence(22, "0: beginning with the present choices; 1: beginning with no choices");
        HiddenExits x = Check.domain(Makers.STAR);
        run(x, 0, 0, 2, 0, 1);
        x.round();
        run(x, 0, 0, 1, 0, 1);
        run(x, 1, 0, 2, 0, 1);
        HiddenExits y = Check.domain(Makers.DISAGREE);
        Edge.rounds(y, 2);
        y.step(0);
        run(y, 0, 0, 0, 0, 1101);
        run(y, 1, 1, 2, 2, Check.NONE);
        Edge.choice(y, 0, 0, 1, 1, 10);
    }

    private static void cycles() {
        Edge.sentence(0, "It comes to rest if a round changes no choices; it cycles if all choices are as they were before the"
            + " first round or after an earlier round (and the last round has changed something).");
        run(new HiddenExits(), 0, 0, 0, 0, 9);
        HiddenExits x = Check.domain(Makers.DISAGREE);
        // After two rounds the choices are there that come again after two more: after an earlier round.
        run(x, 0, 1, 2, 2, Check.NONE);
        Edge.rounds(x, 2);
        // They are those before the first round.
        run(x, 0, 1, 0, 2, Check.NONE);
        x.round();
        run(x, 0, 1, 0, 2, Check.NONE);
        // Only a second route changes in the last round but one: it counts, and the rest is there later.
        HiddenExits y = Check.domain("D1e0010e0020e0030");
        y.add(0);
        y.round();
        run(y, 0, 0, 0, 0, 0);
        y.turn(1);
        run(y, 0, 0, 1, 0, 0);
        // Only the source of a route changes.
        HiddenExits z = Check.domain("D4l011l021l131l231c10c20c13c23e0010");
        z.step(0);
        z.step(2);
        z.step(3);
        z.step(1);
        run(z, 0, 0, 1, 0, 0);
        Edge.sentence(22, "0: 0 if it comes to rest, 1 if it cycles, 2 otherwise;");
        Edge.due("run(1, 0)", Check.domain(Makers.STAR).run(1, 0), 0);
        Edge.due("run(1, 0)", Check.domain(Makers.DISAGREE).run(1, 0), 1);
        Edge.due("run(1, 0)", Check.domain(Makers.RESTLESS).run(1, 0), 1);
        Edge.sentence(22, "1: the number of rounds after which the choices of the rest, or those that come again, are there for the"
            + " first time (0 if they are at the beginning);");
        String line = "D5l011l121l231l341c01c12c23c34e0010";
        HiddenExits chain = Check.domain(line);
        for (int left = 5; left >= 0; left--) {
            Edge.due("run(0, 1) with " + left + " rounds to go", chain.run(0, 1), left);
            Edge.due("run(1, 1)", chain.run(1, 1), 5);
            chain.round();
        }
        HiddenExits late = Check.domain(Makers.RESTLESS);
        Edge.due("run(1, 1) of a cycle", late.run(1, 1), 2);
        late.round();
        Edge.due("run(0, 1) of a cycle, one round later", late.run(0, 1), 1);
        late.round();
        Edge.due("run(0, 1) in the cycle", late.run(0, 1), 0);
        late.round();
        Edge.due("run(0, 1) in the cycle, elsewhere", late.run(0, 1), 0);
        Edge.sentence(22, "2: the number of rounds of a cycle, 0 if it comes to rest; 3: the rest");
        Edge.due("run(1, 2)", Check.domain(Makers.DISAGREE).run(1, 2), 2);
        Edge.due("run(1, 2)", Check.domain(Makers.RESTLESS).run(1, 2), 4);
        Edge.due("run(0, 2) in the cycle", late.run(0, 2), 4);
        Edge.due("run(1, 2) of a rest", Check.domain(line).run(1, 2), 0);
        HiddenExits both = Check.domain(Makers.DISAGREE);
        Edge.rounds(both, 2);
        both.step(0);
        Edge.due("run(1, 2) of a cycle", both.run(1, 2), 2);
        Edge.due("run(0, 2) of a rest behind it", both.run(0, 2), 0);
        Edge.due("run(1, 2) of a cycle behind that", both.run(1, 2), 2);
        Edge.due("run(1, 3) of a rest", Check.domain(line).run(1, 3), 0);
    }

    /** A domain that needs many rounds: its text, links, extended routers and what is done at first. */
    private static HiddenExits restless(String text, int[] links, int extended) {
        HiddenExits x = Check.domain(text);
        int pair = 0;
        for (int i = 0; i < 5; i++) {
            for (int j = 0; j < i; j++) {
                x.setLink(i, j, links[pair]);
                pair++;
            }
        }
        for (int router = 0; router < 5; router++) {
            if ((extended >> router & 1) == 1) {
                x.add(router);
            }
        }
        return x;
    }

    private static void longRuns() {
        Edge.sentence(0, "A run repeats rounds, at most 60 times.");
        // No domain is known with which a run goes on for more than 60 rounds; these are the longest ones known.
        HiddenExits x = restless("D5c02c30c32c04p41c43e1013e2112e2011e1110", new int[] {4, 8, 0, 0, 4, 8, 8, 6, 7, 6}, 28);
        int[] steps = {0, 0, 3, 4};
        for (int router : steps) {
            x.step(router);
        }
        x.turn(0);
        x.step(1);
        x.turn(0);
        longRun(x);
        longRun(restless("D5c02c13c40c41c34e3112e2013e3011e2111", new int[] {7, 0, 0, 6, 3, 8, 2, 7, 3, 5}, 27));
        Edge.sentence(22, "NONE for 1 and 2 if it neither comes to rest nor cycles, and for 3 if it does not come to rest;");
        Edge.due("run(0, 3) of a cycle", x.run(0, 3), Check.NONE);
        Edge.due("run(1, 3) of a cycle", Check.domain(Makers.DISAGREE).run(1, 3), Check.NONE);
        Edge.due("run(1, 1) of a cycle is a number", Check.domain(Makers.DISAGREE).run(1, 1), 2);
    }

    /** The run is as it is by single rounds. */
    private static void longRun(HiddenExits x) {
        java.util.List<String> seen = new java.util.ArrayList<>();
        int outcome = x.run(0, 0);
        int entry = x.run(0, 1);
        int period = x.run(0, 2);
        seen.add(choicesOf(x));
        for (int round = 1; round <= 61; round++) {
            int changed = x.round();
            int same = seen.indexOf(choicesOf(x));
            if (changed == 0 || same >= 0) {
                Edge.due("more than 30 rounds", round > 30 ? 1 : 0, 1);
                Edge.due("run(0, 0)", outcome, changed == 0 ? 0 : 1);
                Edge.due("run(0, 1)", entry, same);
                Edge.due("run(0, 2)", period, changed == 0 ? 0 : round - same);
                return;
            }
            seen.add(choicesOf(x));
        }
        Edge.due("run(0, 0)", outcome, 2);
    }

    private static String choicesOf(HiddenExits x) {
        StringBuilder seen = new StringBuilder();
        for (int router = 0; router < x.count(1); router++) {
            for (int k = 0; k < 6; k++) {
                seen.append(x.choice(router, k / 3, k % 3)).append(' ');
            }
        }
        return seen.toString();
    }

    private static void runArguments() {
        Edge.sentence(22, "OUTSIDE if none or what is out of range.");
        int[] edges = {-1, 0, 1, 2, 3, 4, Integer.MIN_VALUE, Integer.MAX_VALUE};
        for (int none : edges) {
            for (int what : edges) {
                String name = "run(" + none + ", " + what + ")";
                if (none < 0 || none > 1 || what < 0 || what > 3) {
                    Edge.refused(Makers.BUSY, name, x -> x.run(none, what), Check.OUTSIDE);
                } else {
                    Edge.due(name + " is no error", Makers.BUSY.make().run(none, what) >= 0 ? 1 : 0, 1);
                }
            }
        }
    }

    private static void orders(HiddenExits x, int... want) {
        for (int what = 0; what < 3; what++) {
            Edge.due("orders(" + what + ")", x.orders(what), want[what]);
        }
    }

    private static void orders() {
        Edge.sentence(23, "Considers all orders of the routers.");
        int all = 1;
        for (int n = 1; n <= 5; n++) {
            all *= n;
            Edge.due("orders(0) of " + n + " routers", Check.domain("D" + n).orders(0), all);
        }
        Edge.sentence(23, "By an order, beginning with no choices, the routers make their steps one after the other in this order,"
            + " again and again, at most 30 times each; it comes to rest if one of these passes through all routers changes no"
            + " choices.");
        HiddenExits x = Check.domain(Makers.DISAGREE);
        orders(x, 24, 2, 1);
        // The present choices are those of a rest, and the exits are down: it begins with no choices, all the same.
        Edge.rounds(x, 2);
        x.step(0);
        orders(x, 24, 2, 1);
        x.turn(0);
        orders(x, 24, 1, 1111);
        Edge.choice(x, 0, 0, 1, 1, 10);
        // By these orders it takes many passes to come to rest: the longest ones known, far from 30.
        slowOrders("D5c21c30c13c04c14c43e0212e2013e0012e2210", new int[] {2, 6, 1, 5, 7, 1, 8, 8, 4, 6}, 27);
        slowOrders("D5c02c21c30c13p40c24e1012e4211e4010e3210", new int[] {3, 4, 6, 0, 7, 4, 4, 4, 4, 6}, 13);
        Edge.sentence(23, "0: the number of orders by which the routers come to rest; 1: the number of different rests; 2: the rest"
            + " that is the lowest number");
        orders(new HiddenExits(), 1, 1, 9);
        orders(Check.domain("D5e4010"), 120, 1, 99990);
        orders(Check.domain("D4p01c02c13l029l139l031l121e3010e2010"), 24, 2, 10);
        orders(Check.domain("D5c32c31c34c30l131l127l433l036l015l049e1012e2011e0112e1111"), 100, 1, 20122);
        Edge.sentence(23, "NONE for 2 if there is no rest;");
        orders(Check.domain(Makers.RESTLESS), 0, 0, Check.NONE);
        Edge.sentence(23, "OUTSIDE if what is out of range.");
        int[] outside = {-1, 3, Integer.MIN_VALUE, Integer.MAX_VALUE};
        for (int what : outside) {
            Edge.refused(Makers.BUSY, "orders(" + what + ")", y -> y.orders(what), Check.OUTSIDE);
            Edge.due("orders(" + what + ") without a rest", Check.domain(Makers.RESTLESS).orders(what), Check.OUTSIDE);
        }
    }

    /** The orders are as they are by single steps, each with as many passes as it needs, at most 30. */
    private static void slowOrders(String text, int[] links, int extended) {
        HiddenExits x = restless(text, links, extended);
        java.util.TreeSet<Integer> rests = new java.util.TreeSet<>();
        int resting = 0;
        int longest = 0;
        for (int code = 0; code < 3125; code++) {
            int[] order = {code / 625, code / 125 % 5, code / 25 % 5, code / 5 % 5, code % 5};
            int set = 0;
            for (int router : order) {
                set |= 1 << router;
            }
            int passes = set == 31 ? passes(restless(text, links, extended), order, rests) : 0;
            resting += passes > 0 ? 1 : 0;
            longest = Math.max(longest, passes);
        }
        Edge.due("more than 10 passes", longest > 10 ? 1 : 0, 1);
        orders(x, resting, rests.size(), rests.isEmpty() ? Check.NONE : rests.first());
    }

    private static int passes(HiddenExits x, int[] order, java.util.TreeSet<Integer> rests) {
        for (int pass = 1; pass <= 30; pass++) {
            int changed = 0;
            for (int router : order) {
                changed += x.step(router);
            }
            if (changed == 0) {
                rests.add(x.run(0, 3));
                return pass;
            }
        }
        return 0;
    }

    private static void healed(String text, int size, int set) {
        HiddenExits x = Check.domain(text);
        Edge.due("healed(0) of " + text, x.healed(0), size);
        Edge.due("healed(1) of " + text, x.healed(1), set);
    }

    private static void healing() {
        Edge.sentence(24, "Finds the smallest set of routers such that a run that begins with no choices comes to rest if exactly"
            + " these routers are extended.");
        healed("D1", 0, 0);
        healed(Makers.STAR, 0, 0);
        healed(Makers.DISAGREE, 1, 1);
        HiddenExits x = Check.domain(Makers.DISAGREE);
        x.add(0);
        x.add(2);
        Edge.due("healed(1): exactly these, whoever is extended now", x.healed(1), 1);
        Edge.rounds(x, 4);
        Edge.due("healed(1), whatever the choices are now", x.healed(1), 1);
        Edge.due("count(6)", x.count(6), 5);
        HiddenExits calm = Check.domain(Makers.STAR);
        calm.add(0);
        Edge.due("healed(1) when a router is extended for nothing", calm.healed(1), 0);
        Edge.sentence(24, "0: the number of these routers; 1: the set of them, of several smallest ones the lowest int value");
        // Each one of the routers 0 and 1 would do.
        HiddenExits other = Check.domain(Makers.DISAGREE);
        other.add(1);
        Edge.due("run(1, 0) with router 1 extended", other.run(1, 0), 0);
        Edge.due("healed(0)", other.healed(0), 1);
        Edge.due("healed(1)", other.healed(1), 1);
        healed("D5p34c31c32c40l349l145l214l029e1112e0110e1012", 2, 10);
        healed("D5l326c30c12l427l202l301p41c43l412l107l316l402l431e2110e0112e0011", 3, 11);
        healed("D5c21l218l304c13l318l323c40l412c34l432e2111e2011e2010e0110", 3, 14);
        Edge.sentence(24, "NONE if there is no such set;");
        // No domain is known for which there is none. These need three routers, more than any other that is known:
        // whatever is extended, the answer is the smallest one of the sets with which a run really comes to rest.
        triedSets("D5c01p20p21c30c13c32p40e2112e2113e2211e4110", new int[] {0, 5, 4, 2, 8, 1, 4, 6, 9, 1});
        triedSets("D5c02c13c32c41c24p43e3212e0211e3212e3113", new int[] {4, 5, 4, 6, 1, 2, 8, 0, 5, 4});
        Edge.sentence(24, "OUTSIDE if what is neither 0 nor 1.");
        int[] outside = {-1, 2, Integer.MIN_VALUE, Integer.MAX_VALUE};
        for (int what : outside) {
            for (Edge.Maker maker : Makers.ALL) {
                Edge.refused(maker, "healed(" + what + ")", y -> y.healed(what), Check.OUTSIDE);
            }
        }
    }

    private static void triedSets(String text, int[] links) {
        int best = Check.NONE;
        int resting = 0;
        for (int set = 31; set >= 0; set--) {
            if (restless(text, links, set).run(1, 0) == 0) {
                resting++;
                best = best == Check.NONE || Integer.bitCount(set) <= Integer.bitCount(best) ? set : best;
            }
        }
        Edge.due("the number of sets with a rest", resting, 4);
        Edge.due("healed(0)", restless(text, links, 31).healed(0), 3);
        Edge.due("healed(1)", restless(text, links, 31).healed(1), best);
    }

    private static void judge(HiddenExits x, String row, int want) {
        String digits = row.replace(" ", "");
        Edge.due("judge of " + row, x.judge(digits.length() / 4, Long.parseLong(digits)), want);
    }

    /** Of the statements that begin and end so, those about the numbers in the set are true, and no others. */
    private static void trueFor(HiddenExits x, String start, String end, String numbers) {
        for (int digit = 0; digit <= 9; digit++) {
            judge(x, start + digit + end, numbers.indexOf('0' + digit) >= 0 ? Check.NONE : 0);
        }
    }

    private static void statements() {
        HiddenExits x = Check.domain(Makers.STAR);
        Edge.sentence(25, "1 r 0 0: router r makes a step.");
        trueFor(x, "1", "00", "012");
        trueFor(x, "12", "0", "0");
        trueFor(x, "120", "", "0");
        judge(x, "1200 5201 5009 5109", Check.NONE);
        Edge.sentence(25, "2 x 0 0: exit x is turned as by the method turn.");
        trueFor(x, "2", "00", "01");
        trueFor(x, "21", "0", "0");
        trueFor(x, "210", "", "0");
        judge(x, "2000 1000 5009", Check.NONE);
        judge(x, "2000 2000 1000 5000", Check.NONE);
        Edge.sentence(25, "3 x 0 v: the weight of exit x becomes v.");
        trueFor(x, "3", "00", "01");
        trueFor(x, "31", "5", "0");
        trueFor(x, "310", "", "012345");
        judge(x, "1000 1200 1100 5100", Check.NONE);
        HiddenExits told = Check.domain(Makers.STAR);
        told.round();
        judge(told, "3001 1100 5101", Check.NONE);
        judge(told, "3001 3000 1100 5100", Check.NONE);
        judge(told, "1100 3001 5100", Check.NONE);
        Edge.sentence(25, "4 r 0 0: router r becomes extended, or not extended any more, as by the method add.");
        trueFor(x, "4", "00", "012");
        trueFor(x, "42", "0", "0");
        trueFor(x, "420", "", "0");
        HiddenExits second = Check.domain(Makers.DISAGREE);
        Edge.rounds(second, 2);
        second.add(0);
        second.step(0);
        judge(second, "1100 5100", Check.NONE);
        judge(second, "4000 1100 5101", Check.NONE);
        judge(second, "4000 4000 1100 5101", Check.NONE);
        Edge.sentence(25, "5 r 0 x: the first route of router r has exit x (9: it has none).");
        trueFor(x, "500", "", "9");
        trueFor(x, "5", "09", "012");
        trueFor(x, "51", "9", "0");
        HiddenExits chosen = Check.domain(Makers.STAR);
        Edge.rounds(chosen, 2);
        trueFor(chosen, "510", "", "0");
        trueFor(chosen, "520", "", "1");
        trueFor(chosen, "5", "00", "01");
        Edge.sentence(25, "6 r 0 x: a packet from router r leaves by exit x (9: the method leaves would return NONE).");
        trueFor(x, "600", "", "9");
        trueFor(x, "6", "09", "012");
        trueFor(chosen, "610", "", "0");
        trueFor(chosen, "61", "0", "0");
        trueFor(chosen, "6", "01", "2");
        chosen.setLink(0, 1, 0);
        trueFor(chosen, "610", "", "9");
        HiddenExits circle = Check.domain("D4l011l121l231p13p20e0010e3010");
        Edge.rounds(circle, 2);
        trueFor(circle, "610", "", "9");
        trueFor(circle, "510", "", "1");
        Edge.sentence(25, "7 0 0 b: a run beginning with the choices at this moment comes to rest (b = 1) or does not (b = 0).");
        trueFor(x, "700", "", "1");
        trueFor(x, "70", "1", "0");
        trueFor(x, "7", "01", "0");
        HiddenExits cycle = Check.domain(Makers.DISAGREE);
        trueFor(cycle, "700", "", "0");
        trueFor(cycle, "7", "00", "0");
        Edge.rounds(cycle, 2);
        judge(cycle, "7000 1000 7001 5001", Check.NONE);
        // After the statement the choices are as at this moment, not those of the rest.
        judge(x, "7001 5009 5109 5209", Check.NONE);
        judge(x, "1200 7001 5109 5201", Check.NONE);
        judge(Check.domain("D5l341c34e4010"), "1400 7001 5400 5309", Check.NONE);
    }

    private static void judging() {
        Edge.sentence(25, "Judges a sequence of n statements, one after the other, beginning with the present state, which does not"
            + " change.");
        for (Edge.Maker maker : Makers.ALL) {
            Edge.unchanged(maker, "judge of 1000 4000 7001 5009", x -> x.judge(4, 1000400070015009L));
            Edge.unchanged(maker, "judge of 2000 3005 1000 7000", x -> x.judge(4, 2000300510007000L));
        }
        HiddenExits x = Check.domain(Makers.STAR);
        x.step(2);
        judge(x, "5201 1100 5101 6101", Check.NONE);
        judge(x, "5101", 0);
        Edge.sentence(25, "Each is given by four decimal digits of row, the first one by the most significant ones (leading zeros"
            + " included):");
        Edge.due("judge(1, 5009)", x.judge(1, 5009L), Check.NONE);
        Edge.due("judge(2, 5009), the first statement is 0000", x.judge(2, 5009L), 0);
        Edge.due("judge(2, 50095201)", x.judge(2, 50095201L), Check.NONE);
        Edge.due("judge(2, 50095200)", x.judge(2, 50095200L), 1);
        Edge.due("judge(3, 500952015109)", x.judge(3, 500952015109L), Check.NONE);
        Edge.due("judge(4, 5009520151095009)", x.judge(4, 5009520151095009L), Check.NONE);
        Edge.due("judge(4, 500952015109)", x.judge(4, 500952015109L), 0);
        Edge.due("judge(1, 9), the digits are 0009", x.judge(1, 9L), 0);
        Edge.sentence(25, "Returns the index, from 0, of the first statement that is none of these, names a router, exit or weight"
            + " that does not exist (in 5 and 6 an x that is neither an exit nor 9, too), or is not true;");
        for (int index = 0; index < 4; index++) {
            String[] wrong = {"0000", "8000", "9999", "1300", "2200", "3200", "3006", "4300", "5309", "5002", "6309", "6008",
                "5000", "6000", "7000", "7002", "1001", "7011"};
            for (String statement : wrong) {
                judge(x, "5009 ".repeat(index) + statement + " 0000".repeat(3 - index), index);
                judge(x, "5009 ".repeat(index) + statement + " 5009".repeat(3 - index), index);
                judge(x, "5009 ".repeat(index) + statement, index);
            }
        }
        // There are four exits and five routers, and no more.
        HiddenExits full = Check.domain("D5e0010e0010e0010e0010");
        trueFor(full, "1", "00", "01234");
        trueFor(full, "2", "00", "0123");
        trueFor(full, "3", "05", "0123");
        trueFor(full, "5", "09", "01234");
        Edge.sentence(25, "NONE if there is none;");
        for (int n = 1; n <= 4; n++) {
            judge(x, "5009".repeat(n), Check.NONE);
        }
    }

    private static void rows() {
        Edge.sentence(25, "1 to 4");
        int[] wrong = {0, 5, -1, Integer.MIN_VALUE, Integer.MAX_VALUE};
        for (int n : wrong) {
            Edge.refused(Makers.BUSY, "judge(" + n + ", 0)", x -> x.judge(n, 0L), Check.OUTSIDE);
            Edge.refused(Makers.BUSY, "judge(" + n + ", 5000)", x -> x.judge(n, 5000L), Check.OUTSIDE);
        }
        Edge.sentence(25, "the digits, 0 to 10^(4 * n) - 1");
        long[] powers = {1L, 10000L, 100000000L, 1000000000000L, 10000000000000000L};
        HiddenExits x = Makers.BUSY.make();
        for (int n = 1; n <= 4; n++) {
            Edge.due("judge(" + n + ", 0)", x.judge(n, 0L), 0);
            Edge.due("judge(" + n + ", the greatest row)", x.judge(n, powers[n] - 1), 0);
        }
        Edge.sentence(25, "OUTSIDE if n or row is out of range.");
        for (int n = 1; n <= 4; n++) {
            int count = n;
            long[] rows = {-1L, powers[n], powers[n] + 5009L, Long.MIN_VALUE, Long.MAX_VALUE, -powers[n]};
            for (long row : rows) {
                Edge.refused(Makers.BUSY, "judge(" + n + ", " + row + ")", y -> y.judge(count, row), Check.OUTSIDE);
            }
        }
        Edge.refused(Makers.BUSY, "judge(0, -1)", y -> y.judge(0, -1L), Check.OUTSIDE);
        Edge.refused(Makers.FRESH, "judge(5, 10000)", y -> y.judge(5, 10000L), Check.OUTSIDE);
    }
}
