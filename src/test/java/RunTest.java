/** Promises 22 to 25: runs, orders, which routers to extend, and judging statements. */
public final class RunTest {
    /** Router 1 reflects the routes of its clients 0 and 2, which have an exit each; 0 is nearer to it. */
    private static final String STAR = "D3l012l123c10c12e0010e2010";
    /** The reflectors 0 and 1 each prefer the exit at the other one's client, and hide their own if they take it. */
    private static final String DISAGREE = "D4p01c02c13l029l139l031l121e2010e3010";
    /** By no order this one comes to rest, but it does if router 0 is extended. */
    private static final String RESTLESS = "D5l015l024l031l349c01c02p30c34e1123e2021e4020";

    public static void main(String[] args) {
        resting();
        cycling();
        runErrors();
        orders();
        healing();
        judging();
        judgingActs();
        judgingRuns();
        judgeErrors();
        Check.finish();
    }

    private static void run(HiddenExits x, int none, int... want) {
        for (int what = 0; what < 4; what++) {
            Check.due(22, "run(" + none + ", " + what + ")", x.run(none, what), want[what]);
        }
    }

    private static void resting() {
        HiddenExits x = Check.domain(STAR);
        run(x, 0, 0, 2, 0, 1);
        run(x, 1, 0, 2, 0, 1);
        x.round();
        run(x, 0, 0, 1, 0, 1);
        run(x, 1, 0, 2, 0, 1);
        x.round();
        run(x, 0, 0, 0, 0, 1);
        Check.due(22, "count(9): a run is no act", x.count(9), 2);
        x.turn(0);
        run(x, 0, 0, 3, 0, 111);
        x.turn(1);
        run(x, 1, 0, 0, 0, 999);
        Check.due(22, "choice(1, 0, 0)", x.choice(1, 0, 0), 0);
        run(new HiddenExits(), 0, 0, 0, 0, 9);
        run(Check.domain("D5e4010"), 1, 0, 1, 0, 99990);
    }

    private static void cycling() {
        HiddenExits x = Check.domain(DISAGREE);
        run(x, 1, 1, 2, 2, Check.NONE);
        run(x, 0, 1, 2, 2, Check.NONE);
        x.round();
        run(x, 0, 1, 1, 2, Check.NONE);
        x.round();
        run(x, 0, 1, 0, 2, Check.NONE);
        run(x, 1, 1, 2, 2, Check.NONE);
        x.step(0);
        run(x, 0, 0, 0, 0, 1101);
        run(x, 1, 1, 2, 2, Check.NONE);
        x.undo();
        x.step(1);
        run(x, 0, 0, 0, 0, 1);
        x.add(0);
        run(x, 1, 0, 4, 0, 1);
        HiddenExits y = Check.domain(RESTLESS);
        run(y, 1, 1, 2, 4, Check.NONE);
        y.add(0);
        Check.due(22, "run(1, 0)", y.run(1, 0), 0);
    }

    private static void runErrors() {
        HiddenExits x = Check.domain(STAR);
        Check.due(22, "run(-1, 0)", x.run(-1, 0), Check.OUTSIDE);
        Check.due(22, "run(2, 0)", x.run(2, 0), Check.OUTSIDE);
        Check.due(22, "run(0, -1)", x.run(0, -1), Check.OUTSIDE);
        Check.due(22, "run(1, 4)", x.run(1, 4), Check.OUTSIDE);
    }

    private static void orders(HiddenExits x, int... want) {
        for (int what = 0; what < 3; what++) {
            Check.due(23, "orders(" + what + ")", x.orders(what), want[what]);
        }
    }

    private static void orders() {
        orders(new HiddenExits(), 1, 1, 9);
        orders(Check.domain("D2"), 2, 1, 99);
        HiddenExits x = Check.domain(STAR);
        orders(x, 6, 1, 1);
        x.round();
        x.turn(0);
        orders(x, 6, 1, 111);
        Check.due(23, "choice(0, 0, 0)", x.choice(0, 0, 0), 0);
        HiddenExits y = Check.domain(DISAGREE);
        orders(y, 24, 2, 1);
        y.round();
        y.round();
        orders(y, 24, 2, 1);
        // With its exits in the other order, the lowest rest is found later.
        orders(Check.domain("D4p01c02c13l029l139l031l121e3010e2010"), 24, 2, 10);
        orders(Check.domain(RESTLESS), 0, 0, Check.NONE);
        // By some orders only: as by the reference, which tries all of them to the end.
        orders(Check.domain("D5c32c31c34c30l131l127l433l036l015l049e1012e2011e0112e1111"), 100, 1, 20122);
        Check.due(23, "orders(-1)", x.orders(-1), Check.OUTSIDE);
        Check.due(23, "orders(3)", x.orders(3), Check.OUTSIDE);
        Check.due(23, "count(9)", x.count(9), 2);
    }

    private static void healing() {
        HiddenExits x = Check.domain(STAR);
        Check.due(24, "healed(0)", x.healed(0), 0);
        Check.due(24, "healed(1)", x.healed(1), 0);
        Check.due(24, "healed(2)", x.healed(2), Check.OUTSIDE);
        Check.due(24, "healed(-1)", x.healed(-1), Check.OUTSIDE);
        HiddenExits y = Check.domain(DISAGREE);
        Check.due(24, "healed(0)", y.healed(0), 1);
        Check.due(24, "healed(1)", y.healed(1), 1);
        y.add(1);
        y.add(3);
        Check.due(24, "healed(1), whoever is extended now", y.healed(1), 1);
        Check.due(24, "count(6)", y.count(6), 10);
        y.step(3);
        y.step(1);
        y.step(0);
        Check.due(24, "healed(1), whatever the choices are now", y.healed(1), 1);
        y.turn(0);
        Check.due(24, "healed(0) when an exit is down", y.healed(0), 0);
        HiddenExits z = Check.domain(RESTLESS);
        Check.due(24, "healed(0)", z.healed(0), 1);
        Check.due(24, "healed(1)", z.healed(1), 1);
        // More than one router is needed here.
        healed("D5p34c31c32c40l349l145l214l029e1112e0110e1012", 2, 10);
        healed("D5l326c30c12l427l202l301p41c43l412l107l316l402l431e2110e0112e0011", 3, 11);
        healed("D5c21l218l304c13l318l323c40l412c34l432e2111e2011e2010e0110", 3, 14);
    }

    /** The numbers are those of the reference, which tries all sets. */
    private static void healed(String text, int size, int set) {
        HiddenExits x = Check.domain(text);
        Check.due(24, "run(1, 0) of " + text, x.run(1, 0), 1);
        Check.due(24, "healed(0) of " + text, x.healed(0), size);
        Check.due(24, "healed(1) of " + text, x.healed(1), set);
        for (int router = 0; router < x.count(1); router++) {
            if ((set >> router & 1) == 1) {
                x.add(router);
            }
        }
        Check.due(24, "run(1, 0) of " + text + " healed", x.run(1, 0), 0);
    }

    private static void judge(HiddenExits x, String row, int want) {
        String digits = row.replace(" ", "");
        Check.due(25, "judge of " + row, x.judge(digits.length() / 4, Long.parseLong(digits)), want);
    }

    private static void judging() {
        HiddenExits x = Check.domain(STAR);
        judge(x, "5009", Check.NONE);
        judge(x, "5000", 0);
        judge(x, "5309", 0);
        judge(x, "5909", 0);
        judge(x, "6009", Check.NONE);
        judge(x, "6000", 0);
        judge(x, "6309", 0);
        judge(x, "0000", 0);
        judge(x, "8000", 0);
        judge(x, "9000", 0);
        judge(x, "5009 6109 5209 0000", 3);
        judge(x, "5009 5001 5009 5009", 1);
        judge(x, "0000 5009", 0);
        x.round();
        x.round();
        judge(x, "5000 5100 5201 6100", Check.NONE);
        judge(x, "6201 6000 6101", 2);
        judge(x, "5009", 0);
        judge(x, "6109", 0);
        // No exit 2, 3 or 8, even if this is not what the router has.
        judge(x, "5002", 0);
        judge(x, "6008", 0);
        judge(x, "5010", 0);
        judge(x, "6110", 0);
        x.setLink(0, 1, 0);
        judge(x, "6109 6000 6201", Check.NONE);
    }

    private static void judgingActs() {
        HiddenExits x = Check.domain(STAR);
        judge(x, "1000 5000", Check.NONE);
        judge(x, "1000 5009", 1);
        judge(x, "1000 1200 1100 5100", Check.NONE);
        judge(x, "1000 1200 1100 6100", Check.NONE);
        judge(x, "1200 1100 1000 5101", Check.NONE);
        judge(x, "1300", 0);
        judge(x, "1001", 0);
        judge(x, "1010", 0);
        judge(x, "2000 1000 5009", Check.NONE);
        judge(x, "2000 2000 1000 5000", Check.NONE);
        judge(x, "2200", 0);
        judge(x, "2001", 0);
        judge(x, "2010", 0);
        judge(x, "3000", Check.NONE);
        judge(x, "3105", Check.NONE);
        judge(x, "3006", 0);
        judge(x, "3009", 0);
        judge(x, "3200", 0);
        judge(x, "3010", 0);
        judge(x, "4000", Check.NONE);
        judge(x, "4300", 0);
        judge(x, "4001", 0);
        judge(x, "4010", 0);
        Check.due(25, "count(9)", x.count(9), 0);
        Check.due(25, "count(8)", x.count(8), 0);
        Check.due(25, "count(5)", x.count(5), 3);
        Check.due(25, "count(6)", x.count(6), 0);
        Check.due(25, "exit(1, 3)", x.exit(1, 3), 0);
        x.round();
        // The weight of exit 0 makes router 1 take the other one, and the object forgets it again.
        judge(x, "3005 1100 5101", Check.NONE);
        judge(x, "1100 5100", Check.NONE);
        judge(x, "3005 3000 1100 5100", Check.NONE);
        x.step(1);
        Check.due(25, "choice(1, 0, 0)", x.choice(1, 0, 0), 0);
    }

    private static void judgingRuns() {
        HiddenExits x = Check.domain(DISAGREE);
        judge(x, "7000", Check.NONE);
        judge(x, "7001", 0);
        judge(x, "7002", 0);
        judge(x, "7009", 0);
        judge(x, "7010", 0);
        judge(x, "7100", 0);
        judge(x, "7000 5009 5209 7000", Check.NONE);
        judge(x, "4000 7001", Check.NONE);
        judge(x, "4000 4000 7001", 2);
        judge(x, "4000 4000 7000", Check.NONE);
        judge(x, "2100 7001 5209", Check.NONE);
        x.round();
        x.round();
        judge(x, "7000 1000 7001 5001", Check.NONE);
        judge(x, "1000 1100 5101 7001", Check.NONE);
        x.add(0);
        x.step(0);
        Check.due(25, "choice(0, 1, 0)", x.choice(0, 1, 0), 0);
        // When router 0 loses its second route, router 1 does not hear of it any more.
        judge(x, "1100 5100", Check.NONE);
        judge(x, "4000 1100 5101", Check.NONE);
        // When it is extended again, it has none until its next step.
        judge(x, "4000 4000 1100 5101", Check.NONE);
        Check.due(25, "choice(0, 1, 0)", x.choice(0, 1, 0), 0);
        HiddenExits five = Check.domain("D5l341c34e4010");
        judge(five, "7001 5409 5309", Check.NONE);
        judge(five, "1400 7001 5400 5309", Check.NONE);
    }

    private static void judgeErrors() {
        HiddenExits x = Check.domain(STAR);
        Check.due(25, "judge(0, 0)", x.judge(0, 0), Check.OUTSIDE);
        Check.due(25, "judge(-1, 0)", x.judge(-1, 0), Check.OUTSIDE);
        Check.due(25, "judge(5, 0)", x.judge(5, 0), Check.OUTSIDE);
        Check.due(25, "judge(1, -1)", x.judge(1, -1), Check.OUTSIDE);
        Check.due(25, "judge(1, 9999)", x.judge(1, 9999), 0);
        Check.due(25, "judge(1, 10000)", x.judge(1, 10000), Check.OUTSIDE);
        Check.due(25, "judge(2, 99999999)", x.judge(2, 99999999L), 0);
        Check.due(25, "judge(2, 100000000)", x.judge(2, 100000000L), Check.OUTSIDE);
        Check.due(25, "judge(3, 999999999999)", x.judge(3, 999999999999L), 0);
        Check.due(25, "judge(3, 1000000000000)", x.judge(3, 1000000000000L), Check.OUTSIDE);
        Check.due(25, "judge(4, 9999999999999999)", x.judge(4, 9999999999999999L), 0);
        Check.due(25, "judge(4, 10000000000000000)", x.judge(4, 10000000000000000L), Check.OUTSIDE);
        Check.due(25, "judge(4, max)", x.judge(4, Long.MAX_VALUE), Check.OUTSIDE);
        Check.due(25, "judge(4, min)", x.judge(4, Long.MIN_VALUE), Check.OUTSIDE);
        Check.due(25, "judge(2, 5009), the first statement is 0000", x.judge(2, 5009), 0);
    }
}
