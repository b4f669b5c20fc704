/** Promises 19 and 20: plan, planned. */
public final class PlanTest {
    public static void main(String[] args) {
        Checks c = new Checks();
        noPlan(c);
        fewestLogs(c);
        leastLogs(c);
        inOrder(c);
        withCuts(c);
        changesNothing(c);
        latestTold(c);
        c.finish();
    }

    private static void duePlan(Checks c, String name, int want, int... logs) {
        c.due(name + ": plan()", c.desk.plan(), want);
        for (int d = 0; d < logs.length; d++) {
            c.due(name + ": planned(" + d + ")", c.desk.planned(d), logs[d]);
        }
    }

    private static void noPlan(Checks c) {
        VeneerDesk x = c.part("no PLAN");
        duePlan(c, "no DOORS", -1, -1, -1);
        c.door(5, 10, 10, 0, "0");
        duePlan(c, "no LOGS", -2, -1, -1, -1, -1, -1, -1);
        x.log(1, 1, 10, 10, 0);
        duePlan(c, "one DOOR", 1, -1, -1, -1, -1, -1, 1, -1, -1);
        c.door(6, 10, 10, 0, "0");
        duePlan(c, "two DOORS, room for one", -2, -1, -1, -1, -1, -1, 1, -1, -1);
        c.door(0, 10, 10, 0, "0");
        duePlan(c, "three DOORS", -2);
        c.door(7, 1, 1, 0, "0");
        duePlan(c, "four DOORS", -1);
        for (int d = 1; d < 5; d++) {
            c.door(d, 1, 1, 0, "0");
        }
        duePlan(c, "eight DOORS", -1);
        c.due("planned(5) stays", x.planned(5), 1);
        for (int d : new int[] {-1, 8, Integer.MIN_VALUE, Integer.MAX_VALUE}) {
            c.due("planned(" + d + ")", x.planned(d), -1);
        }
    }

    private static void fewestLogs(Checks c) {
        VeneerDesk x = c.part("the fewest LOGS");
        x.log(0, 1, 20, 10, 0);
        x.log(1, 1, 10, 10, 0);
        x.log(2, 1, 30, 10, 0);
        c.door(0, 10, 10, 0, "0");
        duePlan(c, "one DOOR", 1, 0, -1);
        c.door(1, 10, 10, 0, "0");
        duePlan(c, "two DOORS, in LOG 0", 1, 0, 0, -1);
        c.door(2, 10, 10, 0, "0");
        duePlan(c, "three DOORS, in LOG 2 alone", 1, 2, 2, 2);
        x.log(2, 1, 20, 10, 0);
        duePlan(c, "three DOORS, two LOGS", 2, 0, 0, 1);
        x.log(2, 1, 10, 10, 0);
        x.log(0, 1, 10, 10, 0);
        duePlan(c, "three DOORS, three LOGS", 3, 0, 1, 2);
        c.door(1, 10, 11, 0, "0");
        duePlan(c, "one that is too high", -2, 0, 1, 2);
        c.door(1, 5, 10, 0, "0");
        c.door(2, 5, 10, 0, "0");
        duePlan(c, "three DOORS, two LOGS again", 2, 0, 1, 1);
    }

    private static void leastLogs(Checks c) {
        VeneerDesk x = c.part("the least LOG at the first DOOR");
        x.log(1, 1, 20, 10, 0);
        x.log(2, 1, 20, 10, 0);
        c.door(2, 10, 10, 0, "0");
        c.door(4, 10, 10, 0, "0");
        duePlan(c, "LOG 1 for both", 1, -1, -1, 1, -1, 1);
        c.door(7, 10, 10, 0, "0");
        duePlan(c, "the last in LOG 2", 2, -1, -1, 1, -1, 1, -1, -1, 2);
        x.log(1, 1, 10, 10, 0);
        duePlan(c, "the first in LOG 1", 2, -1, -1, 1, -1, 2, -1, -1, 2);
        x.log(0, 1, 10, 10, 0);
        duePlan(c, "the first in LOG 0", 2, -1, -1, 0, -1, 2, -1, -1, 2);
        c.door(2, 10, 20, 0, "0");
        duePlan(c, "the first needs LOG 2, the others differ", 3, -1, -1, 2, -1, 0, -1, -1, 1);
        c.door(7, 3, 3, 0, "0|0");
        c.door(4, 3, 3, 0, "0|0");
        duePlan(c, "both of them in LOG 0", 2, -1, -1, 2, -1, 0, -1, -1, 0);
        x.flaw(0, 0, 3, 0, 7, 10);
        duePlan(c, "LOG 0 has room for one", 2, -1, -1, 2, -1, 1, -1, -1, 1);
    }

    private static void inOrder(Checks c) {
        VeneerDesk x = c.part("placed in order");
        x.log(0, 1, 10, 10, 0);
        x.flaw(0, 0, 7, 0, 1, 10);
        c.door(0, 2, 10, 0, "0");
        c.door(1, 7, 10, 0, "0");
        duePlan(c, "the narrow one first takes the wide one's room", -2, -1, -1);
        c.door(2, 2, 10, 0, "0");
        c.due("make(0, 0)", x.make(0, 0), 1);
        c.due("free(0)", x.free(0), true);
        c.door(0, 7, 10, 0, "0");
        c.door(1, 2, 10, 0, "0");
        x.log(1, 1, 10, 10, 0);
        duePlan(c, "the wide one first", 2, 0, 0, 1);
        x.log(2, 2, 10, 10, 0);
        duePlan(c, "LOG 2 has room for all", 1, 2, 2, 2);
    }

    private static void withCuts(Checks c) {
        VeneerDesk x = c.part("with the CUTS that were made");
        x.log(0, 2, 20, 10, 0);
        x.log(1, 1, 20, 10, 0);
        c.door(0, 10, 20, 0, "0");
        c.door(1, 10, 20, 0, "0");
        duePlan(c, "both in LOG 0", 1, 0, 0);
        c.due("make(1, 0)", x.make(1, 0), 1);
        duePlan(c, "DOOR 1 is made", 1, 0, -1);
        c.door(2, 10, 20, 0, "0");
        duePlan(c, "one in each LOG", 2, 0, -1, 1);
        c.due("make(0, 0)", x.make(0, 0), 1);
        duePlan(c, "DOOR 2 alone", 1, -1, -1, 1);
        c.due("make(2, 1)", x.make(2, 1), 1);
        duePlan(c, "all are made", -1, -1, -1, 1);
        c.due("free(1)", x.free(1), true);
        duePlan(c, "DOOR 1 alone", 1, -1, 0, -1);
        c.due("a DOOR told anew: its CUT stays lost", c.door(0, 10, 20, 0, "0"), 1);
        duePlan(c, "DOORS 0 and 1, room for one", -2, -1, 0, -1);
        x.log(1, 1, 20, 10, 0);
        duePlan(c, "DOORS 0 to 2, a new LOG", -2, -1, 0, -1);
        x.log(0, 3, 20, 10, 0);
        duePlan(c, "DOORS 0 to 2, in LOG 0", 1, 0, 0, 0);
    }

    private static void changesNothing(Checks c) {
        VeneerDesk x = c.part("a PLAN changes nothing");
        x.log(0, 2, 30, 20, 0);
        x.log(2, 2, 30, 20, 0);
        c.door(0, 6, 5, 0, "(0|1)/(1|0)");
        c.door(1, 6, 5, 0, "0|0");
        c.door(2, 6, 5, 0, "1");
        c.door(3, 3, 5, 0, "1");
        c.due("make(3, 0)", x.make(3, 0), 1);
        duePlan(c, "three", 1, 0, 0, 0);
        for (int i = 0; i < 2; i++) {
            c.due("CUTS of LOG 0, LEAF " + i, x.leaf(0, i, 3), i);
            c.due("CUTS of LOG 2, LEAF " + i, x.leaf(2, i, 3), 0);
        }
        for (int d = 0; d < 3; d++) {
            for (int what = 6; what < 10; what++) {
                c.due("of(" + d + ", " + what + ")", x.of(d, what), -1);
            }
            c.due("free(" + d + ")", x.free(d), false);
        }
        c.duePlace("DOOR 0", 0, 0, 0, 0, 3);
        c.duePlace("DOOR 1", 1, 0, 0, 0, 0);
        c.due("DOOR 3 stays made", x.of(3, 6), 0);
        duePlan(c, "again", 1, 0, 0, 0, -1);
    }

    private static void latestTold(Checks c) {
        VeneerDesk x = c.part("the latest PLAN that was told");
        x.log(1, 2, 20, 10, 0);
        c.door(0, 10, 20, 0, "0");
        c.door(1, 10, 20, 0, "0");
        c.due("ahead of any", x.planned(0), -1);
        duePlan(c, "two", 1, 1, 1, -1);
        c.due("make(0, 1)", x.make(0, 1), 1);
        c.due("planned(0) once it is made", x.planned(0), 1);
        c.door(1, 10, 20, 0, "1");
        c.due("planned(1) once it is told anew", x.planned(1), 1);
        x.log(1, 1, 20, 10, 0);
        c.due("planned(1) once the LOG is a new one", x.planned(1), 1);
        duePlan(c, "none then", -2, 1, 1);
        x.log(0, 2, 20, 10, 0);
        c.due("make(0, 1)", x.make(0, 1), 1);
        duePlan(c, "one then", 1, -1, 0);
    }
}
