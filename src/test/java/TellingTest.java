/** Promises 15 to 25: what is told of runners, lamps, shadows, cells, the catcher and turns. */
public final class TellingTest {
    private static final Check CHECK = new Check();

    public static void main(String[] args) {
        runner();
        runnerShadows();
        lamp();
        shadowByDirections();
        shadowEnds();
        shadowErrors();
        darknessAndLooked();
        at();
        reason();
        stepsTo();
        stepsToAround();
        stepsToNoWay();
        safest();
        ifTurns();
        count();
        tellingChangesNothing();
        CHECK.end("TellingTest");
    }

    private static ShadowTag with(int... cellsAndHeights) {
        ShadowTag tag = new ShadowTag();
        for (int place = 0; place + 1 < cellsAndHeights.length; place += 2) {
            tag.come(cellsAndHeights[place], cellsAndHeights[place + 1]);
        }
        return tag;
    }

    private static void runner() {
        CHECK.about("promise 15");
        ShadowTag tag = with(55, 2, 25, 3);
        CHECK.due("runner(-1, 9)", tag.runner(-1, 9), ShadowTag.UNKNOWN);
        CHECK.due("runner(2, 0)", tag.runner(2, 0), ShadowTag.UNKNOWN);
        CHECK.due("runner(0, -1)", tag.runner(0, -1), ShadowTag.BAD_VALUE);
        CHECK.due("runner(1, 8)", tag.runner(1, 8), ShadowTag.BAD_VALUE);
        tag.head(1, 3);
        tag.light(0, false);
        tag.pass(2);
        int[] due = {23, 3, 3, 0, 0, 0, 2, 5};
        for (int what = 0; what < due.length; what++) {
            CHECK.due("runner(1, " + what + ")", tag.runner(1, what), due[what]);
        }
        CHECK.due("no direction", tag.runner(0, 2), 4);
    }

    private static void runnerShadows() {
        CHECK.about("promise 15, cells of shadows");
        ShadowTag tag = with(55, 3);
        CHECK.due("three ways", tag.runner(0, 7), 9);
        tag.setLamp(1, 0, 0);
        CHECK.due("two lamps at one side", tag.runner(0, 7), 6);
        tag.setLamp(1, 1, 4);
        CHECK.due("the farther one", tag.runner(0, 7), 7);
        tag.light(1, false);
        CHECK.due("off", tag.runner(0, 7), 6);
        tag.light(0, false);
        tag.light(2, false);
        CHECK.due("none", tag.runner(0, 7), 0);
    }

    private static void lamp() {
        CHECK.about("promise 16");
        ShadowTag tag = with(55, 2, 35, 5, 39, 3);
        CHECK.due("lamp(-1, 9)", tag.lamp(-1, 9), ShadowTag.UNKNOWN);
        CHECK.due("lamp(3, 0)", tag.lamp(3, 0), ShadowTag.UNKNOWN);
        CHECK.due("lamp(0, -1)", tag.lamp(0, -1), ShadowTag.BAD_VALUE);
        CHECK.due("lamp(2, 5)", tag.lamp(2, 5), ShadowTag.BAD_VALUE);
        // Below: 75 behind 55 as 65, 55 behind 35 as 45, and 49, 59, 69.
        CHECK.due("lamp(0, 4)", tag.lamp(0, 4), 7);
        // To the left: 54, 53, then 34 to 30, then 38, 37, 36.
        CHECK.due("lamp(1, 4)", tag.lamp(1, 4), 10);
        tag.setLamp(1, 1, 4);
        CHECK.due("lamp(1, 4)", tag.lamp(1, 4), 14);
        tag.light(1, false);
        CHECK.due("off", tag.lamp(1, 4), 0);
        CHECK.due("off", tag.lamp(1, 3), 0);
        CHECK.due("reach", tag.lamp(1, 1), 4);
        tag.setLamp(2, 2, 7);
        tag.setLamp(2, 0, 3);
        CHECK.due("side", tag.lamp(2, 0), 3);
        CHECK.due("swing", tag.lamp(2, 2), 7);
        CHECK.due("on", tag.lamp(2, 3), 1);
        CHECK.due("nobody", new ShadowTag().lamp(0, 4), 0);
    }

    private static void shadowByDirections() {
        CHECK.about("promise 17");
        int[] last = {75, 53, 35, 57};
        for (int side = 0; side < 4; side++) {
            ShadowTag tag = with(55, 2);
            tag.setLamp(0, 0, side);
            CHECK.due("cells", tag.shadow(0, 0, 0), 2);
            CHECK.due("last", tag.shadow(0, 0, 1), last[side]);
            CHECK.due("nobody", tag.shadow(0, 0, 2), ShadowTag.NONE);
        }
        int[] toEdge = {5, 3, 4, 6};
        int[] lastAtEdge = {93, 40, 3, 49};
        for (int side = 0; side < 4; side++) {
            ShadowTag tag = with(43, 5);
            tag.setLamp(2, 0, side);
            tag.setLamp(2, 1, 4);
            CHECK.due("to the edge", tag.shadow(0, 2, 0), toEdge[side]);
            CHECK.due("last", tag.shadow(0, 2, 1), lastAtEdge[side]);
        }
    }

    private static void shadowEnds() {
        CHECK.about("promise 17, ends");
        ShadowTag tag = with(5, 2, 25, 1, 95, 1, 6, 1);
        CHECK.due("cells", tag.shadow(0, 0, 0), 2);
        CHECK.due("exactly at a runner", tag.shadow(0, 0, 2), 1);
        tag.setLamp(0, 1, 4);
        CHECK.due("no farther", tag.shadow(0, 0, 1), 25);
        CHECK.due("before a runner", tag.shadow(1, 0, 2), ShadowTag.NONE);
        CHECK.due("last", tag.shadow(1, 0, 1), 65);
        CHECK.due("at the edge", tag.shadow(2, 0, 0), 0);
        CHECK.due("at the edge", tag.shadow(2, 0, 1), ShadowTag.NONE);
        CHECK.due("at the edge", tag.shadow(2, 0, 2), ShadowTag.NONE);
        CHECK.due("next to a runner", tag.shadow(3, 1, 0), 1);
        CHECK.due("next to a runner", tag.shadow(3, 1, 2), 0);
        CHECK.due("not behind the row", tag.shadow(3, 2, 0), 0);
        tag.light(0, false);
        CHECK.due("off", tag.shadow(0, 0, 0), 0);
        CHECK.due("off", tag.shadow(0, 0, 1), ShadowTag.NONE);
        CHECK.due("off", tag.shadow(0, 0, 2), ShadowTag.NONE);
    }

    private static void shadowErrors() {
        CHECK.about("promise 17, errors");
        ShadowTag tag = with(5, 2);
        CHECK.due("shadow(1, 0, 9)", tag.shadow(1, 0, 9), ShadowTag.UNKNOWN);
        CHECK.due("shadow(-1, 0, 0)", tag.shadow(-1, 0, 0), ShadowTag.UNKNOWN);
        CHECK.due("shadow(0, 3, 9)", tag.shadow(0, 3, 9), ShadowTag.UNKNOWN);
        CHECK.due("shadow(0, -1, 0)", tag.shadow(0, -1, 0), ShadowTag.UNKNOWN);
        CHECK.due("shadow(0, 2, 3)", tag.shadow(0, 2, 3), ShadowTag.BAD_VALUE);
        CHECK.due("shadow(0, 2, -1)", tag.shadow(0, 2, -1), ShadowTag.BAD_VALUE);
        CHECK.due("shadow(0, 2, 1)", tag.shadow(0, 2, 1), ShadowTag.NONE);
    }

    private static void darknessAndLooked() {
        CHECK.about("promises 18 and 19");
        ShadowTag tag = with(55, 2, 25, 3, 57, 2, 75, 1);
        int[][] due = {{55, 2}, {25, 0}, {35, 2}, {45, 2}, {65, 2}, {75, 1}, {56, 1}, {54, 1}, {53, 1}, {52, 0},
            {15, 1}, {24, 1}, {85, 1}, {95, 0}, {77, 1}, {37, 1}, {0, 0}, {99, 0}};
        for (int[] row : due) {
            CHECK.due("darkness(" + row[0] + ")", tag.darkness(row[0]), row[1]);
            CHECK.due("looked(" + row[0] + ")", tag.looked(row[0]), row[1]);
        }
        tag.setLamp(1, 0, 0);
        CHECK.due("two lamps at one side", tag.darkness(35), 3);
        CHECK.due("two lamps at one side", tag.looked(35), 3);
        tag.light(0, false);
        CHECK.due("off", tag.darkness(35), 2);
        CHECK.due("off", tag.looked(35), 2);
        int[] wrong = {-1, 100};
        for (int cell : wrong) {
            CHECK.due("darkness", tag.darkness(cell), ShadowTag.UNKNOWN);
            CHECK.due("looked", tag.looked(cell), ShadowTag.UNKNOWN);
        }
    }

    private static void at() {
        CHECK.about("promise 20");
        ShadowTag tag = with(0, 1, 99, 1);
        CHECK.due("at(0)", tag.at(0), 0);
        CHECK.due("at(99)", tag.at(99), 1);
        CHECK.due("at(50)", tag.at(50), ShadowTag.NONE);
        CHECK.due("at(-1)", tag.at(-1), ShadowTag.UNKNOWN);
        CHECK.due("at(100)", tag.at(100), ShadowTag.UNKNOWN);
    }

    private static void reason() {
        CHECK.about("promise 21");
        ShadowTag tag = with(55, 2, 45, 1, 56, 1, 98, 1);
        CHECK.due("reason(-1)", tag.reason(-1), ShadowTag.UNKNOWN);
        CHECK.due("reason(4)", tag.reason(4), ShadowTag.UNKNOWN);
        CHECK.due("the catcher", tag.reason(0), 1);
        CHECK.due("he would", tag.reason(1), 0);
        CHECK.due("a lower one", tag.reason(2), 5);
        CHECK.due("not in his shadow", tag.reason(3), 4);
        tag.light(0, false);
        CHECK.due("he would now", tag.reason(2), 0);
        CHECK.due("not in it", tag.reason(1), 4);
        tag.light(0, true);
        tag.pass(1);
        CHECK.due("respite", tag.reason(0), 3);
        CHECK.due("the catcher now", tag.reason(1), 1);
        for (int lamp = 0; lamp < 3; lamp++) {
            tag.light(lamp, false);
        }
        CHECK.due("no shadow before respite", tag.reason(0), 2);
        CHECK.due("the catcher before no shadow", tag.reason(1), 1);
        CHECK.due("no shadow", tag.reason(3), 2);
    }

    private static void stepsTo() {
        CHECK.about("promise 22");
        CHECK.due("nobody", new ShadowTag().stepsTo(0), ShadowTag.UNKNOWN);
        ShadowTag tag = with(55, 2, 45, 1, 99, 2, 90, 2, 95, 1);
        CHECK.due("stepsTo(-1)", tag.stepsTo(-1), ShadowTag.UNKNOWN);
        CHECK.due("stepsTo(5)", tag.stepsTo(5), ShadowTag.UNKNOWN);
        CHECK.due("the catcher", tag.stepsTo(0), ShadowTag.NOT_POSSIBLE);
        CHECK.due("in it", tag.stepsTo(1), 0);
        // The shadows of 99 are 98, 97 and 89, 79.
        CHECK.due("to 79, 97", tag.stepsTo(2), 6);
        // Those of 90 are 80 and 70.
        CHECK.due("to 70", tag.stepsTo(3), 7);
        tag.pass(1);
        CHECK.due("respite", tag.stepsTo(0), ShadowTag.NOT_POSSIBLE);
        for (int lamp = 0; lamp < 3; lamp++) {
            tag.light(lamp, false);
        }
        CHECK.due("no shadow", tag.stepsTo(2), ShadowTag.NOT_POSSIBLE);
    }

    private static void stepsToAround() {
        CHECK.about("promise 22, around");
        // The shadow of 1 lies at 34 to 30, behind the runners at 44 and 24 and the one himself.
        ShadowTag tag = with(37, 1, 35, 1);
        tag.light(0, false);
        tag.light(2, false);
        CHECK.due("around the runner himself", tag.stepsTo(1), 5);
        tag.come(44, 1);
        CHECK.due("on the other side", tag.stepsTo(1), 5);
        tag.come(24, 1);
        CHECK.due("farther around both", tag.stepsTo(1), 9);
        tag.come(33, 1);
        CHECK.due("no way", tag.stepsTo(1), ShadowTag.NONE);
    }

    private static void stepsToNoWay() {
        CHECK.about("promise 22, no way");
        ShadowTag corner = with(0, 1, 1, 1, 10, 1, 55, 1);
        CHECK.due("shut in", corner.stepsTo(3), ShadowTag.NONE);
        CHECK.due("in it", corner.stepsTo(1), 0);
        // The only cell of the shadow of 1 is that of another runner.
        ShadowTag taken = with(99, 1, 1, 1, 0, 1);
        taken.light(0, false);
        CHECK.due("taken", taken.stepsTo(1), ShadowTag.NONE);
        ShadowTag far = with(99, 1, 1, 1);
        far.light(0, false);
        CHECK.due("all the way", far.stepsTo(1), 18);
    }

    private static void safest() {
        CHECK.about("promise 23");
        ShadowTag tag = with(55, 2);
        CHECK.due("one runner", tag.safest(), ShadowTag.NONE);
        tag.come(45, 1);
        CHECK.due("two", tag.safest(), 1);
        tag.come(99, 2);
        CHECK.due("the farther one", tag.safest(), 2);
        tag.come(90, 2);
        CHECK.due("farther yet", tag.safest(), 3);
        tag.pass(1);
        CHECK.due("no steps are told for 0", tag.safest(), 0);
        for (int lamp = 0; lamp < 3; lamp++) {
            tag.light(lamp, false);
        }
        CHECK.due("no steps are told, the lowest", tag.safest(), 0);
        CHECK.due("of as many steps the lowest", with(0, 1, 59, 1, 95, 1).safest(), 1);
        ShadowTag corner = with(0, 1, 1, 1, 55, 1, 10, 1);
        CHECK.due("no way", corner.safest(), 2);
        ShadowTag equal = with(45, 1, 27, 1, 23, 1, 63, 1);
        CHECK.due("steps", equal.stepsTo(1), equal.stepsTo(2));
        CHECK.due("of those", equal.safest(), 1);
    }

    private static void ifTurns() {
        CHECK.about("promise 24");
        ShadowTag tag = new ShadowTag();
        CHECK.due("ifTurns(0, 0)", tag.ifTurns(0, 0), ShadowTag.BAD_VALUE);
        CHECK.due("ifTurns(100, 0)", tag.ifTurns(100, 0), ShadowTag.BAD_VALUE);
        CHECK.due("ifTurns(1, -1)", tag.ifTurns(1, -1), ShadowTag.BAD_VALUE);
        CHECK.due("ifTurns(1, 3)", tag.ifTurns(1, 3), ShadowTag.BAD_VALUE);
        CHECK.due("nobody", tag.ifTurns(99, 0), 0);
        CHECK.due("nobody", tag.ifTurns(99, 1), ShadowTag.NONE);
        CHECK.due("nobody", tag.ifTurns(99, 2), ShadowTag.NONE);
        tag.come(50, 1);
        tag.come(46, 1);
        tag.head(0, 1);
        tag.set(0, 9);
        // Going right, the catcher comes to 45, the shadow of 46 by the lamp at the right.
        CHECK.due("too soon", tag.ifTurns(4, 0), 0);
        CHECK.due("too soon", tag.ifTurns(4, 1), 0);
        CHECK.due("too soon", tag.ifTurns(4, 2), ShadowTag.NONE);
        tag.come(54, 2);
        tag.light(0, false);
        tag.light(2, false);
        CHECK.due("ifTurns(2, 0)", tag.ifTurns(2, 0), 1);
        CHECK.due("ifTurns(2, 1)", tag.ifTurns(2, 1), 2);
        CHECK.due("ifTurns(2, 2)", tag.ifTurns(2, 2), 2);
        CHECK.due("ifTurns(99, 2)", tag.ifTurns(99, 2), 2);
        CHECK.due("turn", tag.count(0), 0);
        CHECK.due("cell", tag.runner(0, 0), 50);
        CHECK.due("states", tag.count(12), 4);
        CHECK.due("as pass()", tag.pass(2), 1);
        CHECK.due("catcher", tag.count(2), 2);
    }

    private static void count() {
        CHECK.about("promise 25");
        ShadowTag tag = with(55, 2, 45, 1, 56, 1, 98, 1);
        CHECK.due("count(-1)", tag.count(-1), ShadowTag.BAD_VALUE);
        CHECK.due("count(14)", tag.count(14), ShadowTag.BAD_VALUE);
        // Dark are 65, 75, 54, 53, 45; 55, 44, 35; 66, 46, and 97, 88.
        CHECK.due("dark cells", tag.count(4), 12);
        tag.light(2, false);
        tag.light(1, false);
        CHECK.due("lamps", tag.count(3), 1);
        CHECK.due("dark cells", tag.count(4), 4);
        CHECK.due("without shadow", tag.count(5), 1);
        tag.setLamp(0, 0, 2);
        CHECK.due("without shadow", tag.count(5), 0);
        tag.setLamp(0, 0, 0);
        tag.head(3, 2);
        tag.set(1, 3);
        CHECK.due("pass(2)", tag.pass(2), 1);
        int[] due = {2, 4, 1, 1};
        for (int what = 0; what < due.length; what++) {
            CHECK.due("count(" + what + ")", tag.count(what), due[what]);
        }
        CHECK.due("without shadow", tag.count(5), 1);
        CHECK.due("tags", tag.count(6), 1);
        CHECK.due("steps", tag.count(7), 0);
        CHECK.due("stops", tag.count(8), 2);
        tag.pass(1);
        CHECK.due("turned", tag.count(9), 1);
        CHECK.due("setting 0", tag.count(10), 3);
        CHECK.due("setting 1", tag.count(11), 3);
        CHECK.due("states", tag.count(12), 4);
        tag.type('x');
        CHECK.due("text", tag.count(13), 1);
    }

    private static void tellingChangesNothing() {
        CHECK.about("promises 15 to 25, nothing changes");
        ShadowTag tag = with(55, 2, 45, 1, 99, 2);
        for (int time = 0; time < 2; time++) {
            CHECK.due("count(4)", tag.count(4), 12);
            CHECK.due("runner(0, 7)", tag.runner(0, 7), 5);
            CHECK.due("lamp(0, 4)", tag.lamp(0, 4), 3);
            CHECK.due("stepsTo(2)", tag.stepsTo(2), 6);
            CHECK.due("safest()", tag.safest(), 2);
            CHECK.due("ifTurns(9, 0)", tag.ifTurns(9, 0), 3);
            CHECK.due("count(6)", tag.count(6), 0);
            CHECK.due("count(12)", tag.count(12), 3);
        }
    }
}
