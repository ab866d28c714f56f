/** Promises 1 to 7: a new object, and the acts on runners, lamps, settings and turns. */
public final class RunnersAndLampsTest {
    private static final Check CHECK = new Check();

    public static void main(String[] args) {
        newObject();
        come();
        comeErrors();
        head();
        headErrors();
        light();
        setLamp();
        setLampErrors();
        set();
        passSteps();
        passTags();
        passRespite();
        passLampsAndPlatform();
        passLimits();
        actsRecord();
        CHECK.end("RunnersAndLampsTest");
    }

    private static void newObject() {
        CHECK.about("promise 1");
        ShadowTag tag = new ShadowTag();
        int[] counts = {0, 0, -5, 3, 0, 0, 0, 0, 0, 0, 3, 0, 0, 0};
        for (int what = 0; what < counts.length; what++) {
            CHECK.due("count(" + what + ")", tag.count(what), counts[what]);
        }
        for (int lamp = 0; lamp < 3; lamp++) {
            CHECK.due("side", tag.lamp(lamp, 0), lamp);
            CHECK.due("reach", tag.lamp(lamp, 1), 1);
            CHECK.due("swing", tag.lamp(lamp, 2), 0);
            CHECK.due("on", tag.lamp(lamp, 3), 1);
        }
        for (int cell = 0; cell < 100; cell++) {
            CHECK.due("at(" + cell + ")", tag.at(cell), ShadowTag.NONE);
        }
        CHECK.due("undo()", tag.undo(), ShadowTag.NONE);
        CHECK.due("restore()", tag.restore(), ShadowTag.NONE);
        CHECK.due("stopped(0)", tag.stopped(0), ShadowTag.NONE);
        CHECK.due("safest()", tag.safest(), ShadowTag.NONE);
        CHECK.due("clearText()", tag.clearText(), 0);
    }

    private static void come() {
        CHECK.about("promise 2");
        ShadowTag tag = new ShadowTag();
        int[] cells = {0, 99, 9, 90, 45, 1};
        int[] heights = {1, 5, 2, 3, 4, 1};
        for (int runner = 0; runner < 6; runner++) {
            CHECK.due("come", tag.come(cells[runner], heights[runner]), runner);
            CHECK.due("cell", tag.runner(runner, 0), cells[runner]);
            CHECK.due("height", tag.runner(runner, 1), heights[runner]);
            CHECK.due("direction", tag.runner(runner, 2), 4);
            for (int what = 3; what < 7; what++) {
                CHECK.due("account " + what, tag.runner(runner, what), 0);
            }
            CHECK.due("runners", tag.count(1), runner + 1);
            CHECK.due("catcher", tag.count(2), 0);
        }
    }

    private static void comeErrors() {
        CHECK.about("promise 2, errors");
        ShadowTag tag = new ShadowTag();
        CHECK.due("come(-1, 1)", tag.come(-1, 1), ShadowTag.UNKNOWN);
        CHECK.due("come(100, 1)", tag.come(100, 1), ShadowTag.UNKNOWN);
        CHECK.due("come(100, 0)", tag.come(100, 0), ShadowTag.UNKNOWN);
        CHECK.due("come(5, 0)", tag.come(5, 0), ShadowTag.BAD_VALUE);
        CHECK.due("come(5, 6)", tag.come(5, 6), ShadowTag.BAD_VALUE);
        CHECK.due("come(5, 2)", tag.come(5, 2), 0);
        CHECK.due("come(5, 6)", tag.come(5, 6), ShadowTag.BAD_VALUE);
        CHECK.due("come(5, 2)", tag.come(5, 2), ShadowTag.NOT_POSSIBLE);
        for (int cell = 6; cell < 11; cell++) {
            tag.come(cell, 1);
        }
        CHECK.due("come(10, 1)", tag.come(10, 1), ShadowTag.NOT_POSSIBLE);
        CHECK.due("come(11, 0)", tag.come(11, 0), ShadowTag.BAD_VALUE);
        CHECK.due("come(11, 1)", tag.come(11, 1), ShadowTag.FULL);
        CHECK.due("runners", tag.count(1), 6);
    }

    private static void head() {
        CHECK.about("promise 3");
        ShadowTag tag = new ShadowTag();
        tag.come(50, 1);
        tag.come(55, 1);
        CHECK.due("head(1, -1)", tag.head(1, -1), ShadowTag.NONE);
        CHECK.due("head(1, 3)", tag.head(1, 3), 4);
        CHECK.due("head(1, 3)", tag.head(1, 3), ShadowTag.NONE);
        CHECK.due("head(1, 0)", tag.head(1, 0), 3);
        CHECK.due("runner(1, 2)", tag.runner(1, 2), 0);
        CHECK.due("runner(0, 2)", tag.runner(0, 2), 4);
        CHECK.due("head(1, -1)", tag.head(1, -1), 0);
        CHECK.due("runner(1, 2)", tag.runner(1, 2), 4);
        CHECK.due("head(0, 2)", tag.head(0, 2), 4);
    }

    private static void headErrors() {
        CHECK.about("promise 3, errors");
        ShadowTag tag = new ShadowTag();
        CHECK.due("head(0, 1)", tag.head(0, 1), ShadowTag.UNKNOWN);
        tag.come(50, 1);
        CHECK.due("head(-1, 9)", tag.head(-1, 9), ShadowTag.UNKNOWN);
        CHECK.due("head(1, 9)", tag.head(1, 9), ShadowTag.UNKNOWN);
        CHECK.due("head(0, 4)", tag.head(0, 4), ShadowTag.BAD_VALUE);
        CHECK.due("head(0, -2)", tag.head(0, -2), ShadowTag.BAD_VALUE);
        CHECK.due("direction", tag.runner(0, 2), 4);
        CHECK.due("states", tag.count(12), 1);
    }

    private static void light() {
        CHECK.about("promise 4");
        ShadowTag tag = new ShadowTag();
        CHECK.due("light(-1, true)", tag.light(-1, true), ShadowTag.UNKNOWN);
        CHECK.due("light(3, false)", tag.light(3, false), ShadowTag.UNKNOWN);
        CHECK.due("light(0, true)", tag.light(0, true), ShadowTag.NONE);
        CHECK.due("light(1, false)", tag.light(1, false), 2);
        CHECK.due("lamp(1, 3)", tag.lamp(1, 3), 0);
        CHECK.due("light(1, false)", tag.light(1, false), ShadowTag.NONE);
        CHECK.due("light(0, false)", tag.light(0, false), 1);
        CHECK.due("light(2, false)", tag.light(2, false), 0);
        CHECK.due("count(3)", tag.count(3), 0);
        CHECK.due("light(2, true)", tag.light(2, true), 1);
        CHECK.due("lamp(2, 3)", tag.lamp(2, 3), 1);
    }

    private static void setLamp() {
        CHECK.about("promise 5");
        ShadowTag tag = new ShadowTag();
        CHECK.due("side", tag.setLamp(1, 0, 3), 1);
        CHECK.due("side", tag.setLamp(1, 0, 0), 3);
        CHECK.due("side", tag.setLamp(1, 0, 0), ShadowTag.NONE);
        CHECK.due("reach", tag.setLamp(1, 1, 4), 1);
        CHECK.due("reach", tag.setLamp(1, 1, 4), ShadowTag.NONE);
        CHECK.due("reach", tag.setLamp(1, 1, 1), 4);
        CHECK.due("swing", tag.setLamp(1, 2, 9), 0);
        CHECK.due("swing", tag.setLamp(1, 2, 0), 9);
        CHECK.due("swing", tag.setLamp(1, 2, 0), ShadowTag.NONE);
        CHECK.due("lamp(1, 0)", tag.lamp(1, 0), 0);
        CHECK.due("lamp(1, 1)", tag.lamp(1, 1), 1);
        CHECK.due("lamp(0, 0)", tag.lamp(0, 0), 0);
        CHECK.due("lamp(2, 0)", tag.lamp(2, 0), 2);
    }

    private static void setLampErrors() {
        CHECK.about("promise 5, errors");
        ShadowTag tag = new ShadowTag();
        CHECK.due("lamp -1", tag.setLamp(-1, 5, 5), ShadowTag.UNKNOWN);
        CHECK.due("lamp 3", tag.setLamp(3, 0, 0), ShadowTag.UNKNOWN);
        CHECK.due("which -1", tag.setLamp(0, -1, 1), ShadowTag.BAD_VALUE);
        CHECK.due("which 3", tag.setLamp(0, 3, 1), ShadowTag.BAD_VALUE);
        int[][] wrong = {{0, -1}, {0, 4}, {1, 0}, {1, 5}, {2, -1}, {2, 10}};
        for (int[] pair : wrong) {
            CHECK.due("value " + pair[1], tag.setLamp(2, pair[0], pair[1]), ShadowTag.BAD_VALUE);
        }
        CHECK.due("states", tag.count(12), 0);
    }

    private static void set() {
        CHECK.about("promise 6");
        ShadowTag tag = new ShadowTag();
        CHECK.due("set(-1, 10)", tag.set(-1, 10), ShadowTag.UNKNOWN);
        CHECK.due("set(2, 0)", tag.set(2, 0), ShadowTag.UNKNOWN);
        CHECK.due("set(0, -1)", tag.set(0, -1), ShadowTag.BAD_VALUE);
        CHECK.due("set(1, 10)", tag.set(1, 10), ShadowTag.BAD_VALUE);
        CHECK.due("set(0, 3)", tag.set(0, 3), ShadowTag.NONE);
        CHECK.due("set(1, 0)", tag.set(1, 0), ShadowTag.NONE);
        CHECK.due("set(0, 9)", tag.set(0, 9), 3);
        CHECK.due("set(0, 0)", tag.set(0, 0), 9);
        CHECK.due("set(1, 9)", tag.set(1, 9), 0);
        CHECK.due("count(10)", tag.count(10), 0);
        CHECK.due("count(11)", tag.count(11), 9);
    }

    private static void passSteps() {
        CHECK.about("promise 7, steps");
        ShadowTag tag = new ShadowTag();
        for (int lamp = 0; lamp < 3; lamp++) {
            tag.light(lamp, false);
        }
        tag.come(8, 1);
        tag.come(11, 1);
        tag.come(12, 1);
        tag.head(0, 1);
        tag.head(1, 1);
        tag.head(2, 1);
        // By their numbers: 1 is stopped by 2, who goes on behind it.
        CHECK.due("pass(1)", tag.pass(1), 0);
        CHECK.due("0 steps", tag.runner(0, 0), 9);
        CHECK.due("1 is stopped", tag.runner(1, 0), 11);
        CHECK.due("2 steps", tag.runner(2, 0), 13);
        CHECK.due("steps", tag.count(7), 2);
        CHECK.due("stops", tag.count(8), 1);
        CHECK.due("pass(1)", tag.pass(1), 0);
        CHECK.due("0 is stopped by the edge", tag.runner(0, 0), 9);
        CHECK.due("1 steps", tag.runner(1, 0), 12);
        CHECK.due("steps", tag.count(7), 4);
        CHECK.due("stops", tag.count(8), 2);
        for (int direction = 0; direction < 4; direction++) {
            ShadowTag alone = new ShadowTag();
            alone.come(direction == 3 ? 94 : 34, 1);
            alone.head(0, direction);
            alone.pass(direction == 1 ? 5 : 3);
            alone.pass(direction == 3 ? 3 : 9);
            int end = direction == 0 ? 4 : direction == 1 ? 39 : direction == 2 ? 94 : 90;
            CHECK.due("way " + direction, alone.runner(0, 0), end);
        }
        CHECK.due("account of the catcher", tag.runner(0, 6), 0);
        CHECK.due("account", tag.runner(1, 6), 2);
    }

    private static void passTags() {
        CHECK.about("promise 7, tags");
        ShadowTag tag = new ShadowTag();
        // The catcher stands in the shadows of 1 and 2; the lower one is tagged.
        tag.come(55, 2);
        tag.come(45, 1);
        tag.come(56, 1);
        CHECK.due("pass(1)", tag.pass(1), 1);
        CHECK.due("catcher", tag.count(2), 1);
        CHECK.due("tagged", tag.runner(1, 4), 1);
        CHECK.due("tagging", tag.runner(0, 5), 1);
        CHECK.due("tagged", tag.runner(0, 4), 0);
        CHECK.due("tags", tag.count(6), 1);
        CHECK.due("respite", tag.runner(0, 3), 3);
        CHECK.due("account of the new catcher", tag.runner(1, 6), 0);
        CHECK.due("account of the old one", tag.runner(0, 6), 1);
        CHECK.due("account of another", tag.runner(2, 6), 1);
    }

    private static void passRespite() {
        CHECK.about("promise 7, respite");
        for (int respite = 0; respite < 10; respite++) {
            ShadowTag tag = new ShadowTag();
            tag.set(0, respite);
            tag.come(55, 2);
            tag.come(45, 1);
            tag.light(1, false);
            CHECK.due("pass(1)", tag.pass(1), 1);
            CHECK.due("respite", tag.runner(0, 3), respite);
            // He may be tagged in the turn before which his respite is 0.
            tag.head(1, 2);
            tag.setLamp(0, 0, 2);
            for (int turn = 0; turn < respite; turn++) {
                CHECK.due("in respite", tag.pass(1), 0);
            }
            CHECK.due("after it", tag.pass(1), 1);
        }
    }

    private static void passLampsAndPlatform() {
        CHECK.about("promise 7, lamps and platform");
        ShadowTag tag = new ShadowTag();
        tag.setLamp(0, 2, 2);
        tag.setLamp(1, 2, 3);
        tag.light(1, false);
        tag.set(1, 4);
        tag.come(12, 1);
        tag.come(99, 5);
        tag.head(1, 1);
        int[] sidesOfLamp0 = {0, 1, 1, 2, 2, 3, 3, 0};
        int[] sidesOfLamp1 = {1, 1, 2, 2, 2, 3, 3, 3};
        for (int turn = 0; turn < 8; turn++) {
            tag.pass(1);
            CHECK.due("turn", tag.count(0), turn + 1);
            CHECK.due("lamp 0 in " + turn, tag.lamp(0, 0), sidesOfLamp0[turn]);
            CHECK.due("lamp 1 in " + turn, tag.lamp(1, 0), sidesOfLamp1[turn]);
            CHECK.due("lamp 2 in " + turn, tag.lamp(2, 0), 2);
            CHECK.due("turned", tag.count(9), (turn + 1) / 4);
            // Row 1, column 2 comes to row 2, column 8, and that to row 8, column 7.
            CHECK.due("cell", tag.runner(0, 0), turn < 3 ? 12 : turn < 7 ? 28 : 87);
            CHECK.due("no direction", tag.runner(0, 2), 4);
            CHECK.due("direction", tag.runner(1, 2), turn < 3 ? 1 : turn < 7 ? 2 : 3);
        }
    }

    private static void passLimits() {
        CHECK.about("promise 7, limits");
        ShadowTag tag = new ShadowTag();
        CHECK.due("pass(0)", tag.pass(0), ShadowTag.BAD_VALUE);
        CHECK.due("pass(-1)", tag.pass(-1), ShadowTag.BAD_VALUE);
        CHECK.due("pass(100)", tag.pass(100), ShadowTag.BAD_VALUE);
        CHECK.due("pass(99)", tag.pass(99), 0);
        // Fifteen times 99 turns in one text bring the turn close to its last number.
        String text = ".99;.99;.99;.99;.99;.99;.99;.99;.99;.99;.99;.99;.99;.99;.99";
        Check.write(tag, text);
        for (int time = 1; time <= 67; time++) {
            CHECK.due("perform()", tag.perform(), 15);
            CHECK.due("turn", tag.count(0), 99 + 1485 * time);
        }
        CHECK.due("perform()", tag.perform(), ShadowTag.NOT_POSSIBLE);
        CHECK.due("stopped(0)", tag.stopped(0), 4);
        CHECK.due("stopped(1)", tag.stopped(1), ShadowTag.FULL);
        for (int time = 0; time < 4; time++) {
            CHECK.due("pass(99)", tag.pass(99), 0);
        }
        CHECK.due("turn", tag.count(0), 99990);
        CHECK.due("pass(10)", tag.pass(10), ShadowTag.FULL);
        CHECK.due("pass(100)", tag.pass(100), ShadowTag.BAD_VALUE);
        CHECK.due("pass(9)", tag.pass(9), 0);
        CHECK.due("turn", tag.count(0), 99999);
        CHECK.due("pass(1)", tag.pass(1), ShadowTag.FULL);
        CHECK.due("ifTurns(1, 0)", tag.ifTurns(1, 0), 0);
        CHECK.due("undo()", tag.undo(), 3);
        CHECK.due("turn", tag.count(0), 99990);
    }

    private static void actsRecord() {
        CHECK.about("promises 2 to 7, history");
        ShadowTag tag = new ShadowTag();
        tag.come(5, 1);
        CHECK.due("come", tag.count(12), 1);
        tag.head(0, 1);
        CHECK.due("head", tag.count(12), 2);
        tag.light(0, false);
        CHECK.due("light", tag.count(12), 3);
        tag.setLamp(0, 1, 2);
        CHECK.due("setLamp", tag.count(12), 4);
        tag.undo();
        tag.undo();
        tag.set(0, 1);
        CHECK.due("set", tag.count(12), 3);
        tag.pass(1);
        CHECK.due("pass", tag.count(12), 4);
        tag.undo();
        tag.come(5, 1);
        tag.head(0, 1);
        tag.light(0, true);
        tag.setLamp(0, 1, 1);
        tag.set(0, 1);
        tag.pass(0);
        CHECK.due("errors and NONE do not", tag.count(12), 3);
    }
}
