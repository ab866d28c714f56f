/** Boundary cases that the promises 1 to 7 name. */
final class ActBoundaries {
    private final Boundary doc;

    ActBoundaries(Boundary doc) {
        this.doc = doc;
    }

    void all() {
        promise1Empty();
        promise1ObjectsShareNothing();
        promise2Cell();
        promise2Height();
        promise2OrderOfChecks();
        promise2SomebodyStandsThere();
        promise2Full();
        promise3Runner();
        promise3Direction();
        promise3Already();
        promise4Lamp();
        promise4HowManyAreOn();
        promise5LampAndWhich();
        promise5Values();
        promise5Already();
        promise6Which();
        promise6Values();
        promise7Turns();
        promise7Tags();
        promise7LastTurn();
        promise7LastTurnOfAGame();
        promise7AccountsAtTheLastTurn();
    }

    private void promise1Empty() {
        doc.says("Promise 1", "Creates an empty platform.");
        ShadowTag tag = new ShadowTag();
        for (int cell = 0; cell < 100; cell++) {
            doc.due("at(" + cell + ")", tag.at(cell), ShadowTag.NONE);
            doc.due("darkness(" + cell + ")", tag.darkness(cell), 0);
            doc.due("looked(" + cell + ")", tag.looked(cell), 0);
        }
        int[] counts = {0, 0, ShadowTag.NONE, 3, 0, 0, 0, 0, 0, 0, 3, 0, 0, 0};
        for (int what = 0; what < 14; what++) {
            doc.due("count(" + what + ")", tag.count(what), counts[what]);
        }
        doc.due("runner(0, 0)", tag.runner(0, 0), ShadowTag.UNKNOWN);
        doc.due("head(0, 0)", tag.head(0, 0), ShadowTag.UNKNOWN);
        doc.due("shadow(0, 0, 0)", tag.shadow(0, 0, 0), ShadowTag.UNKNOWN);
        doc.due("reason(0)", tag.reason(0), ShadowTag.UNKNOWN);
        doc.due("stepsTo(0)", tag.stepsTo(0), ShadowTag.UNKNOWN);
        doc.due("safest()", tag.safest(), ShadowTag.NONE);
        doc.due("lamp(0, 4)", tag.lamp(0, 4), 0);
        doc.due("stopped(0)", tag.stopped(0), ShadowTag.NONE);
        doc.due("undo()", tag.undo(), ShadowTag.NONE);
        doc.due("restore()", tag.restore(), ShadowTag.NONE);
        doc.due("clearText()", tag.clearText(), 0);
        doc.due("perform()", tag.perform(), -100);
    }

    private void promise1ObjectsShareNothing() {
        doc.says("Promise 1", "Creates an empty platform.");
        ShadowTag before = new ShadowTag();
        ShadowTag busy = Play.with(55, 2, 45, 3);
        busy.setLamp(0, 1, 4);
        busy.setLamp(1, 2, 1);
        busy.light(2, false);
        busy.set(0, 9);
        busy.set(1, 1);
        busy.pass(9);
        busy.keep();
        Check.perform(busy, "d5n");
        ShadowTag after = new ShadowTag();
        String empty = "0 0 -5 3 0 0 0 0 0 0 3 0 0 0 1 0 1 0 1 1 0 1 0 2 1 0 1 0 0 -5 -5";
        doc.holds("made before another one was used", Play.told(before).equals(empty));
        doc.holds("made behind it", Play.told(after).equals(empty));
        doc.due("before.restore()", before.restore(), ShadowTag.NONE);
        doc.due("after.undo()", after.undo(), ShadowTag.NONE);
    }

    private void promise2Cell() {
        doc.says("Promise 2", "`cell`: 0 to 99", "UNKNOWN (cell)");
        for (int cell : Play.beside(0, 99)) {
            ShadowTag tag = new ShadowTag();
            doc.due("come(" + cell + ", 1)", tag.come(cell, 1), ShadowTag.UNKNOWN);
            doc.due("count(1)", tag.count(1), 0);
            doc.due("count(2)", tag.count(2), ShadowTag.NONE);
        }
        doc.due("come(0, 1)", new ShadowTag().come(0, 1), 0);
        doc.due("come(99, 1)", new ShadowTag().come(99, 1), 0);
    }

    private void promise2Height() {
        doc.says("Promise 2", "`height`: 1 to 5", "BAD_VALUE");
        for (int height : Play.beside(1, 5)) {
            ShadowTag tag = new ShadowTag();
            doc.due("come(5, " + height + ")", tag.come(5, height), ShadowTag.BAD_VALUE);
            doc.due("count(1)", tag.count(1), 0);
            doc.due("at(5)", tag.at(5), ShadowTag.NONE);
        }
        doc.due("come(5, 1)", new ShadowTag().come(5, 1), 0);
        doc.due("come(5, 5)", new ShadowTag().come(5, 5), 0);
    }

    private void promise2OrderOfChecks() {
        doc.says("Promise 2", "UNKNOWN (cell)", "BAD_VALUE", "NOT_POSSIBLE if somebody stands there", "FULL if there are 6");
        ShadowTag tag = Play.with(5, 1, 6, 1, 7, 1, 8, 1, 9, 1);
        doc.due("UNKNOWN before BAD_VALUE", tag.come(100, 6), ShadowTag.UNKNOWN);
        doc.due("UNKNOWN before BAD_VALUE", tag.come(-1, 0), ShadowTag.UNKNOWN);
        doc.due("BAD_VALUE before NOT_POSSIBLE", tag.come(5, 0), ShadowTag.BAD_VALUE);
        tag.come(10, 1);
        doc.due("UNKNOWN before FULL", tag.come(100, 1), ShadowTag.UNKNOWN);
        doc.due("BAD_VALUE before FULL", tag.come(99, 6), ShadowTag.BAD_VALUE);
        doc.due("NOT_POSSIBLE before FULL", tag.come(10, 1), ShadowTag.NOT_POSSIBLE);
        doc.due("FULL", tag.come(99, 1), ShadowTag.FULL);
    }

    private void promise2SomebodyStandsThere() {
        doc.says("Promise 2", "NOT_POSSIBLE if somebody stands there");
        ShadowTag tag = Play.unlit(0, 1, 99, 1, 90, 1, 9, 1, 54, 1);
        for (int cell : new int[] {0, 99, 90, 9, 54}) {
            doc.due("come(" + cell + ", 5)", tag.come(cell, 5), ShadowTag.NOT_POSSIBLE);
        }
        doc.due("count(1)", tag.count(1), 5);
        doc.due("his height stays", tag.runner(4, 1), 1);
        tag.head(4, 1);
        tag.pass(1);
        doc.due("where he is now", tag.come(55, 1), ShadowTag.NOT_POSSIBLE);
        doc.due("where he was", tag.come(54, 1), 5);
    }

    private void promise2Full() {
        doc.says("Promise 2", "A runner comes.", "This is an act.", "Returns the number", "FULL if there are 6.");
        ShadowTag tag = new ShadowTag();
        for (int runner = 0; runner < 6; runner++) {
            doc.due("come", tag.come(runner * 11, 1), runner);
            doc.due("count(12)", tag.count(12), Math.min(4, runner + 1));
        }
        doc.due("come(99, 1)", tag.come(99, 1), ShadowTag.FULL);
        doc.due("at(99)", tag.at(99), ShadowTag.NONE);
        tag.undo();
        doc.due("one has gone", tag.come(99, 1), 5);
        doc.due("come(98, 1)", tag.come(98, 1), ShadowTag.FULL);
    }

    private void promise3Runner() {
        doc.says("Promise 3", "`runner`: a runner", "UNKNOWN");
        ShadowTag tag = new ShadowTag();
        for (int runners = 0; runners <= 6; runners++) {
            doc.due(runners + " runners", tag.head(runners, 1), ShadowTag.UNKNOWN);
            doc.due("UNKNOWN before BAD_VALUE", tag.head(runners, 4), ShadowTag.UNKNOWN);
            doc.due("UNKNOWN before NONE", tag.head(runners, -1), ShadowTag.UNKNOWN);
            tag.come(runners, 1);
            for (int runner = 0; runner < Math.min(6, runners + 1); runner++) {
                doc.due("head(" + runner + ", 0)", tag.head(runner, runners % 2), runner < runners ? 1 - runners % 2 : 4);
            }
            if (runners < 6) {
                for (int runner : Play.beside(0, runners)) {
                    doc.due("head(" + runner + ", 0)", tag.head(runner, 0), ShadowTag.UNKNOWN);
                }
            }
        }
    }

    private void promise3Direction() {
        doc.says("Promise 3", "`direction`: 0 to 3, or -1 for none", "BAD_VALUE", "Returns the previous one, 4 for none");
        ShadowTag tag = Play.with(55, 1);
        for (int direction : Play.beside(-1, 3)) {
            doc.due("head(0, " + direction + ")", tag.head(0, direction), ShadowTag.BAD_VALUE);
            doc.due("none stays", tag.runner(0, 2), 4);
        }
        int previous = 4;
        for (int direction : new int[] {0, 1, 2, 3, -1, 3, 0, 2, -1}) {
            doc.due("head(0, " + direction + ")", tag.head(0, direction), previous);
            previous = direction == -1 ? 4 : direction;
            doc.due("runner(0, 2)", tag.runner(0, 2), previous);
            doc.due("head(0, 4)", tag.head(0, 4), ShadowTag.BAD_VALUE);
            doc.due("head(0, -2)", tag.head(0, -2), ShadowTag.BAD_VALUE);
        }
    }

    private void promise3Already() {
        doc.says("Promise 3", "Gives a runner a direction.", "This is an act.", "NONE if it is so already.");
        ShadowTag tag = Play.with(55, 1, 0, 1);
        doc.due("none at first", tag.head(0, -1), ShadowTag.NONE);
        for (int direction = 0; direction < 4; direction++) {
            doc.due("head(1, " + direction + ")", tag.head(1, direction), direction == 0 ? 4 : direction - 1);
            doc.due("head(1, " + direction + ")", tag.head(1, direction), ShadowTag.NONE);
        }
        doc.due("the other has none", tag.head(0, -1), ShadowTag.NONE);
        ShadowTag turned = Play.unlit(55, 1);
        turned.head(0, 3);
        turned.set(1, 1);
        turned.pass(1);
        doc.due("the platform has turned him", turned.head(0, 0), ShadowTag.NONE);
        turned.pass(1);
        doc.due("and again", turned.head(0, 0), 1);
        doc.due("states", turned.count(12), 4);
    }

    private void promise4Lamp() {
        doc.says("Promise 4", "`lamp`: 0 to 2", "UNKNOWN");
        ShadowTag tag = new ShadowTag();
        for (int lamp : Play.beside(0, 2)) {
            doc.due("light(" + lamp + ", true)", tag.light(lamp, true), ShadowTag.UNKNOWN);
            doc.due("light(" + lamp + ", false)", tag.light(lamp, false), ShadowTag.UNKNOWN);
            doc.due("count(3)", tag.count(3), 3);
        }
    }

    private void promise4HowManyAreOn() {
        doc.says("Promise 4", "Turns a lamp on, or off.", "This is an act.", "`on`: whether it is on then",
            "Returns how many lamps are on then", "NONE if it is so already.");
        int[][] orders = {{0, 1, 2}, {2, 0, 1}, {1, 2, 0}};
        for (int[] order : orders) {
            ShadowTag tag = new ShadowTag();
            for (int place = 0; place < 3; place++) {
                doc.due("on at first", tag.light(order[place], true), ShadowTag.NONE);
                doc.due("turned off", tag.light(order[place], false), 2 - place);
                doc.due("off already", tag.light(order[place], false), ShadowTag.NONE);
                doc.due("lamp", tag.lamp(order[place], 3), 0);
            }
            for (int place = 0; place < 3; place++) {
                doc.due("turned on", tag.light(order[place], true), place + 1);
                doc.due("on already", tag.light(order[place], true), ShadowTag.NONE);
                doc.due("lamp", tag.lamp(order[place], 3), 1);
            }
            doc.due("states", tag.count(12), 4);
        }
    }

    private void promise5LampAndWhich() {
        doc.says("Promise 5", "Sets something of a lamp.", "`lamp`: 0 to 2", "UNKNOWN (lamp)",
            "`which`: 0 for its side (0 to 3), 1 for its reach (1 to 4), 2 for its swing (0 to 9)", "BAD_VALUE (which or value)");
        ShadowTag tag = new ShadowTag();
        for (int lamp : Play.beside(0, 2)) {
            doc.due("setLamp(" + lamp + ", 1, 2)", tag.setLamp(lamp, 1, 2), ShadowTag.UNKNOWN);
            doc.due("UNKNOWN before BAD_VALUE (which)", tag.setLamp(lamp, 3, 2), ShadowTag.UNKNOWN);
            doc.due("UNKNOWN before BAD_VALUE (value)", tag.setLamp(lamp, 1, 0), ShadowTag.UNKNOWN);
        }
        for (int which : Play.beside(0, 2)) {
            for (int lamp = 0; lamp < 3; lamp++) {
                doc.due("setLamp(" + lamp + ", " + which + ", 1)", tag.setLamp(lamp, which, 1), ShadowTag.BAD_VALUE);
            }
        }
        doc.due("states", tag.count(12), 0);
    }

    private void promise5Values() {
        doc.says("Promise 5", "`value`: in its range", "Returns the previous one", "BAD_VALUE (which or value)");
        int[][] ranges = {{0, 3}, {1, 4}, {0, 9}};
        for (int which = 0; which < 3; which++) {
            int least = ranges[which][0];
            int most = ranges[which][1];
            for (int lamp = 0; lamp < 3; lamp++) {
                ShadowTag tag = new ShadowTag();
                int previous = which == 0 ? lamp : which == 1 ? 1 : 0;
                for (int value : Play.beside(least, most)) {
                    doc.due(which + ", " + value, tag.setLamp(lamp, which, value), ShadowTag.BAD_VALUE);
                    doc.due("it stays", tag.lamp(lamp, which), previous);
                }
                for (int value = least; value <= most; value++) {
                    doc.due(which + ", " + value, tag.setLamp(lamp, which, value), value == previous ? ShadowTag.NONE : previous);
                    doc.due("it is set", tag.lamp(lamp, which), value);
                    previous = value;
                }
                doc.due("back from the greatest", tag.setLamp(lamp, which, least), most);
            }
        }
    }

    private void promise5Already() {
        doc.says("Promise 5", "This is an act.", "NONE if it is so already.");
        ShadowTag tag = new ShadowTag();
        for (int lamp = 0; lamp < 3; lamp++) {
            doc.due("side", tag.setLamp(lamp, 0, lamp), ShadowTag.NONE);
            doc.due("reach", tag.setLamp(lamp, 1, 1), ShadowTag.NONE);
            doc.due("swing", tag.setLamp(lamp, 2, 0), ShadowTag.NONE);
        }
        doc.due("states", tag.count(12), 0);
        tag.setLamp(2, 2, 1);
        tag.pass(2);
        doc.due("the side to which it has swung", tag.setLamp(2, 0, 0), ShadowTag.NONE);
        doc.due("the side where it was", tag.setLamp(2, 0, 2), 0);
        doc.due("states", tag.count(12), 3);
    }

    private void promise6Which() {
        doc.says("Promise 6", "Sets a setting.", "`which`: 0 or 1", "UNKNOWN");
        ShadowTag tag = new ShadowTag();
        for (int which : Play.beside(0, 1)) {
            doc.due("set(" + which + ", 5)", tag.set(which, 5), ShadowTag.UNKNOWN);
            doc.due("UNKNOWN before BAD_VALUE", tag.set(which, 10), ShadowTag.UNKNOWN);
            doc.due("UNKNOWN before NONE", tag.set(which, 0), ShadowTag.UNKNOWN);
        }
        doc.due("count(10)", tag.count(10), 3);
        doc.due("count(11)", tag.count(11), 0);
    }

    private void promise6Values() {
        doc.says("Promise 6", "`value`: 0 to 9", "BAD_VALUE", "Returns the previous one", "This is an act.",
            "NONE if it is so already.");
        for (int which = 0; which < 2; which++) {
            ShadowTag tag = new ShadowTag();
            int previous = which == 0 ? 3 : 0;
            doc.due("at first", tag.set(which, previous), ShadowTag.NONE);
            for (int value : Play.beside(0, 9)) {
                doc.due("set(" + which + ", " + value + ")", tag.set(which, value), ShadowTag.BAD_VALUE);
                doc.due("it stays", tag.count(10 + which), previous);
            }
            doc.due("states", tag.count(12), 0);
            for (int value : new int[] {9, 8, 7, 6, 5, 4, 2, 1, 0, 3}) {
                doc.due("set(" + which + ", " + value + ")", tag.set(which, value), previous);
                doc.due("again", tag.set(which, value), ShadowTag.NONE);
                doc.due("it is set", tag.count(10 + which), value);
                doc.due("the other stays", tag.count(11 - which), which == 0 ? 0 : 3);
                previous = value;
            }
            doc.due("states", tag.count(12), 4);
        }
    }

    private void promise7Turns() {
        doc.says("Promise 7", "Lets turns pass.", "This is an act.", "`turns`: 1 to 99", "BAD_VALUE");
        ShadowTag tag = new ShadowTag();
        for (int turns : Play.beside(1, 99)) {
            doc.due("pass(" + turns + ")", tag.pass(turns), ShadowTag.BAD_VALUE);
            doc.due("count(0)", tag.count(0), 0);
            doc.due("count(12)", tag.count(12), 0);
        }
        doc.due("pass(1)", tag.pass(1), 0);
        doc.due("count(0)", tag.count(0), 1);
        doc.due("pass(99)", tag.pass(99), 0);
        doc.due("count(0)", tag.count(0), 100);
        doc.due("pass(98)", tag.pass(98), 0);
        doc.due("count(0)", tag.count(0), 198);
        doc.due("each is one act", tag.count(12), 3);
    }

    private void promise7Tags() {
        doc.says("Promise 7", "Returns how many tags there are in them");
        int[] due = {99, 50, 33, 25, 20, 17, 15, 13, 11, 10};
        for (int respite = 0; respite <= 9; respite++) {
            doc.due("setting " + respite, Play.facing(respite).pass(99), due[respite]);
        }
        ShadowTag tag = Play.facing(0);
        doc.due("pass(1)", tag.pass(1), 1);
        doc.due("only those in them", tag.pass(2), 2);
        tag.light(0, false);
        tag.light(2, false);
        doc.due("none", tag.pass(99), 0);
        doc.due("count(6)", tag.count(6), 3);
    }

    private void promise7LastTurn() {
        doc.says("Promise 7", "FULL if the number of the turn would be beyond 99999.");
        ShadowTag tag = Play.nearTheLastTurn(new ShadowTag());
        doc.due("count(0)", tag.count(0), 99990);
        doc.due("BAD_VALUE before FULL", tag.pass(100), ShadowTag.BAD_VALUE);
        doc.due("BAD_VALUE before FULL", tag.pass(Integer.MAX_VALUE), ShadowTag.BAD_VALUE);
        doc.due("pass(99)", tag.pass(99), ShadowTag.FULL);
        doc.due("pass(10)", tag.pass(10), ShadowTag.FULL);
        doc.due("count(0)", tag.count(0), 99990);
        doc.due("pass(9)", tag.pass(9), 0);
        doc.due("count(0)", tag.count(0), 99999);
        doc.due("pass(1)", tag.pass(1), ShadowTag.FULL);
        doc.due("pass(0)", tag.pass(0), ShadowTag.BAD_VALUE);
        doc.due("count(0)", tag.count(0), 99999);
        doc.due("undo()", tag.undo(), 3);
        doc.due("pass(8)", tag.pass(8), 0);
        doc.due("pass(2)", tag.pass(2), ShadowTag.FULL);
        doc.due("pass(1)", tag.pass(1), 0);
        doc.due("count(0)", tag.count(0), 99999);
        doc.due("other acts go on", tag.come(5, 1), 0);
    }

    private void promise7LastTurnOfAGame() {
        doc.says("Promise 7", "FULL if the number of the turn would be beyond 99999.");
        ShadowTag tag = Play.nearTheLastTurn(new ShadowTag());
        doc.due("one too many", Check.perform(tag, ".4;.5;.1"), ShadowTag.NOT_POSSIBLE);
        doc.due("stopped(0)", tag.stopped(0), 2);
        doc.due("stopped(1)", tag.stopped(1), ShadowTag.FULL);
        doc.due("nothing of it", tag.count(0), 99990);
        doc.due("just enough", Check.perform(tag, ".4;.5"), 2);
        doc.due("count(0)", tag.count(0), 99999);
        doc.due("no more", Check.perform(tag, ".1"), ShadowTag.NOT_POSSIBLE);
        doc.due("stopped(0)", tag.stopped(0), 0);
    }

    private void promise7AccountsAtTheLastTurn() {
        doc.says("Promise 7", "Returns how many tags there are in them");
        ShadowTag tag = Play.facing(0);
        tag.come(99, 1);
        tag.head(2, 1);
        Play.nearTheLastTurn(tag);
        doc.due("pass(9)", tag.pass(9), 9);
        doc.due("tags", tag.count(6), 99999);
        doc.due("stops at the edge", tag.count(8), 99999);
        doc.due("steps", tag.count(7), 0);
        doc.due("who tagged first", tag.runner(0, 5), 50000);
        doc.due("how often he was tagged", tag.runner(0, 4), 49999);
        doc.due("his account", tag.runner(0, 6), 50000);
        doc.due("the other's", tag.runner(1, 6), 49999);
        doc.due("who was never the catcher", tag.runner(2, 6), 99999);
        doc.due("the catcher", tag.count(2), 1);
    }
}
