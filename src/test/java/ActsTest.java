/** Promises 16, 28 to 31 and 38: acts on items, their reasons, accounts, undo. */
public final class ActsTest {
    private static final String LIBRARY = "shot 0 30;shot 1 20;shot 0 25;shot 2 40;map rome;map oslo;";
    private static final String REEL = "shot 0 from 10 to 19;mix 4{shot 1;repeat 2{shot 2;};};map 0 6;";

    public static void main(String[] args) {
        accounts();
        insert();
        insertRefused();
        trim();
        remove();
        move();
        refusedChangesNothing();
        undo();
        undoAfterUndo();
        undoKeeps();
        Expect.end("ActsTest");
    }

    private static NewsReel made() {
        return Expect.made(LIBRARY, REEL, "");
    }

    private static void accounts() {
        NewsReel x = Expect.made(LIBRARY, "shot 0;repeat 1{};", "");
        Expect.edit(x, "shot");
        Expect.say(x, "a");
        Expect.edit(x, "repeat 9{repeat 9{shot 0;};};");
        x.assemble();
        x.assemble();
        x.assemble();
        x.trim(1, 1);
        x.trim(0, 30);
        x.trim(0, 30);
        x.trim(0, 399);
        x.trim(0, 399);
        Expect.edit(x, "shot 0;".repeat(30));
        for (int i = 0; i < 4; i++) {
            Expect.due("insert into 30 items", x.insert(0, 0, 1), -4);
        }
        int[] due = {3, 2, 1, 3, 4, 1, 4};
        for (int what = 0; what < due.length; what++) {
            Expect.due("account " + what, x.account(what), due[what]);
        }
        x.undo();
        Expect.due("account 0 after undo", x.account(0), 3);
        Expect.throwsArgument("account(7)", () -> x.account(7));
        Expect.throwsArgument("account(-1)", () -> x.account(-1));
    }

    private static void insert() {
        NewsReel x = made();
        // 10, then 20, 25 and 25 less 4 and 4, then 6.
        Expect.due("END", x.reel(1), 78);
        Expect.due("insert ahead of all", x.insert(0, 1, 400), 478);
        Expect.due("insert behind all", x.insert(4, 0, 1), 479);
        Expect.due("insert between", x.insert(2, 1, 33), 512);
        Expect.dueText("the reel", Expect.reelText(x), "map 1 400;shot 0 from 10 to 19;map 1 33;"
                + "mix 4{shot 1;repeat 2{shot 2;};};map 0 6;map 0 1;");
        Expect.due("items", x.count(8), 6);
        Expect.due("all items", x.count(9), 9);
        Expect.throwsIndex("insert(7, 0, 1)", () -> x.insert(7, 0, 1));
        Expect.throwsIndex("insert(-1, 0, 1)", () -> x.insert(-1, 0, 1));
        Expect.throwsIndex("insert(0, 2, 1)", () -> x.insert(0, 2, 1));
        Expect.throwsIndex("insert(0, -1, 0)", () -> x.insert(0, -1, 0));
        Expect.throwsIndex("insert(MAX, 0, 1)", () -> x.insert(Integer.MAX_VALUE, 0, 1));
        Expect.throwsArgument("insert(0, 0, 0)", () -> x.insert(0, 0, 0));
        Expect.throwsArgument("insert(0, 0, 401)", () -> x.insert(0, 0, 401));
        Expect.due("acts", x.account(0), 5);
        NewsReel empty = Expect.made("map a;", "", "");
        Expect.due("insert into an empty reel", empty.insert(0, 0, 5), 5);
    }

    private static void insertRefused() {
        NewsReel x = Expect.made(LIBRARY, "repeat 6{repeat 5{shot 0;map 0 1;};};", "");
        Expect.due("insert of a 61st piece", x.insert(0, 0, 1), -2);
        Expect.due("account(2)", x.account(2), 1);
        Expect.throwsArgument("insert(0, 0, 0) of a 61st piece", () -> x.insert(0, 0, 0));
        Expect.edit(x, "repeat 2{" + "shot 0;".repeat(29) + "};");
        Expect.due("insert of a 31st item", x.insert(0, 0, 1), -4);
        Expect.edit(x, "repeat 3{" + "shot 0;".repeat(20) + "};" + "repeat 9{};".repeat(9));
        Expect.due("insert of a 31st item and 61st piece", x.insert(0, 0, 1), -4);
        Expect.due("account(4)", x.account(4), 2);
        Expect.due("account(2)", x.account(2), 1);
        Expect.edit(x, "repeat 2{" + "shot 0;".repeat(28) + "};");
        Expect.due("insert of a 30th item", x.insert(1, 0, 1), 56 * 30 + 1);
        Expect.edit(x, "repeat 1{repeat 1{" + "shot 0;".repeat(28) + "};};");
        Expect.due("insert into 30 items of one", x.insert(1, 0, 1), -4);
    }

    private static void trim() {
        NewsReel x = made();
        Expect.due("trim a cut", x.trim(0, 3), 7);
        Expect.due("its FIRST", x.piece(0, 2), 10);
        Expect.due("END", x.reel(1), 75);
        Expect.due("trim a map", x.trim(2, 5), 1);
        Expect.due("trim of all frames", x.trim(2, 1), -6);
        Expect.due("trim of more", x.trim(0, 7), -6);
        Expect.due("trim but for one", x.trim(0, 6), 1);
        Expect.due("trim a mix", x.trim(1, 1), -5);
        Expect.dueText("the reel", Expect.reelText(x), "shot 0 from 10 to 10;mix 4{shot 1;repeat 2{shot 2;};};map 0 1;");
        Expect.throwsIndex("trim(3, 1)", () -> x.trim(3, 1));
        Expect.throwsIndex("trim(-1, 0)", () -> x.trim(-1, 0));
        Expect.throwsArgument("trim(1, 0)", () -> x.trim(1, 0));
        Expect.throwsArgument("trim(0, 400)", () -> x.trim(0, 400));
        Expect.throwsArgument("trim(0, -5)", () -> x.trim(0, -5));
        Expect.due("account(5)", x.account(5), 1);
        Expect.due("account(6)", x.account(6), 2);
        Expect.due("account(0)", x.account(0), 5);
        Expect.edit(x, "map 0 400;repeat 1{};");
        Expect.due("trim by 399", x.trim(0, 399), 1);
        Expect.due("trim a repetition", x.trim(1, 399), -5);
    }

    private static void remove() {
        NewsReel x = made();
        Expect.throwsIndex("remove(3)", () -> x.remove(3));
        Expect.throwsIndex("remove(-1)", () -> x.remove(-1));
        Expect.due("remove a mix", x.remove(1), 16);
        Expect.dueText("the reel", Expect.reelText(x), "shot 0 from 10 to 19;map 0 6;");
        Expect.due("remove the first", x.remove(0), 6);
        Expect.due("remove the last", x.remove(0), 0);
        Expect.due("items", x.count(9), 0);
        Expect.throwsIndex("remove(0) of none", () -> x.remove(0));
        Expect.due("acts", x.account(0), 5);
        x.undo();
        x.undo();
        x.undo();
        Expect.dueText("the reel after undo", Expect.reelText(x), REEL);
    }

    private static void move() {
        String[] items = {"shot 0;", "mix 4{shot 1;map 1 1;};", "map 0 6;", "repeat 2{};"};
        for (int item = 0; item < 4; item++) {
            for (int to = 0; to < 4; to++) {
                NewsReel x = Expect.made(LIBRARY, String.join("", items), "");
                java.util.List<String> due = new java.util.ArrayList<>(java.util.List.of(items));
                due.add(to, due.remove(item));
                Expect.due("move " + item + " " + to, x.move(item, to), 57);
                Expect.dueText("the reel", Expect.reelText(x), String.join("", due));
                Expect.due("acts", x.account(0), 3);
            }
        }
        NewsReel x = made();
        Expect.throwsIndex("move(3, 0)", () -> x.move(3, 0));
        Expect.throwsIndex("move(0, 3)", () -> x.move(0, 3));
        Expect.throwsIndex("move(-1, 0)", () -> x.move(-1, 0));
        Expect.throwsIndex("move(0, -1)", () -> x.move(0, -1));
        Expect.throwsIndex("move of an empty reel", () -> new NewsReel().move(0, 0));
        Expect.due("acts", x.account(0), 2);
    }

    private static void refusedChangesNothing() {
        NewsReel x = made();
        x.assemble();
        x.trim(1, 1);
        x.trim(2, 6);
        Expect.edit(x, "shot 9;");
        Expect.dueText("the reel", Expect.reelText(x), REEL);
        Expect.due("acts that can be undone", x.count(13), 2);
    }

    private static void undo() {
        NewsReel x = new NewsReel();
        Expect.due("undo of nothing", x.undo(), -1);
        for (int slack = 1; slack <= 10; slack++) {
            x.setSlack(slack);
            Expect.due("acts that can be undone", x.count(13), Math.min(slack, 8));
        }
        for (int left = 7; left >= 0; left--) {
            Expect.due("undo", x.undo(), left);
            Expect.due("SLACK", x.count(7), left + 2);
            Expect.due("acts that can be undone", x.count(13), left);
        }
        Expect.due("a ninth undo", x.undo(), -1);
        Expect.due("SLACK", x.count(7), 2);
        Expect.due("acts done", x.account(0), 10);
    }

    private static void undoAfterUndo() {
        NewsReel x = new NewsReel();
        for (int slack = 1; slack <= 9; slack++) {
            x.setSlack(slack);
        }
        x.undo();
        x.undo();
        x.undo();
        x.setSlack(50);
        x.setSlack(51);
        Expect.due("acts that can be undone", x.count(13), 7);
        int[] due = {50, 6, 5, 4, 3, 2, 1, 1};
        for (int i = 0; i < due.length; i++) {
            Expect.due("undo", x.undo(), Math.max(6 - i, -1));
            Expect.due("SLACK", x.count(7), due[i]);
        }
    }

    private static void undoKeeps() {
        NewsReel x = made();
        x.setWeek(7);
        x.setVoice(9, 8);
        Expect.say(x, "rome.");
        x.save(0);
        Expect.type(x, "shot 0;");
        x.writeReel();
        for (int i = 0; i < 5; i++) {
            x.undo();
        }
        Expect.due("the text after undo", x.truncateText(7), 7);
        Expect.dueText("the output after undo", Expect.output(x), REEL);
        Expect.due("WEEK", x.count(3), 0);
        Expect.due("SPEED", x.count(4), 4);
        Expect.due("words", x.count(10), 0);
        Expect.due("pieces", x.reel(0), 0);
        Expect.due("acts done", x.account(0), 5);
        Expect.due("edit of the text", x.edit(), 1);
        x.restore(0);
        Expect.due("the saved words", x.count(10), 1);
    }
}
