/** Boundary cases of the term ACTS and of promises 16, 28 to 31 and 38 to 40, sentence by sentence. */
public final class ActsBoundsTest {
    private static final String LIBRARY = "shot 0 30;shot 1 20;map rome;map a;ban 1 5 9;speed 2;slack 1;least 19;";
    private static final String REEL = "shot 0 from 10 to 19;mix 4{shot 1;repeat 2{shot 0;};};map 0 6;";
    private static final String VOICE = "rome is. a.";

    public static void main(String[] args) {
        accounts();
        accountExceptions();
        whatIsNoAct();
        refusedChangesNothing();
        throwsChangesNothing();
        insertPlaces();
        insertFrames();
        insertExceptions();
        itemsOfBlocks();
        lastBlockOfThirty();
        thirtyItems();
        sixtyPieces();
        firstReason();
        trimFrames();
        trimExceptions();
        trimBlocks();
        remove();
        removeExceptions();
        move();
        moveExceptions();
        latestEightActs();
        nothingToUndo();
        undoRing();
        undoEachAct();
        undoKeeps();
        slots();
        nothingSaved();
        saveReplaces();
        saveKeepsActs();
        savedStays();
        restoreForgetsActs();
        restoreKeeps();
        Expect.end("ActsBoundsTest");
    }

    private static NewsReel made() {
        return Expect.made(LIBRARY, REEL, VOICE);
    }

    private static void dueReel(String call, NewsReel x, String due) {
        Expect.dueText("the reel after " + call, Expect.reelText(x), due);
    }

    // ---- accounts, refusals, exceptions

    private static void accounts() {
        Expect.sentence("Promise 16", "0: acts that were done; 1 to 6: refusals with this reason", "(acts that were undone count, too)");
        NewsReel x = made();
        Expect.dueRow("account", x::account, 2, 0, 0, 0, 0, 0, 0);
        Expect.edit(x, "shot");
        Expect.say(x, "a");
        Expect.dueRow("account after two errors", x::account, 2, 2, 0, 0, 0, 0, 0);
        Expect.edit(x, "repeat 9{repeat 9{shot 0;};};");
        Expect.dueRow("account after 81 pieces", x::account, 2, 2, 1, 0, 0, 0, 0);
        x.setWeek(5);
        Expect.say(x, "");
        x.assemble();
        Expect.dueRow("account without a choice", x::account, 4, 2, 1, 1, 0, 0, 0);
        x.trim(1, 1);
        Expect.dueRow("account after a mix", x::account, 4, 2, 1, 1, 0, 1, 0);
        x.trim(2, 6);
        Expect.dueRow("account after all frames", x::account, 4, 2, 1, 1, 0, 1, 1);
        Expect.edit(x, "shot 0;".repeat(30));
        x.insert(0, 0, 1);
        Expect.dueRow("account after 30 items", x::account, 5, 2, 1, 1, 1, 1, 1);
        x.undo();
        x.undo();
        x.undo();
        Expect.dueRow("account after undo", x::account, 5, 2, 1, 1, 1, 1, 1);
        Expect.load(x, "week 100;");
        Expect.load(x, "");
        x.save(0);
        x.restore(0);
        x.undo();
        Expect.dueRow("account after load, save and restore", x::account, 5, 2, 1, 1, 1, 1, 1);
    }

    private static void accountExceptions() {
        Expect.sentence("Promise 16", "Throws `IllegalArgumentException` if what is out of range");
        NewsReel x = new NewsReel();
        Expect.throwsArgumentAround("account", x::account, 0, 6);
    }

    private static void whatIsNoAct() {
        Expect.sentence("ACTS", "Acts are the methods from edit() to setSlack().");
        NewsReel x = made();
        x.setSlack(5);
        x.save(0);
        x.save(1);
        x.writeReel();
        x.writeVoice();
        x.appendText(0);
        x.truncateText(0);
        x.bestWeek();
        Expect.load(x, "week 100;");
        Expect.due("acts done after what is none", x.account(0), 3);
        Expect.due("acts to undo after what is none", x.count(13), 3);
        x.undo();
        Expect.due("acts done after undo", x.account(0), 3);
        x.restore(1);
        Expect.due("acts done after restore", x.account(0), 3);
        Expect.due("load", Expect.load(x, "week 1;"), 0);
        Expect.due("acts done after load", x.account(0), 3);
        Expect.due("acts to undo after load", x.count(13), 0);
    }

    interface Refused {
        int answer(NewsReel x);
    }

    private static void refusedChangesNothing() {
        Expect.sentence("ACTS", "what is refused changes nothing but the accounts (and the text buffer, where that is said)");
        refused("edit of an error", 1, x -> x.edit());
        refused("say of an error", 1, x -> x.say());
        refused("assemble", 3, x -> x.assemble());
        refused("trim of a mix", 5, x -> x.trim(1, 1));
        refused("trim of all frames", 6, x -> x.trim(0, 10));
        refused("trim of more frames", 6, x -> x.trim(2, 399));
    }

    /** The text "shot 5" is in the buffer; edit and say read it, which is an error in both. */
    private static void refused(String call, int reason, Refused act) {
        NewsReel x = made();
        x.save(1);
        x.setWeek(5);
        x.writeVoice();
        Expect.type(x, "shot 5");
        String state = Expect.state(x);
        Expect.due(call, act.answer(x), -reason);
        Expect.dueText("the state after " + call, Expect.state(x), state);
        Expect.dueText("the output after " + call, Expect.output(x), VOICE);
        Expect.dueRow("account after " + call + " of", x::account, accountsWith(3, reason));
        Expect.due("acts to undo after " + call, x.count(13), 3);
        Expect.dueTextLength(call, x, reason == 1 ? 0 : 6);
        Expect.due("undo after " + call, x.undo(), 2);
        Expect.due("WEEK after undo", x.count(3), 0);
        dueReel("undo", x, REEL);
    }

    private static long[] accountsWith(int acts, int reason) {
        long[] due = new long[7];
        due[0] = acts;
        due[reason]++;
        return due;
    }

    interface Thrown {
        void call(NewsReel x);
    }

    private static void throwsChangesNothing() {
        Expect.sentence("EXCEPTIONS", "A method that throws an exception changes nothing.");
        thrown("IllegalArgumentException", "truncateText(8)", x -> x.truncateText(8));
        thrown("IllegalArgumentException", "truncateText(-1)", x -> x.truncateText(-1));
        thrown("IllegalArgumentException", "count(14)", x -> x.count(14));
        thrown("IndexOutOfBoundsException", "shot(2, 0)", x -> x.shot(2, 0));
        thrown("IllegalArgumentException", "shot(1, 5)", x -> x.shot(1, 5));
        thrown("IndexOutOfBoundsException", "map(2, 0)", x -> x.map(2, 0));
        thrown("IllegalArgumentException", "map(1, 4)", x -> x.map(1, 4));
        thrown("IndexOutOfBoundsException", "ban(1, 0)", x -> x.ban(1, 0));
        thrown("IllegalArgumentException", "ban(0, 4)", x -> x.ban(0, 4));
        thrown("IndexOutOfBoundsException", "word(3, 0)", x -> x.word(3, 0));
        thrown("IllegalArgumentException", "word(2, 6)", x -> x.word(2, 6));
        thrown("IndexOutOfBoundsException", "piece(5, 0)", x -> x.piece(5, 0));
        thrown("IllegalArgumentException", "piece(4, 7)", x -> x.piece(4, 7));
        thrown("IllegalArgumentException", "reel(7)", x -> x.reel(7));
        thrown("IllegalArgumentException", "account(7)", x -> x.account(7));
        thrown("IllegalArgumentException", "faults(6)", x -> x.faults(6));
        thrown("IndexOutOfBoundsException", "fault(99, 0)", x -> x.fault(99, 0));
        thrown("IllegalArgumentException", "fault(0, 2)", x -> x.fault(0, 2));
        thrown("IndexOutOfBoundsException", "share(6)", x -> x.share(6));
        thrown("IllegalArgumentException", "best(3)", x -> x.best(3));
        thrown("IndexOutOfBoundsException", "insert(4, 0, 1)", x -> x.insert(4, 0, 1));
        thrown("IndexOutOfBoundsException", "insert(0, 2, 1)", x -> x.insert(0, 2, 1));
        thrown("IllegalArgumentException", "insert(3, 1, 401)", x -> x.insert(3, 1, 401));
        thrown("IndexOutOfBoundsException", "trim(3, 1)", x -> x.trim(3, 1));
        thrown("IllegalArgumentException", "trim(0, 0)", x -> x.trim(0, 0));
        thrown("IllegalArgumentException", "trim(1, 400)", x -> x.trim(1, 400));
        thrown("IndexOutOfBoundsException", "remove(3)", x -> x.remove(3));
        thrown("IndexOutOfBoundsException", "move(3, 0)", x -> x.move(3, 0));
        thrown("IndexOutOfBoundsException", "move(0, 3)", x -> x.move(0, 3));
        thrown("IllegalArgumentException", "setWeek(100)", x -> x.setWeek(100));
        thrown("IllegalArgumentException", "setVoice(21, 0)", x -> x.setVoice(21, 0));
        thrown("IllegalArgumentException", "setVoice(1, 51)", x -> x.setVoice(1, 51));
        thrown("IllegalArgumentException", "setSlack(101)", x -> x.setSlack(101));
        thrown("IllegalArgumentException", "save(2)", x -> x.save(2));
        thrown("IllegalArgumentException", "restore(2)", x -> x.restore(2));
        thrown("IllegalStateException", "restore(1)", x -> x.restore(1));
    }

    /** An object with a saved state, acts to undo, an error, an output and the text "week 9;". */
    private static NewsReel busy() {
        NewsReel x = made();
        x.save(0);
        x.setWeek(5);
        Expect.edit(x, "shot 9;");
        x.writeVoice();
        Expect.type(x, "week 9;");
        return x;
    }

    /** The object is compared with another one of which the call was not asked, now and after later calls. */
    private static void thrown(String name, String call, Thrown made) {
        NewsReel x = busy();
        NewsReel other = busy();
        String got = "nothing";
        try {
            made.call(x);
        } catch (RuntimeException e) {
            got = e.getClass().getSimpleName();
        }
        Expect.dueText("what " + call + " throws", got, name);
        Expect.dueText("the state after " + call, Expect.state(x), Expect.state(other));
        Expect.dueText("the rest after " + call, Expect.rest(x), Expect.rest(other));
        Expect.dueTextLength(call, x, 7);
        Expect.due("undo after " + call, x.undo(), 2);
        Expect.due("WEEK after " + call + " and undo", x.count(3), 0);
        x.setSlack(50);
        Expect.throwsState("restore(1) after " + call, () -> x.restore(1));
        x.restore(0);
        Expect.due("SLACK after " + call + " and restore", x.count(7), 1);
        Expect.due("load after " + call, x.load(), 0);
        Expect.due("WEEK after " + call + " and load", x.count(3), 9);
    }

    // ---- insert

    private static void insertPlaces() {
        Expect.sentence("Promise 28",
                "`item`: the place, 0 to the number of items of the reel",
                "Puts a map into the reel as an item ahead of another one, or behind all.",
                "Returns the END then");
        for (int item = 0; item <= 3; item++) {
            NewsReel x = made();
            String[] due = {"map 1 5;" + REEL, "shot 0 from 10 to 19;map 1 5;mix 4{shot 1;repeat 2{shot 0;};};map 0 6;",
                "shot 0 from 10 to 19;mix 4{shot 1;repeat 2{shot 0;};};map 1 5;map 0 6;", REEL + "map 1 5;"};
            Expect.due("insert at " + item, x.insert(item, 1, 5), x.reel(1));
            Expect.due("END of it", x.reel(1), 10 + 20 + 30 + 30 - 8 + 6 + 5);
            dueReel("insert at " + item, x, due[item]);
            Expect.dueRow("items", what -> x.count(8 + what), 4, 7);
        }
        NewsReel empty = Expect.made(LIBRARY, "", "");
        Expect.due("insert into an empty reel", empty.insert(0, 1, 1), 1);
        dueReel("insert into an empty reel", empty, "map 1 1;");
        NewsReel block = Expect.made(LIBRARY, "repeat 2{repeat 2{};};", "");
        Expect.due("insert behind an empty block", block.insert(1, 0, 3), 3);
        Expect.due("insert ahead of an empty block", block.insert(0, 0, 3), 6);
        dueReel("both", block, "map 0 3;repeat 2{repeat 2{};};map 0 3;");
    }

    private static void insertFrames() {
        Expect.sentence("Promise 28", "`frames`: 1 to 400", "Throws `IllegalArgumentException` if frames is out of range");
        NewsReel x = Expect.made(LIBRARY, "", "");
        Expect.due("insert of 1 frame", x.insert(0, 0, 1), 1);
        Expect.due("insert of 400 frames", x.insert(1, 1, 400), 401);
        Expect.throwsArgumentAround("insert of frames", frames -> x.insert(0, 0, frames), 1, 400);
        dueReel("insert", x, "map 0 1;map 1 400;");
        Expect.due("acts", x.account(0), 4);
    }

    private static void insertExceptions() {
        Expect.sentence("Promise 28", "Throws `IndexOutOfBoundsException` if there is no such place or map");
        NewsReel x = made();
        Expect.throwsIndexAround("insert at a place", item -> x.insert(item, 0, 1), 4);
        Expect.throwsIndexAround("insert of a map", map -> x.insert(0, map, 1), 2);
        NewsReel empty = Expect.made(LIBRARY, "", "");
        Expect.throwsIndexAround("insert at a place of an empty reel", item -> empty.insert(item, 0, 1), 1);
        NewsReel none = new NewsReel();
        Expect.throwsIndexAround("insert without maps", map -> none.insert(0, map, 1), 0);
        Expect.due("acts", none.account(0), 0);
    }

    /** Each number of the items in a block is kept, and of the items beside it. */
    private static void itemsOfBlocks() {
        Expect.sentence("Promise 28", "Puts a map into the reel as an item ahead of another one, or behind all.");
        String block = "repeat 3{shot 0 from 5 to 9;mix 7{map 1 7;shot 1 from 2 to 3;};shot 0;};";
        String cut = "shot 1 from 6 to 18;";
        for (int order = 0; order < 2; order++) {
            String first = order == 0 ? block : cut;
            String second = order == 0 ? cut : block;
            NewsReel x = Expect.made(LIBRARY, first + second, "");
            x.insert(0, 1, 8);
            dueReel("insert ahead", x, "map 1 8;" + first + second);
            x.move(0, 1);
            dueReel("move behind the first", x, first + "map 1 8;" + second);
            x.move(2, 0);
            dueReel("move of the last one", x, second + first + "map 1 8;");
            x.remove(1);
            dueReel("remove between", x, second + "map 1 8;");
        }
    }

    private static void lastBlockOfThirty() {
        Expect.sentence("Promise 31", "`to`: the number that it has then", "Returns the END then.");
        String block = "mix 3{" + "map 1 1;".repeat(28) + "};";
        NewsReel x = Expect.made(LIBRARY, "map 0 1;" + block, "");
        Expect.due("move of a last block", x.move(1, 0), 29);
        Expect.due("move of a block to the last place", x.move(0, 1), 29);
        Expect.due("insert into 30 items", x.insert(2, 0, 1), -4);
        Expect.due("trim of the block", x.trim(1, 1), -5);
        Expect.due("remove of the first one", x.remove(0), 28);
        Expect.due("undo", x.undo(), 4);
        Expect.due("remove of the block", x.remove(1), 1);
        Expect.due("undo", x.undo(), 4);
        dueReel("undo", x, "map 0 1;" + block);
        NewsReel shorter = Expect.made(LIBRARY, "mix 1{mix 1{map 0 1;map 0 1;map 0 1;map 0 1;};};", "");
        Expect.edit(shorter, "map 0 1;mix 1{map 1 5;};");
        Expect.due("move of a last block in place of a longer one", shorter.move(1, 0), 6);
        dueReel("move", shorter, "mix 1{map 1 5;};map 0 1;");
        Expect.due("move back", shorter.move(0, 1), 6);
        dueReel("move back", shorter, "map 0 1;mix 1{map 1 5;};");
    }

    private static void thirtyItems() {
        Expect.sentence("Promise 28", "4 there are 30 items in all");
        NewsReel x = Expect.made(LIBRARY, "map 0 1;".repeat(29), "");
        Expect.due("insert of a 30th item", x.insert(29, 1, 1), 30);
        String state = Expect.state(x);
        Expect.due("insert of a 31st item", x.insert(0, 1, 1), -4);
        Expect.dueText("the state after it", Expect.state(x), state);
        Expect.dueRow("account", x::account, 3, 0, 0, 0, 1, 0, 0);
        Expect.due("remove", x.remove(0), 29);
        Expect.due("insert of a 30th item again", x.insert(0, 1, 1), 30);
        NewsReel block = Expect.made(LIBRARY, "mix 0{" + "map 0 1;".repeat(28) + "};", "");
        Expect.due("insert of a 30th item beside a block", block.insert(1, 1, 1), 29);
        Expect.due("insert of a 31st item beside a block", block.insert(1, 1, 1), -4);
    }

    private static void sixtyPieces() {
        Expect.sentence("Promise 28", "2 there would be more than 60 pieces");
        NewsReel x = Expect.made(LIBRARY, "repeat 6{repeat 9{map 0 1;};};repeat 5{map 1 1;};", "");
        Expect.due("insert of a 60th piece", x.insert(1, 0, 1), 60);
        String state = Expect.state(x);
        Expect.due("insert of a 61st piece", x.insert(3, 0, 1), -2);
        Expect.dueText("the state after it", Expect.state(x), state);
        Expect.dueRow("account", x::account, 3, 0, 1, 0, 0, 0, 0);
        Expect.due("undo", x.undo(), 2);
        Expect.due("pieces after undo", x.reel(0), 59);
        Expect.due("insert of a 60th piece again", x.insert(0, 0, 1), 60);
    }

    private static void firstReason() {
        Expect.sentence("ACTS", "refused with a reason (the first one that applies of those named at the method)");
        NewsReel x = Expect.made(LIBRARY, "repeat 3{" + "map 0 1;".repeat(20) + "};" + "mix 0{};".repeat(9), "");
        Expect.due("insert of a 31st item and a 61st piece", x.insert(0, 0, 1), -4);
        Expect.dueRow("account", x::account, 2, 0, 0, 0, 1, 0, 0);
        NewsReel text = Expect.made(LIBRARY, "", "");
        Expect.due("edit of 81 pieces and an error", Expect.edit(text, "repeat 9{repeat 9{map 0 1;};};;"), -1);
        Expect.dueRow("account", text::account, 2, 1, 0, 0, 0, 0, 0);
        NewsReel block = Expect.made(LIBRARY, "repeat 1{map 0 1;};", "");
        Expect.due("trim of a repetition of one frame", block.trim(0, 399), -5);
        Expect.dueRow("account", block::account, 2, 0, 0, 0, 0, 1, 0);
    }

    // ---- trim

    private static void trimFrames() {
        Expect.sentence("Promise 29",
                "Cuts frames off the end of an item of the reel that is a cut or a map.",
                "Returns the frames that it has then",
                "6 it would have less than 1 frame");
        NewsReel x = made();
        Expect.due("trim of one frame of ten", x.trim(0, 1), 9);
        Expect.due("trim of all but one", x.trim(0, 8), 1);
        Expect.due("trim of the last one", x.trim(0, 1), -6);
        Expect.due("trim of more than it has", x.trim(0, 399), -6);
        Expect.due("trim of a map but one frame", x.trim(2, 5), 1);
        Expect.due("trim of its last one", x.trim(2, 1), -6);
        dueReel("trim", x, "shot 0 from 10 to 10;mix 4{shot 1;repeat 2{shot 0;};};map 0 1;");
        Expect.dueRow("account", x::account, 5, 0, 0, 0, 0, 0, 3);
        NewsReel most = Expect.made("shot 0 400;map a;", "map 0 400;shot 0;", "");
        Expect.due("trim of a map of 400 by 399", most.trim(0, 399), 1);
        Expect.due("trim of a shot of 400 by 399", most.trim(1, 399), 1);
        dueReel("trim by 399", most, "map 0 1;shot 0 from 0 to 0;");
        NewsReel all = Expect.made("map a;", "map 0 399;", "");
        Expect.due("trim of a map of 399 by 399", all.trim(0, 399), -6);
        Expect.due("trim of a map of 399 by 398", all.trim(0, 398), 1);
        NewsReel last = Expect.made("map a;", "map 0 2;".repeat(30), "");
        Expect.due("trim of the 30th item", last.trim(29, 1), 1);
        Expect.due("its frames", last.piece(29, 3), 1);
        Expect.due("the frames ahead of it", last.piece(28, 3), 2);
    }

    private static void trimExceptions() {
        Expect.sentence("Promise 29",
                "`by`: 1 to 399",
                "Throws `IndexOutOfBoundsException` if there is no such item",
                "Throws `IllegalArgumentException` if by is out of range");
        NewsReel x = made();
        Expect.throwsArgumentAround("trim by", by -> x.trim(0, by), 1, 399);
        Expect.throwsIndexAround("trim", item -> x.trim(item, 1), 3);
        NewsReel empty = new NewsReel();
        Expect.throwsIndexAround("trim of an empty reel", item -> empty.trim(item, 1), 0);
    }

    private static void trimBlocks() {
        Expect.sentence("Promise 29", "5 it is a repetition or a mix");
        NewsReel x = Expect.made(LIBRARY, "repeat 1{map 0 9;};mix 0{map 0 9;};repeat 9{};mix 40{};map 0 9;", "");
        for (int item = 0; item < 4; item++) {
            Expect.due("trim of block " + item, x.trim(item, 1), -5);
        }
        Expect.due("trim behind the blocks", x.trim(4, 1), 8);
        dueReel("trim", x, "repeat 1{map 0 9;};mix 0{map 0 9;};repeat 9{};mix 40{};map 0 8;");
        Expect.dueRow("account", x::account, 3, 0, 0, 0, 0, 4, 0);
    }

    // ---- remove and move

    private static void remove() {
        Expect.sentence("Promise 30", "Takes an item out of the reel.", "Returns the END then.");
        String[] due = {"mix 4{shot 1;repeat 2{shot 0;};};map 0 6;", "shot 0 from 10 to 19;map 0 6;",
            "shot 0 from 10 to 19;mix 4{shot 1;repeat 2{shot 0;};};"};
        int[] end = {78, 16, 82};
        for (int item = 0; item < 3; item++) {
            NewsReel x = made();
            Expect.due("remove of " + item, x.remove(item), end[item]);
            dueReel("remove of " + item, x, due[item]);
            Expect.due("undo", x.undo(), 2);
            dueReel("undo", x, REEL);
        }
        NewsReel one = Expect.made(LIBRARY, "map 0 400;", "");
        Expect.due("remove of the only item", one.remove(0), 0);
        Expect.dueRow("items", what -> one.count(8 + what), 0, 0);
        NewsReel all = Expect.made(LIBRARY, "map 0 1;".repeat(29) + "map 1 400;", "");
        Expect.due("remove of the 30th item", all.remove(29), 29);
        Expect.due("remove of the first one", all.remove(0), 28);
    }

    private static void removeExceptions() {
        Expect.sentence("Promise 30", "Throws `IndexOutOfBoundsException` if there is no such item");
        NewsReel x = made();
        Expect.throwsIndexAround("remove", x::remove, 3);
        NewsReel empty = new NewsReel();
        Expect.throwsIndexAround("remove of an empty reel", empty::remove, 0);
        Expect.due("acts", empty.account(0), 0);
    }

    private static void move() {
        Expect.sentence("Promise 31",
                "Takes an item of the reel out of its place and puts it to another one (also to where it is).",
                "`to`: the number that it has then",
                "Returns the END then.");
        String[] items = {"shot 0 from 10 to 19;", "mix 4{shot 1;repeat 2{shot 0;};};", "map 0 6;"};
        int[][] due = {{0, 1, 2}, {1, 0, 2}, {1, 2, 0}, {1, 0, 2}, {0, 1, 2}, {0, 2, 1}, {2, 0, 1}, {0, 2, 1}, {0, 1, 2}};
        for (int item = 0; item < 3; item++) {
            for (int to = 0; to < 3; to++) {
                NewsReel x = made();
                Expect.due("move of " + item + " to " + to, x.move(item, to), 88);
                int[] now = due[item * 3 + to];
                dueReel("move of " + item + " to " + to, x, items[now[0]] + items[now[1]] + items[now[2]]);
                Expect.due("acts", x.account(0), 3);
                Expect.due("acts to undo", x.count(13), 3);
            }
        }
        NewsReel one = Expect.made(LIBRARY, "map 0 7;", "");
        Expect.due("move of the only item", one.move(0, 0), 7);
        NewsReel all = Expect.made(LIBRARY, "map 1 7;" + "map 0 1;".repeat(29), "");
        Expect.due("move of the first of 30 items to the last", all.move(0, 29), 36);
        Expect.due("the frames of the last one", all.piece(29, 3), 7);
        Expect.due("move of the last of 30 items to the first", all.move(29, 0), 36);
        Expect.due("the frames of the first one", all.piece(0, 3), 7);
        Expect.due("move of the last but one", all.move(28, 29), 36);
    }

    private static void moveExceptions() {
        Expect.sentence("Promise 31", "Throws `IndexOutOfBoundsException` if there is no such item, or no item with the number to");
        NewsReel x = made();
        Expect.throwsIndexAround("move of", item -> x.move(item, 0), 3);
        Expect.throwsIndexAround("move to", to -> x.move(0, to), 3);
        Expect.throwsIndexAround("move both", both -> x.move(both, both), 3);
        NewsReel empty = new NewsReel();
        Expect.throwsIndexAround("move of an empty reel", item -> empty.move(item, item), 0);
        Expect.due("acts", empty.account(0), 0);
    }

    // ---- undo

    private static void latestEightActs() {
        Expect.sentence("ACTS", "The latest 8 acts that were done can be undone.");
        for (int acts = 0; acts <= 18; acts++) {
            NewsReel x = new NewsReel();
            for (int slack = 1; slack <= acts; slack++) {
                x.setSlack(slack);
            }
            int undos = Math.min(acts, 8);
            Expect.due("acts to undo of " + acts, x.count(13), undos);
            for (int left = undos - 1; left >= 0; left--) {
                Expect.due("undo of " + acts, x.undo(), left);
                Expect.due("SLACK after it", x.count(7), acts - undos + left);
            }
            Expect.due("undo of no more", x.undo(), -1);
            Expect.due("SLACK after it", x.count(7), acts - undos);
            Expect.due("acts done", x.account(0), acts);
        }
    }

    private static void nothingToUndo() {
        Expect.sentence("Promise 38", "Returns the number of acts that can still be undone; NONE if there is none to undo.");
        NewsReel x = new NewsReel();
        Expect.due("undo of a new object", x.undo(), -1);
        Expect.due("undo again", x.undo(), -1);
        x.assemble();
        Expect.due("undo of a refused act", x.undo(), -1);
        x.setSlack(5);
        x.assemble();
        Expect.due("undo of the act ahead of a refused one", x.undo(), 0);
        Expect.due("SLACK", x.count(7), 0);
        Expect.due("undo of none", x.undo(), -1);
        Expect.due("SLACK stays", x.count(7), 0);
    }

    /** Acts and undos by turns, against a list of what SLACK was. */
    private static void undoRing() {
        Expect.sentence("Promise 38", "Undoes the latest act that can be undone");
        NewsReel x = new NewsReel();
        java.util.ArrayList<Integer> ahead = new java.util.ArrayList<>();
        int[] rounds = {3, -1, 9, -4, 2, -7, 8, -3, 12, -9, 1, -2, 7, -6, 10, -8};
        int slack = 0;
        int told = 0;
        for (int round : rounds) {
            for (int i = 0; i < Math.abs(round); i++) {
                if (round > 0) {
                    ahead.add(slack);
                    if (ahead.size() > 8) {
                        ahead.remove(0);
                    }
                    told = told % 100 + 1;
                    Expect.due("setSlack", x.setSlack(told), slack);
                    slack = told;
                } else if (ahead.isEmpty()) {
                    Expect.due("undo of none", x.undo(), -1);
                } else {
                    slack = ahead.remove(ahead.size() - 1);
                    Expect.due("undo", x.undo(), ahead.size());
                }
                Expect.due("SLACK", x.count(7), slack);
                Expect.due("acts to undo", x.count(13), ahead.size());
            }
        }
    }

    private static void undoEachAct() {
        Expect.sentence("Promise 38",
                "everything but the accounts, the text buffer, the latest error, the output and the saved states is as it was ahead of it");
        undone("edit", x -> Expect.edit(x, "map 1 3;"), 1);
        undone("say", x -> Expect.say(x, "a b."), 2);
        undone("assemble", x -> x.assemble(), 3);
        undone("insert", x -> x.insert(1, 1, 9), 97);
        undone("trim", x -> x.trim(0, 3), 7);
        undone("remove", x -> x.remove(1), 16);
        undone("move", x -> x.move(2, 0), 88);
        undone("setWeek", x -> x.setWeek(5), 1);
        undone("setVoice", x -> x.setVoice(20, 0), 80);
        undone("setSlack", x -> x.setSlack(100), 1);
    }

    private static void undone(String call, Refused act, int answer) {
        NewsReel x = made();
        x.setVoice(5, 7);
        x.setSlack(1);
        String state = Expect.state(x);
        Expect.due(call, act.answer(x), answer);
        Expect.due("that " + call + " changes the state", !Expect.state(x).equals(state), true);
        Expect.due("acts to undo after " + call, x.count(13), 5);
        Expect.due("undo of " + call, x.undo(), 4);
        Expect.dueText("the state after undo of " + call, Expect.state(x), state);
        dueReel("undo of " + call, x, REEL);
        Expect.dueText("the voice after undo of " + call, Expect.voiceText(x), VOICE);
        Expect.due("acts done", x.account(0), 5);
    }

    private static void undoKeeps() {
        Expect.sentence("Promise 38", "everything but the accounts, the text buffer, the latest error, the output and the saved states");
        NewsReel x = made();
        x.setSlack(9);
        x.save(0);
        x.trim(1, 1);
        Expect.say(x, "a");
        x.writeVoice();
        Expect.type(x, "map 1 3;");
        String rest = Expect.rest(x);
        Expect.due("undo", x.undo(), 2);
        Expect.due("undo", x.undo(), 1);
        Expect.due("undo", x.undo(), 0);
        Expect.dueText("the rest after undo", Expect.rest(x), rest.replace("acts to undo 3", "acts to undo 0"));
        Expect.due("the text after undo", x.truncateText(8), 8);
        Expect.due("edit of the text", x.edit(), 1);
        x.restore(0);
        Expect.due("the saved SLACK", x.count(7), 9);
        dueReel("restore", x, REEL);
    }

    // ---- saved states

    private static void slots() {
        Expect.sentence("Promise 39", "`slot`: 0 or 1", "Throws `IllegalArgumentException` if slot is out of range");
        NewsReel x = new NewsReel();
        Expect.throwsArgumentAround("save", slot -> { x.save(slot); return 0; }, 0, 1);
        x.save(0);
        x.save(1);
        Expect.throwsArgumentAround("save", slot -> { x.save(slot); return 0; }, 0, 1);
        Expect.sentence("Promise 40", "`slot`: 0 or 1", "Throws `IllegalArgumentException` if slot is out of range");
        Expect.throwsArgumentAround("restore", slot -> { x.restore(slot); return 0; }, 0, 1);
        NewsReel none = new NewsReel();
        Expect.throwsArgumentAround("restore of a new object", slot -> { none.restore(slot); return 0; }, 0, 1);
    }

    private static void nothingSaved() {
        Expect.sentence("Promise 40", "Throws `IllegalStateException` if nothing is saved there");
        for (int slot = 0; slot <= 1; slot++) {
            int it = slot;
            NewsReel x = new NewsReel();
            Expect.throwsState("restore of " + it, () -> x.restore(it));
            x.save(1 - it);
            x.setSlack(5);
            Expect.throwsState("restore of " + it, () -> x.restore(it));
            Expect.due("SLACK after it", x.count(7), 5);
            Expect.due("acts to undo after it", x.count(13), 1);
            x.restore(1 - it);
            Expect.due("SLACK of the other slot", x.count(7), 0);
            Expect.load(x, "");
            Expect.throwsState("restore of " + it + " after load", () -> x.restore(it));
        }
    }

    private static void saveReplaces() {
        Expect.sentence("Promise 39", "a state that is already saved there is replaced");
        NewsReel x = new NewsReel();
        x.setSlack(1);
        x.save(0);
        x.setSlack(2);
        x.save(1);
        x.setSlack(3);
        x.save(0);
        x.setSlack(4);
        x.restore(0);
        Expect.due("SLACK of slot 0", x.count(7), 3);
        x.restore(1);
        Expect.due("SLACK of slot 1", x.count(7), 2);
        NewsReel shorter = made();
        shorter.save(0);
        Expect.load(shorter, "");
        String empty = Expect.state(shorter);
        shorter.save(0);
        Expect.load(shorter, LIBRARY);
        shorter.restore(0);
        Expect.dueText("an empty state that is saved over a full one", Expect.state(shorter), empty);
    }

    private static void saveKeepsActs() {
        Expect.sentence("Promise 39",
                "Saves everything but the accounts, the acts that can be undone, the text buffer, the latest error,",
                "the output and the saved states.");
        NewsReel x = busy();
        String state = Expect.state(x);
        String rest = Expect.rest(x);
        x.save(0);
        x.save(1);
        Expect.dueText("the state after save", Expect.state(x), state);
        Expect.dueText("the rest after save", Expect.rest(x), rest);
        Expect.dueTextLength("save", x, 7);
        Expect.due("undo after save", x.undo(), 2);
        Expect.due("WEEK after undo", x.count(3), 0);
        x.restore(1);
        Expect.dueText("the saved state", Expect.state(x), state);
        Expect.dueText("the rest after restore", Expect.rest(x), rest.replace("acts to undo 3", "acts to undo 0"));
    }

    private static void savedStays() {
        Expect.sentence("Promise 40", "Brings back a saved state, which stays saved");
        NewsReel x = made();
        String state = Expect.state(x);
        x.save(1);
        for (int time = 0; time < 2; time++) {
            Expect.load(x, "shot 1 5;map b;week 9;");
            Expect.edit(x, "map 0 400;");
            Expect.say(x, "b b b b.");
            x.restore(1);
            Expect.dueText("the state after restore", Expect.state(x), state);
            x.trim(0, 1);
            x.setWeek(5);
        }
        NewsReel texts = made();
        texts.save(0);
        Expect.load(texts, "");
        texts.restore(0);
        dueReel("restore", texts, REEL);
        Expect.dueText("the voice after restore", Expect.voiceText(texts), VOICE);
    }

    private static void restoreForgetsActs() {
        Expect.sentence("Promise 40", "no act can be undone then");
        NewsReel x = new NewsReel();
        x.save(0);
        for (int slack = 1; slack <= 8; slack++) {
            x.setSlack(slack);
        }
        x.restore(0);
        Expect.due("acts to undo after restore", x.count(13), 0);
        Expect.due("undo after restore", x.undo(), -1);
        Expect.due("SLACK after restore", x.count(7), 0);
        Expect.due("acts done after restore", x.account(0), 8);
        x.setSlack(50);
        Expect.due("acts to undo after the next act", x.count(13), 1);
        Expect.due("undo of it", x.undo(), 0);
        Expect.due("SLACK after undo", x.count(7), 0);
        Expect.due("undo of no more", x.undo(), -1);
        for (int slack = 1; slack <= 9; slack++) {
            x.setSlack(slack);
        }
        Expect.due("acts to undo after nine more", x.count(13), 8);
    }

    private static void restoreKeeps() {
        Expect.sentence("Promise 39",
                "Saves everything but the accounts, the acts that can be undone, the text buffer, the latest error,",
                "the output and the saved states.");
        NewsReel x = made();
        x.save(0);
        Expect.edit(x, "shot 9;");
        x.trim(1, 1);
        x.writeReel();
        x.setSlack(7);
        x.save(1);
        Expect.type(x, "map 1 3;map 1 4;");
        String rest = Expect.rest(x);
        x.restore(0);
        Expect.dueText("the rest after restore", Expect.rest(x), rest.replace("acts to undo 3", "acts to undo 0"));
        Expect.dueTextLength("restore", x, 16);
        Expect.due("edit of the text", x.edit(), 2);
        x.restore(1);
        Expect.due("SLACK of the other slot", x.count(7), 7);
    }
}
