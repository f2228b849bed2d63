public final class NewsReel {
    public static final int NONE = -1;

    private static final int MAX_TEXT = 500;
    // 30 items of at most 24 bytes are 720, 60 words with their spaces fewer still.
    private static final int MAX_OUTPUT = 1000;
    private static final int MAX_SHOTS = 12;
    private static final int MAX_MAPS = 6;
    private static final int MAX_NAME = 8;
    private static final int MAX_BANS = 10;
    private static final int MAX_ITEMS = 30;
    private static final int MAX_BLOCKS = 4;
    private static final int MAX_PIECES = 60;
    private static final int MAX_WORDS = 60;
    private static final int MAX_LETTERS = 20;
    private static final int MAX_FRAMES = 400;
    private static final int MAX_FAULTS = 3 * MAX_PIECES + MAX_WORDS + 1;
    private static final int CAMERAS = 6;
    private static final int LAST_WEEK = 99;
    private static final int FASTEST = 20;
    private static final int MAX_UNDOS = 8;
    private static final int SLOTS = 2;
    private static final int REASONS = 6;
    private static final int FAULT_KINDS = 5;

    private static final int WEEK = 0;
    private static final int SPEED = 1;
    private static final int PAUSE = 2;
    private static final int LEAST = 3;
    private static final int SLACK = 4;
    private static final int SETTINGS = 5;
    private static final int[] SETTING_LOWEST = {0, 1, 0, 1, 0};
    private static final int[] SETTING_HIGHEST = {99, 20, 50, 50, 100};
    private static final int[] SETTING_AT_FIRST = {0, 4, 10, 8, 0};

    private static final int CUT = 0;
    private static final int MAP = 1;
    private static final int REPEAT = 2;
    private static final int MIX = 3;

    private static final int END_OF_TEXT = 0;
    private static final int WORD = 1;
    private static final int NUMBER = 2;
    private static final int SEMICOLON = 3;
    private static final int OPEN = 4;
    private static final int CLOSE = 5;
    private static final int STOP = 6;
    private static final int NO_TOKEN = 7;

    private static final int NOT_ALLOWED = 1;
    private static final int OUT_OF_RANGE = 2;
    private static final int STANDS_ALREADY = 3;
    private static final int TOO_MANY = 4;
    private static final int TOO_DEEP = 5;

    private static final int TEXT_HAS_ERROR = 1;
    private static final int TOO_MANY_PIECES = 2;
    private static final int NO_CHOICE = 3;
    private static final int ITEMS_FULL = 4;
    private static final int HAS_BLOCK = 5;
    private static final int TOO_SHORT = 6;

    private final Text text = new Text();
    private final Output written = new Output();
    private final State state = new State();
    private final State draft = new State();
    private final State[] past = new State[MAX_UNDOS];
    private int pastCount = 0;
    private int pastNext = 0;
    private final State[] saved = new State[SLOTS];
    private final boolean[] isSaved = new boolean[SLOTS];
    private final Pieces pieces = new Pieces();
    private final Speech speech = new Speech();
    private final Faults found = new Faults();
    private final Choice choice = new Choice();
    private final int[] accounts = new int[REASONS + 1];

    public NewsReel() {
        for (int i = 0; i < MAX_UNDOS; i++) {
            past[i] = new State();
        }
        for (int i = 0; i < SLOTS; i++) {
            saved[i] = new State();
        }
    }

    // ---- texts

    public int appendText(int fourBytes) throws IllegalStateException {
        if (text.length > MAX_TEXT - 4) {
            throw new IllegalStateException("the text would be longer than 500 bytes");
        }
        text.append(fourBytes);
        return text.length;
    }

    public int truncateText(int length) throws IllegalArgumentException {
        requireRange(length, 0, text.length);
        text.length = length;
        return length;
    }

    public int load() {
        boolean read = draft.library.readFrom(text);
        text.length = 0;
        if (!read) {
            return NONE;
        }
        draft.items.clear();
        draft.voice.clear();
        state.copyFrom(draft);
        forgetActs();
        settle();
        return state.library.shots;
    }

    public int errorCode() {
        return text.errorCode;
    }

    public int errorPosition() {
        return text.errorPosition;
    }

    // ---- what there is

    public int count(int what) throws IllegalArgumentException {
        requireRange(what, 0, 13);
        switch (what) {
            case 0: return state.library.shots;
            case 1: return state.library.maps;
            case 2: return state.library.bans;
            case 8: return state.items.topCount();
            case 9: return state.items.count;
            case 10: return state.voice.words;
            case 11: return state.voice.allSyllables();
            case 12: return state.voice.sentences();
            case 13: return pastCount;
            default: return state.library.setting(what - 3);
        }
    }

    public int shot(int shot, int what) throws IndexOutOfBoundsException, IllegalArgumentException {
        requireIndex(shot, state.library.shots);
        requireRange(what, 0, 4);
        switch (what) {
            case 0: return state.library.cameraOf(shot);
            case 1: return state.library.lengthOf(shot);
            case 2: return isBanned(shot) ? 1 : 0;
            case 3: return pieces.countOf(CUT, shot);
            default: return pieces.framesOf(CUT, shot);
        }
    }

    public int map(int map, int what) throws IndexOutOfBoundsException, IllegalArgumentException {
        requireIndex(map, state.library.maps);
        requireRange(what, 0, 3);
        switch (what) {
            case 0: return state.library.nameLengthOf(map);
            case 1: return speech.countOf(map);
            case 2: return pieces.countOf(MAP, map);
            default: return shownWords(map);
        }
    }

    public int ban(int ban, int what) throws IndexOutOfBoundsException, IllegalArgumentException {
        requireIndex(ban, state.library.bans);
        requireRange(what, 0, 3);
        switch (what) {
            case 0: return state.library.banCameras[ban];
            case 1: return state.library.banFroms[ban];
            case 2: return state.library.banTos[ban];
            default: return state.library.shotsOf(state.library.banCameras[ban]);
        }
    }

    public int word(int word, int what) throws IndexOutOfBoundsException, IllegalArgumentException {
        requireIndex(word, state.voice.words);
        requireRange(what, 0, 5);
        switch (what) {
            case 0: return state.voice.sizes[word];
            case 1: return state.voice.syllables[word];
            case 2: return speech.begins[word];
            case 3: return speech.ends[word];
            case 4: return speech.maps[word];
            default: return state.voice.sentenceOf(word);
        }
    }

    public int piece(int piece, int what) throws IndexOutOfBoundsException, IllegalArgumentException {
        requireIndex(piece, pieces.count);
        requireRange(what, 0, 6);
        switch (what) {
            case 0: return pieces.kinds[piece];
            case 1: return pieces.numbers[piece];
            case 2: return pieces.firsts[piece];
            case 3: return pieces.frames[piece];
            case 4: return pieces.begins[piece];
            case 5: return pieces.endOf(piece);
            default: return pieces.overlaps[piece];
        }
    }

    public int reel(int what) throws IllegalArgumentException {
        requireRange(what, 0, 6);
        switch (what) {
            case 0: return pieces.count;
            case 1: return pieces.end;
            case 2: return speech.end;
            case 3: return pieces.end - speech.end;
            case 4: return state.items.deepest();
            case 5: return pieces.longest();
            default: return pieces.allOverlaps();
        }
    }

    public int screen(int frame) {
        return pieces.onScreen(frame);
    }

    public int spoken(int frame) {
        return speech.wordAt(frame);
    }

    public int account(int what) throws IllegalArgumentException {
        requireRange(what, 0, REASONS);
        return accounts[what];
    }

    // ---- faults, choices (nothing changes)

    public int faults(int kind) throws IllegalArgumentException {
        requireRange(kind, 0, FAULT_KINDS);
        found.find(state, pieces, speech);
        return kind == 0 ? found.count : found.countOf(kind);
    }

    public int fault(int index, int what) throws IndexOutOfBoundsException, IllegalArgumentException {
        found.find(state, pieces, speech);
        requireIndex(index, found.count);
        requireRange(what, 0, 1);
        return what == 0 ? found.kinds[index] : found.places[index];
    }

    public boolean fits() {
        found.find(state, pieces, speech);
        return found.count == 0;
    }

    public double share(int camera) throws IndexOutOfBoundsException {
        requireIndex(camera, CAMERAS);
        if (pieces.end == 0) {
            return 0.0;
        }
        int frames = 0;
        for (int piece = 0; piece < pieces.count; piece++) {
            if (pieces.cameraOf(piece, state.library) == camera) {
                frames += pieces.framesOnScreen(piece);
            }
        }
        return (double) frames / (double) pieces.end;
    }

    public float pace() {
        if (state.voice.words == 0) {
            return 0;
        }
        return (float) state.voice.allSyllables() / (float) state.voice.words;
    }

    public int best(int what) throws IllegalArgumentException {
        requireRange(what, 0, 2);
        findChoice(state.library.setting(WEEK));
        switch (what) {
            case 0: return choice.set;
            case 1: return choice.waste;
            default: return choice.size;
        }
    }

    public int bestWeek() {
        int bestWeek = NONE;
        int leastWaste = NONE;
        int allowedBefore = NONE;
        for (int week = state.library.setting(WEEK); week <= LAST_WEEK; week++) {
            int allowed = state.library.allowedShots(week);
            // A week with the same shots as the one ahead of it has the same waste: it can't win.
            if (allowed != allowedBefore) {
                findChoice(week);
                if (choice.set != NONE && (bestWeek == NONE || choice.waste < leastWaste)) {
                    bestWeek = week;
                    leastWaste = choice.waste;
                }
            }
            allowedBefore = allowed;
        }
        return bestWeek;
    }

    public int bestSpeed() {
        int bestSpeed = 1;
        int leastGap = gapAtSpeed(1);
        for (int speed = 2; speed <= FASTEST; speed++) {
            int gap = gapAtSpeed(speed);
            if (gap < leastGap) {
                bestSpeed = speed;
                leastGap = gap;
            }
        }
        return bestSpeed;
    }

    // ---- acts: a number as told, or minus the reason

    public int edit() {
        boolean read = draft.items.readFrom(text, state.library);
        text.length = 0;
        if (!read) {
            return refuse(TEXT_HAS_ERROR);
        }
        if (draft.items.pieceCount() > MAX_PIECES) {
            return refuse(TOO_MANY_PIECES);
        }
        remember();
        state.items.copyFrom(draft.items);
        settle();
        return pieces.count;
    }

    public int say() {
        boolean read = draft.voice.readFrom(text);
        text.length = 0;
        if (!read) {
            return refuse(TEXT_HAS_ERROR);
        }
        remember();
        state.voice.copyFrom(draft.voice);
        settle();
        return state.voice.words;
    }

    public int assemble() {
        findChoice(state.library.setting(WEEK));
        if (choice.set == NONE) {
            return refuse(NO_CHOICE);
        }
        remember();
        state.items.clear();
        for (int shot = 0; shot < state.library.shots; shot++) {
            if ((choice.set >> shot & 1) != 0) {
                state.items.add(CUT, shot, 0, state.library.lengthOf(shot) - 1, 0);
            }
        }
        state.items.shorten(state.items.count - 1, choice.waste);
        settle();
        return choice.waste;
    }

    public int insert(int item, int map, int frames) throws IndexOutOfBoundsException, IllegalArgumentException {
        int tops = state.items.topCount();
        requireIndex(item, tops + 1);
        requireIndex(map, state.library.maps);
        requireRange(frames, 1, MAX_FRAMES);
        if (state.items.count >= MAX_ITEMS) {
            return refuse(ITEMS_FULL);
        }
        if (pieces.count >= MAX_PIECES) {
            return refuse(TOO_MANY_PIECES);
        }
        draft.items.clear();
        for (int top = 0; top < item; top++) {
            draft.items.addTop(state.items, top);
        }
        draft.items.add(MAP, map, 0, frames - 1, 0);
        for (int top = item; top < tops; top++) {
            draft.items.addTop(state.items, top);
        }
        return takeDraftItems();
    }

    public int trim(int item, int by) throws IndexOutOfBoundsException, IllegalArgumentException {
        requireIndex(item, state.items.topCount());
        requireRange(by, 1, MAX_FRAMES - 1);
        int index = state.items.topIndex(item);
        if (state.items.isBlock(index)) {
            return refuse(HAS_BLOCK);
        }
        if (state.items.framesOf(index) - by < 1) {
            return refuse(TOO_SHORT);
        }
        remember();
        state.items.shorten(index, by);
        settle();
        return state.items.framesOf(index);
    }

    public int remove(int item) throws IndexOutOfBoundsException {
        int tops = state.items.topCount();
        requireIndex(item, tops);
        draft.items.clear();
        for (int top = 0; top < tops; top++) {
            if (top != item) {
                draft.items.addTop(state.items, top);
            }
        }
        return takeDraftItems();
    }

    public int move(int item, int to) throws IndexOutOfBoundsException {
        int tops = state.items.topCount();
        requireIndex(item, tops);
        requireIndex(to, tops);
        draft.items.clear();
        for (int place = 0; place < tops; place++) {
            draft.items.addTop(state.items, topMovedTo(place, item, to));
        }
        return takeDraftItems();
    }

    public int setWeek(int week) throws IllegalArgumentException {
        requireSetting(WEEK, week);
        remember();
        state.library.set(WEEK, week);
        settle();
        return state.library.shots - Integer.bitCount(state.library.allowedShots(week));
    }

    public int setVoice(int speed, int pause) throws IllegalArgumentException {
        requireSetting(SPEED, speed);
        requireSetting(PAUSE, pause);
        remember();
        state.library.set(SPEED, speed);
        state.library.set(PAUSE, pause);
        settle();
        return speech.end;
    }

    public int setSlack(int slack) throws IllegalArgumentException {
        requireSetting(SLACK, slack);
        int before = state.library.setting(SLACK);
        remember();
        state.library.set(SLACK, slack);
        settle();
        return before;
    }

    // ---- output

    public int writeReel() {
        written.writeItems(state.items, state.library);
        return written.length;
    }

    public int writeVoice() {
        written.writeWords(state.voice);
        return written.length;
    }

    public int output(int index) {
        return written.byteAt(index);
    }

    // ---- undo, saved states

    public int undo() {
        if (pastCount == 0) {
            return NONE;
        }
        pastNext = pastNext == 0 ? MAX_UNDOS - 1 : pastNext - 1;
        pastCount--;
        state.copyFrom(past[pastNext]);
        settle();
        return pastCount;
    }

    public void save(int slot) throws IllegalArgumentException {
        requireRange(slot, 0, SLOTS - 1);
        saved[slot].copyFrom(state);
        isSaved[slot] = true;
    }

    public void restore(int slot) throws IllegalArgumentException, IllegalStateException {
        requireRange(slot, 0, SLOTS - 1);
        if (!isSaved[slot]) {
            throw new IllegalStateException("nothing is saved there");
        }
        state.copyFrom(saved[slot]);
        forgetActs();
        settle();
    }

    // ---- what the methods above share

    private static void requireIndex(int index, int count) {
        if (index < 0 || index >= count) {
            throw new IndexOutOfBoundsException("there is no such number");
        }
    }

    private static void requireRange(int value, int lowest, int highest) {
        if (value < lowest || value > highest) {
            throw new IllegalArgumentException("the value is out of range");
        }
    }

    private static void requireSetting(int setting, int value) {
        if (setting < 0 || setting >= SETTINGS) {
            return;
        }
        requireRange(value, SETTING_LOWEST[setting], SETTING_HIGHEST[setting]);
    }

    private int refuse(int reason) {
        if (reason >= 1 && reason <= REASONS) {
            accounts[reason]++;
        }
        return -reason;
    }

    /** Keeps the state ahead of an act that is going to be done. */
    private void remember() {
        past[pastNext].copyFrom(state);
        pastNext = pastNext == MAX_UNDOS - 1 ? 0 : pastNext + 1;
        pastCount = Math.min(pastCount + 1, MAX_UNDOS);
        accounts[0]++;
    }

    private void forgetActs() {
        pastCount = 0;
        pastNext = 0;
    }

    /** Pieces and times are kept beside the state, so they are made anew whenever it changes. */
    private void settle() {
        pieces.cutFrom(state.items);
        speech.timeFrom(state.voice, state.library);
    }

    private int takeDraftItems() {
        remember();
        state.items.copyFrom(draft.items);
        // Only the items are new: the words keep their times.
        pieces.cutFrom(state.items);
        return pieces.end;
    }

    /** Which item has the number place after the one at from went to the number to. */
    private static int topMovedTo(int place, int from, int to) {
        if (place == to) {
            return from;
        }
        int rest = place < to ? place : place - 1;
        return rest < from ? rest : rest + 1;
    }

    private boolean isBanned(int shot) {
        int allowed = state.library.allowedShots(state.library.setting(WEEK));
        return (allowed >> shot & 1) == 0;
    }

    private int shownWords(int map) {
        int shown = 0;
        for (int word = 0; word < speech.count; word++) {
            if (speech.maps[word] == map && pieces.shows(map, speech.begins[word])) {
                shown++;
            }
        }
        return shown;
    }

    private void findChoice(int week) {
        choice.find(state.library, state.library.allowedShots(week), speech.end);
    }

    private int gapAtSpeed(int speed) {
        int voiceEnd = state.voice.endAt(speed, state.library.setting(PAUSE));
        return Math.abs(pieces.end - voiceEnd);
    }

    /** The text buffer, and the reading of its tokens one by one. */
    private static final class Text {
        // Every number of the texts is smaller, and ten times as much is still an int.
        private static final int FAR_TOO_MUCH = 1000000;

        final byte[] bytes = new byte[MAX_TEXT];
        int length = 0;
        int kind = END_OF_TEXT;
        int start = 0;
        private int behind = 0;
        private int value = 0;
        int taken = 0;
        int errorCode = 0;
        int errorPosition = NONE;

        void append(int fourBytes) {
            for (int shift = 24; shift >= 0; shift -= 8) {
                if (length < MAX_TEXT) {
                    bytes[length] = (byte) (fourBytes >> shift);
                    length++;
                }
            }
        }

        void startReading() {
            behind = 0;
            errorCode = 0;
            errorPosition = NONE;
            advance();
        }

        boolean fail(int code) {
            errorCode = code;
            errorPosition = start;
            return false;
        }

        int size() {
            return behind - start;
        }

        /** Goes on to the next token; behind the last one stands END_OF_TEXT. */
        void advance() {
            int at = behind;
            while (at < length && (bytes[at] == ' ' || bytes[at] == '\n')) {
                at++;
            }
            start = at;
            if (at >= length) {
                kind = END_OF_TEXT;
            } else if (isLetter(bytes[at])) {
                kind = WORD;
                while (at < length && isLetter(bytes[at])) {
                    at++;
                }
            } else if (isDigit(bytes[at])) {
                kind = NUMBER;
                value = 0;
                while (at < length && isDigit(bytes[at])) {
                    value = Math.min(value * 10 + (bytes[at] - '0'), FAR_TOO_MUCH);
                    at++;
                }
            } else {
                kind = kindOfSign(bytes[at]);
                at++;
            }
            behind = at;
        }

        boolean isWord(String word) {
            if (kind != WORD || size() != word.length()) {
                return false;
            }
            for (int i = 0; i < word.length(); i++) {
                if (bytes[start + i] != word.charAt(i)) {
                    return false;
                }
            }
            return true;
        }

        boolean take(int due) {
            if (kind != due) {
                return fail(NOT_ALLOWED);
            }
            advance();
            return true;
        }

        boolean takeWord(String word) {
            if (!isWord(word)) {
                return fail(NOT_ALLOWED);
            }
            advance();
            return true;
        }

        boolean takeNumber(int lowest, int highest) {
            if (kind != NUMBER) {
                return fail(NOT_ALLOWED);
            }
            if (value < lowest || value > highest) {
                return fail(OUT_OF_RANGE);
            }
            taken = value;
            advance();
            return true;
        }

        private static boolean isLetter(int sign) {
            return sign >= 'a' && sign <= 'z';
        }

        private static boolean isDigit(int sign) {
            return sign >= '0' && sign <= '9';
        }

        private static int kindOfSign(int sign) {
            switch (sign) {
                case ';': return SEMICOLON;
                case '{': return OPEN;
                case '}': return CLOSE;
                case '.': return STOP;
                default: return NO_TOKEN;
            }
        }
    }

    /** Shots, maps, bans and the five numbers that a library tells (WEEK to SLACK). */
    private static final class Library {
        int shots = 0;
        private final int[] cameras = new int[MAX_SHOTS];
        private final int[] lengths = new int[MAX_SHOTS];
        int maps = 0;
        private final byte[] names = new byte[MAX_MAPS * MAX_NAME];
        private final int[] nameLengths = new int[MAX_MAPS];
        int bans = 0;
        final int[] banCameras = new int[MAX_BANS];
        final int[] banFroms = new int[MAX_BANS];
        final int[] banTos = new int[MAX_BANS];
        private final int[] settings = new int[SETTINGS];
        private final boolean[] told = new boolean[SETTINGS];

        Library() {
            System.arraycopy(SETTING_AT_FIRST, 0, settings, 0, SETTINGS);
        }

        void copyFrom(Library other) {
            shots = other.shots;
            System.arraycopy(other.cameras, 0, cameras, 0, MAX_SHOTS);
            System.arraycopy(other.lengths, 0, lengths, 0, MAX_SHOTS);
            maps = other.maps;
            System.arraycopy(other.names, 0, names, 0, MAX_MAPS * MAX_NAME);
            System.arraycopy(other.nameLengths, 0, nameLengths, 0, MAX_MAPS);
            bans = other.bans;
            System.arraycopy(other.banCameras, 0, banCameras, 0, MAX_BANS);
            System.arraycopy(other.banFroms, 0, banFroms, 0, MAX_BANS);
            System.arraycopy(other.banTos, 0, banTos, 0, MAX_BANS);
            System.arraycopy(other.settings, 0, settings, 0, SETTINGS);
        }

        int cameraOf(int shot) {
            return shot >= 0 && shot < shots ? cameras[shot] : NONE;
        }

        int lengthOf(int shot) {
            return shot >= 0 && shot < shots ? lengths[shot] : 0;
        }

        int nameLengthOf(int map) {
            return map >= 0 && map < maps ? nameLengths[map] : 0;
        }

        int setting(int which) {
            return which >= 0 && which < SETTINGS ? settings[which] : 0;
        }

        void set(int which, int value) {
            if (which >= 0 && which < SETTINGS) {
                settings[which] = value;
            }
        }

        int shotsOf(int camera) {
            int number = 0;
            for (int shot = 0; shot < shots; shot++) {
                if (cameras[shot] == camera) {
                    number++;
                }
            }
            return number;
        }

        /** The set of the shots that are not banned in a week. */
        int allowedShots(int week) {
            int allowed = 0;
            for (int shot = 0; shot < shots; shot++) {
                if (!isBanned(cameras[shot], week)) {
                    allowed |= 1 << shot;
                }
            }
            return allowed;
        }

        private boolean isBanned(int camera, int week) {
            for (int ban = 0; ban < bans; ban++) {
                if (banCameras[ban] == camera && banFroms[ban] <= week && week <= banTos[ban]) {
                    return true;
                }
            }
            return false;
        }

        /** The map whose NAME is the row of letters that begins at from. */
        int mapNamed(byte[] letters, int from, int size) {
            for (int map = 0; map < maps; map++) {
                if (isName(map, letters, from, size)) {
                    return map;
                }
            }
            return NONE;
        }

        private boolean isName(int map, byte[] letters, int from, int size) {
            if (size != nameLengths[map] || from < 0 || size > letters.length - from) {
                return false;
            }
            for (int i = 0; i < size; i++) {
                if (letters[from + i] != names[map * MAX_NAME + i]) {
                    return false;
                }
            }
            return true;
        }

        boolean readFrom(Text text) {
            shots = 0;
            maps = 0;
            bans = 0;
            for (int which = 0; which < SETTINGS; which++) {
                settings[which] = SETTING_AT_FIRST[which];
                told[which] = false;
            }
            text.startReading();
            for (int n = 0; n < MAX_TEXT && text.kind != END_OF_TEXT; n++) {
                if (!readStatement(text) || !text.take(SEMICOLON)) {
                    return false;
                }
            }
            return true;
        }

        private boolean readStatement(Text text) {
            if (text.isWord("shot")) {
                return readShot(text);
            }
            if (text.isWord("map")) {
                return readName(text);
            }
            if (text.isWord("ban")) {
                return readBan(text);
            }
            int which = settingTold(text);
            return which == NONE ? text.fail(NOT_ALLOWED) : readSetting(text, which);
        }

        private static int settingTold(Text text) {
            if (text.isWord("week")) {
                return WEEK;
            }
            if (text.isWord("speed")) {
                return SPEED;
            }
            if (text.isWord("pause")) {
                return PAUSE;
            }
            if (text.isWord("least")) {
                return LEAST;
            }
            return text.isWord("slack") ? SLACK : NONE;
        }

        private boolean readShot(Text text) {
            if (shots >= MAX_SHOTS) {
                return text.fail(TOO_MANY);
            }
            text.advance();
            if (!text.takeNumber(0, CAMERAS - 1)) {
                return false;
            }
            cameras[shots] = text.taken;
            if (!text.takeNumber(1, MAX_FRAMES)) {
                return false;
            }
            lengths[shots] = text.taken;
            shots++;
            return true;
        }

        private boolean readName(Text text) {
            if (maps >= MAX_MAPS) {
                return text.fail(TOO_MANY);
            }
            text.advance();
            if (text.kind != WORD) {
                return text.fail(NOT_ALLOWED);
            }
            int size = text.size();
            if (size > MAX_NAME) {
                return text.fail(OUT_OF_RANGE);
            }
            if (mapNamed(text.bytes, text.start, size) != NONE) {
                return text.fail(STANDS_ALREADY);
            }
            System.arraycopy(text.bytes, text.start, names, maps * MAX_NAME, size);
            nameLengths[maps] = size;
            maps++;
            text.advance();
            return true;
        }

        private boolean readBan(Text text) {
            if (bans >= MAX_BANS) {
                return text.fail(TOO_MANY);
            }
            text.advance();
            if (!text.takeNumber(0, CAMERAS - 1)) {
                return false;
            }
            banCameras[bans] = text.taken;
            if (!text.takeNumber(0, LAST_WEEK)) {
                return false;
            }
            banFroms[bans] = text.taken;
            if (!text.takeNumber(banFroms[bans], LAST_WEEK)) {
                return false;
            }
            banTos[bans] = text.taken;
            bans++;
            return true;
        }

        private boolean readSetting(Text text, int which) {
            if (told[which]) {
                return text.fail(STANDS_ALREADY);
            }
            told[which] = true;
            text.advance();
            if (!text.takeNumber(SETTING_LOWEST[which], SETTING_HIGHEST[which])) {
                return false;
            }
            settings[which] = text.taken;
            return true;
        }
    }

    /** The words of the voice with their letters in one row. */
    private static final class Voice {
        int words = 0;
        private int letterCount = 0;
        final byte[] letters = new byte[MAX_TEXT];
        final int[] starts = new int[MAX_WORDS];
        final int[] sizes = new int[MAX_WORDS];
        final int[] syllables = new int[MAX_WORDS];
        final boolean[] endsSentence = new boolean[MAX_WORDS];

        void clear() {
            words = 0;
            letterCount = 0;
        }

        void copyFrom(Voice other) {
            words = other.words;
            letterCount = other.letterCount;
            System.arraycopy(other.letters, 0, letters, 0, MAX_TEXT);
            System.arraycopy(other.starts, 0, starts, 0, MAX_WORDS);
            System.arraycopy(other.sizes, 0, sizes, 0, MAX_WORDS);
            System.arraycopy(other.syllables, 0, syllables, 0, MAX_WORDS);
            System.arraycopy(other.endsSentence, 0, endsSentence, 0, MAX_WORDS);
        }

        int allSyllables() {
            int sum = 0;
            for (int word = 0; word < words; word++) {
                sum += syllables[word];
            }
            return sum;
        }

        int sentences() {
            return sentenceOf(words);
        }

        /** How many sentences end ahead of the word. */
        int sentenceOf(int word) {
            int ended = 0;
            for (int i = 0; i < word && i < words; i++) {
                if (endsSentence[i]) {
                    ended++;
                }
            }
            return ended;
        }

        int endAt(int speed, int pause) {
            return words == 0 ? 0 : speed * allSyllables() + pause * (sentences() - 1);
        }

        boolean readFrom(Text text) {
            clear();
            boolean inSentence = false;
            text.startReading();
            for (int n = 0; n < MAX_TEXT && text.kind != END_OF_TEXT; n++) {
                if (text.kind == WORD) {
                    if (!readWord(text)) {
                        return false;
                    }
                    inSentence = true;
                } else if (text.kind == STOP && inSentence && words > 0) {
                    endsSentence[words - 1] = true;
                    inSentence = false;
                    text.advance();
                } else {
                    return text.fail(NOT_ALLOWED);
                }
            }
            return inSentence ? text.fail(NOT_ALLOWED) : true;
        }

        private boolean readWord(Text text) {
            int size = text.size();
            if (size > MAX_LETTERS) {
                return text.fail(OUT_OF_RANGE);
            }
            if (words >= MAX_WORDS || size > MAX_TEXT - letterCount) {
                return text.fail(TOO_MANY);
            }
            System.arraycopy(text.bytes, text.start, letters, letterCount, size);
            starts[words] = letterCount;
            sizes[words] = size;
            endsSentence[words] = false;
            syllables[words] = syllablesOf(letterCount, size);
            letterCount += size;
            words++;
            text.advance();
            return true;
        }

        private int syllablesOf(int start, int size) {
            int groups = 0;
            boolean inGroup = false;
            for (int i = start; i < start + size; i++) {
                boolean vowel = isVowel(letters[i]);
                if (vowel && !inGroup) {
                    groups++;
                }
                inGroup = vowel;
            }
            return Math.max(groups, 1);
        }

        private static boolean isVowel(int letter) {
            return letter == 'a' || letter == 'e' || letter == 'i' || letter == 'o' || letter == 'u' || letter == 'y';
        }
    }

    /**
     * The items of the reel, each ahead of those in its block; the depth of an item tells how many
     * blocks are around it. A map is held from frame 0 on, so cuts and maps have their frames alike.
     */
    private static final class Items {
        int count = 0;
        final int[] kinds = new int[MAX_ITEMS];
        final int[] numbers = new int[MAX_ITEMS];
        final int[] firsts = new int[MAX_ITEMS];
        final int[] lasts = new int[MAX_ITEMS];
        final int[] depths = new int[MAX_ITEMS];
        private final int[] timesAt = new int[MAX_BLOCKS + 1];

        void clear() {
            count = 0;
        }

        void copyFrom(Items other) {
            count = other.count;
            System.arraycopy(other.kinds, 0, kinds, 0, MAX_ITEMS);
            System.arraycopy(other.numbers, 0, numbers, 0, MAX_ITEMS);
            System.arraycopy(other.firsts, 0, firsts, 0, MAX_ITEMS);
            System.arraycopy(other.lasts, 0, lasts, 0, MAX_ITEMS);
            System.arraycopy(other.depths, 0, depths, 0, MAX_ITEMS);
        }

        void add(int kind, int number, int first, int last, int depth) {
            if (count >= MAX_ITEMS) {
                return;
            }
            kinds[count] = kind;
            numbers[count] = number;
            firsts[count] = first;
            lasts[count] = last;
            depths[count] = depth;
            count++;
        }

        /** Adds an item of another reel that is in no block there, with all that is in it. */
        void addTop(Items other, int top) {
            int behind = other.topIndex(top + 1);
            for (int i = other.topIndex(top); i < behind; i++) {
                add(other.kinds[i], other.numbers[i], other.firsts[i], other.lasts[i], other.depths[i]);
            }
        }

        int topCount() {
            int tops = 0;
            for (int i = 0; i < count; i++) {
                if (depths[i] == 0) {
                    tops++;
                }
            }
            return tops;
        }

        /** Where the item of the reel with this number stands among all; behind the last one: count. */
        int topIndex(int top) {
            int tops = 0;
            for (int i = 0; i < count; i++) {
                if (depths[i] == 0) {
                    if (tops == top) {
                        return i;
                    }
                    tops++;
                }
            }
            return count;
        }

        /** Where the first item stands that is behind this one and not in it. */
        int behind(int item) {
            if (item < 0 || item >= count) {
                return count;
            }
            for (int i = item + 1; i < count; i++) {
                if (depths[i] <= depths[item]) {
                    return i;
                }
            }
            return count;
        }

        boolean isBlock(int item) {
            return item >= 0 && item < count && kinds[item] >= REPEAT;
        }

        int framesOf(int item) {
            return item >= 0 && item < count ? lasts[item] - firsts[item] + 1 : 0;
        }

        void shorten(int item, int by) {
            if (item >= 0 && item < count) {
                lasts[item] -= by;
            }
        }

        int deepest() {
            int deepest = 0;
            for (int i = 0; i < count; i++) {
                if (isBlock(i)) {
                    deepest = Math.max(deepest, depths[i] + 1);
                }
            }
            return deepest;
        }

        /** How many pieces there would be; at most 9 to the 4th power times 30, so an int holds it. */
        int pieceCount() {
            int sum = 0;
            timesAt[0] = 1;
            for (int i = 0; i < count; i++) {
                int depth = depths[i];
                if (depth < 0 || depth > MAX_BLOCKS) {
                    return MAX_PIECES + 1;
                }
                if (!isBlock(i)) {
                    sum += timesAt[depth];
                } else if (depth < MAX_BLOCKS) {
                    timesAt[depth + 1] = timesAt[depth] * (kinds[i] == REPEAT ? numbers[i] : 1);
                }
            }
            return sum;
        }

        boolean readFrom(Text text, Library library) {
            clear();
            text.startReading();
            return readItems(text, library, 0) && text.take(END_OF_TEXT);
        }

        private boolean readItems(Text text, Library library, int depth) {
            for (int n = 0; n <= MAX_ITEMS && text.kind == WORD; n++) {
                if (!readItem(text, library, depth) || !text.take(SEMICOLON)) {
                    return false;
                }
            }
            return true;
        }

        private boolean readItem(Text text, Library library, int depth) {
            int kind = kindTold(text);
            if (kind == NONE) {
                return text.fail(NOT_ALLOWED);
            }
            if (count >= MAX_ITEMS) {
                return text.fail(TOO_MANY);
            }
            text.advance();
            switch (kind) {
                case CUT: return readCut(text, library, depth);
                case MAP: return readMap(text, library, depth);
                case REPEAT: return text.takeNumber(1, 9) && readBlock(kind, text, library, depth);
                default: return text.takeNumber(0, 40) && readBlock(kind, text, library, depth);
            }
        }

        private static int kindTold(Text text) {
            if (text.isWord("shot")) {
                return CUT;
            }
            if (text.isWord("map")) {
                return MAP;
            }
            if (text.isWord("repeat")) {
                return REPEAT;
            }
            return text.isWord("mix") ? MIX : NONE;
        }

        private boolean readCut(Text text, Library library, int depth) {
            if (!text.takeNumber(0, library.shots - 1)) {
                return false;
            }
            int shot = text.taken;
            int first = 0;
            int last = library.lengthOf(shot) - 1;
            if (text.isWord("from")) {
                text.advance();
                if (!text.takeNumber(0, last)) {
                    return false;
                }
                first = text.taken;
                if (!text.takeWord("to") || !text.takeNumber(first, last)) {
                    return false;
                }
                last = text.taken;
            }
            add(CUT, shot, first, last, depth);
            return true;
        }

        private boolean readMap(Text text, Library library, int depth) {
            if (!text.takeNumber(0, library.maps - 1)) {
                return false;
            }
            int map = text.taken;
            if (!text.takeNumber(1, MAX_FRAMES)) {
                return false;
            }
            add(MAP, map, 0, text.taken - 1, depth);
            return true;
        }

        private boolean readBlock(int kind, Text text, Library library, int depth) {
            add(kind, text.taken, 0, 0, depth);
            if (text.kind == OPEN && depth >= MAX_BLOCKS) {
                return text.fail(TOO_DEEP);
            }
            return text.take(OPEN) && readItems(text, library, depth + 1) && text.take(CLOSE);
        }
    }

    /** Everything that an act can change and that save keeps. */
    private static final class State {
        final Library library = new Library();
        final Voice voice = new Voice();
        final Items items = new Items();

        void copyFrom(State other) {
            library.copyFrom(other.library);
            voice.copyFrom(other.voice);
            items.copyFrom(other.items);
        }
    }

    /** The pieces that come of the items, with their frames. */
    private static final class Pieces {
        int count = 0;
        int end = 0;
        final int[] kinds = new int[MAX_PIECES];
        final int[] numbers = new int[MAX_PIECES];
        final int[] firsts = new int[MAX_PIECES];
        final int[] frames = new int[MAX_PIECES];
        final int[] begins = new int[MAX_PIECES];
        final int[] overlaps = new int[MAX_PIECES];
        // The overlaps of the mixes that are being done, from the outermost on; 0 stands for no mix.
        private final int[] mixOverlaps = new int[MAX_BLOCKS + 1];
        // How many of these mixes, from the outermost on, have the latest piece, too.
        private int mixesInCommon = 0;

        void cutFrom(Items items) {
            count = 0;
            end = 0;
            mixesInCommon = 0;
            addItems(items, 0, items.count, 0, 0);
        }

        private void addItems(Items items, int from, int to, int depth, int mixes) {
            for (int i = from; i < to && i < MAX_ITEMS; i++) {
                if (items.depths[i] == depth) {
                    addItem(items, i, depth, mixes);
                }
            }
        }

        private void addItem(Items items, int item, int depth, int mixes) {
            if (!items.isBlock(item)) {
                addPiece(items, item, mixes);
                return;
            }
            int behind = items.behind(item);
            // A block without pieces has none however often it is done; a mix in it joins nothing.
            if (depth >= MAX_BLOCKS || mixes >= MAX_BLOCKS || !hasPieces(items, item + 1, behind)) {
                return;
            }
            if (items.kinds[item] == MIX) {
                mixOverlaps[mixes + 1] = items.numbers[item];
                addItems(items, item + 1, behind, depth + 1, mixes + 1);
                mixesInCommon = Math.min(mixesInCommon, mixes);
                return;
            }
            for (int time = 0; time < items.numbers[item]; time++) {
                addItems(items, item + 1, behind, depth + 1, mixes);
            }
        }

        private static boolean hasPieces(Items items, int from, int to) {
            for (int i = from; i < to; i++) {
                if (!items.isBlock(i)) {
                    return true;
                }
            }
            return false;
        }

        private void addPiece(Items items, int item, int mixes) {
            if (count >= MAX_PIECES) {
                return;
            }
            kinds[count] = items.kinds[item];
            numbers[count] = items.numbers[item];
            firsts[count] = items.firsts[item];
            frames[count] = items.framesOf(item);
            overlaps[count] = overlapOf(count);
            begins[count] = count == 0 ? 0 : endOf(count - 1) - overlaps[count];
            end = Math.max(end, endOf(count));
            mixesInCommon = mixes;
            count++;
        }

        private int overlapOf(int piece) {
            if (piece < 1 || piece >= MAX_PIECES || mixesInCommon < 1 || mixesInCommon > MAX_BLOCKS) {
                return 0;
            }
            int shorter = Math.min(frames[piece - 1], frames[piece]);
            return Math.min(mixOverlaps[mixesInCommon], shorter / 2);
        }

        int endOf(int piece) {
            return piece >= 0 && piece < MAX_PIECES ? begins[piece] + frames[piece] : 0;
        }

        int onScreen(int frame) {
            for (int piece = count - 1; piece >= 0; piece--) {
                if (begins[piece] <= frame && frame < endOf(piece)) {
                    return piece;
                }
            }
            return NONE;
        }

        /**
         * An overlap is at most half of either piece, so each piece begins behind the one ahead of
         * it and ends no earlier: it is on the screen until the next one begins.
         */
        int framesOnScreen(int piece) {
            if (piece < 0 || piece >= count) {
                return 0;
            }
            return (piece + 1 < count ? begins[piece + 1] : end) - begins[piece];
        }

        boolean shows(int map, int frame) {
            int piece = onScreen(frame);
            return piece >= 0 && kinds[piece] == MAP && numbers[piece] == map;
        }

        /** The camera of the piece's shot; NONE of a map. */
        int cameraOf(int piece, Library library) {
            if (piece < 0 || piece >= count || kinds[piece] != CUT) {
                return NONE;
            }
            return library.cameraOf(numbers[piece]);
        }

        int countOf(int kind, int number) {
            int sum = 0;
            for (int piece = 0; piece < count; piece++) {
                if (kinds[piece] == kind && numbers[piece] == number) {
                    sum++;
                }
            }
            return sum;
        }

        int framesOf(int kind, int number) {
            int sum = 0;
            for (int piece = 0; piece < count; piece++) {
                if (kinds[piece] == kind && numbers[piece] == number) {
                    sum += frames[piece];
                }
            }
            return sum;
        }

        int longest() {
            int longest = 0;
            for (int piece = 0; piece < count; piece++) {
                longest = Math.max(longest, frames[piece]);
            }
            return longest;
        }

        int allOverlaps() {
            int sum = 0;
            for (int piece = 0; piece < count; piece++) {
                sum += overlaps[piece];
            }
            return sum;
        }
    }

    /** When the words are spoken, and which maps they name. */
    private static final class Speech {
        int count = 0;
        int end = 0;
        final int[] begins = new int[MAX_WORDS];
        final int[] ends = new int[MAX_WORDS];
        final int[] maps = new int[MAX_WORDS];

        void timeFrom(Voice voice, Library library) {
            count = voice.words;
            end = 0;
            int frame = 0;
            for (int word = 0; word < count; word++) {
                begins[word] = frame;
                end = frame + library.setting(SPEED) * voice.syllables[word];
                ends[word] = end;
                maps[word] = library.mapNamed(voice.letters, voice.starts[word], voice.sizes[word]);
                frame = end + (voice.endsSentence[word] ? library.setting(PAUSE) : 0);
            }
        }

        int wordAt(int frame) {
            for (int word = 0; word < count; word++) {
                if (begins[word] <= frame && frame < ends[word]) {
                    return word;
                }
            }
            return NONE;
        }

        int countOf(int map) {
            int sum = 0;
            for (int word = 0; word < count; word++) {
                if (maps[word] == map) {
                    sum++;
                }
            }
            return sum;
        }
    }

    /** The faults in their order. */
    private static final class Faults {
        int count = 0;
        final int[] kinds = new int[MAX_FAULTS];
        final int[] places = new int[MAX_FAULTS];

        void find(State state, Pieces pieces, Speech speech) {
            count = 0;
            findBanned(pieces, state.library);
            findUnseenNames(pieces, speech);
            findShort(pieces, state.library.setting(LEAST));
            findSameCamera(pieces, state.library);
            if (Math.abs(pieces.end - speech.end) > state.library.setting(SLACK)) {
                add(5, NONE);
            }
        }

        private void findBanned(Pieces pieces, Library library) {
            int allowed = library.allowedShots(library.setting(WEEK));
            for (int piece = 0; piece < pieces.count; piece++) {
                if (pieces.kinds[piece] == CUT && (allowed >> pieces.numbers[piece] & 1) == 0) {
                    add(1, piece);
                }
            }
        }

        private void findUnseenNames(Pieces pieces, Speech speech) {
            for (int word = 0; word < speech.count; word++) {
                int map = speech.maps[word];
                if (map != NONE && !pieces.shows(map, speech.begins[word])) {
                    add(2, word);
                }
            }
        }

        private void findShort(Pieces pieces, int least) {
            for (int piece = 0; piece < pieces.count; piece++) {
                if (pieces.frames[piece] < least) {
                    add(3, piece);
                }
            }
        }

        private void findSameCamera(Pieces pieces, Library library) {
            for (int piece = 1; piece < pieces.count; piece++) {
                int camera = pieces.cameraOf(piece, library);
                if (camera != NONE && camera == pieces.cameraOf(piece - 1, library)) {
                    add(4, piece);
                }
            }
        }

        private void add(int kind, int place) {
            if (count < MAX_FAULTS) {
                kinds[count] = kind;
                places[count] = place;
                count++;
            }
        }

        int countOf(int kind) {
            int sum = 0;
            for (int i = 0; i < count; i++) {
                if (kinds[i] == kind) {
                    sum++;
                }
            }
            return sum;
        }
    }

    /** The best choice of shots; its set, waste and size are NONE if there is no choice. */
    private static final class Choice {
        int set = NONE;
        int waste = NONE;
        int size = NONE;
        // The lengths together of the shots of each set.
        private final int[] totals = new int[1 << MAX_SHOTS];

        void find(Library library, int allowed, int voiceEnd) {
            set = NONE;
            waste = NONE;
            size = NONE;
            int least = library.setting(LEAST);
            for (int last = 0; last < library.shots && last < MAX_SHOTS; last++) {
                int length = library.lengthOf(last);
                for (int others = 0; others < 1 << last; others++) {
                    int tried = 1 << last | others;
                    totals[tried] = totals[others] + length;
                    int over = totals[tried] - voiceEnd;
                    if ((tried & ~allowed) == 0 && over >= 0 && length - over >= least) {
                        compare(tried, over);
                    }
                }
            }
        }

        /** Sets come by ascending numbers, so of equal ones the first one stays. */
        private void compare(int tried, int over) {
            int shots = Integer.bitCount(tried);
            if (set == NONE || over < waste || over == waste && shots < size) {
                set = tried;
                waste = over;
                size = shots;
            }
        }
    }

    /** The bytes that were written last. */
    private static final class Output {
        private final byte[] bytes = new byte[MAX_OUTPUT];
        int length = 0;

        int byteAt(int index) {
            return index >= 0 && index < length ? bytes[index] : NONE;
        }

        void writeItems(Items items, Library library) {
            length = 0;
            int open = 0;
            for (int i = 0; i < items.count; i++) {
                closeBlocks(open - items.depths[i]);
                open = items.depths[i];
                writeHead(items, i);
                if (items.isBlock(i)) {
                    put('{');
                    open++;
                } else {
                    writeFrames(items, i, library);
                    put(';');
                }
            }
            closeBlocks(open);
        }

        private void closeBlocks(int number) {
            for (int i = 0; i < number; i++) {
                put('}');
                put(';');
            }
        }

        private void writeHead(Items items, int item) {
            switch (items.kinds[item]) {
                case CUT: putText("shot "); break;
                case MAP: putText("map "); break;
                case REPEAT: putText("repeat "); break;
                default: putText("mix "); break;
            }
            putNumber(items.numbers[item]);
        }

        private void writeFrames(Items items, int item, Library library) {
            if (items.kinds[item] == MAP) {
                put(' ');
                putNumber(items.framesOf(item));
            } else if (items.framesOf(item) != library.lengthOf(items.numbers[item])) {
                putText(" from ");
                putNumber(items.firsts[item]);
                putText(" to ");
                putNumber(items.lasts[item]);
            }
        }

        void writeWords(Voice voice) {
            length = 0;
            for (int word = 0; word < voice.words; word++) {
                if (word > 0) {
                    put(' ');
                }
                int start = voice.starts[word];
                for (int i = start; i < start + voice.sizes[word]; i++) {
                    put(voice.letters[i]);
                }
                if (voice.endsSentence[word]) {
                    put('.');
                }
            }
        }

        private void putText(String signs) {
            for (int i = 0; i < signs.length(); i++) {
                put(signs.charAt(i));
            }
        }

        /** Every number of a reel has at most three digits. */
        private void putNumber(int number) {
            if (number >= 100) {
                put('0' + number / 100 % 10);
            }
            if (number >= 10) {
                put('0' + number / 10 % 10);
            }
            put('0' + number % 10);
        }

        private void put(int sign) {
            if (length < MAX_OUTPUT) {
                bytes[length] = (byte) sign;
                length++;
            }
        }
    }
}
