import java.util.Arrays;

/**
 * Three small TABLES, ASKS and VIEWS as PICTURES of rows, and what the kept answers of VIEWS tell of
 * ASKS. The words in capitals are those of the document's "Terms".
 */
public final class KeptAnswers {
  private static final int NOBODY = -1;
  private static final int OTHER = -2;
  private static final int STATE = -3;
  private static final int BELOW = -4;
  private static final int SPENT = -5;
  private static final int ROOM = -6;
  private static final int REFUSALS = 6;
  private static final int NONE = -9;
  private static final int FAULT = -20;

  private static final int TABLES = 3;
  private static final int TABLE_BITS = 4;
  private static final int ASKS_MOST = 10;
  private static final int VIEWS_MOST = 6;
  private static final int ROWS_MOST = 4;
  private static final int HEAD_MOST = 3;
  private static final int SHOWS_MOST = 12;
  private static final int COVER_MOST = 3;
  private static final int HOUR_MOST = 99;
  private static final int SMALL_MOST = 99;
  private static final int ROOM_MOST = 999;

  // TERMS as numbers: VALUES 0 and 1, then NAMES; so the later of two NAMES, and a NAME beside a
  // VALUE, is the greater number
  private static final int FIRST_NAME = 2;
  private static final int NAMES_MOST = 5;
  private static final int TERMS = FIRST_NAME + NAMES_MOST;

  /** Bit s of HOLDING[k]: bit k is in s (for s of 0 .. 63). */
  private static final long[] HOLDING = {
    0xAAAAAAAAAAAAAAAAL, 0xCCCCCCCCCCCCCCCCL, 0xF0F0F0F0F0F0F0F0L,
    0xFF00FF00FF00FF00L, 0xFFFF0000FFFF0000L, 0xFFFFFFFF00000000L
  };

  private final Holding held = new Holding();
  private final Holding taken = new Holding();
  private boolean isTaken;
  private final Text text = new Text();
  private final Book book = new Book();
  private final Changes changes = new Changes();
  private final Sight[] sights = new Sight[ASKS_MOST];
  private final Picture opened = new Picture(COVER_MOST * ROWS_MOST);
  private final Worlds possible = new Worlds();
  private final int[] refusals = new int[REFUSALS + 1];

  public KeptAnswers() {
    for (int i = 0; i < ASKS_MOST; i++) {
      sights[i] = new Sight();
    }
  }

  public int in(int table, int x, int y) {
    int refusal = rowRefusal(table, x, y);
    if (refusal != 0) {
      return refuse(refusal);
    }
    int row = rowBit(table, x, y);
    if (held.hasRow(row)) {
      return 0;
    }
    if (held.breaksKey(row)) {
      return refuse(STATE);
    }
    bringIn(row);
    return 1;
  }

  public int out(int table, int x, int y) {
    int refusal = rowRefusal(table, x, y);
    if (refusal != 0) {
      return refuse(refusal);
    }
    int row = rowBit(table, x, y);
    if (!held.hasRow(row)) {
      return 0;
    }
    held.turnRow(row);
    changes.note(row);
    return 1;
  }

  public int undo() {
    int row = changes.latestRow();
    if (row < 0) {
      return refuse(STATE);
    }
    if (!held.hasRow(row) && held.breaksKey(row)) {
      return refuse(STATE);
    }
    held.turnRow(row);
    changes.dropLatest();
    return 1;
  }

  public int key(int table, boolean is) {
    if (!isTable(table)) {
      return refuse(NOBODY);
    }
    if (held.hasKey(table) == is) {
      return 0;
    }
    if (is && held.hasDoubleX(table)) {
      return refuse(STATE);
    }
    held.keys ^= 1 << table;
    forgetSights();
    return 1;
  }

  public int rows(int table) {
    return isTable(table) ? held.rowsOf(table) : refuse(NOBODY);
  }

  public int put(int v) {
    if (v < -128) {
      return refuse(BELOW);
    }
    if (v > 127 || book.isFull()) {
      return refuse(ROOM);
    }
    book.write(v);
    return book.length;
  }

  public int read() {
    int came = 0;
    for (int place = 0; place < book.length; place += 3) {
      int row = book.rowAt(place);
      if (row < 0) {
        break;
      }
      if (held.hasRow(row)) {
        continue;
      }
      if (held.breaksKey(row)) {
        break;
      }
      bringIn(row);
      came++;
    }
    book.length = 0;
    return came;
  }

  public int feed(int n, long bytes) {
    if (n < 1) {
      return refuse(BELOW);
    }
    if (n > 8 || !text.hasRoom(n)) {
      return refuse(ROOM);
    }
    text.append(n, bytes);
    return text.length;
  }

  public int ask() {
    if (held.askCount >= ASKS_MOST) {
      return refuse(ROOM);
    }
    int fault = text.parseInto(held.asks[held.askCount]);
    text.length = 0;
    if (fault >= 0) {
      return FAULT - fault;
    }
    held.askCount++;
    return held.askCount - 1;
  }

  public int view() {
    if (held.viewCount >= VIEWS_MOST) {
      return refuse(ROOM);
    }
    int fault = text.parseInto(held.views[held.viewCount]);
    text.length = 0;
    if (fault >= 0) {
      return FAULT - fault;
    }
    held.viewCount++;
    forgetSights();
    return held.viewCount - 1;
  }

  public int answer(int number, boolean view) {
    if (!(view ? isView(number) : isAsk(number))) {
      return refuse(NOBODY);
    }
    Picture picture = view ? held.views[number] : held.asks[number];
    return picture.answerBy(held.tables);
  }

  public int steps(int ask, int what) {
    if (!isAsk(ask)) {
      return refuse(NOBODY);
    }
    Picture end = seen(ask).end;
    switch (what) {
      case 0: return end.stepCount;
      case 1: return end.nothing ? 1 : 0;
      case 2: return end.rowCount;
      case 3: return end.headLength;
      default: return refuse(OTHER);
    }
  }

  public int end(int ask, int i) {
    if (!isAsk(ask)) {
      return refuse(NOBODY);
    }
    Picture end = seen(ask).end;
    if (end.nothing) {
      return refuse(STATE);
    }
    if (i < 0 || i >= end.rowCount) {
      return NONE;
    }
    return 100 * end.tables[i] + 10 * end.firsts[i] + end.seconds[i];
  }

  public int within(int a, int b) {
    if (!isAsk(a) || !isAsk(b)) {
      return refuse(NOBODY);
    }
    return liesWithin(a, b) ? 1 : 0;
  }

  public int same(int a, int b) {
    if (!isAsk(a) || !isAsk(b)) {
      return refuse(NOBODY);
    }
    return liesWithin(a, b) && liesWithin(b, a) ? 1 : 0;
  }

  public int shows(int ask) {
    int refusal = showsRefusal(ask);
    return refusal != 0 ? refuse(refusal) : seen(ask).showCount;
  }

  public int show(int ask, int i) {
    int refusal = showsRefusal(ask);
    if (refusal != 0) {
      return refuse(refusal);
    }
    Sight sight = seen(ask);
    if (i < 0 || i >= sight.showCount) {
      return refuse(NOBODY);
    }
    int view = sight.viewOf(i);
    int number = 1000 * view;
    int digit = 1;
    for (int place = 0; place < held.views[view].headLength; place++) {
      number += digit * (sight.termOf(i, place) + 1);
      digit *= 10;
    }
    return number;
  }

  public int cover(int ask, int what) {
    if (!isAsk(ask)) {
      return refuse(NOBODY);
    }
    if (what < 0 || what > 2) {
      return refuse(OTHER);
    }
    Sight sight = seenThrough(ask);
    if (sight.spent) {
      return refuse(SPENT);
    }
    if (sight.leastSet < 0) {
      return NONE;
    }
    switch (what) {
      case 0: return Integer.bitCount(sight.leastSet);
      case 1: return sight.leastSet;
      default: return sight.leastMany;
    }
  }

  public int covers(int ask, int set) {
    int refusal = showsRefusal(ask);
    if (refusal != 0) {
      return refuse(refusal);
    }
    if (set >>> seen(ask).showCount != 0) {
      return refuse(NOBODY);
    }
    if (Integer.bitCount(set) > COVER_MOST) {
      return refuse(ROOM);
    }
    return seenThrough(ask).isCover(set) ? 1 : 0;
  }

  public int may(int ask, int views) {
    if (!isAsk(ask) || !areViews(views)) {
      return refuse(NOBODY);
    }
    Sight sight = seenThrough(ask);
    if (sight.spent) {
      return refuse(SPENT);
    }
    return sight.isCoveredBy(views) ? 1 : 0;
  }

  public int keep(int view, boolean on) {
    if (!isView(view)) {
      return refuse(NOBODY);
    }
    if (!on) {
      held.kept &= ~(1 << view);
      return NONE;
    }
    held.kept |= 1 << view;
    held.keptAnswers[view] = held.views[view].answerBy(held.tables);
    return held.keptAnswers[view];
  }

  public int worlds() {
    return possible.howMany(held);
  }

  public int sure(int ask, int what) {
    if (!isAsk(ask)) {
      return refuse(NOBODY);
    }
    if (what < 0 || what > 1) {
      return refuse(OTHER);
    }
    return possible.answerOf(held, held.asks[ask], what == 0);
  }

  public int besides(int ask) {
    return isAsk(ask) ? possible.fewestBesides(held, held.asks[ask]) : refuse(NOBODY);
  }

  public int weight(int ask, int v) {
    if (!isAsk(ask)) {
      return refuse(NOBODY);
    }
    if (v < 0) {
      return refuse(BELOW);
    }
    if (v > SMALL_MOST) {
      return refuse(ROOM);
    }
    int was = held.weights[ask];
    held.weights[ask] = v;
    return was;
  }

  public int size(int view, int size, int mend) {
    if (!isView(view)) {
      return refuse(NOBODY);
    }
    if (size < 0 || mend < 0) {
      return refuse(BELOW);
    }
    if (size > SMALL_MOST || mend > SMALL_MOST) {
      return refuse(ROOM);
    }
    held.sizes[view] = size;
    held.mends[view] = mend;
    return 1;
  }

  public int set(int what, int v) {
    if (what < 0 || what > 1) {
      return refuse(OTHER);
    }
    if (v < 0) {
      return refuse(BELOW);
    }
    if (v > (what == 0 ? ROOM_MOST : SMALL_MOST)) {
      return refuse(ROOM);
    }
    int was = what == 0 ? held.room : held.away;
    if (what == 0) {
      held.room = v;
    } else {
      held.away = v;
    }
    return was;
  }

  public int cost(int views) {
    if (!areViews(views)) {
      return refuse(NOBODY);
    }
    return knowsAllCovers() ? costOf(views) : refuse(SPENT);
  }

  public int which(int what) {
    if (what < 0 || what > 1) {
      return refuse(OTHER);
    }
    if (!knowsAllCovers()) {
      return refuse(SPENT);
    }
    int cheapest = cheapestViews();
    return what == 0 ? cheapest : costOf(cheapest);
  }

  public int hours(int view, int from, int to) {
    if (!isView(view)) {
      return refuse(NOBODY);
    }
    if (from < 0 || to < 0) {
      return refuse(BELOW);
    }
    if (from > HOUR_MOST || to > HOUR_MOST) {
      return refuse(ROOM);
    }
    if (to < from) {
      return refuse(STATE);
    }
    held.froms[view] = from;
    held.tos[view] = to;
    return 1;
  }

  public int latest(int ask) {
    int refusal = showsRefusal(ask);
    if (refusal != 0) {
      return refuse(refusal);
    }
    Sight sight = seenThrough(ask);
    int hour = NONE;
    // more VIEWS than a COVER's own only narrow its hours, so they may be among these sets
    for (int views = 0; views < 1 << held.viewCount; views++) {
      if (sight.isCoveredBy(views)) {
        hour = Math.max(hour, held.latestHour(views));
      }
    }
    return hour;
  }

  public int given(int view, boolean is) {
    if (!isView(view)) {
      return refuse(NOBODY);
    }
    if (held.views[view].headLength == 0) {
      return refuse(STATE);
    }
    if ((held.given >> view & 1) == (is ? 1 : 0)) {
      return 0;
    }
    held.given ^= 1 << view;
    return 1;
  }

  public int plan(int ask) {
    int refusal = showsRefusal(ask);
    return refusal != 0 ? refuse(refusal) : seenThrough(ask).bestPlan(held.given);
  }

  public int image() {
    taken.copyFrom(held);
    isTaken = true;
    return taken.viewCount;
  }

  public int restore() {
    if (!isTaken) {
      return refuse(STATE);
    }
    held.copyFrom(taken);
    changes.count = 0;
    forgetSights();
    return held.viewCount;
  }

  public int count(int what) {
    if (what > 10 && what <= 10 + REFUSALS) {
      return refusals[what - 10];
    }
    switch (what) {
      case 0: return held.askCount;
      case 1: return held.viewCount;
      case 2: return Integer.bitCount(held.tables);
      case 3: return Integer.bitCount(held.keys);
      case 4: return Integer.bitCount(held.kept);
      case 5: return text.length;
      case 6: return book.length;
      case 7: return changes.count;
      default: return NONE;
    }
  }

  /** Counts a REFUSAL and answers its number. */
  private int refuse(int number) {
    if (number < 0 && number >= -REFUSALS) {
      refusals[-number]++;
    }
    return number;
  }

  private static boolean isTable(int table) {
    return table >= 0 && table < TABLES;
  }

  private boolean isAsk(int ask) {
    return ask >= 0 && ask < held.askCount;
  }

  private boolean isView(int view) {
    return view >= 0 && view < held.viewCount;
  }

  private boolean areViews(int views) {
    return views >>> held.viewCount == 0;
  }

  /** Why there can be no such row, 0 if there can. */
  private static int rowRefusal(int table, int x, int y) {
    if (!isTable(table)) {
      return NOBODY;
    }
    if (x < 0 || y < 0) {
      return BELOW;
    }
    return x > 1 || y > 1 ? ROOM : 0;
  }

  /** Why an ASK has no SHOWS that could be told, 0 if it has. */
  private int showsRefusal(int ask) {
    if (!isAsk(ask)) {
      return NOBODY;
    }
    return seen(ask).spent ? SPENT : 0;
  }

  /** The place of a row among the bits of all tables. */
  private static int rowBit(int table, int x, int y) {
    return TABLE_BITS * table + 2 * x + y;
  }

  private void bringIn(int row) {
    held.turnRow(row);
    changes.note(row);
  }

  private void forgetSights() {
    for (int i = 0; i < ASKS_MOST; i++) {
      sights[i].forget();
    }
  }

  /** An ASK with its END and SHOWS. */
  private Sight seen(int ask) {
    sights[ask].look(held.asks[ask], held);
    return sights[ask];
  }

  /** An ASK with its END, SHOWS and COVERS (none if its SHOWS are SPENT). */
  private Sight seenThrough(int ask) {
    sights[ask].look(held.asks[ask], held);
    sights[ask].lookThrough(held.asks[ask], held, opened);
    return sights[ask];
  }

  private boolean liesWithin(int a, int b) {
    return Leading.isWithin(seen(a).end, held.asks[b]);
  }

  /** Works out COVERS of all ASKS; false if one has SPENT. */
  private boolean knowsAllCovers() {
    for (int i = 0; i < held.askCount; i++) {
      if (seenThrough(i).spent) {
        return false;
      }
    }
    return true;
  }

  /** COST of a set of VIEWS, once COVERS of all ASKS are known. */
  private int costOf(int views) {
    int sum = held.sumOver(held.mends, views);
    for (int i = 0; i < held.askCount; i++) {
      sum += held.weights[i] * (sights[i].isCoveredBy(views) ? 1 : held.away);
    }
    return sum;
  }

  private int cheapestViews() {
    int best = 0;
    int bestCost = costOf(0);
    for (int views = 1; views < 1 << held.viewCount; views++) {
      if (held.sumOver(held.sizes, views) > held.room) {
        continue;
      }
      int cost = costOf(views);
      boolean isFewer = Integer.bitCount(views) < Integer.bitCount(best);
      if (cost < bestCost || cost == bestCost && isFewer) {
        best = views;
        bestCost = cost;
      }
    }
    return best;
  }

  /** All that an image holds. */
  private static final class Holding {
    int tables;
    int keys;
    int askCount;
    int viewCount;
    int kept;
    int given;
    int room = 99;
    int away = 10;
    final Picture[] asks = new Picture[ASKS_MOST];
    final Picture[] views = new Picture[VIEWS_MOST];
    final int[] keptAnswers = new int[VIEWS_MOST];
    final int[] weights = new int[ASKS_MOST];
    final int[] sizes = new int[VIEWS_MOST];
    final int[] mends = new int[VIEWS_MOST];
    final int[] froms = new int[VIEWS_MOST];
    final int[] tos = new int[VIEWS_MOST];

    Holding() {
      for (int i = 0; i < ASKS_MOST; i++) {
        asks[i] = new Picture(ROWS_MOST);
      }
      for (int i = 0; i < VIEWS_MOST; i++) {
        views[i] = new Picture(ROWS_MOST);
      }
    }

    void copyFrom(Holding other) {
      tables = other.tables;
      keys = other.keys;
      askCount = other.askCount;
      viewCount = other.viewCount;
      kept = other.kept;
      given = other.given;
      room = other.room;
      away = other.away;
      for (int i = 0; i < ASKS_MOST; i++) {
        asks[i].copyFrom(other.asks[i]);
        weights[i] = other.weights[i];
      }
      for (int i = 0; i < VIEWS_MOST; i++) {
        views[i].copyFrom(other.views[i]);
        keptAnswers[i] = other.keptAnswers[i];
        sizes[i] = other.sizes[i];
        mends[i] = other.mends[i];
        froms[i] = other.froms[i];
        tos[i] = other.tos[i];
      }
    }

    boolean hasRow(int row) {
      return (tables >> row & 1) != 0;
    }

    void turnRow(int row) {
      tables ^= 1 << row;
    }

    int rowsOf(int table) {
      return tables >> TABLE_BITS * table & 15;
    }

    boolean hasKey(int table) {
      return (keys >> table & 1) != 0;
    }

    /** Whether two rows of a TABLE have one x. */
    boolean hasDoubleX(int table) {
      int rows = rowsOf(table);
      return (rows & rows >> 1 & 5) != 0;
    }

    /** Whether a row that is not there could not come in: one with its x and the other y is. */
    boolean breaksKey(int row) {
      return hasKey(row / TABLE_BITS) && hasRow(row ^ 1);
    }

    int sumOver(int[] numbers, int set) {
      int sum = 0;
      for (int i = 0; i < VIEWS_MOST; i++) {
        if ((set >> i & 1) != 0) {
          sum += numbers[i];
        }
      }
      return sum;
    }

    /** The latest hour to which all of these VIEWS can be brought. */
    int latestHour(int set) {
      int from = 0;
      int to = HOUR_MOST;
      for (int i = 0; i < VIEWS_MOST; i++) {
        if ((set >> i & 1) != 0) {
          from = Math.max(from, froms[i]);
          to = Math.min(to, tos[i]);
        }
      }
      return from <= to ? to : NONE;
    }
  }

  /** The rows that were put in or taken out, the latest last. */
  private static final class Changes {
    private static final int MOST = 40;
    private final int[] turned = new int[MOST];
    int count;

    void note(int row) {
      if (count >= MOST) {
        System.arraycopy(turned, 1, turned, 0, MOST - 1);
        count = MOST - 1;
      }
      turned[count] = row;
      count++;
    }

    /** -1 if there is none. */
    int latestRow() {
      return count > 0 ? turned[count - 1] : -1;
    }

    void dropLatest() {
      if (count > 0) {
        count--;
      }
    }
  }

  /** Bytes of rows that wait to be read. */
  private static final class Book {
    private static final int MOST = 60;
    private final int[] bytes = new int[MOST];
    int length;

    boolean isFull() {
      return length >= MOST;
    }

    void write(int v) {
      if (length < MOST) {
        bytes[length] = v;
        length++;
      }
    }

    /** The bit of the row that stands at a place, -1 if none does. */
    int rowAt(int place) {
      if (place < 0 || place + 3 > length) {
        return -1;
      }
      int table = bytes[place];
      int x = bytes[place + 1];
      int y = bytes[place + 2];
      return rowRefusal(table, x, y) == 0 ? rowBit(table, x, y) : -1;
    }
  }

  /** The bytes of a PICTURE that is to be told. */
  private static final class Text {
    private static final int MOST = 24;
    private final int[] bytes = new int[MOST];
    int length;

    boolean hasRoom(int n) {
      return length + n <= MOST;
    }

    void append(int n, long more) {
      for (int i = 0; i < n && length < MOST; i++) {
        bytes[length] = (int) (more >> 8 * i) & 255;
        length++;
      }
    }

    /** Makes the picture what the bytes tell: -1, or the place of the FAULT. */
    int parseInto(Picture picture) {
      picture.clear();
      int place = 0;
      for (int row = 0; row < ROWS_MOST; row++) {
        int fault = parseRow(picture, place);
        if (fault >= 0) {
          return fault;
        }
        place += 3;
        if (place >= length) {
          return -1;
        }
        if (bytes[place] == ':') {
          return parseHead(picture, place + 1);
        }
        if (bytes[place] != ',') {
          return place;
        }
        place++;
      }
      return place;
    }

    private int parseRow(Picture picture, int place) {
      int table = place < length ? bytes[place] - '0' : -1;
      if (!isTable(table)) {
        return place;
      }
      int first = termAt(place + 1);
      if (first < 0) {
        return place + 1;
      }
      int second = termAt(place + 2);
      if (second < 0) {
        return place + 2;
      }
      picture.addRow(table, first, second);
      return -1;
    }

    private int parseHead(Picture picture, int start) {
      for (int place = start; place < length; place++) {
        int term = termAt(place);
        boolean isName = term >= FIRST_NAME && (picture.names() >> term & 1) != 0;
        if (place - start >= HEAD_MOST || !isName) {
          return place;
        }
        picture.addToHead(term);
      }
      return length == start ? start : -1;
    }

    /** The TERM that a byte tells, -1 if none. */
    private int termAt(int place) {
      if (place >= length) {
        return -1;
      }
      int sign = bytes[place];
      if (sign == '0' || sign == '1') {
        return sign - '0';
      }
      return sign >= 'a' && sign < 'a' + NAMES_MOST ? sign - 'a' + FIRST_NAME : -1;
    }
  }

  /** ROWS and a HEAD of TERMS. One that was told has TERMS below TERMS alone. */
  private static final class Picture {
    int rowCount;
    final int[] tables;
    final int[] firsts;
    final int[] seconds;
    int headLength;
    final int[] head = new int[HEAD_MOST];
    int stepCount;
    boolean nothing;

    Picture(int rowsMost) {
      int most = Math.max(rowsMost, 1);
      tables = new int[most];
      firsts = new int[most];
      seconds = new int[most];
    }

    void clear() {
      rowCount = 0;
      headLength = 0;
      stepCount = 0;
      nothing = false;
    }

    void addRow(int table, int first, int second) {
      if (rowCount < tables.length) {
        tables[rowCount] = table;
        firsts[rowCount] = first;
        seconds[rowCount] = second;
        rowCount++;
      }
    }

    void addToHead(int term) {
      if (headLength < HEAD_MOST) {
        head[headLength] = term;
        headLength++;
      }
    }

    void copyFrom(Picture other) {
      clear();
      for (int i = 0; i < other.rowCount; i++) {
        addRow(other.tables[i], other.firsts[i], other.seconds[i]);
      }
      copyHead(other);
    }

    void copyHead(Picture other) {
      for (int i = 0; i < other.headLength; i++) {
        addToHead(other.head[i]);
      }
    }

    /** NAMES that stand in a ROW, bit by TERM. */
    int names() {
      int bits = 0;
      for (int i = 0; i < rowCount; i++) {
        bits |= 1 << firsts[i] | 1 << seconds[i];
      }
      return bits >> FIRST_NAME << FIRST_NAME;
    }

    /** NAMES of HEAD, bit by TERM. */
    int headNames() {
      int bits = 0;
      for (int i = 0; i < headLength; i++) {
        bits |= 1 << head[i];
      }
      return bits >> FIRST_NAME << FIRST_NAME;
    }

    /** The first place of a NAME in HEAD, -1 if it has none. */
    int placeInHead(int name) {
      for (int i = 0; i < headLength; i++) {
        if (head[i] == name) {
          return i;
        }
      }
      return -1;
    }

    /** Of a told picture: its ANSWER by tables (bits of rows). */
    int answerBy(int rows) {
      int names = names();
      int answer = 0;
      for (int values = 0; values < 1 << TERMS; values += 1 << FIRST_NAME) {
        if (fits(values, names) && (rowsBy(values) & ~rows) == 0) {
          answer |= 1 << headBy(values);
        }
      }
      return answer;
    }

    /** Whether only NAMES that stand in a ROW get the VALUE 1, so that no giving comes twice. */
    static boolean fits(int values, int names) {
      return (values & ~names) == 0;
    }

    /** The rows that ROWS ask for when NAMES have these VALUES (bit by TERM). */
    int rowsBy(int values) {
      int rows = 0;
      for (int i = 0; i < rowCount; i++) {
        rows |= 1 << rowBit(tables[i], valueOf(firsts[i], values), valueOf(seconds[i], values));
      }
      return rows;
    }

    /** The row of the ANSWER that HEAD gives when NAMES have these VALUES (bit by TERM). */
    int headBy(int values) {
      int row = 0;
      for (int i = 0; i < headLength; i++) {
        row |= valueOf(head[i], values) << i;
      }
      return row;
    }

    private static int valueOf(int term, int values) {
      return term < FIRST_NAME ? term : values >> term & 1;
    }

    /** Takes STEPS by KEYS (bits): the picture becomes its END. */
    void becomeEnd(int keys) {
      dropDoubles();
      // each step but the last takes a NAME away, and there are two at most to a ROW
      for (int step = 0; step <= 2 * tables.length && !nothing; step++) {
        int row = firstClashing(keys);
        int other = clashOf(row, keys);
        if (other < 0) {
          return;
        }
        makeOne(Math.min(seconds[row], seconds[other]), Math.max(seconds[row], seconds[other]));
        dropDoubles();
      }
    }

    /** The first ROW that a later one clashes with, -1 if none does. */
    private int firstClashing(int keys) {
      for (int i = 0; i < rowCount; i++) {
        if (clashOf(i, keys) >= 0) {
          return i;
        }
      }
      return -1;
    }

    /** The first ROW behind this one that a KEY makes one with it though they differ, -1 if none. */
    private int clashOf(int row, int keys) {
      if (row < 0 || (keys >> tables[row] & 1) == 0) {
        return -1;
      }
      for (int i = row + 1; i < rowCount; i++) {
        if (tables[i] == tables[row] && firsts[i] == firsts[row] && seconds[i] != seconds[row]) {
          return i;
        }
      }
      return -1;
    }

    /** Puts one TERM for another; two VALUES can not be one. */
    private void makeOne(int stays, int goes) {
      if (goes < FIRST_NAME) {
        nothing = true;
        return;
      }
      for (int i = 0; i < rowCount; i++) {
        firsts[i] = firsts[i] == goes ? stays : firsts[i];
        seconds[i] = seconds[i] == goes ? stays : seconds[i];
      }
      for (int i = 0; i < headLength; i++) {
        head[i] = head[i] == goes ? stays : head[i];
      }
      stepCount++;
    }

    private void dropDoubles() {
      int most = rowCount;
      rowCount = 0;
      for (int i = 0; i < most; i++) {
        if (!hasRow(tables[i], firsts[i], seconds[i])) {
          addRow(tables[i], firsts[i], seconds[i]);
        }
      }
    }

    private boolean hasRow(int table, int first, int second) {
      for (int i = 0; i < rowCount; i++) {
        if (tables[i] == table && firsts[i] == first && seconds[i] == second) {
          return true;
        }
      }
      return false;
    }
  }

  /**
   * Leads NAMES of told pictures to TERMS of other ones. Where they are led is one number, five bits
   * to each TERM, so that what was tried in vain needs no taking back.
   */
  private static final class Leading {
    private static final int PLACE_BITS = 5;
    private static final long FREE = 31;
    private static final long ELSEWHERE = -1L;
    /** VALUES are led to themselves, 0 to 0 and 1 to 1, and all NAMES are FREE. */
    private static final long START =
        (1L << PLACE_BITS * TERMS) - (1L << PLACE_BITS * FIRST_NAME) + (1L << PLACE_BITS);

    /** Whether a picture, by its END, lies WITHIN a told one. */
    static boolean isWithin(Picture end, Picture told) {
      if (end.headLength != told.headLength) {
        return false;
      }
      long ledTo = START;
      for (int i = 0; i < told.headLength; i++) {
        ledTo = lead(ledTo, told.head[i], end.head[i]);
      }
      return end.nothing || leadRows(told, end, ledTo, 0, null, 0);
    }

    /** Tells a sight all rows of TERMS to which HEAD of a VIEW can go. */
    static void findShows(Picture told, int view, Sight found) {
      leadRows(told, found.end, START, 0, found, view);
    }

    /** Where a TERM is led. */
    static int targetOf(long ledTo, int term) {
      return (int) (ledTo >> PLACE_BITS * term & FREE);
    }

    /** Leads one TERM more; ELSEWHERE if it, or one before, goes to another place already. */
    private static long lead(long ledTo, int term, int target) {
      int was = targetOf(ledTo, term);
      if (ledTo == ELSEWHERE || was == target) {
        return ledTo;
      }
      return was == FREE ? ledTo ^ (FREE ^ target) << PLACE_BITS * term : ELSEWHERE;
    }

    /**
     * Leads ROWS from this one on, each to a ROW of the target: true as soon as it need not go on,
     * which is at the first way if none are gathered, or with the first SHOW that is one too many.
     */
    private static boolean leadRows(
        Picture told, Picture target, long ledTo, int row, Sight found, int view) {
      if (ledTo == ELSEWHERE) {
        return false;
      }
      if (row >= told.rowCount || row >= ROWS_MOST) {
        return found == null || !found.takeShow(view, told, ledTo);
      }
      for (int i = 0; i < target.rowCount; i++) {
        if (target.tables[i] != told.tables[row]) {
          continue;
        }
        long next = lead(ledTo, told.firsts[row], target.firsts[i]);
        next = lead(next, told.seconds[row], target.seconds[i]);
        if (leadRows(told, target, next, row + 1, found, view)) {
          return true;
        }
      }
      return false;
    }
  }

  /** What an ASK comes to by KEYS and VIEWS; worked out when it is asked for, then kept. */
  private static final class Sight {
    // a SHOW as one number, so that they are in order by it: VIEW, then TERMS
    private static final int TERM_BITS = 3;
    private static final int TERM_MASK = 7;
    private static final int SETS_BITS = 6;

    final Picture end = new Picture(ROWS_MOST);
    private final int[] found = new int[SHOWS_MOST];
    int showCount;
    boolean spent;
    private final long[] coverSets = new long[1 << SHOWS_MOST - SETS_BITS];
    private long coveringViews;
    int leastSet;
    int leastMany;
    private boolean isSeen;
    private boolean isSeenThrough;

    void forget() {
      isSeen = false;
      isSeenThrough = false;
    }

    /** Works out END and SHOWS. */
    void look(Picture ask, Holding held) {
      if (isSeen) {
        return;
      }
      isSeen = true;
      end.copyFrom(ask);
      end.becomeEnd(held.keys);
      showCount = 0;
      spent = false;
      for (int view = 0; view < held.viewCount && !end.nothing && !spent; view++) {
        Leading.findShows(held.views[view], view, this);
      }
    }

    /** Takes a SHOW to its place among the others; false if it is one too many. */
    boolean takeShow(int view, Picture told, long ledTo) {
      int number = view;
      for (int place = 0; place < HEAD_MOST; place++) {
        int term = place < told.headLength ? Leading.targetOf(ledTo, told.head[place]) : 0;
        number = number << TERM_BITS | term;
      }
      int at = showCount;
      while (at > 0 && found[at - 1] >= number) {
        at--;
      }
      if (at < showCount && found[at] == number) {
        return true;
      }
      if (showCount >= SHOWS_MOST) {
        spent = true;
        return false;
      }
      System.arraycopy(found, at, found, at + 1, showCount - at);
      found[at] = number;
      showCount++;
      return true;
    }

    int viewOf(int show) {
      return found[show] >> TERM_BITS * HEAD_MOST;
    }

    int termOf(int show, int place) {
      return found[show] >> TERM_BITS * (HEAD_MOST - 1 - place) & TERM_MASK;
    }

    /** Works out COVERS, the ones of few SHOWS first. */
    void lookThrough(Picture ask, Holding held, Picture opened) {
      if (isSeenThrough || spent) {
        return;
      }
      isSeenThrough = true;
      Arrays.fill(coverSets, 0L);
      coveringViews = 0L;
      leastSet = NONE;
      leastMany = 0;
      if (end.nothing) {
        noteCover(0);
      }
      for (int many = 1; many <= COVER_MOST; many++) {
        for (int set = 1; set < 1 << showCount; set++) {
          if (Integer.bitCount(set) != many) {
            continue;
          }
          boolean isCover = hasCoverIn(set);
          if (isCover || openSet(opened, set, held) && Leading.isWithin(opened, ask)) {
            noteCover(set);
          }
        }
      }
      for (int view = 0; view < VIEWS_MOST; view++) {
        coveringViews |= (coveringViews & ~HOLDING[view]) << (1 << view);
      }
    }

    /** (A shift by more than 63 is one by its last six bits, as a word of coverSets needs it.) */
    private void noteCover(int set) {
      coverSets[set >> SETS_BITS] |= 1L << set;
      coveringViews |= 1L << viewsOf(set);
      if (leastSet < 0) {
        leastSet = set;
      }
      if (Integer.bitCount(set) == Integer.bitCount(leastSet)) {
        leastMany++;
      }
    }

    boolean isCover(int set) {
      return set >= 0 && set < 1 << showCount && (coverSets[set >> SETS_BITS] >> set & 1L) != 0;
    }

    /** Whether there is a COVER of SHOWS of these VIEWS alone. */
    boolean isCoveredBy(int views) {
      return (coveringViews >> views & 1L) != 0;
    }

    /** Whether a set is a COVER without one of its SHOWS: what opens more rows still lies within. */
    private boolean hasCoverIn(int set) {
      for (int show = 0; show < showCount; show++) {
        if ((set >> show & 1) != 0 && isCover(set & ~(1 << show))) {
          return true;
        }
      }
      return false;
    }

    private int viewsOf(int set) {
      int views = 0;
      for (int show = 0; show < showCount; show++) {
        if ((set >> show & 1) != 0) {
          views |= 1 << viewOf(show);
        }
      }
      return views;
    }

    /** TERMS of a SHOW, bit by TERM (where HEAD has no more NAMES, of the VALUE 0). */
    private int termsOf(int show) {
      int terms = 0;
      for (int place = 0; place < HEAD_MOST; place++) {
        terms |= 1 << termOf(show, place);
      }
      return terms;
    }

    /** Makes a picture the END of what a set opens; false if a NAME of HEAD is in no SHOW of it. */
    private boolean openSet(Picture opened, int set, Holding held) {
      opened.clear();
      int shown = 0;
      int newName = TERMS;
      for (int show = 0; show < showCount; show++) {
        if ((set >> show & 1) != 0) {
          openShow(opened, held.views[viewOf(show)], show, newName);
          newName += NAMES_MOST;
          shown |= termsOf(show);
        }
      }
      if ((end.headNames() & ~shown) != 0) {
        return false;
      }
      opened.copyHead(end);
      opened.becomeEnd(held.keys);
      return true;
    }

    private void openShow(Picture opened, Picture view, int show, int newName) {
      for (int i = 0; i < view.rowCount; i++) {
        int first = openTerm(view, view.firsts[i], show, newName);
        int second = openTerm(view, view.seconds[i], show, newName);
        opened.addRow(view.tables[i], first, second);
      }
    }

    private int openTerm(Picture view, int term, int show, int newName) {
      if (term < FIRST_NAME) {
        return term;
      }
      int place = view.placeInHead(term);
      return place < 0 ? newName + term - FIRST_NAME : termOf(show, place);
    }

    /** PLAN, with the VIEWS (bits) that answer only if given something. */
    int bestPlan(int given) {
      for (int many = 0; many <= COVER_MOST; many++) {
        for (int set = 0; set < 1 << showCount; set++) {
          int order = Integer.bitCount(set) == many && isCover(set) ? orderOf(set, given) : NONE;
          if (order >= 0) {
            return order;
          }
        }
      }
      return NONE;
    }

    /** The order in which a set of SHOWS can be asked, as digits; NONE if there is none. */
    private int orderOf(int set, int given) {
      int left = set;
      int known = (1 << FIRST_NAME) - 1;
      int order = 0;
      int digit = 1;
      for (int turn = 0; turn < COVER_MOST && left != 0; turn++) {
        int next = nextToAsk(left, known, given);
        if (next < 0) {
          return NONE;
        }
        left &= ~(1 << next);
        known |= termsOf(next);
        order += digit * (next + 1);
        digit *= SHOWS_MOST + 1;
      }
      return order;
    }

    private int nextToAsk(int left, int known, int given) {
      for (int show = 0; show < showCount; show++) {
        boolean isKnown = (given >> viewOf(show) & 1) == 0 || (known >> termOf(show, 0) & 1) != 0;
        if ((left >> show & 1) != 0 && isKnown) {
          return show;
        }
      }
      return -1;
    }
  }

  /** Sets of all tables that there could be, 64 to a word: tables w are bit w & 63 of word w >> 6. */
  private static final class Worlds {
    private static final int WORDS = 64;
    private static final int LOW_BITS = 6;
    private static final int ANSWER_ROWS = 1 << HEAD_MOST;

    private final long[] open = new long[WORDS];
    private final long[][] agreeing = new long[VIEWS_MOST][WORDS];
    private final long[][] giving = new long[ANSWER_ROWS][WORDS];
    private final long[] left = new long[WORDS];

    int howMany(Holding held) {
      findOpen(held);
      int many = 0;
      for (int i = 0; i < WORDS; i++) {
        many += Long.bitCount(open[i]);
      }
      return many;
    }

    /** Rows that are in a picture's ANSWER in all worlds, or in some; NONE if there is no world. */
    int answerOf(Holding held, Picture picture, boolean inAll) {
      findOpen(held);
      if (isEmpty(open)) {
        return NONE;
      }
      spread(picture);
      int answer = 0;
      for (int row = 0; row < ANSWER_ROWS; row++) {
        if (inAll ? !leaves(open, giving[row]) : meets(open, giving[row])) {
          answer |= 1 << row;
        }
      }
      return answer;
    }

    /** BESIDES of an ASK. */
    int fewestBesides(Holding held, Picture ask) {
      findOpen(held);
      for (int view = 0; view < held.viewCount; view++) {
        Arrays.fill(agreeing[view], -1L);
        keepAgreeing(agreeing[view], held.views[view], held.views[view].answerBy(held.tables));
      }
      spread(ask);
      for (int many = 0; many <= held.viewCount; many++) {
        for (int views = 0; views < 1 << held.viewCount; views++) {
          boolean isTried = Integer.bitCount(views) == many && (views & held.kept) == 0;
          if (isTried && settles(views)) {
            return views;
          }
        }
      }
      return NONE;
    }

    /** Whether there is a world that agrees with these VIEWS, and all such give one answer. */
    private boolean settles(int views) {
      System.arraycopy(open, 0, left, 0, WORDS);
      for (int view = 0; view < VIEWS_MOST; view++) {
        if ((views >> view & 1) != 0) {
          keepAlike(left, agreeing[view], true);
        }
      }
      if (isEmpty(left)) {
        return false;
      }
      for (int row = 0; row < ANSWER_ROWS; row++) {
        if (meets(left, giving[row]) && leaves(left, giving[row])) {
          return false;
        }
      }
      return true;
    }

    /** The worlds in which KEYS hold and each KEPT VIEW has just its answer. */
    private void findOpen(Holding held) {
      Arrays.fill(open, -1L);
      for (int table = 0; table < TABLES; table++) {
        if (held.hasKey(table)) {
          dropDoubleX(table, 0);
          dropDoubleX(table, 1);
        }
      }
      for (int view = 0; view < held.viewCount; view++) {
        if ((held.kept >> view & 1) != 0) {
          keepAgreeing(open, held.views[view], held.keptAnswers[view]);
        }
      }
    }

    private void dropDoubleX(int table, int x) {
      Arrays.fill(left, 0L);
      addWith(left, 1 << rowBit(table, x, 0) | 1 << rowBit(table, x, 1));
      keepAlike(open, left, false);
    }

    /** Of some worlds those in which a picture has just this answer stay. */
    private void keepAgreeing(long[] worlds, Picture picture, int answer) {
      spread(picture);
      for (int row = 0; row < ANSWER_ROWS; row++) {
        keepAlike(worlds, giving[row], (answer >> row & 1) != 0);
      }
    }

    /** Finds for each row the worlds in which it is in a picture's ANSWER. */
    private void spread(Picture picture) {
      for (int row = 0; row < ANSWER_ROWS; row++) {
        Arrays.fill(giving[row], 0L);
      }
      int names = picture.names();
      for (int values = 0; values < 1 << TERMS; values += 1 << FIRST_NAME) {
        if (Picture.fits(values, names)) {
          addWith(giving[picture.headBy(values)], picture.rowsBy(values));
        }
      }
    }

    /** Adds the worlds that have all of these rows. */
    private static void addWith(long[] worlds, int rows) {
      long low = -1L;
      for (int i = 0; i < LOW_BITS; i++) {
        if ((rows >> i & 1) != 0) {
          low &= HOLDING[i];
        }
      }
      int high = rows >> LOW_BITS;
      for (int i = 0; i < WORDS; i++) {
        if ((i & high) == high) {
          worlds[i] |= low;
        }
      }
    }

    private static void keepAlike(long[] worlds, long[] others, boolean inside) {
      for (int i = 0; i < WORDS; i++) {
        worlds[i] &= inside ? others[i] : ~others[i];
      }
    }

    private static boolean isEmpty(long[] worlds) {
      for (int i = 0; i < WORDS; i++) {
        if (worlds[i] != 0L) {
          return false;
        }
      }
      return true;
    }

    private static boolean meets(long[] worlds, long[] others) {
      for (int i = 0; i < WORDS; i++) {
        if ((worlds[i] & others[i]) != 0L) {
          return true;
        }
      }
      return false;
    }

    private static boolean leaves(long[] worlds, long[] others) {
      for (int i = 0; i < WORDS; i++) {
        if ((worlds[i] & ~others[i]) != 0L) {
          return true;
        }
      }
      return false;
    }
  }
}
