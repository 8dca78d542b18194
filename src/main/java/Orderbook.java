import java.util.ArrayList;

/** A book of orders to buy and to sell pieces of one paper, as ../shared/DOC.md promises it. */
public final class Orderbook {
  private static final int NONE = -1;
  private static final int NOTHING_THERE = -9;

  private static final int BUY = 0;
  private static final int SELL = 1;
  private static final int IN_AUCTION = 2;

  private static final int PLAIN = 0;
  private static final int AT_ONCE = 1;
  private static final int ALL_OR_NONE = 2;
  private static final int ONLY_TO_WAIT = 3;
  private static final int HIDDEN = 4;
  private static final int SLEEPER = 5;

  private static final int WAITS = 0;
  private static final int SLEEPS = 1;
  private static final int DONE = 2;
  private static final int ENDED = 3;
  /** Only within a call: of an order that is on its way and stands in no line. */
  private static final int COMES = 4;

  private static final int OPEN = 0;
  private static final int GATHERING = 1;
  private static final int HALTED = 2;

  private static final int BY_PHASE = 1;
  private static final int BY_TICK = 2;
  private static final int BY_BAND = 3;
  private static final int BY_LIMIT = 4;
  private static final int BY_CROWD = 5;
  private static final int BY_GATHERING = 6;
  private static final int BY_REACH = 7;
  private static final int BY_LACK = 8;
  private static final int MOST_REASONS = 8;

  private static final int TOLD_ORDER = 0;
  private static final int TOLD_HIDDEN = 1;
  private static final int TOLD_SLEEPER = 2;
  private static final int TOLD_CANCEL = 3;
  private static final int TOLD_CANCEL_ALL = 4;
  private static final int TOLD_LESS = 5;
  private static final int TOLD_CHANGE = 6;
  private static final int TOLD_PASS = 7;
  private static final int TOLD_TICK = 8;
  private static final int TOLD_BAND = 9;
  private static final int TOLD_LIMIT = 10;
  private static final int TOLD_GATHER = 11;
  private static final int TOLD_AUCTION = 12;
  private static final int TOLD_HALT = 13;
  private static final int TOLD_RESUME = 14;

  private static final int OWNERS = 6;
  private static final int MOST_PRICE = 999;
  private static final int MOST_PIECES = 500;
  private static final int MOST_MINUTE = 9999;
  private static final int MOST_MINUTES_AT_ONCE = 99;
  private static final int MOST_TICK = 10;
  private static final int MOST_BAND = 999;
  private static final int MOST_LIMIT = 9999;
  private static final int MOST_ALIVE = 60;
  private static final int MOST_ON_TAPE = 8;

  private static final int FIRST_TICK = 1;
  private static final int FIRST_REFERENCE = 500;
  private static final int FIRST_BAND = 999;
  private static final int FIRST_LIMIT = 5000;

  private static final int LAST_OF_HOUSE = 16;
  private static final int HOUSE_NOTHINGS = 14;
  private static final int HOUSE_KNOCKS = 15;
  private static final int LAST_OF_ORDER = 10;
  private static final int LAST_OF_LEVEL = 5;
  private static final int LAST_OF_TRADE = 5;
  private static final int LAST_OF_MINUTE = 6;
  private static final int LAST_OF_ACCOUNT = 6;
  private static final int LAST_OF_AUCTION = 2;

  /** An object is used for so many calls; each of them may take an order. */
  private static final int MOST_CALLS = 512;
  /** 256 orders to buy and 256 to sell, each in 500 trades, are 128,000. */
  private static final int MOST_TRADES = 131072;
  /** Far above the steps that any call can need: it only shows that a loop ends. */
  private static final int MOST_STEPS = 1000000;

  private final Book live = new Book();
  /** The replay; it goes on from where it stands as long as it is not asked for less. */
  private final Book replay = new Book();
  private final ArrayList<Call> told = new ArrayList<Call>();

  public Orderbook() {
    live.clear();
    replay.clear();
  }

  public int order(int kind, int side, int price, int pieces, int owner)
      throws IllegalArgumentException {
    if (!isWithin(kind, PLAIN, ONLY_TO_WAIT) || !areTerms(side, price, pieces, owner)) {
      throw new IllegalArgumentException("kind, side, price, pieces or owner");
    }
    return tell(new Call(TOLD_ORDER, kind, side, price, pieces, owner));
  }

  public int hidden(int side, int price, int pieces, int shown, int owner)
      throws IllegalArgumentException {
    if (!areTerms(side, price, pieces, owner) || !isWithin(shown, 1, pieces)) {
      throw new IllegalArgumentException("side, price, pieces, shown or owner");
    }
    return tell(new Call(TOLD_HIDDEN, side, price, pieces, shown, owner));
  }

  public int sleeper(int side, int trigger, int price, int pieces, int owner)
      throws IllegalArgumentException {
    if (!areTerms(side, price, pieces, owner) || !isPrice(trigger)) {
      throw new IllegalArgumentException("side, trigger, price, pieces or owner");
    }
    return tell(new Call(TOLD_SLEEPER, side, trigger, price, pieces, owner));
  }

  public int cancel(int order) throws IndexOutOfBoundsException, IllegalStateException {
    Order found = live.numbered(order);
    if (found == null) {
      throw new IndexOutOfBoundsException("no such order");
    }
    if (!found.isAlive()) {
      throw new IllegalStateException("the order neither waits nor sleeps");
    }
    return tell(new Call(TOLD_CANCEL, order, 0));
  }

  public int cancelAll(int owner) throws IllegalArgumentException {
    if (!isOwner(owner)) {
      throw new IllegalArgumentException("owner");
    }
    return tell(new Call(TOLD_CANCEL_ALL, owner, 0));
  }

  public int less(int order, int pieces)
      throws IndexOutOfBoundsException, IllegalArgumentException, IllegalStateException {
    Order found = live.numbered(order);
    if (found == null) {
      throw new IndexOutOfBoundsException("no such order");
    }
    if (!isWithin(pieces, 1, MOST_PIECES)) {
      throw new IllegalArgumentException("pieces");
    }
    if (!found.isAlive() || found.left <= pieces) {
      throw new IllegalStateException("the order has not more than that left");
    }
    return tell(new Call(TOLD_LESS, order, pieces));
  }

  public int change(int order, int price)
      throws IndexOutOfBoundsException, IllegalArgumentException, IllegalStateException {
    Order found = live.numbered(order);
    if (found == null) {
      throw new IndexOutOfBoundsException("no such order");
    }
    if (!isPrice(price)) {
      throw new IllegalArgumentException("price");
    }
    if (found.state != WAITS) {
      throw new IllegalStateException("the order does not wait");
    }
    return tell(new Call(TOLD_CHANGE, order, price));
  }

  public int pass(int minutes) throws IllegalArgumentException, IllegalStateException {
    if (!isWithin(minutes, 1, MOST_MINUTES_AT_ONCE)) {
      throw new IllegalArgumentException("minutes");
    }
    if (live.minute + minutes > MOST_MINUTE) {
      throw new IllegalStateException("no minute is behind 9999");
    }
    return tell(new Call(TOLD_PASS, minutes, 0));
  }

  public int tick(int tick) throws IllegalArgumentException {
    if (!isWithin(tick, 1, MOST_TICK)) {
      throw new IllegalArgumentException("tick");
    }
    return tell(new Call(TOLD_TICK, tick, 0));
  }

  public int band(int reference, int band) throws IllegalArgumentException {
    if (!isPrice(reference) || !isWithin(band, 0, MOST_BAND)) {
      throw new IllegalArgumentException("reference or band");
    }
    return tell(new Call(TOLD_BAND, reference, band));
  }

  public int limit(int owner, int limit) throws IllegalArgumentException {
    if (!isOwner(owner) || !isWithin(limit, 0, MOST_LIMIT)) {
      throw new IllegalArgumentException("owner or limit");
    }
    return tell(new Call(TOLD_LIMIT, owner, limit));
  }

  public int gather() throws IllegalStateException {
    if (live.phase == GATHERING) {
      throw new IllegalStateException("the phase is gathering");
    }
    return tell(new Call(TOLD_GATHER, 0, 0));
  }

  public int auction() throws IllegalStateException {
    if (live.phase != GATHERING) {
      throw new IllegalStateException("the phase is not gathering");
    }
    return tell(new Call(TOLD_AUCTION, 0, 0));
  }

  public int halt() throws IllegalStateException {
    if (live.phase != OPEN) {
      throw new IllegalStateException("the phase is not open");
    }
    return tell(new Call(TOLD_HALT, 0, 0));
  }

  public int resume() throws IllegalStateException {
    if (live.phase != HALTED) {
      throw new IllegalStateException("the phase is not halted");
    }
    return tell(new Call(TOLD_RESUME, 0, 0));
  }

  public int blank() {
    return nothing();
  }

  public int knock() {
    live.knocks++;
    return live.knocks;
  }

  public int best(int side) throws IllegalArgumentException {
    if (!isSide(side)) {
      throw new IllegalArgumentException("side");
    }
    return live.lineOf(side).topPrice();
  }

  public int level(int side, int nth, int what) throws IllegalArgumentException {
    if (!isSide(side) || nth < 0 || !isWithin(what, 0, LAST_OF_LEVEL)) {
      throw new IllegalArgumentException("side, nth or what");
    }
    return live.lineOf(side).ofLevel(nth, what);
  }

  public int ofOrder(int order, int what)
      throws IndexOutOfBoundsException, IllegalArgumentException {
    Order found = live.numbered(order);
    if (found == null) {
      throw new IndexOutOfBoundsException("no such order");
    }
    if (!isWithin(what, 0, LAST_OF_ORDER)) {
      throw new IllegalArgumentException("what");
    }
    return live.partOf(found, what);
  }

  public int first(int side, int price) throws IllegalArgumentException {
    if (!isSide(side) || !isPrice(price)) {
      throw new IllegalArgumentException("side or price");
    }
    Order found = live.lineOf(side).inQueue(price, 0);
    return found == null ? nothing() : found.number;
  }

  public int queued(int side, int price, int nth) throws IllegalArgumentException {
    if (!isSide(side) || !isPrice(price) || nth < 0) {
      throw new IllegalArgumentException("side, price or nth");
    }
    Order found = live.lineOf(side).inQueue(price, nth);
    return found == null ? NONE : found.number;
  }

  public int depth(int side, int price) throws IllegalArgumentException {
    if (!isSide(side) || !isPrice(price)) {
      throw new IllegalArgumentException("side or price");
    }
    return live.lineOf(side).leftUpTo(rankOf(side, price));
  }

  public int between(int side, int from, int to) throws IllegalArgumentException {
    if (!isSide(side) || !isPrice(from) || !isPrice(to)) {
      throw new IllegalArgumentException("side, from or to");
    }
    return from > to ? nothing() : live.lineOf(side).leftBetween(from, to);
  }

  public String text(int side) throws IllegalArgumentException {
    if (!isSide(side)) {
      throw new IllegalArgumentException("side");
    }
    return live.lineOf(side).written();
  }

  public int sleepers(int side) throws IllegalArgumentException {
    if (!isSide(side)) {
      throw new IllegalArgumentException("side");
    }
    return live.asleep.manyOfSide(side);
  }

  public int trade(int nth, int what)
      throws IndexOutOfBoundsException, IllegalArgumentException {
    if (nth < 0 || nth >= live.tape.many) {
      throw new IndexOutOfBoundsException("no such trade");
    }
    if (!isWithin(what, 0, LAST_OF_TRADE)) {
      throw new IllegalArgumentException("what");
    }
    return live.tape.ofTrade(nth, what);
  }

  public String tape(int from) throws IllegalArgumentException {
    if (from < 0) {
      throw new IllegalArgumentException("from");
    }
    return live.tape.written(from);
  }

  public int minute(int minute, int what) throws IllegalArgumentException {
    if (!isWithin(minute, 0, MOST_MINUTE) || !isWithin(what, 0, LAST_OF_MINUTE)) {
      throw new IllegalArgumentException("minute or what");
    }
    return live.tape.ofMinute(minute, what);
  }

  public int account(int owner, int what) throws IllegalArgumentException {
    if (!isOwner(owner) || !isWithin(what, 0, LAST_OF_ACCOUNT)) {
      throw new IllegalArgumentException("owner or what");
    }
    return live.ofAccount(owner, what);
  }

  public int house(int what) throws IllegalArgumentException {
    if (!isWithin(what, 0, LAST_OF_HOUSE)) {
      throw new IllegalArgumentException("what");
    }
    return live.ofHouse(what);
  }

  public int refused(int reason) throws IllegalArgumentException {
    if (!isWithin(reason, 1, MOST_REASONS)) {
      throw new IllegalArgumentException("reason");
    }
    return live.refusalsBy(reason);
  }

  public int told(int nth, boolean isResult) throws IndexOutOfBoundsException {
    if (nth < 0 || nth >= told.size()) {
      throw new IndexOutOfBoundsException("not so many were told");
    }
    Call call = told.get(nth);
    return isResult ? call.answer : call.kind;
  }

  public int would(int side, int price, int pieces, int owner, boolean isMoney)
      throws IllegalArgumentException {
    if (!areTerms(side, price, pieces, owner)) {
      throw new IllegalArgumentException("side, price, pieces or owner");
    }
    return wouldTrade(side, price, pieces, owner, isMoney);
  }

  public int wouldAuction(int what) throws IllegalArgumentException {
    if (!isWithin(what, 0, LAST_OF_AUCTION)) {
      throw new IllegalArgumentException("what");
    }
    return live.ofAuction(what);
  }

  public int past(int many, int what) throws IllegalArgumentException {
    if (!isWithin(many, 0, told.size()) || !isWithin(what, 0, LAST_OF_HOUSE + 2)) {
      throw new IllegalArgumentException("many or what");
    }
    playTo(many);
    if (what <= LAST_OF_HOUSE) {
      return replay.ofHouse(what);
    }
    return replay.lineOf(what - LAST_OF_HOUSE - 1).topPrice();
  }

  public boolean isSound() {
    playTo(told.size());
    return isSoundBesideReplay();
  }

  public long digest() {
    playTo(told.size());
    long d = 5309;
    for (int what = 0; what <= LAST_OF_HOUSE; what++) {
      d = mixed(d, live.ofHouse(what));
    }
    for (int side = BUY; side <= SELL; side++) {
      d = withSide(d, side);
    }
    d = withLastOrders(d);
    d = withLastTrades(d);
    for (int what = 0; what <= LAST_OF_MINUTE; what++) {
      d = mixed(d, live.tape.ofMinute(live.minute, what));
    }
    for (int owner = 0; owner < OWNERS; owner++) {
      for (int what = 0; what <= LAST_OF_ACCOUNT; what++) {
        d = mixed(d, live.ofAccount(owner, what));
      }
    }
    for (int reason = 1; reason <= MOST_REASONS; reason++) {
      d = mixed(d, live.refusalsBy(reason));
    }
    for (int what = 0; what <= LAST_OF_AUCTION; what++) {
      d = mixed(d, live.ofAuction(what));
    }
    d = mixed(d, wouldTrade(BUY, MOST_PRICE, 100, 0, false));
    d = mixed(d, wouldTrade(BUY, MOST_PRICE, 100, 0, true));
    return mixed(d, isSoundBesideReplay() ? 1 : 0);
  }

  private static long mixed(long d, int v) {
    return d * 31 + v;
  }

  private long withSide(long d, int side) {
    Line line = live.lineOf(side);
    long sum = mixed(d, line.topPrice());
    sum = mixed(sum, live.asleep.manyOfSide(side));
    sum = mixed(sum, line.writtenLength());
    for (int nth = 0; nth <= 2; nth++) {
      for (int what = 0; what <= LAST_OF_LEVEL; what++) {
        sum = mixed(sum, line.ofLevel(nth, what));
      }
    }
    return mixed(sum, line.leftUpTo(rankOf(side, 500)));
  }

  private long withLastOrders(long d) {
    long sum = d;
    for (int back = 1; back <= 8; back++) {
      Order order = live.numbered(live.taken - back);
      if (order == null) {
        return sum;
      }
      for (int what = 0; what <= LAST_OF_ORDER; what++) {
        sum = mixed(sum, live.partOf(order, what));
      }
    }
    return sum;
  }

  private long withLastTrades(long d) {
    long sum = d;
    for (int back = 1; back <= 6 && back <= live.tape.many; back++) {
      for (int what = 0; what <= LAST_OF_TRADE; what++) {
        sum = mixed(sum, live.tape.ofTrade(live.tape.many - back, what));
      }
    }
    return sum;
  }

  /** Each call that is told goes this one way, so that the replay can go it again. */
  private int tell(Call call) {
    if (told.size() >= MOST_CALLS) {
      return NONE;
    }
    call.answer = live.carryOut(call);
    told.add(call);
    return call.answer;
  }

  private int nothing() {
    live.nothings++;
    return NOTHING_THERE;
  }

  private int wouldTrade(int side, int price, int pieces, int owner, boolean isMoney) {
    if (live.phase != OPEN) {
      return 0;
    }
    return live.couldTrade(side, price, pieces, owner, isMoney);
  }

  private void playTo(int many) {
    if (replay.calls > many) {
      replay.clear();
    }
    for (int i = replay.calls; i < many && i < told.size(); i++) {
      replay.carryOut(told.get(i));
    }
  }

  private boolean isSoundBesideReplay() {
    return live.isSoundItself() && isHouseReplayed() && areAccountsReplayed()
        && live.buys.readsAs(replay.buys) && live.sells.readsAs(replay.sells);
  }

  private boolean isHouseReplayed() {
    for (int what = 0; what <= LAST_OF_HOUSE; what++) {
      boolean isAsked = what == HOUSE_NOTHINGS || what == HOUSE_KNOCKS;
      if (!isAsked && live.ofHouse(what) != replay.ofHouse(what)) {
        return false;
      }
    }
    return true;
  }

  private boolean areAccountsReplayed() {
    for (int owner = 0; owner < OWNERS; owner++) {
      for (int what = 0; what <= LAST_OF_ACCOUNT; what++) {
        if (live.ofAccount(owner, what) != replay.ofAccount(owner, what)) {
          return false;
        }
      }
    }
    return true;
  }

  private static boolean isWithin(int value, int least, int most) {
    return value >= least && value <= most;
  }

  private static boolean isSide(int side) {
    return side == BUY || side == SELL;
  }

  private static boolean isPrice(int price) {
    return isWithin(price, 1, MOST_PRICE);
  }

  private static boolean isOwner(int owner) {
    return isWithin(owner, 0, OWNERS - 1);
  }

  private static boolean areTerms(int side, int price, int pieces, int owner) {
    return isSide(side) && isPrice(price) && isWithin(pieces, 1, MOST_PIECES) && isOwner(owner);
  }

  /** The better a price is on its side, the smaller is its rank. */
  private static int rankOf(int side, int price) {
    return side == BUY ? -price : price;
  }

  private static boolean isReached(int limit, int side, int price) {
    return side == BUY ? price <= limit : price >= limit;
  }

  private static int digitsOf(int number) {
    int digits = 1;
    int bound = 10;
    while (digits < 9 && number >= bound) {
      digits++;
      bound *= 10;
    }
    return digits;
  }

  /** One of those that were told: its number by section 5, what it was given, what it told back. */
  private static final class Call {
    final int kind;
    final int a;
    final int b;
    final int c;
    final int d;
    final int e;
    int answer;

    Call(int kind, int a, int b, int c, int d, int e) {
      this.kind = kind;
      this.a = a;
      this.b = b;
      this.c = c;
      this.d = d;
      this.e = e;
    }

    Call(int kind, int a, int b) {
      this(kind, a, b, 0, 0, 0);
    }
  }

  private static final class Order {
    final int number;
    int kind;
    int side;
    int price;
    int pieces;
    int owner;
    /** How many pieces the parts of a hidden one are told to show. */
    int shown;
    int trigger;
    int state;
    int left;
    int part;
    int traded;
    int rank;
    boolean isAwake;
    /** The one behind it in the line where it stands. */
    Order next;

    Order(int number) {
      this.number = number;
    }

    boolean isAlive() {
      return state == WAITS || state == SLEEPS;
    }

    int visible() {
      return kind == HIDDEN ? part : left;
    }

    void showNextPart() {
      part = shown < left ? shown : left;
    }

    void loseTraded(int many) {
      left -= many;
      traded += many;
      part = part > many ? part - many : 0;
    }

    /** What is not shown goes first, so the part shrinks only to what is left. */
    void loseTakenAway(int many) {
      left -= many;
      part = part < left ? part : left;
    }

    int fact(int what) {
      switch (what) {
        case 0: return side;
        case 1: return price;
        case 2: return pieces;
        case 3: return owner;
        case 4: return kind;
        case 5: return left;
        case 6: return state == WAITS ? visible() : 0;
        case 7: return state;
        case 8: return traded;
        default: return trigger;
      }
    }
  }

  /** Orders by rank, of one rank by coming: of a side its queues one behind the other, best first. */
  private static final class Line {
    Order head;

    void clear() {
      head = null;
    }

    void join(Order order) {
      Order before = null;
      Order behind = head;
      while (behind != null && behind.rank <= order.rank) {
        before = behind;
        behind = behind.next;
      }
      order.next = behind;
      if (before == null) {
        head = order;
      } else {
        before.next = order;
      }
    }

    void leave(Order order) {
      Order before = null;
      Order at = head;
      while (at != null && at != order) {
        before = at;
        at = at.next;
      }
      if (at == null) {
        return;
      }
      if (before == null) {
        head = at.next;
      } else {
        before.next = at.next;
      }
      at.next = null;
    }

    int size() {
      int many = 0;
      for (Order at = head; at != null; at = at.next) {
        many++;
      }
      return many;
    }

    int topPrice() {
      return head == null ? NONE : head.price;
    }

    int manyOfSide(int side) {
      int many = 0;
      for (Order at = head; at != null; at = at.next) {
        many += at.side == side ? 1 : 0;
      }
      return many;
    }

    int manyOfOwner(int owner) {
      int many = 0;
      for (Order at = head; at != null; at = at.next) {
        many += at.owner == owner ? 1 : 0;
      }
      return many;
    }

    int leftOfOwner(int owner, int side) {
      int sum = 0;
      for (Order at = head; at != null; at = at.next) {
        sum += at.owner == owner && at.side == side ? at.left : 0;
      }
      return sum;
    }

    int leftUpTo(int rank) {
      int sum = 0;
      for (Order at = head; at != null && at.rank <= rank; at = at.next) {
        sum += at.left;
      }
      return sum;
    }

    int leftBetween(int from, int to) {
      int sum = 0;
      for (Order at = head; at != null; at = at.next) {
        sum += at.price >= from && at.price <= to ? at.left : 0;
      }
      return sum;
    }

    Order inQueue(int price, int nth) {
      int seen = 0;
      for (Order at = head; at != null; at = at.next) {
        if (at.price == price) {
          if (seen == nth) {
            return at;
          }
          seen++;
        }
      }
      return null;
    }

    int aheadOf(Order order) {
      int ahead = 0;
      for (Order at = head; at != null && at != order; at = at.next) {
        ahead += at.price == order.price ? 1 : 0;
      }
      return ahead;
    }

    int ofLevel(int nth, int what) {
      Order opening = head;
      for (int passed = 0; passed < nth && opening != null; passed++) {
        opening = nextLevel(opening);
      }
      if (opening == null) {
        return NONE;
      }
      switch (what) {
        case 0: return opening.price;
        case 1: return shownFrom(opening);
        case 2: return leftBetween(opening.price, opening.price);
        case 3: return manyFrom(opening);
        case 4: return opening.number;
        default: return lastFrom(opening);
      }
    }

    private Order nextLevel(Order opening) {
      Order at = opening;
      while (at != null && at.price == opening.price) {
        at = at.next;
      }
      return at;
    }

    private int shownFrom(Order opening) {
      int sum = 0;
      for (Order at = opening; at != null && at.price == opening.price; at = at.next) {
        sum += at.visible();
      }
      return sum;
    }

    private int manyFrom(Order opening) {
      int many = 0;
      for (Order at = opening; at != null && at.price == opening.price; at = at.next) {
        many++;
      }
      return many;
    }

    private int lastFrom(Order opening) {
      int number = NONE;
      for (Order at = opening; at != null && at.price == opening.price; at = at.next) {
        number = at.number;
      }
      return number;
    }

    String written() {
      if (head == null) {
        return "-";
      }
      StringBuilder out = new StringBuilder();
      for (Order opening = head; opening != null; opening = nextLevel(opening)) {
        if (opening != head) {
          out.append(' ');
        }
        out.append(opening.price).append('x').append(shownFrom(opening));
      }
      return out.toString();
    }

    /** Counted without the text, so that a checksum makes no objects. */
    int writtenLength() {
      if (head == null) {
        return 1;
      }
      int length = -1;
      for (Order opening = head; opening != null; opening = nextLevel(opening)) {
        length += 2 + digitsOf(opening.price) + digitsOf(shownFrom(opening));
      }
      return length;
    }

    /** Whether both have the same text; level by level, which makes no objects. */
    boolean readsAs(Line other) {
      Order mine = head;
      Order theirs = other.head;
      while (mine != null && theirs != null) {
        if (mine.price != theirs.price || shownFrom(mine) != other.shownFrom(theirs)) {
          return false;
        }
        mine = nextLevel(mine);
        theirs = other.nextLevel(theirs);
      }
      return mine == null && theirs == null;
    }

    boolean isInOrder(int side) {
      Order before = null;
      for (Order at = head; at != null; at = at.next) {
        if (at.state != WAITS || at.side != side || at.rank != rankOf(side, at.price)) {
          return false;
        }
        if (before != null && before.rank > at.rank) {
          return false;
        }
        before = at;
      }
      return true;
    }
  }

  private static final class Accounts {
    final int[] positions = new int[OWNERS];
    final int[] moneys = new int[OWNERS];
    final int[] limits = new int[OWNERS];
    /** How many orders ended because they met one of their own owner. */
    final int[] clashes = new int[OWNERS];

    void clear() {
      for (int owner = 0; owner < OWNERS; owner++) {
        positions[owner] = 0;
        moneys[owner] = 0;
        limits[owner] = FIRST_LIMIT;
        clashes[owner] = 0;
      }
    }

    void add(int owner, int pieces, int money) {
      if (owner >= 0 && owner < OWNERS) {
        positions[owner] += pieces;
        moneys[owner] += money;
      }
    }

    void addClash(int owner) {
      if (owner >= 0 && owner < OWNERS) {
        clashes[owner]++;
      }
    }

    int exchangeLimit(int owner, int newLimit) {
      if (owner < 0 || owner >= OWNERS) {
        return NONE;
      }
      int before = limits[owner];
      limits[owner] = newLimit;
      return before;
    }

    int positionOf(int owner) {
      return owner >= 0 && owner < OWNERS ? positions[owner] : 0;
    }

    int moneyOf(int owner) {
      return owner >= 0 && owner < OWNERS ? moneys[owner] : 0;
    }

    int limitOf(int owner) {
      return owner >= 0 && owner < OWNERS ? limits[owner] : 0;
    }

    int clashesOf(int owner) {
      return owner >= 0 && owner < OWNERS ? clashes[owner] : 0;
    }

    boolean areEven() {
      int pieces = 0;
      int money = 0;
      for (int owner = 0; owner < OWNERS; owner++) {
        pieces += positions[owner];
        money += moneys[owner];
      }
      return pieces == 0 && money == 0;
    }
  }

  /** The trades, each packed into one long: there may be 128,000 of them in the room of a run. */
  private static final class Tape {
    private static final int PIECES_AT = 10;
    private static final int CAME_AT = 19;
    private static final int BUYER_AT = 21;
    private static final int SELLER_AT = 30;
    private static final int MINUTE_AT = 39;

    private long[] cells = new long[64];
    private final int[] sums = new int[MOST_CALLS];
    int many;
    int volume;

    void clear() {
      many = 0;
      volume = 0;
    }

    void add(Order buyer, Order seller, int price, int pieces, int minute, int came) {
      if (many >= cells.length) {
        if (many >= MOST_TRADES) {
          return;
        }
        long[] wider = new long[many * 2];
        for (int i = 0; i < many && i < cells.length && i < wider.length; i++) {
          wider[i] = cells[i];
        }
        cells = wider;
      }
      long cell = price | (long) pieces << PIECES_AT | (long) came << CAME_AT;
      cell |= (long) buyer.number << BUYER_AT | (long) seller.number << SELLER_AT;
      cell |= (long) minute << MINUTE_AT;
      if (many >= 0 && many < cells.length) {
        cells[many] = cell;
        many++;
        volume += pieces;
      }
    }

    int ofTrade(int nth, int what) {
      if (nth < 0 || nth >= many || nth >= cells.length) {
        return NONE;
      }
      long cell = cells[nth];
      switch (what) {
        case 0: return (int) (cell & 1023);
        case 1: return (int) (cell >> PIECES_AT & 511);
        case 2: return (int) (cell >> BUYER_AT & 511);
        case 3: return (int) (cell >> SELLER_AT & 511);
        case 4: return (int) (cell >> MINUTE_AT & 16383);
        default: return (int) (cell >> CAME_AT & 3);
      }
    }

    String written(int from) {
      if (from < 0 || from >= many) {
        return "-";
      }
      StringBuilder out = new StringBuilder();
      for (int nth = from; nth < many && nth - from < MOST_ON_TAPE; nth++) {
        if (nth > from) {
          out.append(' ');
        }
        out.append(ofTrade(nth, 1)).append('x').append(ofTrade(nth, 0));
      }
      return out.toString();
    }

    int ofMinute(int minute, int what) {
      int sum = what <= 2 ? 0 : NONE;
      for (int nth = startOf(minute); nth < many && ofTrade(nth, 4) == minute; nth++) {
        sum = withTrade(sum, what, ofTrade(nth, 0), ofTrade(nth, 1));
      }
      return sum;
    }

    /** The minutes of the trades never fall, so the first one of a minute is found by halves. */
    private int startOf(int minute) {
      int low = 0;
      int high = many;
      for (int halves = 0; halves < 32 && low < high; halves++) {
        int middle = low + (high - low) / 2;
        if (ofTrade(middle, 4) < minute) {
          low = middle + 1;
        } else {
          high = middle;
        }
      }
      return low;
    }

    private static int withTrade(int sum, int what, int price, int pieces) {
      switch (what) {
        case 0: return sum + 1;
        case 1: return sum + pieces;
        case 2: return sum + price * pieces;
        case 3: return sum == NONE ? price : sum;
        case 4: return price;
        case 5: return price > sum ? price : sum;
        default: return sum == NONE || price < sum ? price : sum;
      }
    }

    void sumByOrder() {
      for (int i = 0; i < sums.length; i++) {
        sums[i] = 0;
      }
      for (int nth = 0; nth < many; nth++) {
        int pieces = ofTrade(nth, 1);
        addTo(ofTrade(nth, 2), pieces);
        addTo(ofTrade(nth, 3), pieces);
      }
    }

    private void addTo(int number, int pieces) {
      if (number >= 0 && number < sums.length) {
        sums[number] += pieces;
      }
    }

    int sumOf(int number) {
      return number >= 0 && number < sums.length ? sums[number] : NONE;
    }
  }

  /** The price that an auction of two lines has, what trades at it and what is left over. */
  private static final class Cross {
    int price;
    int trades;
    int leftOver;

    void find(Line buys, Line sells) {
      price = NONE;
      trades = 0;
      leftOver = 0;
      for (Order at = buys.head; at != null; at = at.next) {
        weigh(at.price, buys, sells);
      }
      for (Order at = sells.head; at != null; at = at.next) {
        weigh(at.price, buys, sells);
      }
    }

    private void weigh(int candidate, Line buys, Line sells) {
      int bought = buys.leftUpTo(rankOf(BUY, candidate));
      int sold = sells.leftUpTo(rankOf(SELL, candidate));
      int less = bought < sold ? bought : sold;
      int over = bought + sold - 2 * less;
      if (less > 0 && isBetter(candidate, less, over)) {
        price = candidate;
        trades = less;
        leftOver = over;
      }
    }

    private boolean isBetter(int candidate, int less, int over) {
      if (less != trades) {
        return less > trades;
      }
      return over != leftOver ? over < leftOver : candidate < price;
    }
  }

  /** All that calls change; the face looks at a call ahead of it, so that it never throws. */
  private static final class Book {
    final Line buys = new Line();
    final Line sells = new Line();
    final Line asleep = new Line();
    final Tape tape = new Tape();
    final Accounts accounts = new Accounts();
    final Cross cross = new Cross();
    /** Made once each, used again by every replay; only the first ones, as many as taken, count. */
    final ArrayList<Order> orders = new ArrayList<Order>();
    final int[] refusals = new int[MOST_REASONS + 1];
    int taken;
    int calls;
    int minute;
    int phase;
    int tick;
    int reference;
    int band;
    int breaks;
    int nothings;
    int knocks;

    void clear() {
      buys.clear();
      sells.clear();
      asleep.clear();
      tape.clear();
      accounts.clear();
      for (int i = 0; i < refusals.length; i++) {
        refusals[i] = 0;
      }
      taken = 0;
      calls = 0;
      minute = 0;
      phase = OPEN;
      tick = FIRST_TICK;
      reference = FIRST_REFERENCE;
      band = FIRST_BAND;
      breaks = 0;
      nothings = 0;
      knocks = 0;
    }

    int carryOut(Call call) {
      calls++;
      switch (call.kind) {
        case TOLD_ORDER: return take(fresh(call.a, call.b, call.c, call.d, call.e, 0, 0));
        case TOLD_HIDDEN: return take(fresh(HIDDEN, call.a, call.b, call.c, call.e, call.d, 0));
        case TOLD_SLEEPER: return take(fresh(SLEEPER, call.a, call.c, call.d, call.e, 0, call.b));
        case TOLD_CANCEL: return withdraw(numbered(call.a));
        case TOLD_CANCEL_ALL: return withdrawAll(call.a);
        case TOLD_LESS: return takeAway(numbered(call.a), call.b);
        case TOLD_CHANGE: return moveTo(numbered(call.a), call.b);
        case TOLD_PASS: return letPass(call.a);
        case TOLD_TICK: return exchangeTick(call.a);
        case TOLD_BAND: return exchangeBand(call.a, call.b);
        case TOLD_LIMIT: return accounts.exchangeLimit(call.a, call.b);
        case TOLD_GATHER: return exchangePhase(GATHERING);
        case TOLD_AUCTION: return holdAuction();
        case TOLD_HALT: return turnTo(HALTED);
        case TOLD_RESUME: return turnTo(OPEN);
        default: return NONE;
      }
    }

    Order numbered(int number) {
      return number >= 0 && number < taken && number < orders.size() ? orders.get(number) : null;
    }

    Line lineOf(int side) {
      return side == BUY ? buys : sells;
    }

    private Line lineAgainst(int side) {
      return side == BUY ? sells : buys;
    }

    private int letPass(int minutes) {
      minute += minutes;
      return minute;
    }

    private int exchangeTick(int newTick) {
      int before = tick;
      tick = newTick;
      return before;
    }

    private int exchangeBand(int newReference, int newBand) {
      int before = reference;
      reference = newReference;
      band = newBand;
      return before;
    }

    private int exchangePhase(int newPhase) {
      int before = phase;
      phase = newPhase;
      return before;
    }

    private int turnTo(int newPhase) {
      phase = newPhase;
      return waiting();
    }

    /** The order that the next number is for; it has it only if it is taken then. */
    private Order fresh(int kind, int side, int price, int pieces, int owner, int shown,
        int trigger) {
      if (taken >= MOST_CALLS) {
        return null;
      }
      if (taken >= orders.size()) {
        orders.add(new Order(orders.size()));
      }
      if (taken < 0 || taken >= orders.size()) {
        return null;
      }
      Order order = orders.get(taken);
      order.kind = kind;
      order.side = side;
      order.price = price;
      order.pieces = pieces;
      order.owner = owner;
      order.shown = shown;
      order.trigger = trigger;
      order.state = COMES;
      order.left = pieces;
      order.part = 0;
      order.traded = 0;
      order.rank = 0;
      order.isAwake = false;
      order.next = null;
      return order;
    }

    private int take(Order order) {
      if (order == null) {
        return NONE;
      }
      int reason = reasonAgainst(order);
      if (reason > 0) {
        return refuse(reason);
      }
      taken++;
      if (order.kind == SLEEPER) {
        fallAsleep(order);
      } else if (phase == GATHERING) {
        queueUp(order);
      } else {
        bring(order);
      }
      return order.number;
    }

    private int reasonAgainst(Order order) {
      int reason = reasonAgainstTerms(order.price, order.trigger);
      if (reason > 0) {
        return reason;
      }
      if (isOverLimit(order)) {
        return BY_LIMIT;
      }
      if (waiting() + asleep.size() >= MOST_ALIVE) {
        return BY_CROWD;
      }
      if (phase == GATHERING && isWithin(order.kind, AT_ONCE, ONLY_TO_WAIT)) {
        return BY_GATHERING;
      }
      if (order.kind == ONLY_TO_WAIT && reachesBest(order)) {
        return BY_REACH;
      }
      return order.kind == ALL_OR_NONE && lacksPieces(order) ? BY_LACK : 0;
    }

    /** The trigger of what is no sleeper is 0, a multiple of every tick. */
    private int reasonAgainstTerms(int price, int trigger) {
      if (phase == HALTED) {
        return BY_PHASE;
      }
      if (isOffTick(price) || isOffTick(trigger)) {
        return BY_TICK;
      }
      return isOffBand(price) ? BY_BAND : 0;
    }

    private boolean isOffTick(int price) {
      return tick > 0 && price % tick != 0;
    }

    private boolean isOffBand(int price) {
      return price > reference + band || price < reference - band;
    }

    private boolean isOverLimit(Order order) {
      int position = accounts.positionOf(order.owner);
      int bound = order.pieces + leftOf(order.owner, order.side);
      bound += order.side == BUY ? position : -position;
      return bound > accounts.limitOf(order.owner);
    }

    private int leftOf(int owner, int side) {
      return lineOf(side).leftOfOwner(owner, side) + asleep.leftOfOwner(owner, side);
    }

    private boolean reachesBest(Order order) {
      Order other = lineAgainst(order.side).head;
      return other != null && isReached(order.price, order.side, other.price);
    }

    private boolean lacksPieces(Order order) {
      return couldTrade(order.side, order.price, order.pieces, order.owner, false) < order.pieces;
    }

    /** Parts of hidden ones only change who is first at a price, so whole orders are counted. */
    int couldTrade(int side, int price, int pieces, int owner, boolean isMoney) {
      int open = pieces;
      int sum = 0;
      for (Order at = lineAgainst(side).head; at != null && open > 0; at = at.next) {
        if (!isReached(price, side, at.price) || isOffBand(at.price)) {
          return sum;
        }
        if (at.owner != owner) {
          int many = at.left < open ? at.left : open;
          open -= many;
          sum += isMoney ? many * at.price : many;
        }
      }
      return sum;
    }

    private int refuse(int reason) {
      if (reason >= 0 && reason < refusals.length) {
        refusals[reason]++;
      }
      return -reason;
    }

    private void fallAsleep(Order order) {
      order.state = SLEEPS;
      asleep.join(order);
    }

    private void queueUp(Order order) {
      order.state = WAITS;
      order.rank = rankOf(order.side, order.price);
      order.showNextPart();
      lineOf(order.side).join(order);
    }

    /** An order comes, and behind it those that it has woken. */
    private void bring(Order first) {
      Order coming = first;
      for (int step = 0; step < MOST_STEPS && coming != null; step++) {
        if (phase == HALTED) {
          endAs(ENDED, coming);
        } else {
          come(coming);
          settle(coming);
        }
        coming = nextAwake();
      }
    }

    /** The sleepers stand by number, so the first one that is awake has the smallest. */
    private Order nextAwake() {
      for (Order at = asleep.head; at != null; at = at.next) {
        if (at.isAwake) {
          asleep.leave(at);
          at.isAwake = false;
          at.state = COMES;
          return at;
        }
      }
      return null;
    }

    private void come(Order order) {
      Line others = lineAgainst(order.side);
      for (int step = 0; step < MOST_STEPS && order.left > 0; step++) {
        Order other = others.head;
        if (other == null || !isReached(order.price, order.side, other.price)) {
          break;
        }
        if (isOffBand(other.price)) {
          phase = HALTED;
          breaks++;
          endAs(ENDED, order);
          return;
        }
        if (other.owner == order.owner) {
          accounts.addClash(other.owner);
          endAs(ENDED, other);
        } else {
          int shown = other.visible();
          strike(order, other, other.price, order.left < shown ? order.left : shown, order.side);
          renew(other);
        }
      }
    }

    private void settle(Order order) {
      if (order.state != COMES) {
        return;
      }
      if (order.left == 0) {
        order.state = DONE;
      } else if (order.kind == AT_ONCE || order.kind == ALL_OR_NONE) {
        endAs(ENDED, order);
      } else {
        queueUp(order);
      }
    }

    private void strike(Order one, Order two, int price, int pieces, int came) {
      Order buyer = one.side == BUY ? one : two;
      Order seller = one.side == BUY ? two : one;
      buyer.loseTraded(pieces);
      seller.loseTraded(pieces);
      accounts.add(buyer.owner, pieces, -price * pieces);
      accounts.add(seller.owner, -pieces, price * pieces);
      tape.add(buyer, seller, price, pieces, minute, came);
      wake(price);
    }

    private void wake(int price) {
      for (Order at = asleep.head; at != null; at = at.next) {
        if (at.side == BUY ? at.trigger <= price : at.trigger >= price) {
          at.isAwake = true;
        }
      }
    }

    /** Behind a trade of one that waits: it stays, or shows its next part, or is done. */
    private void renew(Order order) {
      if (order.visible() > 0) {
        return;
      }
      Line line = lineOf(order.side);
      line.leave(order);
      if (order.left == 0) {
        order.state = DONE;
      } else {
        order.showNextPart();
        line.join(order);
      }
    }

    private void endAs(int state, Order order) {
      if (order.state == SLEEPS) {
        asleep.leave(order);
      } else if (order.state == WAITS) {
        lineOf(order.side).leave(order);
      }
      order.state = state;
      order.left = 0;
      order.part = 0;
    }

    private int withdraw(Order order) {
      if (order == null) {
        return NONE;
      }
      int left = order.left;
      endAs(ENDED, order);
      return left;
    }

    private int withdrawAll(int owner) {
      return withdrawFrom(buys, owner) + withdrawFrom(sells, owner) + withdrawFrom(asleep, owner);
    }

    private int withdrawFrom(Line line, int owner) {
      int many = 0;
      Order at = line.head;
      while (at != null) {
        Order behind = at.next;
        if (at.owner == owner) {
          endAs(ENDED, at);
          many++;
        }
        at = behind;
      }
      return many;
    }

    private int takeAway(Order order, int pieces) {
      if (order == null) {
        return NONE;
      }
      order.loseTakenAway(pieces);
      return order.left;
    }

    private int moveTo(Order order, int price) {
      if (order == null) {
        return NONE;
      }
      int reason = reasonAgainstTerms(price, 0);
      if (reason > 0) {
        return refuse(reason);
      }
      lineOf(order.side).leave(order);
      order.state = COMES;
      order.price = price;
      if (phase == GATHERING) {
        queueUp(order);
      } else {
        bring(order);
      }
      return order.left;
    }

    private int holdAuction() {
      cross.find(buys, sells);
      int price = cross.price;
      if (price != NONE) {
        matchAt(price);
        reference = price;
      }
      phase = OPEN;
      bring(nextAwake());
      return price;
    }

    private void matchAt(int price) {
      for (int step = 0; step < MOST_STEPS; step++) {
        Order buyer = buys.head;
        Order seller = sells.head;
        if (buyer == null || seller == null || buyer.price < price || seller.price > price) {
          return;
        }
        int bought = buyer.visible();
        int sold = seller.visible();
        strike(buyer, seller, price, bought < sold ? bought : sold, IN_AUCTION);
        renew(buyer);
        renew(seller);
      }
    }

    private int waiting() {
      return buys.size() + sells.size();
    }

    private int countOf(int state) {
      int many = 0;
      for (int number = 0; number < taken && number < orders.size(); number++) {
        many += orders.get(number).state == state ? 1 : 0;
      }
      return many;
    }

    int partOf(Order order, int what) {
      if (what != LAST_OF_ORDER) {
        return order.fact(what);
      }
      return order.state == WAITS ? lineOf(order.side).aheadOf(order) : NONE;
    }

    private int aliveOf(int owner) {
      return buys.manyOfOwner(owner) + sells.manyOfOwner(owner) + asleep.manyOfOwner(owner);
    }

    int ofAccount(int owner, int what) {
      switch (what) {
        case 0: return accounts.positionOf(owner);
        case 1: return accounts.moneyOf(owner);
        case 2: return accounts.limitOf(owner);
        case 3: return leftOf(owner, BUY);
        case 4: return leftOf(owner, SELL);
        case 5: return aliveOf(owner);
        default: return accounts.clashesOf(owner);
      }
    }

    int ofHouse(int what) {
      switch (what) {
        case 0: return minute;
        case 1: return phase;
        case 2: return tick;
        case 3: return reference;
        case 4: return band;
        case 5: return taken;
        case 6: return waiting();
        case 7: return asleep.size();
        case 8: return countOf(DONE);
        case 9: return countOf(ENDED);
        case 10: return tape.many;
        case 11: return tape.volume;
        case 12: return tape.ofTrade(tape.many - 1, 0);
        case 13: return calls;
        case HOUSE_NOTHINGS: return nothings;
        case HOUSE_KNOCKS: return knocks;
        default: return breaks;
      }
    }

    int refusalsBy(int reason) {
      return reason >= 0 && reason < refusals.length ? refusals[reason] : 0;
    }

    int ofAuction(int what) {
      cross.find(buys, sells);
      switch (what) {
        case 0: return cross.price;
        case 1: return cross.trades;
        default: return cross.leftOver;
      }
    }

    boolean isSoundItself() {
      return isUncrossed() && accounts.areEven() && buys.isInOrder(BUY) && sells.isInOrder(SELL)
          && waiting() + asleep.size() <= MOST_ALIVE && isTapeTrue();
    }

    private boolean isUncrossed() {
      if (phase == GATHERING || buys.head == null || sells.head == null) {
        return true;
      }
      return buys.topPrice() < sells.topPrice();
    }

    private boolean isTapeTrue() {
      tape.sumByOrder();
      for (int number = 0; number < taken && number < orders.size(); number++) {
        if (tape.sumOf(number) != orders.get(number).traded) {
          return false;
        }
      }
      return true;
    }
  }
}
